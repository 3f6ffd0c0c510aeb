theorem dX12_init_0 : decode cX12_init 0 = .ok (.aload_n 0, 1) := by decide +kernel
theorem dX12_init_1 : decode cX12_init 1 = .ok (.invokespecial 1, 3) := by decide +kernel
theorem dX12_init_4 : decode cX12_init 4 = .ok (.aload_n 0, 1) := by decide +kernel
theorem dX12_init_5 : decode cX12_init 5 = .ok (.bipush 54, 2) := by decide +kernel
theorem dX12_init_7 : decode cX12_init 7 = .ok (.newarray .int, 2) := by decide +kernel
theorem dX12_init_9 : decode cX12_init 9 = .ok (.putfield 9, 3) := by decide +kernel
theorem dX12_init_12 : decode cX12_init 12 = .ok (.aload_n 0, 1) := by decide +kernel
theorem dX12_init_13 : decode cX12_init 13 = .ok (.bipush 54, 2) := by decide +kernel
theorem dX12_init_15 : decode cX12_init 15 = .ok (.newarray .int, 2) := by decide +kernel
theorem dX12_init_17 : decode cX12_init 17 = .ok (.putfield 13, 3) := by decide +kernel
theorem dX12_init_20 : decode cX12_init 20 = .ok (.aload_n 0, 1) := by decide +kernel
theorem dX12_init_21 : decode cX12_init 21 = .ok (.bipush 54, 2) := by decide +kernel
theorem dX12_init_23 : decode cX12_init 23 = .ok (.newarray .int, 2) := by decide +kernel
theorem dX12_init_25 : decode cX12_init 25 = .ok (.putfield 16, 3) := by decide +kernel
theorem dX12_init_28 : decode cX12_init 28 = .ok (.aload_n 0, 1) := by decide +kernel
theorem dX12_init_29 : decode cX12_init 29 = .ok (.bipush 54, 2) := by decide +kernel
theorem dX12_init_31 : decode cX12_init 31 = .ok (.newarray .int, 2) := by decide +kernel
theorem dX12_init_33 : decode cX12_init 33 = .ok (.putfield 19, 3) := by decide +kernel
theorem dX12_init_36 : decode cX12_init 36 = .ok (.aload_n 0, 1) := by decide +kernel
theorem dX12_init_37 : decode cX12_init 37 = .ok (.iconst 3, 1) := by decide +kernel
theorem dX12_init_38 : decode cX12_init 38 = .ok (.newarray .int, 2) := by decide +kernel
theorem dX12_init_40 : decode cX12_init 40 = .ok (.putfield 22, 3) := by decide +kernel
theorem dX12_init_43 : decode cX12_init 43 = .ok (.aload_n 0, 1) := by decide +kernel
theorem dX12_init_44 : decode cX12_init 44 = .ok (.bipush 49, 2) := by decide +kernel
theorem dX12_init_46 : decode cX12_init 46 = .ok (.newarray .int, 2) := by decide +kernel
theorem dX12_init_48 : decode cX12_init 48 = .ok (.putfield 25, 3) := by decide +kernel
theorem dX12_init_51 : decode cX12_init 51 = .ok (.aload_n 0, 1) := by decide +kernel
theorem dX12_init_52 : decode cX12_init 52 = .ok (.sipush 128, 3) := by decide +kernel
theorem dX12_init_55 : decode cX12_init 55 = .ok (.newarray .int, 2) := by decide +kernel
theorem dX12_init_57 : decode cX12_init 57 = .ok (.putfield 28, 3) := by decide +kernel
theorem dX12_init_60 : decode cX12_init 60 = .ok (.aload_n 0, 1) := by decide +kernel
theorem dX12_init_61 : decode cX12_init 61 = .ok (.bipush 8, 2) := by decide +kernel
theorem dX12_init_63 : decode cX12_init 63 = .ok (.newarray .int, 2) := by decide +kernel
theorem dX12_init_65 : decode cX12_init 65 = .ok (.putfield 31, 3) := by decide +kernel
theorem dX12_init_68 : decode cX12_init 68 = .ok (.aload_n 0, 1) := by decide +kernel
theorem dX12_init_69 : decode cX12_init 69 = .ok (.bipush 8, 2) := by decide +kernel
theorem dX12_init_71 : decode cX12_init 71 = .ok (.newarray .int, 2) := by decide +kernel
theorem dX12_init_73 : decode cX12_init 73 = .ok (.putfield 34, 3) := by decide +kernel
theorem dX12_init_76 : decode cX12_init 76 = .ok (.aload_n 0, 1) := by decide +kernel
theorem dX12_init_77 : decode cX12_init 77 = .ok (.bipush 8, 2) := by decide +kernel
theorem dX12_init_79 : decode cX12_init 79 = .ok (.newarray .int, 2) := by decide +kernel
theorem dX12_init_81 : decode cX12_init 81 = .ok (.putfield 37, 3) := by decide +kernel
theorem dX12_init_84 : decode cX12_init 84 = .ok (.aload_n 0, 1) := by decide +kernel
theorem dX12_init_85 : decode cX12_init 85 = .ok (.bipush 8, 2) := by decide +kernel
theorem dX12_init_87 : decode cX12_init 87 = .ok (.newarray .int, 2) := by decide +kernel
theorem dX12_init_89 : decode cX12_init 89 = .ok (.putfield 40, 3) := by decide +kernel
theorem dX12_init_92 : decode cX12_init 92 = .ok (.aload_n 0, 1) := by decide +kernel
theorem dX12_init_93 : decode cX12_init 93 = .ok (.bipush 8, 2) := by decide +kernel
theorem dX12_init_95 : decode cX12_init 95 = .ok (.newarray .int, 2) := by decide +kernel
theorem dX12_init_97 : decode cX12_init 97 = .ok (.putfield 43, 3) := by decide +kernel
theorem dX12_init_100 : decode cX12_init 100 = .ok (.aload_n 0, 1) := by decide +kernel
theorem dX12_init_101 : decode cX12_init 101 = .ok (.sipush 800, 3) := by decide +kernel
theorem dX12_init_104 : decode cX12_init 104 = .ok (.newarray .int, 2) := by decide +kernel
theorem dX12_init_106 : decode cX12_init 106 = .ok (.putfield 46, 3) := by decide +kernel
theorem dX12_init_109 : decode cX12_init 109 = .ok (.aload_n 0, 1) := by decide +kernel
theorem dX12_init_110 : decode cX12_init 110 = .ok (.getfield 9, 3) := by decide +kernel
theorem dX12_init_113 : decode cX12_init 113 = .ok (.iconst 3, 1) := by decide +kernel
theorem dX12_init_114 : decode cX12_init 114 = .ok (.iconst 2, 1) := by decide +kernel
theorem dX12_init_115 : decode cX12_init 115 = .ok (.iastore, 1) := by decide +kernel
theorem dX12_init_116 : decode cX12_init 116 = .ok (.aload_n 0, 1) := by decide +kernel
theorem dX12_init_117 : decode cX12_init 117 = .ok (.getfield 9, 3) := by decide +kernel
theorem dX12_init_120 : decode cX12_init 120 = .ok (.iconst 4, 1) := by decide +kernel
theorem dX12_init_121 : decode cX12_init 121 = .ok (.iconst 3, 1) := by decide +kernel
theorem dX12_init_122 : decode cX12_init 122 = .ok (.iastore, 1) := by decide +kernel
theorem dX12_init_123 : decode cX12_init 123 = .ok (.return_, 1) := by decide +kernel
theorem dX12_isIn_0 : decode cX12_isIn 0 = .ok (.iload_n 0, 1) := by decide +kernel
theorem dX12_isIn_1 : decode cX12_isIn 1 = .ok (.iload_n 1, 1) := by decide +kernel
theorem dX12_isIn_2 : decode cX12_isIn 2 = .ok (.if_icmp .lt 12, 3) := by decide +kernel
theorem dX12_isIn_5 : decode cX12_isIn 5 = .ok (.iload_n 0, 1) := by decide +kernel
theorem dX12_isIn_6 : decode cX12_isIn 6 = .ok (.iload_n 2, 1) := by decide +kernel
theorem dX12_isIn_7 : decode cX12_isIn 7 = .ok (.if_icmp .gt 7, 3) := by decide +kernel
theorem dX12_isIn_10 : decode cX12_isIn 10 = .ok (.iconst 1, 1) := by decide +kernel
theorem dX12_isIn_11 : decode cX12_isIn 11 = .ok (.goto 4, 3) := by decide +kernel
theorem dX12_isIn_14 : decode cX12_isIn 14 = .ok (.iconst 0, 1) := by decide +kernel
theorem dX12_isIn_15 : decode cX12_isIn 15 = .ok (.ireturn, 1) := by decide +kernel
theorem dX12_held_0 : decode cX12_held 0 = .ok (.iload_n 0, 1) := by decide +kernel
theorem dX12_held_1 : decode cX12_held 1 = .ok (.ifCond .ge 7, 3) := by decide +kernel
theorem dX12_held_4 : decode cX12_held 4 = .ok (.iconst 0, 1) := by decide +kernel
theorem dX12_held_5 : decode cX12_held 5 = .ok (.goto 15, 3) := by decide +kernel
theorem dX12_held_8 : decode cX12_held 8 = .ok (.iload_n 0, 1) := by decide +kernel
theorem dX12_held_9 : decode cX12_held 9 = .ok (.bipush 99, 2) := by decide +kernel
theorem dX12_held_11 : decode cX12_held 11 = .ok (.if_icmp .le 8, 3) := by decide +kernel
theorem dX12_held_14 : decode cX12_held 14 = .ok (.bipush 99, 2) := by decide +kernel
theorem dX12_held_16 : decode cX12_held 16 = .ok (.goto 4, 3) := by decide +kernel
theorem dX12_held_19 : decode cX12_held 19 = .ok (.iload_n 0, 1) := by decide +kernel
theorem dX12_held_20 : decode cX12_held 20 = .ok (.ireturn, 1) := by decide +kernel
theorem dX12_copies_0 : decode cX12_copies 0 = .ok (.iconst 0, 1) := by decide +kernel
theorem dX12_copies_1 : decode cX12_copies 1 = .ok (.istore_n 2, 1) := by decide +kernel
theorem dX12_copies_2 : decode cX12_copies 2 = .ok (.iload_n 2, 1) := by decide +kernel
theorem dX12_copies_3 : decode cX12_copies 3 = .ok (.bipush 54, 2) := by decide +kernel
theorem dX12_copies_5 : decode cX12_copies 5 = .ok (.if_icmp .ge 15, 3) := by decide +kernel
theorem dX12_copies_8 : decode cX12_copies 8 = .ok (.aload_n 1, 1) := by decide +kernel
theorem dX12_copies_9 : decode cX12_copies 9 = .ok (.iload_n 2, 1) := by decide +kernel
theorem dX12_copies_10 : decode cX12_copies 10 = .ok (.aload_n 0, 1) := by decide +kernel
theorem dX12_copies_11 : decode cX12_copies 11 = .ok (.iload_n 2, 1) := by decide +kernel
theorem dX12_copies_12 : decode cX12_copies 12 = .ok (.iaload, 1) := by decide +kernel
theorem dX12_copies_13 : decode cX12_copies 13 = .ok (.iastore, 1) := by decide +kernel
theorem dX12_copies_14 : decode cX12_copies 14 = .ok (.iinc 2 1, 3) := by decide +kernel
theorem dX12_copies_17 : decode cX12_copies 17 = .ok (.goto (-15), 3) := by decide +kernel
theorem dX12_copies_20 : decode cX12_copies 20 = .ok (.return_, 1) := by decide +kernel
theorem dX12_of_0 : decode cX12_of 0 = .ok (.iconst 5, 1) := by decide +kernel
theorem dX12_of_1 : decode cX12_of 1 = .ok (.bipush 7, 2) := by decide +kernel
theorem dX12_of_3 : decode cX12_of 3 = .ok (.iload_n 0, 1) := by decide +kernel
theorem dX12_of_4 : decode cX12_of 4 = .ok (.imul, 1) := by decide +kernel
theorem dX12_of_5 : decode cX12_of 5 = .ok (.iadd, 1) := by decide +kernel
theorem dX12_of_6 : decode cX12_of 6 = .ok (.iload_n 1, 1) := by decide +kernel
theorem dX12_of_7 : decode cX12_of 7 = .ok (.iadd, 1) := by decide +kernel
theorem dX12_of_8 : decode cX12_of 8 = .ok (.ireturn, 1) := by decide +kernel
theorem dX12_isGuest_0 : decode cX12_isGuest 0 = .ok (.iload_n 1, 1) := by decide +kernel
theorem dX12_isGuest_1 : decode cX12_isGuest 1 = .ok (.iconst 0, 1) := by decide +kernel
theorem dX12_isGuest_2 : decode cX12_isGuest 2 = .ok (.aload_n 0, 1) := by decide +kernel
theorem dX12_isGuest_3 : decode cX12_isGuest 3 = .ok (.getfield 9, 3) := by decide +kernel
theorem dX12_isGuest_6 : decode cX12_isGuest 6 = .ok (.iconst 0, 1) := by decide +kernel
theorem dX12_isGuest_7 : decode cX12_isGuest 7 = .ok (.iaload, 1) := by decide +kernel
theorem dX12_isGuest_8 : decode cX12_isGuest 8 = .ok (.iconst 1, 1) := by decide +kernel
theorem dX12_isGuest_9 : decode cX12_isGuest 9 = .ok (.isub, 1) := by decide +kernel
theorem dX12_isGuest_10 : decode cX12_isGuest 10 = .ok (.invokestatic 49, 3) := by decide +kernel
theorem dX12_isGuest_13 : decode cX12_isGuest 13 = .ok (.ireturn, 1) := by decide +kernel
theorem dX12_isHere_0 : decode cX12_isHere 0 = .ok (.aload_n 0, 1) := by decide +kernel
theorem dX12_isHere_1 : decode cX12_isHere 1 = .ok (.iload_n 1, 1) := by decide +kernel
theorem dX12_isHere_2 : decode cX12_isHere 2 = .ok (.bipush 6, 2) := by decide +kernel
theorem dX12_isHere_4 : decode cX12_isHere 4 = .ok (.invokestatic 53, 3) := by decide +kernel
theorem dX12_isHere_7 : decode cX12_isHere 7 = .ok (.iaload, 1) := by decide +kernel
theorem dX12_isHere_8 : decode cX12_isHere 8 = .ok (.iconst 1, 1) := by decide +kernel
theorem dX12_isHere_9 : decode cX12_isHere 9 = .ok (.if_icmp .ne 7, 3) := by decide +kernel
theorem dX12_isHere_12 : decode cX12_isHere 12 = .ok (.iconst 1, 1) := by decide +kernel
theorem dX12_isHere_13 : decode cX12_isHere 13 = .ok (.goto 4, 3) := by decide +kernel
theorem dX12_isHere_16 : decode cX12_isHere 16 = .ok (.iconst 0, 1) := by decide +kernel
theorem dX12_isHere_17 : decode cX12_isHere 17 = .ok (.ireturn, 1) := by decide +kernel
theorem dX12_has_0 : decode cX12_has 0 = .ok (.iload_n 0, 1) := by decide +kernel
theorem dX12_has_1 : decode cX12_has 1 = .ok (.iload_n 1, 1) := by decide +kernel
theorem dX12_has_2 : decode cX12_has 2 = .ok (.ishr, 1) := by decide +kernel
theorem dX12_has_3 : decode cX12_has 3 = .ok (.iconst 1, 1) := by decide +kernel
theorem dX12_has_4 : decode cX12_has 4 = .ok (.iand, 1) := by decide +kernel
theorem dX12_has_5 : decode cX12_has 5 = .ok (.iconst 1, 1) := by decide +kernel
theorem dX12_has_6 : decode cX12_has 6 = .ok (.if_icmp .ne 7, 3) := by decide +kernel
theorem dX12_has_9 : decode cX12_has 9 = .ok (.iconst 1, 1) := by decide +kernel
theorem dX12_has_10 : decode cX12_has 10 = .ok (.goto 4, 3) := by decide +kernel
theorem dX12_has_13 : decode cX12_has 13 = .ok (.iconst 0, 1) := by decide +kernel
theorem dX12_has_14 : decode cX12_has 14 = .ok (.ireturn, 1) := by decide +kernel
theorem dX12_bits_0 : decode cX12_bits 0 = .ok (.iconst 0, 1) := by decide +kernel
theorem dX12_bits_1 : decode cX12_bits 1 = .ok (.istore_n 1, 1) := by decide +kernel
theorem dX12_bits_2 : decode cX12_bits 2 = .ok (.iconst 0, 1) := by decide +kernel
theorem dX12_bits_3 : decode cX12_bits 3 = .ok (.istore_n 2, 1) := by decide +kernel
theorem dX12_bits_4 : decode cX12_bits 4 = .ok (.iload_n 2, 1) := by decide +kernel
theorem dX12_bits_5 : decode cX12_bits 5 = .ok (.bipush 7, 2) := by decide +kernel
theorem dX12_bits_7 : decode cX12_bits 7 = .ok (.if_icmp .ge 17, 3) := by decide +kernel
theorem dX12_bits_10 : decode cX12_bits 10 = .ok (.iload_n 1, 1) := by decide +kernel
theorem dX12_bits_11 : decode cX12_bits 11 = .ok (.iload_n 0, 1) := by decide +kernel
theorem dX12_bits_12 : decode cX12_bits 12 = .ok (.iload_n 2, 1) := by decide +kernel
theorem dX12_bits_13 : decode cX12_bits 13 = .ok (.ishr, 1) := by decide +kernel
theorem dX12_bits_14 : decode cX12_bits 14 = .ok (.iconst 1, 1) := by decide +kernel
theorem dX12_bits_15 : decode cX12_bits 15 = .ok (.iand, 1) := by decide +kernel
theorem dX12_bits_16 : decode cX12_bits 16 = .ok (.iadd, 1) := by decide +kernel
theorem dX12_bits_17 : decode cX12_bits 17 = .ok (.istore_n 1, 1) := by decide +kernel
theorem dX12_bits_18 : decode cX12_bits 18 = .ok (.iinc 2 1, 3) := by decide +kernel
theorem dX12_bits_21 : decode cX12_bits 21 = .ok (.goto (-17), 3) := by decide +kernel
theorem dX12_bits_24 : decode cX12_bits 24 = .ok (.iload_n 1, 1) := by decide +kernel
theorem dX12_bits_25 : decode cX12_bits 25 = .ok (.ireturn, 1) := by decide +kernel
theorem dX12_ringsBy_0 : decode cX12_ringsBy 0 = .ok (.iload_n 0, 1) := by decide +kernel
theorem dX12_ringsBy_1 : decode cX12_ringsBy 1 = .ok (.tableswitch 59 1 7 #[43, 59, 45, 49, 53, 59, 43], 43) := by decide +kernel
theorem dX12_ringsBy_44 : decode cX12_ringsBy 44 = .ok (.iload_n 1, 1) := by decide +kernel
theorem dX12_ringsBy_45 : decode cX12_ringsBy 45 = .ok (.ireturn, 1) := by decide +kernel
theorem dX12_ringsBy_46 : decode cX12_ringsBy 46 = .ok (.iload_n 1, 1) := by decide +kernel
theorem dX12_ringsBy_47 : decode cX12_ringsBy 47 = .ok (.iconst 2, 1) := by decide +kernel
theorem dX12_ringsBy_48 : decode cX12_ringsBy 48 = .ok (.idiv, 1) := by decide +kernel
theorem dX12_ringsBy_49 : decode cX12_ringsBy 49 = .ok (.ireturn, 1) := by decide +kernel
theorem dX12_ringsBy_50 : decode cX12_ringsBy 50 = .ok (.iconst 2, 1) := by decide +kernel
theorem dX12_ringsBy_51 : decode cX12_ringsBy 51 = .ok (.iload_n 1, 1) := by decide +kernel
theorem dX12_ringsBy_52 : decode cX12_ringsBy 52 = .ok (.imul, 1) := by decide +kernel
theorem dX12_ringsBy_53 : decode cX12_ringsBy 53 = .ok (.ireturn, 1) := by decide +kernel
theorem dX12_ringsBy_54 : decode cX12_ringsBy 54 = .ok (.iload_n 1, 1) := by decide +kernel
theorem dX12_ringsBy_55 : decode cX12_ringsBy 55 = .ok (.iconst 2, 1) := by decide +kernel
theorem dX12_ringsBy_56 : decode cX12_ringsBy 56 = .ok (.idiv, 1) := by decide +kernel
theorem dX12_ringsBy_57 : decode cX12_ringsBy 57 = .ok (.iconst 1, 1) := by decide +kernel
theorem dX12_ringsBy_58 : decode cX12_ringsBy 58 = .ok (.iadd, 1) := by decide +kernel
theorem dX12_ringsBy_59 : decode cX12_ringsBy 59 = .ok (.ireturn, 1) := by decide +kernel
theorem dX12_ringsBy_60 : decode cX12_ringsBy 60 = .ok (.iconst 0, 1) := by decide +kernel
theorem dX12_ringsBy_61 : decode cX12_ringsBy 61 = .ok (.ireturn, 1) := by decide +kernel
theorem dX12_eatsBy_0 : decode cX12_eatsBy 0 = .ok (.iload_n 0, 1) := by decide +kernel
theorem dX12_eatsBy_1 : decode cX12_eatsBy 1 = .ok (.tableswitch 68 1 7 #[43, 47, 68, 51, 57, 61, 43], 43) := by decide +kernel
theorem dX12_eatsBy_44 : decode cX12_eatsBy 44 = .ok (.iload_n 1, 1) := by decide +kernel
theorem dX12_eatsBy_45 : decode cX12_eatsBy 45 = .ok (.iconst 2, 1) := by decide +kernel
theorem dX12_eatsBy_46 : decode cX12_eatsBy 46 = .ok (.idiv, 1) := by decide +kernel
theorem dX12_eatsBy_47 : decode cX12_eatsBy 47 = .ok (.ireturn, 1) := by decide +kernel
theorem dX12_eatsBy_48 : decode cX12_eatsBy 48 = .ok (.iload_n 1, 1) := by decide +kernel
theorem dX12_eatsBy_49 : decode cX12_eatsBy 49 = .ok (.iconst 1, 1) := by decide +kernel
theorem dX12_eatsBy_50 : decode cX12_eatsBy 50 = .ok (.iadd, 1) := by decide +kernel
theorem dX12_eatsBy_51 : decode cX12_eatsBy 51 = .ok (.ireturn, 1) := by decide +kernel
theorem dX12_eatsBy_52 : decode cX12_eatsBy 52 = .ok (.iload_n 1, 1) := by decide +kernel
theorem dX12_eatsBy_53 : decode cX12_eatsBy 53 = .ok (.iconst 2, 1) := by decide +kernel
theorem dX12_eatsBy_54 : decode cX12_eatsBy 54 = .ok (.idiv, 1) := by decide +kernel
theorem dX12_eatsBy_55 : decode cX12_eatsBy 55 = .ok (.iconst 2, 1) := by decide +kernel
theorem dX12_eatsBy_56 : decode cX12_eatsBy 56 = .ok (.iadd, 1) := by decide +kernel
theorem dX12_eatsBy_57 : decode cX12_eatsBy 57 = .ok (.ireturn, 1) := by decide +kernel
theorem dX12_eatsBy_58 : decode cX12_eatsBy 58 = .ok (.iconst 2, 1) := by decide +kernel
theorem dX12_eatsBy_59 : decode cX12_eatsBy 59 = .ok (.iload_n 1, 1) := by decide +kernel
theorem dX12_eatsBy_60 : decode cX12_eatsBy 60 = .ok (.imul, 1) := by decide +kernel
theorem dX12_eatsBy_61 : decode cX12_eatsBy 61 = .ok (.ireturn, 1) := by decide +kernel
theorem dX12_eatsBy_62 : decode cX12_eatsBy 62 = .ok (.iload_n 1, 1) := by decide +kernel
theorem dX12_eatsBy_63 : decode cX12_eatsBy 63 = .ok (.iconst 1, 1) := by decide +kernel
theorem dX12_eatsBy_64 : decode cX12_eatsBy 64 = .ok (.isub, 1) := by decide +kernel
theorem dX12_eatsBy_65 : decode cX12_eatsBy 65 = .ok (.invokestatic 57, 3) := by decide +kernel
theorem dX12_eatsBy_68 : decode cX12_eatsBy 68 = .ok (.ireturn, 1) := by decide +kernel
theorem dX12_eatsBy_69 : decode cX12_eatsBy 69 = .ok (.iload_n 1, 1) := by decide +kernel
theorem dX12_eatsBy_70 : decode cX12_eatsBy 70 = .ok (.ireturn, 1) := by decide +kernel
theorem dX12_dancesBy_0 : decode cX12_dancesBy 0 = .ok (.iload_n 0, 1) := by decide +kernel
theorem dX12_dancesBy_1 : decode cX12_dancesBy 1 = .ok (.tableswitch 70 1 7 #[43, 45, 70, 43, 51, 58, 66], 43) := by decide +kernel
theorem dX12_dancesBy_44 : decode cX12_dancesBy 44 = .ok (.iconst 1, 1) := by decide +kernel
theorem dX12_dancesBy_45 : decode cX12_dancesBy 45 = .ok (.ireturn, 1) := by decide +kernel
theorem dX12_dancesBy_46 : decode cX12_dancesBy 46 = .ok (.iload_n 2, 1) := by decide +kernel
theorem dX12_dancesBy_47 : decode cX12_dancesBy 47 = .ok (.iload_n 1, 1) := by decide +kernel
theorem dX12_dancesBy_48 : decode cX12_dancesBy 48 = .ok (.iconst 3, 1) := by decide +kernel
theorem dX12_dancesBy_49 : decode cX12_dancesBy 49 = .ok (.idiv, 1) := by decide +kernel
theorem dX12_dancesBy_50 : decode cX12_dancesBy 50 = .ok (.iadd, 1) := by decide +kernel
theorem dX12_dancesBy_51 : decode cX12_dancesBy 51 = .ok (.ireturn, 1) := by decide +kernel
theorem dX12_dancesBy_52 : decode cX12_dancesBy 52 = .ok (.iload_n 2, 1) := by decide +kernel
theorem dX12_dancesBy_53 : decode cX12_dancesBy 53 = .ok (.iconst 1, 1) := by decide +kernel
theorem dX12_dancesBy_54 : decode cX12_dancesBy 54 = .ok (.isub, 1) := by decide +kernel
theorem dX12_dancesBy_55 : decode cX12_dancesBy 55 = .ok (.invokestatic 57, 3) := by decide +kernel
theorem dX12_dancesBy_58 : decode cX12_dancesBy 58 = .ok (.ireturn, 1) := by decide +kernel
theorem dX12_dancesBy_59 : decode cX12_dancesBy 59 = .ok (.iload_n 2, 1) := by decide +kernel
theorem dX12_dancesBy_60 : decode cX12_dancesBy 60 = .ok (.iload_n 1, 1) := by decide +kernel
theorem dX12_dancesBy_61 : decode cX12_dancesBy 61 = .ok (.iconst 3, 1) := by decide +kernel
theorem dX12_dancesBy_62 : decode cX12_dancesBy 62 = .ok (.idiv, 1) := by decide +kernel
theorem dX12_dancesBy_63 : decode cX12_dancesBy 63 = .ok (.iadd, 1) := by decide +kernel
theorem dX12_dancesBy_64 : decode cX12_dancesBy 64 = .ok (.iconst 2, 1) := by decide +kernel
theorem dX12_dancesBy_65 : decode cX12_dancesBy 65 = .ok (.idiv, 1) := by decide +kernel
theorem dX12_dancesBy_66 : decode cX12_dancesBy 66 = .ok (.ireturn, 1) := by decide +kernel
theorem dX12_dancesBy_67 : decode cX12_dancesBy 67 = .ok (.iload_n 2, 1) := by decide +kernel
theorem dX12_dancesBy_68 : decode cX12_dancesBy 68 = .ok (.iconst 1, 1) := by decide +kernel
theorem dX12_dancesBy_69 : decode cX12_dancesBy 69 = .ok (.iadd, 1) := by decide +kernel
theorem dX12_dancesBy_70 : decode cX12_dancesBy 70 = .ok (.ireturn, 1) := by decide +kernel
theorem dX12_dancesBy_71 : decode cX12_dancesBy 71 = .ok (.iload_n 2, 1) := by decide +kernel
theorem dX12_dancesBy_72 : decode cX12_dancesBy 72 = .ok (.ireturn, 1) := by decide +kernel
theorem dX12_lighterBy_0 : decode cX12_lighterBy 0 = .ok (.iload_n 0, 1) := by decide +kernel
theorem dX12_lighterBy_1 : decode cX12_lighterBy 1 = .ok (.tableswitch 57 1 7 #[43, 47, 57, 49, 55, 57, 43], 43) := by decide +kernel
theorem dX12_lighterBy_44 : decode cX12_lighterBy 44 = .ok (.iload_n 1, 1) := by decide +kernel
theorem dX12_lighterBy_45 : decode cX12_lighterBy 45 = .ok (.iconst 2, 1) := by decide +kernel
theorem dX12_lighterBy_46 : decode cX12_lighterBy 46 = .ok (.idiv, 1) := by decide +kernel
theorem dX12_lighterBy_47 : decode cX12_lighterBy 47 = .ok (.ireturn, 1) := by decide +kernel
theorem dX12_lighterBy_48 : decode cX12_lighterBy 48 = .ok (.iconst 0, 1) := by decide +kernel
theorem dX12_lighterBy_49 : decode cX12_lighterBy 49 = .ok (.ireturn, 1) := by decide +kernel
theorem dX12_lighterBy_50 : decode cX12_lighterBy 50 = .ok (.iload_n 1, 1) := by decide +kernel
theorem dX12_lighterBy_51 : decode cX12_lighterBy 51 = .ok (.iconst 2, 1) := by decide +kernel
theorem dX12_lighterBy_52 : decode cX12_lighterBy 52 = .ok (.idiv, 1) := by decide +kernel
theorem dX12_lighterBy_53 : decode cX12_lighterBy 53 = .ok (.iconst 1, 1) := by decide +kernel
theorem dX12_lighterBy_54 : decode cX12_lighterBy 54 = .ok (.iadd, 1) := by decide +kernel
theorem dX12_lighterBy_55 : decode cX12_lighterBy 55 = .ok (.ireturn, 1) := by decide +kernel
theorem dX12_lighterBy_56 : decode cX12_lighterBy 56 = .ok (.iconst 3, 1) := by decide +kernel
theorem dX12_lighterBy_57 : decode cX12_lighterBy 57 = .ok (.ireturn, 1) := by decide +kernel
theorem dX12_lighterBy_58 : decode cX12_lighterBy 58 = .ok (.iconst 1, 1) := by decide +kernel
theorem dX12_lighterBy_59 : decode cX12_lighterBy 59 = .ok (.ireturn, 1) := by decide +kernel
theorem dX12_staysBy_0 : decode cX12_staysBy 0 = .ok (.iload_n 0, 1) := by decide +kernel
theorem dX12_staysBy_1 : decode cX12_staysBy 1 = .ok (.iconst 2, 1) := by decide +kernel
theorem dX12_staysBy_2 : decode cX12_staysBy 2 = .ok (.if_icmp .eq 9, 3) := by decide +kernel
theorem dX12_staysBy_5 : decode cX12_staysBy 5 = .ok (.iload_n 0, 1) := by decide +kernel
theorem dX12_staysBy_6 : decode cX12_staysBy 6 = .ok (.bipush 6, 2) := by decide +kernel
theorem dX12_staysBy_8 : decode cX12_staysBy 8 = .ok (.if_icmp .ne 7, 3) := by decide +kernel
theorem dX12_staysBy_11 : decode cX12_staysBy 11 = .ok (.iload_n 1, 1) := by decide +kernel
theorem dX12_staysBy_12 : decode cX12_staysBy 12 = .ok (.goto 14, 3) := by decide +kernel
theorem dX12_staysBy_15 : decode cX12_staysBy 15 = .ok (.iload_n 0, 1) := by decide +kernel
theorem dX12_staysBy_16 : decode cX12_staysBy 16 = .ok (.iconst 4, 1) := by decide +kernel
theorem dX12_staysBy_17 : decode cX12_staysBy 17 = .ok (.if_icmp .ne 8, 3) := by decide +kernel
theorem dX12_staysBy_20 : decode cX12_staysBy 20 = .ok (.bipush 9, 2) := by decide +kernel
theorem dX12_staysBy_22 : decode cX12_staysBy 22 = .ok (.goto 4, 3) := by decide +kernel
theorem dX12_staysBy_25 : decode cX12_staysBy 25 = .ok (.iconst 0, 1) := by decide +kernel
theorem dX12_staysBy_26 : decode cX12_staysBy 26 = .ok (.ireturn, 1) := by decide +kernel
theorem dX12_mayGo_0 : decode cX12_mayGo 0 = .ok (.aload_n 0, 1) := by decide +kernel
theorem dX12_mayGo_1 : decode cX12_mayGo 1 = .ok (.iload_n 1, 1) := by decide +kernel
theorem dX12_mayGo_2 : decode cX12_mayGo 2 = .ok (.invokestatic 61, 3) := by decide +kernel
theorem dX12_mayGo_5 : decode cX12_mayGo 5 = .ok (.ifCond .eq 55, 3) := by decide +kernel
theorem dX12_mayGo_8 : decode cX12_mayGo 8 = .ok (.aload_n 0, 1) := by decide +kernel
theorem dX12_mayGo_9 : decode cX12_mayGo 9 = .ok (.iload_n 1, 1) := by decide +kernel
theorem dX12_mayGo_10 : decode cX12_mayGo 10 = .ok (.iconst 2, 1) := by decide +kernel
theorem dX12_mayGo_11 : decode cX12_mayGo 11 = .ok (.invokestatic 53, 3) := by decide +kernel
theorem dX12_mayGo_14 : decode cX12_mayGo 14 = .ok (.iaload, 1) := by decide +kernel
theorem dX12_mayGo_15 : decode cX12_mayGo 15 = .ok (.aload_n 0, 1) := by decide +kernel
theorem dX12_mayGo_16 : decode cX12_mayGo 16 = .ok (.iload_n 1, 1) := by decide +kernel
theorem dX12_mayGo_17 : decode cX12_mayGo 17 = .ok (.iconst 3, 1) := by decide +kernel
theorem dX12_mayGo_18 : decode cX12_mayGo 18 = .ok (.invokestatic 53, 3) := by decide +kernel
theorem dX12_mayGo_21 : decode cX12_mayGo 21 = .ok (.iaload, 1) := by decide +kernel
theorem dX12_mayGo_22 : decode cX12_mayGo 22 = .ok (.if_icmp .ge 38, 3) := by decide +kernel
theorem dX12_mayGo_25 : decode cX12_mayGo 25 = .ok (.aload_n 0, 1) := by decide +kernel
theorem dX12_mayGo_26 : decode cX12_mayGo 26 = .ok (.iconst 1, 1) := by decide +kernel
theorem dX12_mayGo_27 : decode cX12_mayGo 27 = .ok (.iaload, 1) := by decide +kernel
theorem dX12_mayGo_28 : decode cX12_mayGo 28 = .ok (.aload_n 0, 1) := by decide +kernel
theorem dX12_mayGo_29 : decode cX12_mayGo 29 = .ok (.iload_n 1, 1) := by decide +kernel
theorem dX12_mayGo_30 : decode cX12_mayGo 30 = .ok (.iconst 5, 1) := by decide +kernel
theorem dX12_mayGo_31 : decode cX12_mayGo 31 = .ok (.invokestatic 53, 3) := by decide +kernel
theorem dX12_mayGo_34 : decode cX12_mayGo 34 = .ok (.iaload, 1) := by decide +kernel
theorem dX12_mayGo_35 : decode cX12_mayGo 35 = .ok (.isub, 1) := by decide +kernel
theorem dX12_mayGo_36 : decode cX12_mayGo 36 = .ok (.aload_n 0, 1) := by decide +kernel
theorem dX12_mayGo_37 : decode cX12_mayGo 37 = .ok (.iload_n 1, 1) := by decide +kernel
theorem dX12_mayGo_38 : decode cX12_mayGo 38 = .ok (.iconst 0, 1) := by decide +kernel
theorem dX12_mayGo_39 : decode cX12_mayGo 39 = .ok (.invokestatic 53, 3) := by decide +kernel
theorem dX12_mayGo_42 : decode cX12_mayGo 42 = .ok (.iaload, 1) := by decide +kernel
theorem dX12_mayGo_43 : decode cX12_mayGo 43 = .ok (.aload_n 0, 1) := by decide +kernel
theorem dX12_mayGo_44 : decode cX12_mayGo 44 = .ok (.iload_n 1, 1) := by decide +kernel
theorem dX12_mayGo_45 : decode cX12_mayGo 45 = .ok (.iconst 1, 1) := by decide +kernel
theorem dX12_mayGo_46 : decode cX12_mayGo 46 = .ok (.invokestatic 53, 3) := by decide +kernel
theorem dX12_mayGo_49 : decode cX12_mayGo 49 = .ok (.iaload, 1) := by decide +kernel
theorem dX12_mayGo_50 : decode cX12_mayGo 50 = .ok (.invokestatic 65, 3) := by decide +kernel
theorem dX12_mayGo_53 : decode cX12_mayGo 53 = .ok (.if_icmp .lt 7, 3) := by decide +kernel
theorem dX12_mayGo_56 : decode cX12_mayGo 56 = .ok (.iconst 1, 1) := by decide +kernel
theorem dX12_mayGo_57 : decode cX12_mayGo 57 = .ok (.goto 4, 3) := by decide +kernel
theorem dX12_mayGo_60 : decode cX12_mayGo 60 = .ok (.iconst 0, 1) := by decide +kernel
theorem dX12_mayGo_61 : decode cX12_mayGo 61 = .ok (.ireturn, 1) := by decide +kernel
theorem dX12_lacks_0 : decode cX12_lacks 0 = .ok (.aload_n 0, 1) := by decide +kernel
theorem dX12_lacks_1 : decode cX12_lacks 1 = .ok (.iload_n 1, 1) := by decide +kernel
theorem dX12_lacks_2 : decode cX12_lacks 2 = .ok (.iconst 2, 1) := by decide +kernel
theorem dX12_lacks_3 : decode cX12_lacks 3 = .ok (.invokestatic 53, 3) := by decide +kernel
theorem dX12_lacks_6 : decode cX12_lacks 6 = .ok (.iaload, 1) := by decide +kernel
theorem dX12_lacks_7 : decode cX12_lacks 7 = .ok (.aload_n 0, 1) := by decide +kernel
theorem dX12_lacks_8 : decode cX12_lacks 8 = .ok (.iload_n 1, 1) := by decide +kernel
theorem dX12_lacks_9 : decode cX12_lacks 9 = .ok (.iconst 3, 1) := by decide +kernel
theorem dX12_lacks_10 : decode cX12_lacks 10 = .ok (.invokestatic 53, 3) := by decide +kernel
theorem dX12_lacks_13 : decode cX12_lacks 13 = .ok (.iaload, 1) := by decide +kernel
theorem dX12_lacks_14 : decode cX12_lacks 14 = .ok (.isub, 1) := by decide +kernel
theorem dX12_lacks_15 : decode cX12_lacks 15 = .ok (.iconst 1, 1) := by decide +kernel
theorem dX12_lacks_16 : decode cX12_lacks 16 = .ok (.iadd, 1) := by decide +kernel
theorem dX12_lacks_17 : decode cX12_lacks 17 = .ok (.istore_n 2, 1) := by decide +kernel
theorem dX12_lacks_18 : decode cX12_lacks 18 = .ok (.aload_n 0, 1) := by decide +kernel
theorem dX12_lacks_19 : decode cX12_lacks 19 = .ok (.iload_n 1, 1) := by decide +kernel
theorem dX12_lacks_20 : decode cX12_lacks 20 = .ok (.invokestatic 61, 3) := by decide +kernel
theorem dX12_lacks_23 : decode cX12_lacks 23 = .ok (.ifCond .eq 11, 3) := by decide +kernel
theorem dX12_lacks_26 : decode cX12_lacks 26 = .ok (.iload_n 2, 1) := by decide +kernel
theorem dX12_lacks_27 : decode cX12_lacks 27 = .ok (.ifCond .le 7, 3) := by decide +kernel
theorem dX12_lacks_30 : decode cX12_lacks 30 = .ok (.iload_n 2, 1) := by decide +kernel
theorem dX12_lacks_31 : decode cX12_lacks 31 = .ok (.goto 4, 3) := by decide +kernel
theorem dX12_lacks_34 : decode cX12_lacks 34 = .ok (.iconst 0, 1) := by decide +kernel
theorem dX12_lacks_35 : decode cX12_lacks 35 = .ok (.ireturn, 1) := by decide +kernel
theorem dX12_day_0 : decode cX12_day 0 = .ok (.aload_n 0, 1) := by decide +kernel
theorem dX12_day_1 : decode cX12_day 1 = .ok (.iconst 1, 1) := by decide +kernel
theorem dX12_day_2 : decode cX12_day 2 = .ok (.dup2, 1) := by decide +kernel
theorem dX12_day_3 : decode cX12_day 3 = .ok (.iaload, 1) := by decide +kernel
theorem dX12_day_4 : decode cX12_day 4 = .ok (.iconst 1, 1) := by decide +kernel
theorem dX12_day_5 : decode cX12_day 5 = .ok (.iadd, 1) := by decide +kernel
theorem dX12_day_6 : decode cX12_day 6 = .ok (.iastore, 1) := by decide +kernel
theorem dX12_day_7 : decode cX12_day 7 = .ok (.iconst 0, 1) := by decide +kernel
theorem dX12_day_8 : decode cX12_day 8 = .ok (.istore_n 2, 1) := by decide +kernel
theorem dX12_day_9 : decode cX12_day 9 = .ok (.iload_n 2, 1) := by decide +kernel
theorem dX12_day_10 : decode cX12_day 10 = .ok (.aload_n 0, 1) := by decide +kernel
theorem dX12_day_11 : decode cX12_day 11 = .ok (.iconst 0, 1) := by decide +kernel
theorem dX12_day_12 : decode cX12_day 12 = .ok (.iaload, 1) := by decide +kernel
theorem dX12_day_13 : decode cX12_day 13 = .ok (.if_icmp .ge 97, 3) := by decide +kernel
theorem dX12_day_16 : decode cX12_day 16 = .ok (.aload_n 0, 1) := by decide +kernel
theorem dX12_day_17 : decode cX12_day 17 = .ok (.iload_n 2, 1) := by decide +kernel
theorem dX12_day_18 : decode cX12_day 18 = .ok (.invokestatic 61, 3) := by decide +kernel
theorem dX12_day_21 : decode cX12_day 21 = .ok (.ifCond .ne 6, 3) := by decide +kernel
theorem dX12_day_24 : decode cX12_day 24 = .ok (.goto 80, 3) := by decide +kernel
theorem dX12_day_27 : decode cX12_day 27 = .ok (.aload_n 0, 1) := by decide +kernel
theorem dX12_day_28 : decode cX12_day 28 = .ok (.iload_n 2, 1) := by decide +kernel
theorem dX12_day_29 : decode cX12_day 29 = .ok (.iconst 0, 1) := by decide +kernel
theorem dX12_day_30 : decode cX12_day 30 = .ok (.invokestatic 53, 3) := by decide +kernel
theorem dX12_day_33 : decode cX12_day 33 = .ok (.iaload, 1) := by decide +kernel
theorem dX12_day_34 : decode cX12_day 34 = .ok (.istore_n 3, 1) := by decide +kernel
theorem dX12_day_35 : decode cX12_day 35 = .ok (.aload_n 0, 1) := by decide +kernel
theorem dX12_day_36 : decode cX12_day 36 = .ok (.iload_n 2, 1) := by decide +kernel
theorem dX12_day_37 : decode cX12_day 37 = .ok (.iconst 2, 1) := by decide +kernel
theorem dX12_day_38 : decode cX12_day 38 = .ok (.invokestatic 53, 3) := by decide +kernel
theorem dX12_day_41 : decode cX12_day 41 = .ok (.aload_n 0, 1) := by decide +kernel
theorem dX12_day_42 : decode cX12_day 42 = .ok (.iload_n 2, 1) := by decide +kernel
theorem dX12_day_43 : decode cX12_day 43 = .ok (.iconst 2, 1) := by decide +kernel
theorem dX12_day_44 : decode cX12_day 44 = .ok (.invokestatic 53, 3) := by decide +kernel
theorem dX12_day_47 : decode cX12_day 47 = .ok (.iaload, 1) := by decide +kernel
theorem dX12_day_48 : decode cX12_day 48 = .ok (.iload_n 1, 1) := by decide +kernel
theorem dX12_day_49 : decode cX12_day 49 = .ok (.iload_n 2, 1) := by decide +kernel
theorem dX12_day_50 : decode cX12_day 50 = .ok (.invokestatic 68, 3) := by decide +kernel
theorem dX12_day_53 : decode cX12_day 53 = .ok (.ifCond .eq 7, 3) := by decide +kernel
theorem dX12_day_56 : decode cX12_day 56 = .ok (.iconst 0, 1) := by decide +kernel
theorem dX12_day_57 : decode cX12_day 57 = .ok (.goto 10, 3) := by decide +kernel
theorem dX12_day_60 : decode cX12_day 60 = .ok (.iload_n 3, 1) := by decide +kernel
theorem dX12_day_61 : decode cX12_day 61 = .ok (.aload_n 0, 1) := by decide +kernel
theorem dX12_day_62 : decode cX12_day 62 = .ok (.iconst 3, 1) := by decide +kernel
theorem dX12_day_63 : decode cX12_day 63 = .ok (.iaload, 1) := by decide +kernel
theorem dX12_day_64 : decode cX12_day 64 = .ok (.invokestatic 72, 3) := by decide +kernel
theorem dX12_day_67 : decode cX12_day 67 = .ok (.iadd, 1) := by decide +kernel
theorem dX12_day_68 : decode cX12_day 68 = .ok (.invokestatic 57, 3) := by decide +kernel
theorem dX12_day_71 : decode cX12_day 71 = .ok (.iastore, 1) := by decide +kernel
theorem dX12_day_72 : decode cX12_day 72 = .ok (.aload_n 0, 1) := by decide +kernel
theorem dX12_day_73 : decode cX12_day 73 = .ok (.iload_n 2, 1) := by decide +kernel
theorem dX12_day_74 : decode cX12_day 74 = .ok (.iconst 2, 1) := by decide +kernel
theorem dX12_day_75 : decode cX12_day 75 = .ok (.invokestatic 53, 3) := by decide +kernel
theorem dX12_day_78 : decode cX12_day 78 = .ok (.aload_n 0, 1) := by decide +kernel
theorem dX12_day_79 : decode cX12_day 79 = .ok (.iload_n 2, 1) := by decide +kernel
theorem dX12_day_80 : decode cX12_day 80 = .ok (.iconst 2, 1) := by decide +kernel
theorem dX12_day_81 : decode cX12_day 81 = .ok (.invokestatic 53, 3) := by decide +kernel
theorem dX12_day_84 : decode cX12_day 84 = .ok (.iaload, 1) := by decide +kernel
theorem dX12_day_85 : decode cX12_day 85 = .ok (.iload_n 3, 1) := by decide +kernel
theorem dX12_day_86 : decode cX12_day 86 = .ok (.aload_n 0, 1) := by decide +kernel
theorem dX12_day_87 : decode cX12_day 87 = .ok (.iload_n 2, 1) := by decide +kernel
theorem dX12_day_88 : decode cX12_day 88 = .ok (.iconst 1, 1) := by decide +kernel
theorem dX12_day_89 : decode cX12_day 89 = .ok (.invokestatic 53, 3) := by decide +kernel
theorem dX12_day_92 : decode cX12_day 92 = .ok (.iaload, 1) := by decide +kernel
theorem dX12_day_93 : decode cX12_day 93 = .ok (.aload_n 0, 1) := by decide +kernel
theorem dX12_day_94 : decode cX12_day 94 = .ok (.iconst 4, 1) := by decide +kernel
theorem dX12_day_95 : decode cX12_day 95 = .ok (.iaload, 1) := by decide +kernel
theorem dX12_day_96 : decode cX12_day 96 = .ok (.invokestatic 75, 3) := by decide +kernel
theorem dX12_day_99 : decode cX12_day 99 = .ok (.isub, 1) := by decide +kernel
theorem dX12_day_100 : decode cX12_day 100 = .ok (.invokestatic 57, 3) := by decide +kernel
theorem dX12_day_103 : decode cX12_day 103 = .ok (.iastore, 1) := by decide +kernel
theorem dX12_day_104 : decode cX12_day 104 = .ok (.iinc 2 1, 3) := by decide +kernel
theorem dX12_day_107 : decode cX12_day 107 = .ok (.goto (-98), 3) := by decide +kernel
theorem dX12_day_110 : decode cX12_day 110 = .ok (.iconst 0, 1) := by decide +kernel
theorem dX12_day_111 : decode cX12_day 111 = .ok (.istore_n 2, 1) := by decide +kernel
theorem dX12_day_112 : decode cX12_day 112 = .ok (.iload_n 2, 1) := by decide +kernel
theorem dX12_day_113 : decode cX12_day 113 = .ok (.aload_n 0, 1) := by decide +kernel
theorem dX12_day_114 : decode cX12_day 114 = .ok (.iconst 0, 1) := by decide +kernel
theorem dX12_day_115 : decode cX12_day 115 = .ok (.iaload, 1) := by decide +kernel
theorem dX12_day_116 : decode cX12_day 116 = .ok (.if_icmp .ge 66, 3) := by decide +kernel
theorem dX12_day_119 : decode cX12_day 119 = .ok (.aload_n 0, 1) := by decide +kernel
theorem dX12_day_120 : decode cX12_day 120 = .ok (.iload_n 2, 1) := by decide +kernel
theorem dX12_day_121 : decode cX12_day 121 = .ok (.invokestatic 79, 3) := by decide +kernel
theorem dX12_day_124 : decode cX12_day 124 = .ok (.ifCond .ne 6, 3) := by decide +kernel
theorem dX12_day_127 : decode cX12_day 127 = .ok (.goto 49, 3) := by decide +kernel
theorem dX12_day_130 : decode cX12_day 130 = .ok (.aload_n 0, 1) := by decide +kernel
theorem dX12_day_131 : decode cX12_day 131 = .ok (.iload_n 2, 1) := by decide +kernel
theorem dX12_day_132 : decode cX12_day 132 = .ok (.bipush 6, 2) := by decide +kernel
theorem dX12_day_134 : decode cX12_day 134 = .ok (.invokestatic 53, 3) := by decide +kernel
theorem dX12_day_137 : decode cX12_day 137 = .ok (.iconst 0, 1) := by decide +kernel
theorem dX12_day_138 : decode cX12_day 138 = .ok (.iastore, 1) := by decide +kernel
theorem dX12_day_139 : decode cX12_day 139 = .ok (.aload_n 0, 1) := by decide +kernel
theorem dX12_day_140 : decode cX12_day 140 = .ok (.iconst 2, 1) := by decide +kernel
theorem dX12_day_141 : decode cX12_day 141 = .ok (.iaload, 1) := by decide +kernel
theorem dX12_day_142 : decode cX12_day 142 = .ok (.aload_n 0, 1) := by decide +kernel
theorem dX12_day_143 : decode cX12_day 143 = .ok (.iload_n 2, 1) := by decide +kernel
theorem dX12_day_144 : decode cX12_day 144 = .ok (.iconst 3, 1) := by decide +kernel
theorem dX12_day_145 : decode cX12_day 145 = .ok (.invokestatic 53, 3) := by decide +kernel
theorem dX12_day_148 : decode cX12_day 148 = .ok (.iaload, 1) := by decide +kernel
theorem dX12_day_149 : decode cX12_day 149 = .ok (.iadd, 1) := by decide +kernel
theorem dX12_day_150 : decode cX12_day 150 = .ok (.aload_n 0, 1) := by decide +kernel
theorem dX12_day_151 : decode cX12_day 151 = .ok (.iload_n 2, 1) := by decide +kernel
theorem dX12_day_152 : decode cX12_day 152 = .ok (.iconst 2, 1) := by decide +kernel
theorem dX12_day_153 : decode cX12_day 153 = .ok (.invokestatic 53, 3) := by decide +kernel
theorem dX12_day_156 : decode cX12_day 156 = .ok (.iaload, 1) := by decide +kernel
theorem dX12_day_157 : decode cX12_day 157 = .ok (.isub, 1) := by decide +kernel
theorem dX12_day_158 : decode cX12_day 158 = .ok (.istore_n 3, 1) := by decide +kernel
theorem dX12_day_159 : decode cX12_day 159 = .ok (.aload_n 0, 1) := by decide +kernel
theorem dX12_day_160 : decode cX12_day 160 = .ok (.iconst 2, 1) := by decide +kernel
theorem dX12_day_161 : decode cX12_day 161 = .ok (.iload_n 3, 1) := by decide +kernel
theorem dX12_day_162 : decode cX12_day 162 = .ok (.sipush 9999, 3) := by decide +kernel
theorem dX12_day_165 : decode cX12_day 165 = .ok (.if_icmp .le 9, 3) := by decide +kernel
theorem dX12_day_168 : decode cX12_day 168 = .ok (.sipush 9999, 3) := by decide +kernel
theorem dX12_day_171 : decode cX12_day 171 = .ok (.goto 4, 3) := by decide +kernel
theorem dX12_day_174 : decode cX12_day 174 = .ok (.iload_n 3, 1) := by decide +kernel
theorem dX12_day_175 : decode cX12_day 175 = .ok (.iastore, 1) := by decide +kernel
theorem dX12_day_176 : decode cX12_day 176 = .ok (.iinc 2 1, 3) := by decide +kernel
theorem dX12_day_179 : decode cX12_day 179 = .ok (.goto (-67), 3) := by decide +kernel
theorem dX12_day_182 : decode cX12_day 182 = .ok (.return_, 1) := by decide +kernel
theorem dX12_daysOn_0 : decode cX12_daysOn 0 = .ok (.iconst 0, 1) := by decide +kernel
theorem dX12_daysOn_1 : decode cX12_daysOn 1 = .ok (.istore_n 2, 1) := by decide +kernel
theorem dX12_daysOn_2 : decode cX12_daysOn 2 = .ok (.iload_n 2, 1) := by decide +kernel
theorem dX12_daysOn_3 : decode cX12_daysOn 3 = .ok (.iload_n 1, 1) := by decide +kernel
theorem dX12_daysOn_4 : decode cX12_daysOn 4 = .ok (.if_icmp .ge 14, 3) := by decide +kernel
theorem dX12_daysOn_7 : decode cX12_daysOn 7 = .ok (.aload_n 0, 1) := by decide +kernel
theorem dX12_daysOn_8 : decode cX12_daysOn 8 = .ok (.iconst 0, 1) := by decide +kernel
theorem dX12_daysOn_9 : decode cX12_daysOn 9 = .ok (.invokestatic 82, 3) := by decide +kernel
theorem dX12_daysOn_12 : decode cX12_daysOn 12 = .ok (.iinc 2 1, 3) := by decide +kernel
theorem dX12_daysOn_15 : decode cX12_daysOn 15 = .ok (.goto (-13), 3) := by decide +kernel
theorem dX12_daysOn_18 : decode cX12_daysOn 18 = .ok (.return_, 1) := by decide +kernel
theorem dX12_canTell_0 : decode cX12_canTell 0 = .ok (.aload_n 0, 1) := by decide +kernel
theorem dX12_canTell_1 : decode cX12_canTell 1 = .ok (.iload_n 1, 1) := by decide +kernel
theorem dX12_canTell_2 : decode cX12_canTell 2 = .ok (.invokestatic 61, 3) := by decide +kernel
theorem dX12_canTell_5 : decode cX12_canTell 5 = .ok (.ifCond .eq 17, 3) := by decide +kernel
theorem dX12_canTell_8 : decode cX12_canTell 8 = .ok (.aload_n 0, 1) := by decide +kernel
theorem dX12_canTell_9 : decode cX12_canTell 9 = .ok (.iload_n 1, 1) := by decide +kernel
theorem dX12_canTell_10 : decode cX12_canTell 10 = .ok (.iconst 4, 1) := by decide +kernel
theorem dX12_canTell_11 : decode cX12_canTell 11 = .ok (.invokestatic 53, 3) := by decide +kernel
theorem dX12_canTell_14 : decode cX12_canTell 14 = .ok (.iaload, 1) := by decide +kernel
theorem dX12_canTell_15 : decode cX12_canTell 15 = .ok (.ifCond .le 7, 3) := by decide +kernel
theorem dX12_canTell_18 : decode cX12_canTell 18 = .ok (.iconst 1, 1) := by decide +kernel
theorem dX12_canTell_19 : decode cX12_canTell 19 = .ok (.goto 4, 3) := by decide +kernel
theorem dX12_canTell_22 : decode cX12_canTell 22 = .ok (.iconst 0, 1) := by decide +kernel
theorem dX12_canTell_23 : decode cX12_canTell 23 = .ok (.ireturn, 1) := by decide +kernel
theorem dX12_tellsIn_0 : decode cX12_tellsIn 0 = .ok (.aload_n 0, 1) := by decide +kernel
theorem dX12_tellsIn_1 : decode cX12_tellsIn 1 = .ok (.iload_n 1, 1) := by decide +kernel
theorem dX12_tellsIn_2 : decode cX12_tellsIn 2 = .ok (.iconst 4, 1) := by decide +kernel
theorem dX12_tellsIn_3 : decode cX12_tellsIn 3 = .ok (.invokestatic 53, 3) := by decide +kernel
theorem dX12_tellsIn_6 : decode cX12_tellsIn 6 = .ok (.dup2, 1) := by decide +kernel
theorem dX12_tellsIn_7 : decode cX12_tellsIn 7 = .ok (.iaload, 1) := by decide +kernel
theorem dX12_tellsIn_8 : decode cX12_tellsIn 8 = .ok (.iconst 1, 1) := by decide +kernel
theorem dX12_tellsIn_9 : decode cX12_tellsIn 9 = .ok (.isub, 1) := by decide +kernel
theorem dX12_tellsIn_10 : decode cX12_tellsIn 10 = .ok (.iastore, 1) := by decide +kernel
theorem dX12_tellsIn_11 : decode cX12_tellsIn 11 = .ok (.aload_n 0, 1) := by decide +kernel
theorem dX12_tellsIn_12 : decode cX12_tellsIn 12 = .ok (.iload_n 1, 1) := by decide +kernel
theorem dX12_tellsIn_13 : decode cX12_tellsIn 13 = .ok (.iconst 2, 1) := by decide +kernel
theorem dX12_tellsIn_14 : decode cX12_tellsIn 14 = .ok (.invokestatic 53, 3) := by decide +kernel
theorem dX12_tellsIn_17 : decode cX12_tellsIn 17 = .ok (.aload_n 0, 1) := by decide +kernel
theorem dX12_tellsIn_18 : decode cX12_tellsIn 18 = .ok (.iload_n 1, 1) := by decide +kernel
theorem dX12_tellsIn_19 : decode cX12_tellsIn 19 = .ok (.iconst 2, 1) := by decide +kernel
theorem dX12_tellsIn_20 : decode cX12_tellsIn 20 = .ok (.invokestatic 53, 3) := by decide +kernel
theorem dX12_tellsIn_23 : decode cX12_tellsIn 23 = .ok (.iaload, 1) := by decide +kernel
theorem dX12_tellsIn_24 : decode cX12_tellsIn 24 = .ok (.aload_n 0, 1) := by decide +kernel
theorem dX12_tellsIn_25 : decode cX12_tellsIn 25 = .ok (.iload_n 1, 1) := by decide +kernel
theorem dX12_tellsIn_26 : decode cX12_tellsIn 26 = .ok (.iconst 0, 1) := by decide +kernel
theorem dX12_tellsIn_27 : decode cX12_tellsIn 27 = .ok (.invokestatic 53, 3) := by decide +kernel
theorem dX12_tellsIn_30 : decode cX12_tellsIn 30 = .ok (.iaload, 1) := by decide +kernel
theorem dX12_tellsIn_31 : decode cX12_tellsIn 31 = .ok (.aload_n 0, 1) := by decide +kernel
theorem dX12_tellsIn_32 : decode cX12_tellsIn 32 = .ok (.iload_n 1, 1) := by decide +kernel
theorem dX12_tellsIn_33 : decode cX12_tellsIn 33 = .ok (.iconst 1, 1) := by decide +kernel
theorem dX12_tellsIn_34 : decode cX12_tellsIn 34 = .ok (.invokestatic 53, 3) := by decide +kernel
theorem dX12_tellsIn_37 : decode cX12_tellsIn 37 = .ok (.iaload, 1) := by decide +kernel
theorem dX12_tellsIn_38 : decode cX12_tellsIn 38 = .ok (.invokestatic 86, 3) := by decide +kernel
theorem dX12_tellsIn_41 : decode cX12_tellsIn 41 = .ok (.isub, 1) := by decide +kernel
theorem dX12_tellsIn_42 : decode cX12_tellsIn 42 = .ok (.invokestatic 57, 3) := by decide +kernel
theorem dX12_tellsIn_45 : decode cX12_tellsIn 45 = .ok (.iastore, 1) := by decide +kernel
theorem dX12_tellsIn_46 : decode cX12_tellsIn 46 = .ok (.return_, 1) := by decide +kernel
theorem dX12_canLend_0 : decode cX12_canLend 0 = .ok (.aload_n 0, 1) := by decide +kernel
theorem dX12_canLend_1 : decode cX12_canLend 1 = .ok (.iload_n 1, 1) := by decide +kernel
theorem dX12_canLend_2 : decode cX12_canLend 2 = .ok (.invokestatic 61, 3) := by decide +kernel
theorem dX12_canLend_5 : decode cX12_canLend 5 = .ok (.ifCond .eq 40, 3) := by decide +kernel
theorem dX12_canLend_8 : decode cX12_canLend 8 = .ok (.aload_n 0, 1) := by decide +kernel
theorem dX12_canLend_9 : decode cX12_canLend 9 = .ok (.iload_n 2, 1) := by decide +kernel
theorem dX12_canLend_10 : decode cX12_canLend 10 = .ok (.invokestatic 61, 3) := by decide +kernel
theorem dX12_canLend_13 : decode cX12_canLend 13 = .ok (.ifCond .eq 32, 3) := by decide +kernel
theorem dX12_canLend_16 : decode cX12_canLend 16 = .ok (.aload_n 0, 1) := by decide +kernel
theorem dX12_canLend_17 : decode cX12_canLend 17 = .ok (.iload_n 1, 1) := by decide +kernel
theorem dX12_canLend_18 : decode cX12_canLend 18 = .ok (.iconst 2, 1) := by decide +kernel
theorem dX12_canLend_19 : decode cX12_canLend 19 = .ok (.invokestatic 53, 3) := by decide +kernel
theorem dX12_canLend_22 : decode cX12_canLend 22 = .ok (.iaload, 1) := by decide +kernel
theorem dX12_canLend_23 : decode cX12_canLend 23 = .ok (.iload_n 3, 1) := by decide +kernel
theorem dX12_canLend_24 : decode cX12_canLend 24 = .ok (.if_icmp .lt 21, 3) := by decide +kernel
theorem dX12_canLend_27 : decode cX12_canLend 27 = .ok (.aload_n 0, 1) := by decide +kernel
theorem dX12_canLend_28 : decode cX12_canLend 28 = .ok (.iload_n 2, 1) := by decide +kernel
theorem dX12_canLend_29 : decode cX12_canLend 29 = .ok (.iconst 2, 1) := by decide +kernel
theorem dX12_canLend_30 : decode cX12_canLend 30 = .ok (.invokestatic 53, 3) := by decide +kernel
theorem dX12_canLend_33 : decode cX12_canLend 33 = .ok (.iaload, 1) := by decide +kernel
theorem dX12_canLend_34 : decode cX12_canLend 34 = .ok (.iload_n 3, 1) := by decide +kernel
theorem dX12_canLend_35 : decode cX12_canLend 35 = .ok (.iadd, 1) := by decide +kernel
theorem dX12_canLend_36 : decode cX12_canLend 36 = .ok (.bipush 99, 2) := by decide +kernel
theorem dX12_canLend_38 : decode cX12_canLend 38 = .ok (.if_icmp .gt 7, 3) := by decide +kernel
theorem dX12_canLend_41 : decode cX12_canLend 41 = .ok (.iconst 1, 1) := by decide +kernel
theorem dX12_canLend_42 : decode cX12_canLend 42 = .ok (.goto 4, 3) := by decide +kernel
theorem dX12_canLend_45 : decode cX12_canLend 45 = .ok (.iconst 0, 1) := by decide +kernel
theorem dX12_canLend_46 : decode cX12_canLend 46 = .ok (.ireturn, 1) := by decide +kernel
theorem dX12_lendsIn_0 : decode cX12_lendsIn 0 = .ok (.aload_n 0, 1) := by decide +kernel
theorem dX12_lendsIn_1 : decode cX12_lendsIn 1 = .ok (.iload_n 1, 1) := by decide +kernel
theorem dX12_lendsIn_2 : decode cX12_lendsIn 2 = .ok (.iconst 2, 1) := by decide +kernel
theorem dX12_lendsIn_3 : decode cX12_lendsIn 3 = .ok (.invokestatic 53, 3) := by decide +kernel
theorem dX12_lendsIn_6 : decode cX12_lendsIn 6 = .ok (.dup2, 1) := by decide +kernel
theorem dX12_lendsIn_7 : decode cX12_lendsIn 7 = .ok (.iaload, 1) := by decide +kernel
theorem dX12_lendsIn_8 : decode cX12_lendsIn 8 = .ok (.iload_n 3, 1) := by decide +kernel
theorem dX12_lendsIn_9 : decode cX12_lendsIn 9 = .ok (.isub, 1) := by decide +kernel
theorem dX12_lendsIn_10 : decode cX12_lendsIn 10 = .ok (.iastore, 1) := by decide +kernel
theorem dX12_lendsIn_11 : decode cX12_lendsIn 11 = .ok (.aload_n 0, 1) := by decide +kernel
theorem dX12_lendsIn_12 : decode cX12_lendsIn 12 = .ok (.iload_n 2, 1) := by decide +kernel
theorem dX12_lendsIn_13 : decode cX12_lendsIn 13 = .ok (.iconst 2, 1) := by decide +kernel
theorem dX12_lendsIn_14 : decode cX12_lendsIn 14 = .ok (.invokestatic 53, 3) := by decide +kernel
theorem dX12_lendsIn_17 : decode cX12_lendsIn 17 = .ok (.dup2, 1) := by decide +kernel
theorem dX12_lendsIn_18 : decode cX12_lendsIn 18 = .ok (.iaload, 1) := by decide +kernel
theorem dX12_lendsIn_19 : decode cX12_lendsIn 19 = .ok (.iload_n 3, 1) := by decide +kernel
theorem dX12_lendsIn_20 : decode cX12_lendsIn 20 = .ok (.iadd, 1) := by decide +kernel
theorem dX12_lendsIn_21 : decode cX12_lendsIn 21 = .ok (.iastore, 1) := by decide +kernel
theorem dX12_lendsIn_22 : decode cX12_lendsIn 22 = .ok (.return_, 1) := by decide +kernel
theorem dX12_hereIn_0 : decode cX12_hereIn 0 = .ok (.iconst 0, 1) := by decide +kernel
theorem dX12_hereIn_1 : decode cX12_hereIn 1 = .ok (.istore_n 1, 1) := by decide +kernel
theorem dX12_hereIn_2 : decode cX12_hereIn 2 = .ok (.iconst 0, 1) := by decide +kernel
theorem dX12_hereIn_3 : decode cX12_hereIn 3 = .ok (.istore_n 2, 1) := by decide +kernel
theorem dX12_hereIn_4 : decode cX12_hereIn 4 = .ok (.iload_n 2, 1) := by decide +kernel
theorem dX12_hereIn_5 : decode cX12_hereIn 5 = .ok (.aload_n 0, 1) := by decide +kernel
theorem dX12_hereIn_6 : decode cX12_hereIn 6 = .ok (.iconst 0, 1) := by decide +kernel
theorem dX12_hereIn_7 : decode cX12_hereIn 7 = .ok (.iaload, 1) := by decide +kernel
theorem dX12_hereIn_8 : decode cX12_hereIn 8 = .ok (.if_icmp .ge 22, 3) := by decide +kernel
theorem dX12_hereIn_11 : decode cX12_hereIn 11 = .ok (.iload_n 1, 1) := by decide +kernel
theorem dX12_hereIn_12 : decode cX12_hereIn 12 = .ok (.aload_n 0, 1) := by decide +kernel
theorem dX12_hereIn_13 : decode cX12_hereIn 13 = .ok (.iload_n 2, 1) := by decide +kernel
theorem dX12_hereIn_14 : decode cX12_hereIn 14 = .ok (.bipush 6, 2) := by decide +kernel
theorem dX12_hereIn_16 : decode cX12_hereIn 16 = .ok (.invokestatic 53, 3) := by decide +kernel
theorem dX12_hereIn_19 : decode cX12_hereIn 19 = .ok (.iaload, 1) := by decide +kernel
theorem dX12_hereIn_20 : decode cX12_hereIn 20 = .ok (.iload_n 2, 1) := by decide +kernel
theorem dX12_hereIn_21 : decode cX12_hereIn 21 = .ok (.ishl, 1) := by decide +kernel
theorem dX12_hereIn_22 : decode cX12_hereIn 22 = .ok (.ior, 1) := by decide +kernel
theorem dX12_hereIn_23 : decode cX12_hereIn 23 = .ok (.istore_n 1, 1) := by decide +kernel
theorem dX12_hereIn_24 : decode cX12_hereIn 24 = .ok (.iinc 2 1, 3) := by decide +kernel
theorem dX12_hereIn_27 : decode cX12_hereIn 27 = .ok (.goto (-23), 3) := by decide +kernel
theorem dX12_hereIn_30 : decode cX12_hereIn 30 = .ok (.iload_n 1, 1) := by decide +kernel
theorem dX12_hereIn_31 : decode cX12_hereIn 31 = .ok (.ireturn, 1) := by decide +kernel
theorem dX12_weightIn_0 : decode cX12_weightIn 0 = .ok (.iconst 0, 1) := by decide +kernel
theorem dX12_weightIn_1 : decode cX12_weightIn 1 = .ok (.istore_n 1, 1) := by decide +kernel
theorem dX12_weightIn_2 : decode cX12_weightIn 2 = .ok (.iconst 0, 1) := by decide +kernel
theorem dX12_weightIn_3 : decode cX12_weightIn 3 = .ok (.istore_n 2, 1) := by decide +kernel
theorem dX12_weightIn_4 : decode cX12_weightIn 4 = .ok (.iload_n 2, 1) := by decide +kernel
theorem dX12_weightIn_5 : decode cX12_weightIn 5 = .ok (.aload_n 0, 1) := by decide +kernel
theorem dX12_weightIn_6 : decode cX12_weightIn 6 = .ok (.iconst 0, 1) := by decide +kernel
theorem dX12_weightIn_7 : decode cX12_weightIn 7 = .ok (.iaload, 1) := by decide +kernel
theorem dX12_weightIn_8 : decode cX12_weightIn 8 = .ok (.if_icmp .ge 31, 3) := by decide +kernel
theorem dX12_weightIn_11 : decode cX12_weightIn 11 = .ok (.iload_n 1, 1) := by decide +kernel
theorem dX12_weightIn_12 : decode cX12_weightIn 12 = .ok (.aload_n 0, 1) := by decide +kernel
theorem dX12_weightIn_13 : decode cX12_weightIn 13 = .ok (.iload_n 2, 1) := by decide +kernel
theorem dX12_weightIn_14 : decode cX12_weightIn 14 = .ok (.invokestatic 61, 3) := by decide +kernel
theorem dX12_weightIn_17 : decode cX12_weightIn 17 = .ok (.ifCond .eq 13, 3) := by decide +kernel
theorem dX12_weightIn_20 : decode cX12_weightIn 20 = .ok (.aload_n 0, 1) := by decide +kernel
theorem dX12_weightIn_21 : decode cX12_weightIn 21 = .ok (.iload_n 2, 1) := by decide +kernel
theorem dX12_weightIn_22 : decode cX12_weightIn 22 = .ok (.iconst 2, 1) := by decide +kernel
theorem dX12_weightIn_23 : decode cX12_weightIn 23 = .ok (.invokestatic 53, 3) := by decide +kernel
theorem dX12_weightIn_26 : decode cX12_weightIn 26 = .ok (.iaload, 1) := by decide +kernel
theorem dX12_weightIn_27 : decode cX12_weightIn 27 = .ok (.goto 4, 3) := by decide +kernel
theorem dX12_weightIn_30 : decode cX12_weightIn 30 = .ok (.iconst 0, 1) := by decide +kernel
theorem dX12_weightIn_31 : decode cX12_weightIn 31 = .ok (.iadd, 1) := by decide +kernel
theorem dX12_weightIn_32 : decode cX12_weightIn 32 = .ok (.istore_n 1, 1) := by decide +kernel
theorem dX12_weightIn_33 : decode cX12_weightIn 33 = .ok (.iinc 2 1, 3) := by decide +kernel
theorem dX12_weightIn_36 : decode cX12_weightIn 36 = .ok (.goto (-32), 3) := by decide +kernel
theorem dX12_weightIn_39 : decode cX12_weightIn 39 = .ok (.iload_n 1, 1) := by decide +kernel
theorem dX12_weightIn_40 : decode cX12_weightIn 40 = .ok (.ireturn, 1) := by decide +kernel
theorem dX12_here_0 : decode cX12_here 0 = .ok (.aload_n 0, 1) := by decide +kernel
theorem dX12_here_1 : decode cX12_here 1 = .ok (.getfield 89, 3) := by decide +kernel
theorem dX12_here_4 : decode cX12_here 4 = .ok (.aload_n 0, 1) := by decide +kernel
theorem dX12_here_5 : decode cX12_here 5 = .ok (.getfield 93, 3) := by decide +kernel
theorem dX12_here_8 : decode cX12_here 8 = .ok (.if_icmp .ge 24, 3) := by decide +kernel
theorem dX12_here_11 : decode cX12_here 11 = .ok (.aload_n 0, 1) := by decide +kernel
theorem dX12_here_12 : decode cX12_here 12 = .ok (.getfield 46, 3) := by decide +kernel
theorem dX12_here_15 : decode cX12_here 15 = .ok (.aload_n 0, 1) := by decide +kernel
theorem dX12_here_16 : decode cX12_here 16 = .ok (.getfield 96, 3) := by decide +kernel
theorem dX12_here_19 : decode cX12_here 19 = .ok (.aload_n 0, 1) := by decide +kernel
theorem dX12_here_20 : decode cX12_here 20 = .ok (.getfield 89, 3) := by decide +kernel
theorem dX12_here_23 : decode cX12_here 23 = .ok (.iadd, 1) := by decide +kernel
theorem dX12_here_24 : decode cX12_here 24 = .ok (.iaload, 1) := by decide +kernel
theorem dX12_here_25 : decode cX12_here 25 = .ok (.sipush 255, 3) := by decide +kernel
theorem dX12_here_28 : decode cX12_here 28 = .ok (.iand, 1) := by decide +kernel
theorem dX12_here_29 : decode cX12_here 29 = .ok (.goto 4, 3) := by decide +kernel
theorem dX12_here_32 : decode cX12_here 32 = .ok (.iconst (-1), 1) := by decide +kernel
theorem dX12_here_33 : decode cX12_here 33 = .ok (.ireturn, 1) := by decide +kernel
theorem dX12_readsNumber_0 : decode cX12_readsNumber 0 = .ok (.aload_n 0, 1) := by decide +kernel
theorem dX12_readsNumber_1 : decode cX12_readsNumber 1 = .ok (.getfield 22, 3) := by decide +kernel
theorem dX12_readsNumber_4 : decode cX12_readsNumber 4 = .ok (.iload_n 1, 1) := by decide +kernel
theorem dX12_readsNumber_5 : decode cX12_readsNumber 5 = .ok (.iconst 0, 1) := by decide +kernel
theorem dX12_readsNumber_6 : decode cX12_readsNumber 6 = .ok (.iastore, 1) := by decide +kernel
theorem dX12_readsNumber_7 : decode cX12_readsNumber 7 = .ok (.iconst 0, 1) := by decide +kernel
theorem dX12_readsNumber_8 : decode cX12_readsNumber 8 = .ok (.istore_n 3, 1) := by decide +kernel
theorem dX12_readsNumber_9 : decode cX12_readsNumber 9 = .ok (.iload_n 3, 1) := by decide +kernel
theorem dX12_readsNumber_10 : decode cX12_readsNumber 10 = .ok (.iload_n 2, 1) := by decide +kernel
theorem dX12_readsNumber_11 : decode cX12_readsNumber 11 = .ok (.if_icmp .ge 58, 3) := by decide +kernel
theorem dX12_readsNumber_14 : decode cX12_readsNumber 14 = .ok (.aload_n 0, 1) := by decide +kernel
theorem dX12_readsNumber_15 : decode cX12_readsNumber 15 = .ok (.invokevirtual 99, 3) := by decide +kernel
theorem dX12_readsNumber_18 : decode cX12_readsNumber 18 = .ok (.bipush 48, 2) := by decide +kernel
theorem dX12_readsNumber_20 : decode cX12_readsNumber 20 = .ok (.bipush 57, 2) := by decide +kernel
theorem dX12_readsNumber_22 : decode cX12_readsNumber 22 = .ok (.invokestatic 49, 3) := by decide +kernel
theorem dX12_readsNumber_25 : decode cX12_readsNumber 25 = .ok (.ifCond .ne 5, 3) := by decide +kernel
theorem dX12_readsNumber_28 : decode cX12_readsNumber 28 = .ok (.iconst 0, 1) := by decide +kernel
theorem dX12_readsNumber_29 : decode cX12_readsNumber 29 = .ok (.ireturn, 1) := by decide +kernel
theorem dX12_readsNumber_30 : decode cX12_readsNumber 30 = .ok (.aload_n 0, 1) := by decide +kernel
theorem dX12_readsNumber_31 : decode cX12_readsNumber 31 = .ok (.getfield 22, 3) := by decide +kernel
theorem dX12_readsNumber_34 : decode cX12_readsNumber 34 = .ok (.iload_n 1, 1) := by decide +kernel
theorem dX12_readsNumber_35 : decode cX12_readsNumber 35 = .ok (.bipush 10, 2) := by decide +kernel
theorem dX12_readsNumber_37 : decode cX12_readsNumber 37 = .ok (.aload_n 0, 1) := by decide +kernel
theorem dX12_readsNumber_38 : decode cX12_readsNumber 38 = .ok (.getfield 22, 3) := by decide +kernel
theorem dX12_readsNumber_41 : decode cX12_readsNumber 41 = .ok (.iload_n 1, 1) := by decide +kernel
theorem dX12_readsNumber_42 : decode cX12_readsNumber 42 = .ok (.iaload, 1) := by decide +kernel
theorem dX12_readsNumber_43 : decode cX12_readsNumber 43 = .ok (.imul, 1) := by decide +kernel
theorem dX12_readsNumber_44 : decode cX12_readsNumber 44 = .ok (.aload_n 0, 1) := by decide +kernel
theorem dX12_readsNumber_45 : decode cX12_readsNumber 45 = .ok (.invokevirtual 99, 3) := by decide +kernel
theorem dX12_readsNumber_48 : decode cX12_readsNumber 48 = .ok (.iadd, 1) := by decide +kernel
theorem dX12_readsNumber_49 : decode cX12_readsNumber 49 = .ok (.bipush 48, 2) := by decide +kernel
theorem dX12_readsNumber_51 : decode cX12_readsNumber 51 = .ok (.isub, 1) := by decide +kernel
theorem dX12_readsNumber_52 : decode cX12_readsNumber 52 = .ok (.iastore, 1) := by decide +kernel
theorem dX12_readsNumber_53 : decode cX12_readsNumber 53 = .ok (.aload_n 0, 1) := by decide +kernel
theorem dX12_readsNumber_54 : decode cX12_readsNumber 54 = .ok (.dup, 1) := by decide +kernel
theorem dX12_readsNumber_55 : decode cX12_readsNumber 55 = .ok (.getfield 89, 3) := by decide +kernel
theorem dX12_readsNumber_58 : decode cX12_readsNumber 58 = .ok (.iconst 1, 1) := by decide +kernel
theorem dX12_readsNumber_59 : decode cX12_readsNumber 59 = .ok (.iadd, 1) := by decide +kernel
theorem dX12_readsNumber_60 : decode cX12_readsNumber 60 = .ok (.putfield 89, 3) := by decide +kernel
theorem dX12_readsNumber_63 : decode cX12_readsNumber 63 = .ok (.iinc 3 1, 3) := by decide +kernel
theorem dX12_readsNumber_66 : decode cX12_readsNumber 66 = .ok (.goto (-57), 3) := by decide +kernel
theorem dX12_readsNumber_69 : decode cX12_readsNumber 69 = .ok (.iconst 1, 1) := by decide +kernel
theorem dX12_readsNumber_70 : decode cX12_readsNumber 70 = .ok (.ireturn, 1) := by decide +kernel
theorem dX12_readsStatement_0 : decode cX12_readsStatement 0 = .ok (.aload_n 0, 1) := by decide +kernel
theorem dX12_readsStatement_1 : decode cX12_readsStatement 1 = .ok (.invokevirtual 99, 3) := by decide +kernel
theorem dX12_readsStatement_4 : decode cX12_readsStatement 4 = .ok (.istore_n 1, 1) := by decide +kernel
theorem dX12_readsStatement_5 : decode cX12_readsStatement 5 = .ok (.aload_n 0, 1) := by decide +kernel
theorem dX12_readsStatement_6 : decode cX12_readsStatement 6 = .ok (.dup, 1) := by decide +kernel
theorem dX12_readsStatement_7 : decode cX12_readsStatement 7 = .ok (.getfield 89, 3) := by decide +kernel
theorem dX12_readsStatement_10 : decode cX12_readsStatement 10 = .ok (.iconst 1, 1) := by decide +kernel
theorem dX12_readsStatement_11 : decode cX12_readsStatement 11 = .ok (.iadd, 1) := by decide +kernel
theorem dX12_readsStatement_12 : decode cX12_readsStatement 12 = .ok (.putfield 89, 3) := by decide +kernel
theorem dX12_readsStatement_15 : decode cX12_readsStatement 15 = .ok (.iload_n 1, 1) := by decide +kernel
theorem dX12_readsStatement_16 : decode cX12_readsStatement 16 = .ok (.tableswitch 175 98 116 #[128, 175, 165, 175, 175, 92, 175, 175, 175, 175, 92, 175, 175, 175, 175, 175, 175, 128, 155], 92) := by decide +kernel
theorem dX12_readsStatement_108 : decode cX12_readsStatement 108 = .ok (.aload_n 0, 1) := by decide +kernel
theorem dX12_readsStatement_109 : decode cX12_readsStatement 109 = .ok (.iconst 0, 1) := by decide +kernel
theorem dX12_readsStatement_110 : decode cX12_readsStatement 110 = .ok (.iconst 1, 1) := by decide +kernel
theorem dX12_readsStatement_111 : decode cX12_readsStatement 111 = .ok (.invokevirtual 103, 3) := by decide +kernel
theorem dX12_readsStatement_114 : decode cX12_readsStatement 114 = .ok (.ifCond .eq 25, 3) := by decide +kernel
theorem dX12_readsStatement_117 : decode cX12_readsStatement 117 = .ok (.aload_n 0, 1) := by decide +kernel
theorem dX12_readsStatement_118 : decode cX12_readsStatement 118 = .ok (.iconst 1, 1) := by decide +kernel
theorem dX12_readsStatement_119 : decode cX12_readsStatement 119 = .ok (.iconst 1, 1) := by decide +kernel
theorem dX12_readsStatement_120 : decode cX12_readsStatement 120 = .ok (.invokevirtual 103, 3) := by decide +kernel
theorem dX12_readsStatement_123 : decode cX12_readsStatement 123 = .ok (.ifCond .eq 16, 3) := by decide +kernel
theorem dX12_readsStatement_126 : decode cX12_readsStatement 126 = .ok (.aload_n 0, 1) := by decide +kernel
theorem dX12_readsStatement_127 : decode cX12_readsStatement 127 = .ok (.iconst 2, 1) := by decide +kernel
theorem dX12_readsStatement_128 : decode cX12_readsStatement 128 = .ok (.iconst 2, 1) := by decide +kernel
theorem dX12_readsStatement_129 : decode cX12_readsStatement 129 = .ok (.invokevirtual 103, 3) := by decide +kernel
theorem dX12_readsStatement_132 : decode cX12_readsStatement 132 = .ok (.ifCond .eq 7, 3) := by decide +kernel
theorem dX12_readsStatement_135 : decode cX12_readsStatement 135 = .ok (.iconst 1, 1) := by decide +kernel
theorem dX12_readsStatement_136 : decode cX12_readsStatement 136 = .ok (.goto 4, 3) := by decide +kernel
theorem dX12_readsStatement_139 : decode cX12_readsStatement 139 = .ok (.iconst 0, 1) := by decide +kernel
theorem dX12_readsStatement_140 : decode cX12_readsStatement 140 = .ok (.istore_n 2, 1) := by decide +kernel
theorem dX12_readsStatement_141 : decode cX12_readsStatement 141 = .ok (.goto 62, 3) := by decide +kernel
theorem dX12_readsStatement_144 : decode cX12_readsStatement 144 = .ok (.aload_n 0, 1) := by decide +kernel
theorem dX12_readsStatement_145 : decode cX12_readsStatement 145 = .ok (.iconst 0, 1) := by decide +kernel
theorem dX12_readsStatement_146 : decode cX12_readsStatement 146 = .ok (.iconst 1, 1) := by decide +kernel
theorem dX12_readsStatement_147 : decode cX12_readsStatement 147 = .ok (.invokevirtual 103, 3) := by decide +kernel
theorem dX12_readsStatement_150 : decode cX12_readsStatement 150 = .ok (.ifCond .eq 16, 3) := by decide +kernel
theorem dX12_readsStatement_153 : decode cX12_readsStatement 153 = .ok (.aload_n 0, 1) := by decide +kernel
theorem dX12_readsStatement_154 : decode cX12_readsStatement 154 = .ok (.iconst 1, 1) := by decide +kernel
theorem dX12_readsStatement_155 : decode cX12_readsStatement 155 = .ok (.iconst 1, 1) := by decide +kernel
theorem dX12_readsStatement_156 : decode cX12_readsStatement 156 = .ok (.invokevirtual 103, 3) := by decide +kernel
theorem dX12_readsStatement_159 : decode cX12_readsStatement 159 = .ok (.ifCond .eq 7, 3) := by decide +kernel
theorem dX12_readsStatement_162 : decode cX12_readsStatement 162 = .ok (.iconst 1, 1) := by decide +kernel
theorem dX12_readsStatement_163 : decode cX12_readsStatement 163 = .ok (.goto 4, 3) := by decide +kernel
theorem dX12_readsStatement_166 : decode cX12_readsStatement 166 = .ok (.iconst 0, 1) := by decide +kernel
theorem dX12_readsStatement_167 : decode cX12_readsStatement 167 = .ok (.istore_n 2, 1) := by decide +kernel
theorem dX12_readsStatement_168 : decode cX12_readsStatement 168 = .ok (.goto 35, 3) := by decide +kernel
theorem dX12_readsStatement_171 : decode cX12_readsStatement 171 = .ok (.aload_n 0, 1) := by decide +kernel
theorem dX12_readsStatement_172 : decode cX12_readsStatement 172 = .ok (.iconst 0, 1) := by decide +kernel
theorem dX12_readsStatement_173 : decode cX12_readsStatement 173 = .ok (.iconst 1, 1) := by decide +kernel
theorem dX12_readsStatement_174 : decode cX12_readsStatement 174 = .ok (.invokevirtual 103, 3) := by decide +kernel
theorem dX12_readsStatement_177 : decode cX12_readsStatement 177 = .ok (.istore_n 2, 1) := by decide +kernel
theorem dX12_readsStatement_178 : decode cX12_readsStatement 178 = .ok (.goto 25, 3) := by decide +kernel
theorem dX12_readsStatement_181 : decode cX12_readsStatement 181 = .ok (.aload_n 0, 1) := by decide +kernel
theorem dX12_readsStatement_182 : decode cX12_readsStatement 182 = .ok (.iconst 0, 1) := by decide +kernel
theorem dX12_readsStatement_183 : decode cX12_readsStatement 183 = .ok (.iconst 2, 1) := by decide +kernel
theorem dX12_readsStatement_184 : decode cX12_readsStatement 184 = .ok (.invokevirtual 103, 3) := by decide +kernel
theorem dX12_readsStatement_187 : decode cX12_readsStatement 187 = .ok (.istore_n 2, 1) := by decide +kernel
theorem dX12_readsStatement_188 : decode cX12_readsStatement 188 = .ok (.goto 15, 3) := by decide +kernel
theorem dX12_readsStatement_191 : decode cX12_readsStatement 191 = .ok (.aload_n 0, 1) := by decide +kernel
theorem dX12_readsStatement_192 : decode cX12_readsStatement 192 = .ok (.dup, 1) := by decide +kernel
theorem dX12_readsStatement_193 : decode cX12_readsStatement 193 = .ok (.getfield 89, 3) := by decide +kernel
theorem dX12_readsStatement_196 : decode cX12_readsStatement 196 = .ok (.iconst 1, 1) := by decide +kernel
theorem dX12_readsStatement_197 : decode cX12_readsStatement 197 = .ok (.isub, 1) := by decide +kernel
theorem dX12_readsStatement_198 : decode cX12_readsStatement 198 = .ok (.putfield 89, 3) := by decide +kernel
theorem dX12_readsStatement_201 : decode cX12_readsStatement 201 = .ok (.iconst 0, 1) := by decide +kernel
theorem dX12_readsStatement_202 : decode cX12_readsStatement 202 = .ok (.ireturn, 1) := by decide +kernel
theorem dX12_readsStatement_203 : decode cX12_readsStatement 203 = .ok (.iload_n 2, 1) := by decide +kernel
theorem dX12_readsStatement_204 : decode cX12_readsStatement 204 = .ok (.ifCond .eq 12, 3) := by decide +kernel
theorem dX12_readsStatement_207 : decode cX12_readsStatement 207 = .ok (.aload_n 0, 1) := by decide +kernel
theorem dX12_readsStatement_208 : decode cX12_readsStatement 208 = .ok (.invokevirtual 99, 3) := by decide +kernel
theorem dX12_readsStatement_211 : decode cX12_readsStatement 211 = .ok (.bipush 59, 2) := by decide +kernel
theorem dX12_readsStatement_213 : decode cX12_readsStatement 213 = .ok (.if_icmp .eq 5, 3) := by decide +kernel
theorem dX12_readsStatement_216 : decode cX12_readsStatement 216 = .ok (.iconst 0, 1) := by decide +kernel
theorem dX12_readsStatement_217 : decode cX12_readsStatement 217 = .ok (.ireturn, 1) := by decide +kernel
theorem dX12_readsStatement_218 : decode cX12_readsStatement 218 = .ok (.aload_n 0, 1) := by decide +kernel
theorem dX12_readsStatement_219 : decode cX12_readsStatement 219 = .ok (.dup, 1) := by decide +kernel
theorem dX12_readsStatement_220 : decode cX12_readsStatement 220 = .ok (.getfield 89, 3) := by decide +kernel
theorem dX12_readsStatement_223 : decode cX12_readsStatement 223 = .ok (.iconst 1, 1) := by decide +kernel
theorem dX12_readsStatement_224 : decode cX12_readsStatement 224 = .ok (.iadd, 1) := by decide +kernel
theorem dX12_readsStatement_225 : decode cX12_readsStatement 225 = .ok (.putfield 89, 3) := by decide +kernel
theorem dX12_readsStatement_228 : decode cX12_readsStatement 228 = .ok (.iconst 1, 1) := by decide +kernel
theorem dX12_readsStatement_229 : decode cX12_readsStatement 229 = .ok (.ireturn, 1) := by decide +kernel
theorem dX12_adds_0 : decode cX12_adds 0 = .ok (.aload_n 0, 1) := by decide +kernel
theorem dX12_adds_1 : decode cX12_adds 1 = .ok (.getfield 9, 3) := by decide +kernel
theorem dX12_adds_4 : decode cX12_adds 4 = .ok (.iconst 0, 1) := by decide +kernel
theorem dX12_adds_5 : decode cX12_adds 5 = .ok (.iaload, 1) := by decide +kernel
theorem dX12_adds_6 : decode cX12_adds 6 = .ok (.istore 4, 2) := by decide +kernel
theorem dX12_adds_8 : decode cX12_adds 8 = .ok (.aload_n 0, 1) := by decide +kernel
theorem dX12_adds_9 : decode cX12_adds 9 = .ok (.getfield 9, 3) := by decide +kernel
theorem dX12_adds_12 : decode cX12_adds 12 = .ok (.iload 4, 2) := by decide +kernel
theorem dX12_adds_14 : decode cX12_adds 14 = .ok (.iconst 0, 1) := by decide +kernel
theorem dX12_adds_15 : decode cX12_adds 15 = .ok (.invokestatic 53, 3) := by decide +kernel
theorem dX12_adds_18 : decode cX12_adds 18 = .ok (.iload_n 1, 1) := by decide +kernel
theorem dX12_adds_19 : decode cX12_adds 19 = .ok (.iastore, 1) := by decide +kernel
theorem dX12_adds_20 : decode cX12_adds 20 = .ok (.aload_n 0, 1) := by decide +kernel
theorem dX12_adds_21 : decode cX12_adds 21 = .ok (.getfield 9, 3) := by decide +kernel
theorem dX12_adds_24 : decode cX12_adds 24 = .ok (.iload 4, 2) := by decide +kernel
theorem dX12_adds_26 : decode cX12_adds 26 = .ok (.iconst 1, 1) := by decide +kernel
theorem dX12_adds_27 : decode cX12_adds 27 = .ok (.invokestatic 53, 3) := by decide +kernel
theorem dX12_adds_30 : decode cX12_adds 30 = .ok (.iload_n 2, 1) := by decide +kernel
theorem dX12_adds_31 : decode cX12_adds 31 = .ok (.iastore, 1) := by decide +kernel
theorem dX12_adds_32 : decode cX12_adds 32 = .ok (.aload_n 0, 1) := by decide +kernel
theorem dX12_adds_33 : decode cX12_adds 33 = .ok (.getfield 9, 3) := by decide +kernel
theorem dX12_adds_36 : decode cX12_adds 36 = .ok (.iload 4, 2) := by decide +kernel
theorem dX12_adds_38 : decode cX12_adds 38 = .ok (.iconst 2, 1) := by decide +kernel
theorem dX12_adds_39 : decode cX12_adds 39 = .ok (.invokestatic 53, 3) := by decide +kernel
theorem dX12_adds_42 : decode cX12_adds 42 = .ok (.iload_n 3, 1) := by decide +kernel
theorem dX12_adds_43 : decode cX12_adds 43 = .ok (.iastore, 1) := by decide +kernel
theorem dX12_adds_44 : decode cX12_adds 44 = .ok (.aload_n 0, 1) := by decide +kernel
theorem dX12_adds_45 : decode cX12_adds 45 = .ok (.getfield 9, 3) := by decide +kernel
theorem dX12_adds_48 : decode cX12_adds 48 = .ok (.iload 4, 2) := by decide +kernel
theorem dX12_adds_50 : decode cX12_adds 50 = .ok (.iconst 3, 1) := by decide +kernel
theorem dX12_adds_51 : decode cX12_adds 51 = .ok (.invokestatic 53, 3) := by decide +kernel
theorem dX12_adds_54 : decode cX12_adds 54 = .ok (.iload_n 3, 1) := by decide +kernel
theorem dX12_adds_55 : decode cX12_adds 55 = .ok (.iload_n 1, 1) := by decide +kernel
theorem dX12_adds_56 : decode cX12_adds 56 = .ok (.iload_n 2, 1) := by decide +kernel
theorem dX12_adds_57 : decode cX12_adds 57 = .ok (.invokestatic 106, 3) := by decide +kernel
theorem dX12_adds_60 : decode cX12_adds 60 = .ok (.iadd, 1) := by decide +kernel
theorem dX12_adds_61 : decode cX12_adds 61 = .ok (.iastore, 1) := by decide +kernel
theorem dX12_adds_62 : decode cX12_adds 62 = .ok (.aload_n 0, 1) := by decide +kernel
theorem dX12_adds_63 : decode cX12_adds 63 = .ok (.getfield 9, 3) := by decide +kernel
theorem dX12_adds_66 : decode cX12_adds 66 = .ok (.iload 4, 2) := by decide +kernel
theorem dX12_adds_68 : decode cX12_adds 68 = .ok (.iconst 4, 1) := by decide +kernel
theorem dX12_adds_69 : decode cX12_adds 69 = .ok (.invokestatic 53, 3) := by decide +kernel
theorem dX12_adds_72 : decode cX12_adds 72 = .ok (.iconst 3, 1) := by decide +kernel
theorem dX12_adds_73 : decode cX12_adds 73 = .ok (.iastore, 1) := by decide +kernel
theorem dX12_adds_74 : decode cX12_adds 74 = .ok (.aload_n 0, 1) := by decide +kernel
theorem dX12_adds_75 : decode cX12_adds 75 = .ok (.getfield 9, 3) := by decide +kernel
theorem dX12_adds_78 : decode cX12_adds 78 = .ok (.iload 4, 2) := by decide +kernel
theorem dX12_adds_80 : decode cX12_adds 80 = .ok (.iconst 5, 1) := by decide +kernel
theorem dX12_adds_81 : decode cX12_adds 81 = .ok (.invokestatic 53, 3) := by decide +kernel
theorem dX12_adds_84 : decode cX12_adds 84 = .ok (.aload_n 0, 1) := by decide +kernel
theorem dX12_adds_85 : decode cX12_adds 85 = .ok (.getfield 9, 3) := by decide +kernel
theorem dX12_adds_88 : decode cX12_adds 88 = .ok (.iconst 1, 1) := by decide +kernel
theorem dX12_adds_89 : decode cX12_adds 89 = .ok (.iaload, 1) := by decide +kernel
theorem dX12_adds_90 : decode cX12_adds 90 = .ok (.iastore, 1) := by decide +kernel
theorem dX12_adds_91 : decode cX12_adds 91 = .ok (.aload_n 0, 1) := by decide +kernel
theorem dX12_adds_92 : decode cX12_adds 92 = .ok (.getfield 9, 3) := by decide +kernel
theorem dX12_adds_95 : decode cX12_adds 95 = .ok (.iload 4, 2) := by decide +kernel
theorem dX12_adds_97 : decode cX12_adds 97 = .ok (.bipush 6, 2) := by decide +kernel
theorem dX12_adds_99 : decode cX12_adds 99 = .ok (.invokestatic 53, 3) := by decide +kernel
theorem dX12_adds_102 : decode cX12_adds 102 = .ok (.iconst 1, 1) := by decide +kernel
theorem dX12_adds_103 : decode cX12_adds 103 = .ok (.iastore, 1) := by decide +kernel
theorem dX12_adds_104 : decode cX12_adds 104 = .ok (.aload_n 0, 1) := by decide +kernel
theorem dX12_adds_105 : decode cX12_adds 105 = .ok (.getfield 9, 3) := by decide +kernel
theorem dX12_adds_108 : decode cX12_adds 108 = .ok (.iconst 0, 1) := by decide +kernel
theorem dX12_adds_109 : decode cX12_adds 109 = .ok (.dup2, 1) := by decide +kernel
theorem dX12_adds_110 : decode cX12_adds 110 = .ok (.iaload, 1) := by decide +kernel
theorem dX12_adds_111 : decode cX12_adds 111 = .ok (.iconst 1, 1) := by decide +kernel
theorem dX12_adds_112 : decode cX12_adds 112 = .ok (.iadd, 1) := by decide +kernel
theorem dX12_adds_113 : decode cX12_adds 113 = .ok (.iastore, 1) := by decide +kernel
theorem dX12_adds_114 : decode cX12_adds 114 = .ok (.return_, 1) := by decide +kernel
theorem dX12_isDone_0 : decode cX12_isDone 0 = .ok (.aload_n 0, 1) := by decide +kernel
theorem dX12_isDone_1 : decode cX12_isDone 1 = .ok (.getfield 22, 3) := by decide +kernel
theorem dX12_isDone_4 : decode cX12_isDone 4 = .ok (.iconst 0, 1) := by decide +kernel
theorem dX12_isDone_5 : decode cX12_isDone 5 = .ok (.iaload, 1) := by decide +kernel
theorem dX12_isDone_6 : decode cX12_isDone 6 = .ok (.istore_n 2, 1) := by decide +kernel
theorem dX12_isDone_7 : decode cX12_isDone 7 = .ok (.aload_n 0, 1) := by decide +kernel
theorem dX12_isDone_8 : decode cX12_isDone 8 = .ok (.getfield 22, 3) := by decide +kernel
theorem dX12_isDone_11 : decode cX12_isDone 11 = .ok (.iconst 1, 1) := by decide +kernel
theorem dX12_isDone_12 : decode cX12_isDone 12 = .ok (.iaload, 1) := by decide +kernel
theorem dX12_isDone_13 : decode cX12_isDone 13 = .ok (.istore_n 3, 1) := by decide +kernel
theorem dX12_isDone_14 : decode cX12_isDone 14 = .ok (.aload_n 0, 1) := by decide +kernel
theorem dX12_isDone_15 : decode cX12_isDone 15 = .ok (.getfield 22, 3) := by decide +kernel
theorem dX12_isDone_18 : decode cX12_isDone 18 = .ok (.iconst 2, 1) := by decide +kernel
theorem dX12_isDone_19 : decode cX12_isDone 19 = .ok (.iaload, 1) := by decide +kernel
theorem dX12_isDone_20 : decode cX12_isDone 20 = .ok (.istore 4, 2) := by decide +kernel
theorem dX12_isDone_22 : decode cX12_isDone 22 = .ok (.iload_n 1, 1) := by decide +kernel
theorem dX12_isDone_23 : decode cX12_isDone 23 = .ok (.lookupswitch 209 #[(98, 78), (103, 49), (108, 125), (115, 186), (116, 94)], 49) := by decide +kernel
theorem dX12_isDone_72 : decode cX12_isDone 72 = .ok (.iload_n 2, 1) := by decide +kernel
theorem dX12_isDone_73 : decode cX12_isDone 73 = .ok (.bipush 8, 2) := by decide +kernel
theorem dX12_isDone_75 : decode cX12_isDone 75 = .ok (.if_icmp .ge 14, 3) := by decide +kernel
theorem dX12_isDone_78 : decode cX12_isDone 78 = .ok (.aload_n 0, 1) := by decide +kernel
theorem dX12_isDone_79 : decode cX12_isDone 79 = .ok (.getfield 9, 3) := by decide +kernel
theorem dX12_isDone_82 : decode cX12_isDone 82 = .ok (.iconst 0, 1) := by decide +kernel
theorem dX12_isDone_83 : decode cX12_isDone 83 = .ok (.iaload, 1) := by decide +kernel
theorem dX12_isDone_84 : decode cX12_isDone 84 = .ok (.bipush 7, 2) := by decide +kernel
theorem dX12_isDone_86 : decode cX12_isDone 86 = .ok (.if_icmp .ne 5, 3) := by decide +kernel
theorem dX12_isDone_89 : decode cX12_isDone 89 = .ok (.iconst 0, 1) := by decide +kernel
theorem dX12_isDone_90 : decode cX12_isDone 90 = .ok (.ireturn, 1) := by decide +kernel
theorem dX12_isDone_91 : decode cX12_isDone 91 = .ok (.aload_n 0, 1) := by decide +kernel
theorem dX12_isDone_92 : decode cX12_isDone 92 = .ok (.iload_n 2, 1) := by decide +kernel
theorem dX12_isDone_93 : decode cX12_isDone 93 = .ok (.iload_n 3, 1) := by decide +kernel
theorem dX12_isDone_94 : decode cX12_isDone 94 = .ok (.iload 4, 2) := by decide +kernel
theorem dX12_isDone_96 : decode cX12_isDone 96 = .ok (.invokevirtual 109, 3) := by decide +kernel
theorem dX12_isDone_99 : decode cX12_isDone 99 = .ok (.iconst 1, 1) := by decide +kernel
theorem dX12_isDone_100 : decode cX12_isDone 100 = .ok (.ireturn, 1) := by decide +kernel
theorem dX12_isDone_101 : decode cX12_isDone 101 = .ok (.aload_n 0, 1) := by decide +kernel
theorem dX12_isDone_102 : decode cX12_isDone 102 = .ok (.getfield 9, 3) := by decide +kernel
theorem dX12_isDone_105 : decode cX12_isDone 105 = .ok (.iconst 3, 1) := by decide +kernel
theorem dX12_isDone_106 : decode cX12_isDone 106 = .ok (.iload_n 2, 1) := by decide +kernel
theorem dX12_isDone_107 : decode cX12_isDone 107 = .ok (.iastore, 1) := by decide +kernel
theorem dX12_isDone_108 : decode cX12_isDone 108 = .ok (.aload_n 0, 1) := by decide +kernel
theorem dX12_isDone_109 : decode cX12_isDone 109 = .ok (.getfield 9, 3) := by decide +kernel
theorem dX12_isDone_112 : decode cX12_isDone 112 = .ok (.iconst 4, 1) := by decide +kernel
theorem dX12_isDone_113 : decode cX12_isDone 113 = .ok (.iload_n 3, 1) := by decide +kernel
theorem dX12_isDone_114 : decode cX12_isDone 114 = .ok (.iastore, 1) := by decide +kernel
theorem dX12_isDone_115 : decode cX12_isDone 115 = .ok (.iconst 1, 1) := by decide +kernel
theorem dX12_isDone_116 : decode cX12_isDone 116 = .ok (.ireturn, 1) := by decide +kernel
theorem dX12_isDone_117 : decode cX12_isDone 117 = .ok (.aload_n 0, 1) := by decide +kernel
theorem dX12_isDone_118 : decode cX12_isDone 118 = .ok (.iload_n 2, 1) := by decide +kernel
theorem dX12_isDone_119 : decode cX12_isDone 119 = .ok (.invokevirtual 113, 3) := by decide +kernel
theorem dX12_isDone_122 : decode cX12_isDone 122 = .ok (.ifCond .eq 14, 3) := by decide +kernel
theorem dX12_isDone_125 : decode cX12_isDone 125 = .ok (.aload_n 0, 1) := by decide +kernel
theorem dX12_isDone_126 : decode cX12_isDone 126 = .ok (.getfield 9, 3) := by decide +kernel
theorem dX12_isDone_129 : decode cX12_isDone 129 = .ok (.iload_n 2, 1) := by decide +kernel
theorem dX12_isDone_130 : decode cX12_isDone 130 = .ok (.invokestatic 117, 3) := by decide +kernel
theorem dX12_isDone_133 : decode cX12_isDone 133 = .ok (.ifCond .ne 5, 3) := by decide +kernel
theorem dX12_isDone_136 : decode cX12_isDone 136 = .ok (.iconst 0, 1) := by decide +kernel
theorem dX12_isDone_137 : decode cX12_isDone 137 = .ok (.ireturn, 1) := by decide +kernel
theorem dX12_isDone_138 : decode cX12_isDone 138 = .ok (.aload_n 0, 1) := by decide +kernel
theorem dX12_isDone_139 : decode cX12_isDone 139 = .ok (.getfield 9, 3) := by decide +kernel
theorem dX12_isDone_142 : decode cX12_isDone 142 = .ok (.iload_n 2, 1) := by decide +kernel
theorem dX12_isDone_143 : decode cX12_isDone 143 = .ok (.invokestatic 120, 3) := by decide +kernel
theorem dX12_isDone_146 : decode cX12_isDone 146 = .ok (.iconst 1, 1) := by decide +kernel
theorem dX12_isDone_147 : decode cX12_isDone 147 = .ok (.ireturn, 1) := by decide +kernel
theorem dX12_isDone_148 : decode cX12_isDone 148 = .ok (.aload_n 0, 1) := by decide +kernel
theorem dX12_isDone_149 : decode cX12_isDone 149 = .ok (.iload_n 2, 1) := by decide +kernel
theorem dX12_isDone_150 : decode cX12_isDone 150 = .ok (.invokevirtual 113, 3) := by decide +kernel
theorem dX12_isDone_153 : decode cX12_isDone 153 = .ok (.ifCond .eq 41, 3) := by decide +kernel
theorem dX12_isDone_156 : decode cX12_isDone 156 = .ok (.aload_n 0, 1) := by decide +kernel
theorem dX12_isDone_157 : decode cX12_isDone 157 = .ok (.iload_n 3, 1) := by decide +kernel
theorem dX12_isDone_158 : decode cX12_isDone 158 = .ok (.invokevirtual 113, 3) := by decide +kernel
theorem dX12_isDone_161 : decode cX12_isDone 161 = .ok (.ifCond .eq 33, 3) := by decide +kernel
theorem dX12_isDone_164 : decode cX12_isDone 164 = .ok (.iload_n 2, 1) := by decide +kernel
theorem dX12_isDone_165 : decode cX12_isDone 165 = .ok (.iload_n 3, 1) := by decide +kernel
theorem dX12_isDone_166 : decode cX12_isDone 166 = .ok (.if_icmp .eq 28, 3) := by decide +kernel
theorem dX12_isDone_169 : decode cX12_isDone 169 = .ok (.iload 4, 2) := by decide +kernel
theorem dX12_isDone_171 : decode cX12_isDone 171 = .ok (.iconst 1, 1) := by decide +kernel
theorem dX12_isDone_172 : decode cX12_isDone 172 = .ok (.bipush 20, 2) := by decide +kernel
theorem dX12_isDone_174 : decode cX12_isDone 174 = .ok (.invokestatic 49, 3) := by decide +kernel
theorem dX12_isDone_177 : decode cX12_isDone 177 = .ok (.ifCond .eq 17, 3) := by decide +kernel
theorem dX12_isDone_180 : decode cX12_isDone 180 = .ok (.aload_n 0, 1) := by decide +kernel
theorem dX12_isDone_181 : decode cX12_isDone 181 = .ok (.getfield 9, 3) := by decide +kernel
theorem dX12_isDone_184 : decode cX12_isDone 184 = .ok (.iload_n 2, 1) := by decide +kernel
theorem dX12_isDone_185 : decode cX12_isDone 185 = .ok (.iload_n 3, 1) := by decide +kernel
theorem dX12_isDone_186 : decode cX12_isDone 186 = .ok (.iload 4, 2) := by decide +kernel
theorem dX12_isDone_188 : decode cX12_isDone 188 = .ok (.invokestatic 123, 3) := by decide +kernel
theorem dX12_isDone_191 : decode cX12_isDone 191 = .ok (.ifCond .ne 5, 3) := by decide +kernel
theorem dX12_isDone_194 : decode cX12_isDone 194 = .ok (.iconst 0, 1) := by decide +kernel
theorem dX12_isDone_195 : decode cX12_isDone 195 = .ok (.ireturn, 1) := by decide +kernel
theorem dX12_isDone_196 : decode cX12_isDone 196 = .ok (.aload_n 0, 1) := by decide +kernel
theorem dX12_isDone_197 : decode cX12_isDone 197 = .ok (.getfield 9, 3) := by decide +kernel
theorem dX12_isDone_200 : decode cX12_isDone 200 = .ok (.iload_n 2, 1) := by decide +kernel
theorem dX12_isDone_201 : decode cX12_isDone 201 = .ok (.iload_n 3, 1) := by decide +kernel
theorem dX12_isDone_202 : decode cX12_isDone 202 = .ok (.iload 4, 2) := by decide +kernel
theorem dX12_isDone_204 : decode cX12_isDone 204 = .ok (.invokestatic 127, 3) := by decide +kernel
theorem dX12_isDone_207 : decode cX12_isDone 207 = .ok (.iconst 1, 1) := by decide +kernel
theorem dX12_isDone_208 : decode cX12_isDone 208 = .ok (.ireturn, 1) := by decide +kernel
theorem dX12_isDone_209 : decode cX12_isDone 209 = .ok (.aload_n 0, 1) := by decide +kernel
theorem dX12_isDone_210 : decode cX12_isDone 210 = .ok (.iload_n 2, 1) := by decide +kernel
theorem dX12_isDone_211 : decode cX12_isDone 211 = .ok (.invokevirtual 113, 3) := by decide +kernel
theorem dX12_isDone_214 : decode cX12_isDone 214 = .ok (.ifCond .ne 5, 3) := by decide +kernel
theorem dX12_isDone_217 : decode cX12_isDone 217 = .ok (.iconst 0, 1) := by decide +kernel
theorem dX12_isDone_218 : decode cX12_isDone 218 = .ok (.ireturn, 1) := by decide +kernel
theorem dX12_isDone_219 : decode cX12_isDone 219 = .ok (.aload_n 0, 1) := by decide +kernel
theorem dX12_isDone_220 : decode cX12_isDone 220 = .ok (.getfield 9, 3) := by decide +kernel
theorem dX12_isDone_223 : decode cX12_isDone 223 = .ok (.iload_n 2, 1) := by decide +kernel
theorem dX12_isDone_224 : decode cX12_isDone 224 = .ok (.iconst 4, 1) := by decide +kernel
theorem dX12_isDone_225 : decode cX12_isDone 225 = .ok (.invokestatic 53, 3) := by decide +kernel
theorem dX12_isDone_228 : decode cX12_isDone 228 = .ok (.iload_n 3, 1) := by decide +kernel
theorem dX12_isDone_229 : decode cX12_isDone 229 = .ok (.iastore, 1) := by decide +kernel
theorem dX12_isDone_230 : decode cX12_isDone 230 = .ok (.iconst 1, 1) := by decide +kernel
theorem dX12_isDone_231 : decode cX12_isDone 231 = .ok (.ireturn, 1) := by decide +kernel
theorem dX12_isDone_232 : decode cX12_isDone 232 = .ok (.iload_n 2, 1) := by decide +kernel
theorem dX12_isDone_233 : decode cX12_isDone 233 = .ok (.iconst 1, 1) := by decide +kernel
theorem dX12_isDone_234 : decode cX12_isDone 234 = .ok (.bipush 60, 2) := by decide +kernel
theorem dX12_isDone_236 : decode cX12_isDone 236 = .ok (.invokestatic 49, 3) := by decide +kernel
theorem dX12_isDone_239 : decode cX12_isDone 239 = .ok (.ifCond .eq 17, 3) := by decide +kernel
theorem dX12_isDone_242 : decode cX12_isDone 242 = .ok (.aload_n 0, 1) := by decide +kernel
theorem dX12_isDone_243 : decode cX12_isDone 243 = .ok (.getfield 9, 3) := by decide +kernel
theorem dX12_isDone_246 : decode cX12_isDone 246 = .ok (.iconst 1, 1) := by decide +kernel
theorem dX12_isDone_247 : decode cX12_isDone 247 = .ok (.iaload, 1) := by decide +kernel
theorem dX12_isDone_248 : decode cX12_isDone 248 = .ok (.iload_n 2, 1) := by decide +kernel
theorem dX12_isDone_249 : decode cX12_isDone 249 = .ok (.iadd, 1) := by decide +kernel
theorem dX12_isDone_250 : decode cX12_isDone 250 = .ok (.sipush 999, 3) := by decide +kernel
theorem dX12_isDone_253 : decode cX12_isDone 253 = .ok (.if_icmp .le 5, 3) := by decide +kernel
theorem dX12_isDone_256 : decode cX12_isDone 256 = .ok (.iconst 0, 1) := by decide +kernel
theorem dX12_isDone_257 : decode cX12_isDone 257 = .ok (.ireturn, 1) := by decide +kernel
theorem dX12_isDone_258 : decode cX12_isDone 258 = .ok (.aload_n 0, 1) := by decide +kernel
theorem dX12_isDone_259 : decode cX12_isDone 259 = .ok (.getfield 9, 3) := by decide +kernel
theorem dX12_isDone_262 : decode cX12_isDone 262 = .ok (.iload_n 2, 1) := by decide +kernel
theorem dX12_isDone_263 : decode cX12_isDone 263 = .ok (.invokestatic 131, 3) := by decide +kernel
theorem dX12_isDone_266 : decode cX12_isDone 266 = .ok (.iconst 1, 1) := by decide +kernel
theorem dX12_isDone_267 : decode cX12_isDone 267 = .ok (.ireturn, 1) := by decide +kernel
theorem dX12_house_0 : decode cX12_house 0 = .ok (.aload_n 0, 1) := by decide +kernel
theorem dX12_house_1 : decode cX12_house 1 = .ok (.iload_n 1, 1) := by decide +kernel
theorem dX12_house_2 : decode cX12_house 2 = .ok (.iconst 0, 1) := by decide +kernel
theorem dX12_house_3 : decode cX12_house 3 = .ok (.invokevirtual 134, 3) := by decide +kernel
theorem dX12_house_6 : decode cX12_house 6 = .ok (.istore_n 2, 1) := by decide +kernel
theorem dX12_house_7 : decode cX12_house 7 = .ok (.iload_n 2, 1) := by decide +kernel
theorem dX12_house_8 : decode cX12_house 8 = .ok (.ifCond .eq 5, 3) := by decide +kernel
theorem dX12_house_11 : decode cX12_house 11 = .ok (.iload_n 2, 1) := by decide +kernel
theorem dX12_house_12 : decode cX12_house 12 = .ok (.ireturn, 1) := by decide +kernel
theorem dX12_house_13 : decode cX12_house 13 = .ok (.aload_n 0, 1) := by decide +kernel
theorem dX12_house_14 : decode cX12_house 14 = .ok (.bipush 100, 2) := by decide +kernel
theorem dX12_house_16 : decode cX12_house 16 = .ok (.iload_n 1, 1) := by decide +kernel
theorem dX12_house_17 : decode cX12_house 17 = .ok (.imul, 1) := by decide +kernel
theorem dX12_house_18 : decode cX12_house 18 = .ok (.putfield 96, 3) := by decide +kernel
theorem dX12_house_21 : decode cX12_house 21 = .ok (.aload_n 0, 1) := by decide +kernel
theorem dX12_house_22 : decode cX12_house 22 = .ok (.aload_n 0, 1) := by decide +kernel
theorem dX12_house_23 : decode cX12_house 23 = .ok (.getfield 43, 3) := by decide +kernel
theorem dX12_house_26 : decode cX12_house 26 = .ok (.iload_n 1, 1) := by decide +kernel
theorem dX12_house_27 : decode cX12_house 27 = .ok (.iaload, 1) := by decide +kernel
theorem dX12_house_28 : decode cX12_house 28 = .ok (.putfield 93, 3) := by decide +kernel
theorem dX12_house_31 : decode cX12_house 31 = .ok (.aload_n 0, 1) := by decide +kernel
theorem dX12_house_32 : decode cX12_house 32 = .ok (.iconst 0, 1) := by decide +kernel
theorem dX12_house_33 : decode cX12_house 33 = .ok (.putfield 89, 3) := by decide +kernel
theorem dX12_house_36 : decode cX12_house 36 = .ok (.iconst 0, 1) := by decide +kernel
theorem dX12_house_37 : decode cX12_house 37 = .ok (.istore_n 3, 1) := by decide +kernel
theorem dX12_house_38 : decode cX12_house 38 = .ok (.iconst 0, 1) := by decide +kernel
theorem dX12_house_39 : decode cX12_house 39 = .ok (.istore 4, 2) := by decide +kernel
theorem dX12_house_41 : decode cX12_house 41 = .ok (.aload_n 0, 1) := by decide +kernel
theorem dX12_house_42 : decode cX12_house 42 = .ok (.invokevirtual 137, 3) := by decide +kernel
theorem dX12_house_45 : decode cX12_house 45 = .ok (.ifCond .ne 13, 3) := by decide +kernel
theorem dX12_house_48 : decode cX12_house 48 = .ok (.sipush (-1000), 3) := by decide +kernel
theorem dX12_house_51 : decode cX12_house 51 = .ok (.aload_n 0, 1) := by decide +kernel
theorem dX12_house_52 : decode cX12_house 52 = .ok (.getfield 89, 3) := by decide +kernel
theorem dX12_house_55 : decode cX12_house 55 = .ok (.isub, 1) := by decide +kernel
theorem dX12_house_56 : decode cX12_house 56 = .ok (.istore 4, 2) := by decide +kernel
theorem dX12_house_58 : decode cX12_house 58 = .ok (.iinc 3 1, 3) := by decide +kernel
theorem dX12_house_61 : decode cX12_house 61 = .ok (.iload 4, 2) := by decide +kernel
theorem dX12_house_63 : decode cX12_house 63 = .ok (.ifCond .ne 14, 3) := by decide +kernel
theorem dX12_house_66 : decode cX12_house 66 = .ok (.aload_n 0, 1) := by decide +kernel
theorem dX12_house_67 : decode cX12_house 67 = .ok (.getfield 89, 3) := by decide +kernel
theorem dX12_house_70 : decode cX12_house 70 = .ok (.aload_n 0, 1) := by decide +kernel
theorem dX12_house_71 : decode cX12_house 71 = .ok (.getfield 93, 3) := by decide +kernel
theorem dX12_house_74 : decode cX12_house 74 = .ok (.if_icmp .lt (-33), 3) := by decide +kernel
theorem dX12_house_77 : decode cX12_house 77 = .ok (.aload_n 0, 1) := by decide +kernel
theorem dX12_house_78 : decode cX12_house 78 = .ok (.getfield 9, 3) := by decide +kernel
theorem dX12_house_81 : decode cX12_house 81 = .ok (.aload_n 0, 1) := by decide +kernel
theorem dX12_house_82 : decode cX12_house 82 = .ok (.getfield 19, 3) := by decide +kernel
theorem dX12_house_85 : decode cX12_house 85 = .ok (.invokestatic 141, 3) := by decide +kernel
theorem dX12_house_88 : decode cX12_house 88 = .ok (.aload_n 0, 1) := by decide +kernel
theorem dX12_house_89 : decode cX12_house 89 = .ok (.iconst 0, 1) := by decide +kernel
theorem dX12_house_90 : decode cX12_house 90 = .ok (.putfield 89, 3) := by decide +kernel
theorem dX12_house_93 : decode cX12_house 93 = .ok (.iload 4, 2) := by decide +kernel
theorem dX12_house_95 : decode cX12_house 95 = .ok (.ifCond .ne 66, 3) := by decide +kernel
theorem dX12_house_98 : decode cX12_house 98 = .ok (.aload_n 0, 1) := by decide +kernel
theorem dX12_house_99 : decode cX12_house 99 = .ok (.getfield 89, 3) := by decide +kernel
theorem dX12_house_102 : decode cX12_house 102 = .ok (.aload_n 0, 1) := by decide +kernel
theorem dX12_house_103 : decode cX12_house 103 = .ok (.getfield 93, 3) := by decide +kernel
theorem dX12_house_106 : decode cX12_house 106 = .ok (.if_icmp .ge 55, 3) := by decide +kernel
theorem dX12_house_109 : decode cX12_house 109 = .ok (.aload_n 0, 1) := by decide +kernel
theorem dX12_house_110 : decode cX12_house 110 = .ok (.getfield 89, 3) := by decide +kernel
theorem dX12_house_113 : decode cX12_house 113 = .ok (.istore 5, 2) := by decide +kernel
theorem dX12_house_115 : decode cX12_house 115 = .ok (.aload_n 0, 1) := by decide +kernel
theorem dX12_house_116 : decode cX12_house 116 = .ok (.invokevirtual 99, 3) := by decide +kernel
theorem dX12_house_119 : decode cX12_house 119 = .ok (.istore 6, 2) := by decide +kernel
theorem dX12_house_121 : decode cX12_house 121 = .ok (.aload_n 0, 1) := by decide +kernel
theorem dX12_house_122 : decode cX12_house 122 = .ok (.invokevirtual 137, 3) := by decide +kernel
theorem dX12_house_125 : decode cX12_house 125 = .ok (.istore 7, 2) := by decide +kernel
theorem dX12_house_127 : decode cX12_house 127 = .ok (.aload_n 0, 1) := by decide +kernel
theorem dX12_house_128 : decode cX12_house 128 = .ok (.iload 6, 2) := by decide +kernel
theorem dX12_house_130 : decode cX12_house 130 = .ok (.invokevirtual 145, 3) := by decide +kernel
theorem dX12_house_133 : decode cX12_house 133 = .ok (.ifCond .eq 6, 3) := by decide +kernel
theorem dX12_house_136 : decode cX12_house 136 = .ok (.goto (-43), 3) := by decide +kernel
theorem dX12_house_139 : decode cX12_house 139 = .ok (.sipush (-2000), 3) := by decide +kernel
theorem dX12_house_142 : decode cX12_house 142 = .ok (.iload 5, 2) := by decide +kernel
theorem dX12_house_144 : decode cX12_house 144 = .ok (.isub, 1) := by decide +kernel
theorem dX12_house_145 : decode cX12_house 145 = .ok (.istore 4, 2) := by decide +kernel
theorem dX12_house_147 : decode cX12_house 147 = .ok (.aload_n 0, 1) := by decide +kernel
theorem dX12_house_148 : decode cX12_house 148 = .ok (.getfield 19, 3) := by decide +kernel
theorem dX12_house_151 : decode cX12_house 151 = .ok (.aload_n 0, 1) := by decide +kernel
theorem dX12_house_152 : decode cX12_house 152 = .ok (.getfield 9, 3) := by decide +kernel
theorem dX12_house_155 : decode cX12_house 155 = .ok (.invokestatic 141, 3) := by decide +kernel
theorem dX12_house_158 : decode cX12_house 158 = .ok (.goto (-65), 3) := by decide +kernel
theorem dX12_house_161 : decode cX12_house 161 = .ok (.iload 4, 2) := by decide +kernel
theorem dX12_house_163 : decode cX12_house 163 = .ok (.ifCond .ne 7, 3) := by decide +kernel
theorem dX12_house_166 : decode cX12_house 166 = .ok (.iload_n 3, 1) := by decide +kernel
theorem dX12_house_167 : decode cX12_house 167 = .ok (.goto 5, 3) := by decide +kernel
theorem dX12_house_170 : decode cX12_house 170 = .ok (.iload 4, 2) := by decide +kernel
theorem dX12_house_172 : decode cX12_house 172 = .ok (.ireturn, 1) := by decide +kernel
theorem dX12_guest_0 : decode cX12_guest 0 = .ok (.aload_n 0, 1) := by decide +kernel
theorem dX12_guest_1 : decode cX12_guest 1 = .ok (.iload_n 1, 1) := by decide +kernel
theorem dX12_guest_2 : decode cX12_guest 2 = .ok (.invokevirtual 113, 3) := by decide +kernel
theorem dX12_guest_5 : decode cX12_guest 5 = .ok (.ifCond .eq 13, 3) := by decide +kernel
theorem dX12_guest_8 : decode cX12_guest 8 = .ok (.iload_n 2, 1) := by decide +kernel
theorem dX12_guest_9 : decode cX12_guest 9 = .ok (.iconst 0, 1) := by decide +kernel
theorem dX12_guest_10 : decode cX12_guest 10 = .ok (.bipush 8, 2) := by decide +kernel
theorem dX12_guest_12 : decode cX12_guest 12 = .ok (.invokestatic 49, 3) := by decide +kernel
theorem dX12_guest_15 : decode cX12_guest 15 = .ok (.ifCond .ne 5, 3) := by decide +kernel
theorem dX12_guest_18 : decode cX12_guest 18 = .ok (.iconst (-1), 1) := by decide +kernel
theorem dX12_guest_19 : decode cX12_guest 19 = .ok (.ireturn, 1) := by decide +kernel
theorem dX12_guest_20 : decode cX12_guest 20 = .ok (.iload_n 2, 1) := by decide +kernel
theorem dX12_guest_21 : decode cX12_guest 21 = .ok (.bipush 7, 2) := by decide +kernel
theorem dX12_guest_23 : decode cX12_guest 23 = .ok (.if_icmp .ne 22, 3) := by decide +kernel
theorem dX12_guest_26 : decode cX12_guest 26 = .ok (.aload_n 0, 1) := by decide +kernel
theorem dX12_guest_27 : decode cX12_guest 27 = .ok (.getfield 9, 3) := by decide +kernel
theorem dX12_guest_30 : decode cX12_guest 30 = .ok (.iload_n 1, 1) := by decide +kernel
theorem dX12_guest_31 : decode cX12_guest 31 = .ok (.invokestatic 79, 3) := by decide +kernel
theorem dX12_guest_34 : decode cX12_guest 34 = .ok (.ifCond .eq 7, 3) := by decide +kernel
theorem dX12_guest_37 : decode cX12_guest 37 = .ok (.iconst 1, 1) := by decide +kernel
theorem dX12_guest_38 : decode cX12_guest 38 = .ok (.goto 34, 3) := by decide +kernel
theorem dX12_guest_41 : decode cX12_guest 41 = .ok (.iconst 0, 1) := by decide +kernel
theorem dX12_guest_42 : decode cX12_guest 42 = .ok (.goto 30, 3) := by decide +kernel
theorem dX12_guest_45 : decode cX12_guest 45 = .ok (.iload_n 2, 1) := by decide +kernel
theorem dX12_guest_46 : decode cX12_guest 46 = .ok (.bipush 8, 2) := by decide +kernel
theorem dX12_guest_48 : decode cX12_guest 48 = .ok (.if_icmp .ne 14, 3) := by decide +kernel
theorem dX12_guest_51 : decode cX12_guest 51 = .ok (.aload_n 0, 1) := by decide +kernel
theorem dX12_guest_52 : decode cX12_guest 52 = .ok (.getfield 9, 3) := by decide +kernel
theorem dX12_guest_55 : decode cX12_guest 55 = .ok (.iload_n 1, 1) := by decide +kernel
theorem dX12_guest_56 : decode cX12_guest 56 = .ok (.invokestatic 148, 3) := by decide +kernel
theorem dX12_guest_59 : decode cX12_guest 59 = .ok (.goto 13, 3) := by decide +kernel
theorem dX12_guest_62 : decode cX12_guest 62 = .ok (.aload_n 0, 1) := by decide +kernel
theorem dX12_guest_63 : decode cX12_guest 63 = .ok (.getfield 9, 3) := by decide +kernel
theorem dX12_guest_66 : decode cX12_guest 66 = .ok (.iload_n 1, 1) := by decide +kernel
theorem dX12_guest_67 : decode cX12_guest 67 = .ok (.iload_n 2, 1) := by decide +kernel
theorem dX12_guest_68 : decode cX12_guest 68 = .ok (.invokestatic 53, 3) := by decide +kernel
theorem dX12_guest_71 : decode cX12_guest 71 = .ok (.iaload, 1) := by decide +kernel
theorem dX12_guest_72 : decode cX12_guest 72 = .ok (.ireturn, 1) := by decide +kernel
theorem dX12_comes_0 : decode cX12_comes 0 = .ok (.iload_n 2, 1) := by decide +kernel
theorem dX12_comes_1 : decode cX12_comes 1 = .ok (.iconst 0, 1) := by decide +kernel
theorem dX12_comes_2 : decode cX12_comes 2 = .ok (.bipush 99, 2) := by decide +kernel
theorem dX12_comes_4 : decode cX12_comes 4 = .ok (.invokestatic 49, 3) := by decide +kernel
theorem dX12_comes_7 : decode cX12_comes 7 = .ok (.ifCond .ne 5, 3) := by decide +kernel
theorem dX12_comes_10 : decode cX12_comes 10 = .ok (.iconst (-1), 1) := by decide +kernel
theorem dX12_comes_11 : decode cX12_comes 11 = .ok (.ireturn, 1) := by decide +kernel
theorem dX12_comes_12 : decode cX12_comes 12 = .ok (.aload_n 0, 1) := by decide +kernel
theorem dX12_comes_13 : decode cX12_comes 13 = .ok (.iload_n 1, 1) := by decide +kernel
theorem dX12_comes_14 : decode cX12_comes 14 = .ok (.invokevirtual 152, 3) := by decide +kernel
theorem dX12_comes_17 : decode cX12_comes 17 = .ok (.istore_n 3, 1) := by decide +kernel
theorem dX12_comes_18 : decode cX12_comes 18 = .ok (.iload_n 3, 1) := by decide +kernel
theorem dX12_comes_19 : decode cX12_comes 19 = .ok (.ifCond .eq 5, 3) := by decide +kernel
theorem dX12_comes_22 : decode cX12_comes 22 = .ok (.iload_n 3, 1) := by decide +kernel
theorem dX12_comes_23 : decode cX12_comes 23 = .ok (.ireturn, 1) := by decide +kernel
theorem dX12_comes_24 : decode cX12_comes 24 = .ok (.aload_n 0, 1) := by decide +kernel
theorem dX12_comes_25 : decode cX12_comes 25 = .ok (.getfield 9, 3) := by decide +kernel
theorem dX12_comes_28 : decode cX12_comes 28 = .ok (.iconst 0, 1) := by decide +kernel
theorem dX12_comes_29 : decode cX12_comes 29 = .ok (.iaload, 1) := by decide +kernel
theorem dX12_comes_30 : decode cX12_comes 30 = .ok (.bipush 7, 2) := by decide +kernel
theorem dX12_comes_32 : decode cX12_comes 32 = .ok (.if_icmp .ne 6, 3) := by decide +kernel
theorem dX12_comes_35 : decode cX12_comes 35 = .ok (.bipush (-2), 2) := by decide +kernel
theorem dX12_comes_37 : decode cX12_comes 37 = .ok (.ireturn, 1) := by decide +kernel
theorem dX12_comes_38 : decode cX12_comes 38 = .ok (.aload_n 0, 1) := by decide +kernel
theorem dX12_comes_39 : decode cX12_comes 39 = .ok (.aload_n 0, 1) := by decide +kernel
theorem dX12_comes_40 : decode cX12_comes 40 = .ok (.getfield 34, 3) := by decide +kernel
theorem dX12_comes_43 : decode cX12_comes 43 = .ok (.iload_n 1, 1) := by decide +kernel
theorem dX12_comes_44 : decode cX12_comes 44 = .ok (.iaload, 1) := by decide +kernel
theorem dX12_comes_45 : decode cX12_comes 45 = .ok (.aload_n 0, 1) := by decide +kernel
theorem dX12_comes_46 : decode cX12_comes 46 = .ok (.getfield 37, 3) := by decide +kernel
theorem dX12_comes_49 : decode cX12_comes 49 = .ok (.iload_n 1, 1) := by decide +kernel
theorem dX12_comes_50 : decode cX12_comes 50 = .ok (.iaload, 1) := by decide +kernel
theorem dX12_comes_51 : decode cX12_comes 51 = .ok (.iload_n 2, 1) := by decide +kernel
theorem dX12_comes_52 : decode cX12_comes 52 = .ok (.invokevirtual 109, 3) := by decide +kernel
theorem dX12_comes_55 : decode cX12_comes 55 = .ok (.aload_n 0, 1) := by decide +kernel
theorem dX12_comes_56 : decode cX12_comes 56 = .ok (.getfield 9, 3) := by decide +kernel
theorem dX12_comes_59 : decode cX12_comes 59 = .ok (.iconst 0, 1) := by decide +kernel
theorem dX12_comes_60 : decode cX12_comes 60 = .ok (.iaload, 1) := by decide +kernel
theorem dX12_comes_61 : decode cX12_comes 61 = .ok (.iconst 1, 1) := by decide +kernel
theorem dX12_comes_62 : decode cX12_comes 62 = .ok (.isub, 1) := by decide +kernel
theorem dX12_comes_63 : decode cX12_comes 63 = .ok (.ireturn, 1) := by decide +kernel
theorem dX12_tells_0 : decode cX12_tells 0 = .ok (.aload_n 0, 1) := by decide +kernel
theorem dX12_tells_1 : decode cX12_tells 1 = .ok (.iload_n 1, 1) := by decide +kernel
theorem dX12_tells_2 : decode cX12_tells 2 = .ok (.invokevirtual 113, 3) := by decide +kernel
theorem dX12_tells_5 : decode cX12_tells 5 = .ok (.ifCond .ne 5, 3) := by decide +kernel
theorem dX12_tells_8 : decode cX12_tells 8 = .ok (.iconst (-1), 1) := by decide +kernel
theorem dX12_tells_9 : decode cX12_tells 9 = .ok (.ireturn, 1) := by decide +kernel
theorem dX12_tells_10 : decode cX12_tells 10 = .ok (.aload_n 0, 1) := by decide +kernel
theorem dX12_tells_11 : decode cX12_tells 11 = .ok (.getfield 9, 3) := by decide +kernel
theorem dX12_tells_14 : decode cX12_tells 14 = .ok (.iload_n 1, 1) := by decide +kernel
theorem dX12_tells_15 : decode cX12_tells 15 = .ok (.invokestatic 117, 3) := by decide +kernel
theorem dX12_tells_18 : decode cX12_tells 18 = .ok (.ifCond .ne 6, 3) := by decide +kernel
theorem dX12_tells_21 : decode cX12_tells 21 = .ok (.bipush (-3), 2) := by decide +kernel
theorem dX12_tells_23 : decode cX12_tells 23 = .ok (.ireturn, 1) := by decide +kernel
theorem dX12_tells_24 : decode cX12_tells 24 = .ok (.aload_n 0, 1) := by decide +kernel
theorem dX12_tells_25 : decode cX12_tells 25 = .ok (.getfield 9, 3) := by decide +kernel
theorem dX12_tells_28 : decode cX12_tells 28 = .ok (.iload_n 1, 1) := by decide +kernel
theorem dX12_tells_29 : decode cX12_tells 29 = .ok (.invokestatic 120, 3) := by decide +kernel
theorem dX12_tells_32 : decode cX12_tells 32 = .ok (.aload_n 0, 1) := by decide +kernel
theorem dX12_tells_33 : decode cX12_tells 33 = .ok (.getfield 9, 3) := by decide +kernel
theorem dX12_tells_36 : decode cX12_tells 36 = .ok (.iload_n 1, 1) := by decide +kernel
theorem dX12_tells_37 : decode cX12_tells 37 = .ok (.iconst 2, 1) := by decide +kernel
theorem dX12_tells_38 : decode cX12_tells 38 = .ok (.invokestatic 53, 3) := by decide +kernel
theorem dX12_tells_41 : decode cX12_tells 41 = .ok (.iaload, 1) := by decide +kernel
theorem dX12_tells_42 : decode cX12_tells 42 = .ok (.ireturn, 1) := by decide +kernel
theorem dX12_lends_0 : decode cX12_lends 0 = .ok (.aload_n 0, 1) := by decide +kernel
theorem dX12_lends_1 : decode cX12_lends 1 = .ok (.iload_n 1, 1) := by decide +kernel
theorem dX12_lends_2 : decode cX12_lends 2 = .ok (.invokevirtual 113, 3) := by decide +kernel
theorem dX12_lends_5 : decode cX12_lends 5 = .ok (.ifCond .eq 26, 3) := by decide +kernel
theorem dX12_lends_8 : decode cX12_lends 8 = .ok (.aload_n 0, 1) := by decide +kernel
theorem dX12_lends_9 : decode cX12_lends 9 = .ok (.iload_n 2, 1) := by decide +kernel
theorem dX12_lends_10 : decode cX12_lends 10 = .ok (.invokevirtual 113, 3) := by decide +kernel
theorem dX12_lends_13 : decode cX12_lends 13 = .ok (.ifCond .eq 18, 3) := by decide +kernel
theorem dX12_lends_16 : decode cX12_lends 16 = .ok (.iload_n 1, 1) := by decide +kernel
theorem dX12_lends_17 : decode cX12_lends 17 = .ok (.iload_n 2, 1) := by decide +kernel
theorem dX12_lends_18 : decode cX12_lends 18 = .ok (.if_icmp .eq 13, 3) := by decide +kernel
theorem dX12_lends_21 : decode cX12_lends 21 = .ok (.iload_n 3, 1) := by decide +kernel
theorem dX12_lends_22 : decode cX12_lends 22 = .ok (.iconst 1, 1) := by decide +kernel
theorem dX12_lends_23 : decode cX12_lends 23 = .ok (.bipush 20, 2) := by decide +kernel
theorem dX12_lends_25 : decode cX12_lends 25 = .ok (.invokestatic 49, 3) := by decide +kernel
theorem dX12_lends_28 : decode cX12_lends 28 = .ok (.ifCond .ne 5, 3) := by decide +kernel
theorem dX12_lends_31 : decode cX12_lends 31 = .ok (.iconst (-1), 1) := by decide +kernel
theorem dX12_lends_32 : decode cX12_lends 32 = .ok (.ireturn, 1) := by decide +kernel
theorem dX12_lends_33 : decode cX12_lends 33 = .ok (.aload_n 0, 1) := by decide +kernel
theorem dX12_lends_34 : decode cX12_lends 34 = .ok (.getfield 9, 3) := by decide +kernel
theorem dX12_lends_37 : decode cX12_lends 37 = .ok (.iload_n 1, 1) := by decide +kernel
theorem dX12_lends_38 : decode cX12_lends 38 = .ok (.iload_n 2, 1) := by decide +kernel
theorem dX12_lends_39 : decode cX12_lends 39 = .ok (.iload_n 3, 1) := by decide +kernel
theorem dX12_lends_40 : decode cX12_lends 40 = .ok (.invokestatic 123, 3) := by decide +kernel
theorem dX12_lends_43 : decode cX12_lends 43 = .ok (.ifCond .ne 6, 3) := by decide +kernel
theorem dX12_lends_46 : decode cX12_lends 46 = .ok (.bipush (-3), 2) := by decide +kernel
theorem dX12_lends_48 : decode cX12_lends 48 = .ok (.ireturn, 1) := by decide +kernel
theorem dX12_lends_49 : decode cX12_lends 49 = .ok (.aload_n 0, 1) := by decide +kernel
theorem dX12_lends_50 : decode cX12_lends 50 = .ok (.getfield 9, 3) := by decide +kernel
theorem dX12_lends_53 : decode cX12_lends 53 = .ok (.iload_n 1, 1) := by decide +kernel
theorem dX12_lends_54 : decode cX12_lends 54 = .ok (.iload_n 2, 1) := by decide +kernel
theorem dX12_lends_55 : decode cX12_lends 55 = .ok (.iload_n 3, 1) := by decide +kernel
theorem dX12_lends_56 : decode cX12_lends 56 = .ok (.invokestatic 127, 3) := by decide +kernel
theorem dX12_lends_59 : decode cX12_lends 59 = .ok (.aload_n 0, 1) := by decide +kernel
theorem dX12_lends_60 : decode cX12_lends 60 = .ok (.getfield 9, 3) := by decide +kernel
theorem dX12_lends_63 : decode cX12_lends 63 = .ok (.iload_n 1, 1) := by decide +kernel
theorem dX12_lends_64 : decode cX12_lends 64 = .ok (.iconst 2, 1) := by decide +kernel
theorem dX12_lends_65 : decode cX12_lends 65 = .ok (.invokestatic 53, 3) := by decide +kernel
theorem dX12_lends_68 : decode cX12_lends 68 = .ok (.iaload, 1) := by decide +kernel
theorem dX12_lends_69 : decode cX12_lends 69 = .ok (.ireturn, 1) := by decide +kernel
theorem dX12_table_0 : decode cX12_table 0 = .ok (.iload_n 1, 1) := by decide +kernel
theorem dX12_table_1 : decode cX12_table 1 = .ok (.iconst 0, 1) := by decide +kernel
theorem dX12_table_2 : decode cX12_table 2 = .ok (.bipush 9, 2) := by decide +kernel
theorem dX12_table_4 : decode cX12_table 4 = .ok (.invokestatic 49, 3) := by decide +kernel
theorem dX12_table_7 : decode cX12_table 7 = .ok (.ifCond .eq 13, 3) := by decide +kernel
theorem dX12_table_10 : decode cX12_table 10 = .ok (.iload_n 2, 1) := by decide +kernel
theorem dX12_table_11 : decode cX12_table 11 = .ok (.iconst 0, 1) := by decide +kernel
theorem dX12_table_12 : decode cX12_table 12 = .ok (.bipush 9, 2) := by decide +kernel
theorem dX12_table_14 : decode cX12_table 14 = .ok (.invokestatic 49, 3) := by decide +kernel
theorem dX12_table_17 : decode cX12_table 17 = .ok (.ifCond .ne 5, 3) := by decide +kernel
theorem dX12_table_20 : decode cX12_table 20 = .ok (.iconst (-1), 1) := by decide +kernel
theorem dX12_table_21 : decode cX12_table 21 = .ok (.ireturn, 1) := by decide +kernel
theorem dX12_table_22 : decode cX12_table 22 = .ok (.bipush 10, 2) := by decide +kernel
theorem dX12_table_24 : decode cX12_table 24 = .ok (.aload_n 0, 1) := by decide +kernel
theorem dX12_table_25 : decode cX12_table 25 = .ok (.getfield 9, 3) := by decide +kernel
theorem dX12_table_28 : decode cX12_table 28 = .ok (.iconst 3, 1) := by decide +kernel
theorem dX12_table_29 : decode cX12_table 29 = .ok (.iaload, 1) := by decide +kernel
theorem dX12_table_30 : decode cX12_table 30 = .ok (.imul, 1) := by decide +kernel
theorem dX12_table_31 : decode cX12_table 31 = .ok (.aload_n 0, 1) := by decide +kernel
theorem dX12_table_32 : decode cX12_table 32 = .ok (.getfield 9, 3) := by decide +kernel
theorem dX12_table_35 : decode cX12_table 35 = .ok (.iconst 4, 1) := by decide +kernel
theorem dX12_table_36 : decode cX12_table 36 = .ok (.iaload, 1) := by decide +kernel
theorem dX12_table_37 : decode cX12_table 37 = .ok (.iadd, 1) := by decide +kernel
theorem dX12_table_38 : decode cX12_table 38 = .ok (.istore_n 3, 1) := by decide +kernel
theorem dX12_table_39 : decode cX12_table 39 = .ok (.aload_n 0, 1) := by decide +kernel
theorem dX12_table_40 : decode cX12_table 40 = .ok (.getfield 9, 3) := by decide +kernel
theorem dX12_table_43 : decode cX12_table 43 = .ok (.iconst 3, 1) := by decide +kernel
theorem dX12_table_44 : decode cX12_table 44 = .ok (.iload_n 1, 1) := by decide +kernel
theorem dX12_table_45 : decode cX12_table 45 = .ok (.iastore, 1) := by decide +kernel
theorem dX12_table_46 : decode cX12_table 46 = .ok (.aload_n 0, 1) := by decide +kernel
theorem dX12_table_47 : decode cX12_table 47 = .ok (.getfield 9, 3) := by decide +kernel
theorem dX12_table_50 : decode cX12_table 50 = .ok (.iconst 4, 1) := by decide +kernel
theorem dX12_table_51 : decode cX12_table 51 = .ok (.iload_n 2, 1) := by decide +kernel
theorem dX12_table_52 : decode cX12_table 52 = .ok (.iastore, 1) := by decide +kernel
theorem dX12_table_53 : decode cX12_table 53 = .ok (.iload_n 3, 1) := by decide +kernel
theorem dX12_table_54 : decode cX12_table 54 = .ok (.ireturn, 1) := by decide +kernel
theorem dX12_weighs_0 : decode cX12_weighs 0 = .ok (.aload_n 0, 1) := by decide +kernel
theorem dX12_weighs_1 : decode cX12_weighs 1 = .ok (.iload_n 1, 1) := by decide +kernel
theorem dX12_weighs_2 : decode cX12_weighs 2 = .ok (.invokevirtual 113, 3) := by decide +kernel
theorem dX12_weighs_5 : decode cX12_weighs 5 = .ok (.ifCond .eq 13, 3) := by decide +kernel
theorem dX12_weighs_8 : decode cX12_weighs 8 = .ok (.iload_n 2, 1) := by decide +kernel
theorem dX12_weighs_9 : decode cX12_weighs 9 = .ok (.iconst 0, 1) := by decide +kernel
theorem dX12_weighs_10 : decode cX12_weighs 10 = .ok (.bipush 99, 2) := by decide +kernel
theorem dX12_weighs_12 : decode cX12_weighs 12 = .ok (.invokestatic 49, 3) := by decide +kernel
theorem dX12_weighs_15 : decode cX12_weighs 15 = .ok (.ifCond .ne 5, 3) := by decide +kernel
theorem dX12_weighs_18 : decode cX12_weighs 18 = .ok (.iconst (-1), 1) := by decide +kernel
theorem dX12_weighs_19 : decode cX12_weighs 19 = .ok (.ireturn, 1) := by decide +kernel
theorem dX12_weighs_20 : decode cX12_weighs 20 = .ok (.aload_n 0, 1) := by decide +kernel
theorem dX12_weighs_21 : decode cX12_weighs 21 = .ok (.getfield 9, 3) := by decide +kernel
theorem dX12_weighs_24 : decode cX12_weighs 24 = .ok (.iload_n 1, 1) := by decide +kernel
theorem dX12_weighs_25 : decode cX12_weighs 25 = .ok (.invokestatic 61, 3) := by decide +kernel
theorem dX12_weighs_28 : decode cX12_weighs 28 = .ok (.ifCond .ne 6, 3) := by decide +kernel
theorem dX12_weighs_31 : decode cX12_weighs 31 = .ok (.bipush (-3), 2) := by decide +kernel
theorem dX12_weighs_33 : decode cX12_weighs 33 = .ok (.ireturn, 1) := by decide +kernel
theorem dX12_weighs_34 : decode cX12_weighs 34 = .ok (.aload_n 0, 1) := by decide +kernel
theorem dX12_weighs_35 : decode cX12_weighs 35 = .ok (.getfield 9, 3) := by decide +kernel
theorem dX12_weighs_38 : decode cX12_weighs 38 = .ok (.iload_n 1, 1) := by decide +kernel
theorem dX12_weighs_39 : decode cX12_weighs 39 = .ok (.iconst 2, 1) := by decide +kernel
theorem dX12_weighs_40 : decode cX12_weighs 40 = .ok (.invokestatic 53, 3) := by decide +kernel
theorem dX12_weighs_43 : decode cX12_weighs 43 = .ok (.iaload, 1) := by decide +kernel
theorem dX12_weighs_44 : decode cX12_weighs 44 = .ok (.istore_n 3, 1) := by decide +kernel
theorem dX12_weighs_45 : decode cX12_weighs 45 = .ok (.aload_n 0, 1) := by decide +kernel
theorem dX12_weighs_46 : decode cX12_weighs 46 = .ok (.getfield 9, 3) := by decide +kernel
theorem dX12_weighs_49 : decode cX12_weighs 49 = .ok (.iload_n 1, 1) := by decide +kernel
theorem dX12_weighs_50 : decode cX12_weighs 50 = .ok (.iconst 2, 1) := by decide +kernel
theorem dX12_weighs_51 : decode cX12_weighs 51 = .ok (.invokestatic 53, 3) := by decide +kernel
theorem dX12_weighs_54 : decode cX12_weighs 54 = .ok (.iload_n 2, 1) := by decide +kernel
theorem dX12_weighs_55 : decode cX12_weighs 55 = .ok (.iastore, 1) := by decide +kernel
theorem dX12_weighs_56 : decode cX12_weighs 56 = .ok (.iload_n 3, 1) := by decide +kernel
theorem dX12_weighs_57 : decode cX12_weighs 57 = .ok (.ireturn, 1) := by decide +kernel
theorem dX12_days_0 : decode cX12_days 0 = .ok (.iload_n 1, 1) := by decide +kernel
theorem dX12_days_1 : decode cX12_days 1 = .ok (.iconst 1, 1) := by decide +kernel
theorem dX12_days_2 : decode cX12_days 2 = .ok (.bipush 60, 2) := by decide +kernel
theorem dX12_days_4 : decode cX12_days 4 = .ok (.invokestatic 49, 3) := by decide +kernel
theorem dX12_days_7 : decode cX12_days 7 = .ok (.ifCond .ne 5, 3) := by decide +kernel
theorem dX12_days_10 : decode cX12_days 10 = .ok (.iconst (-1), 1) := by decide +kernel
theorem dX12_days_11 : decode cX12_days 11 = .ok (.ireturn, 1) := by decide +kernel
theorem dX12_days_12 : decode cX12_days 12 = .ok (.aload_n 0, 1) := by decide +kernel
theorem dX12_days_13 : decode cX12_days 13 = .ok (.getfield 9, 3) := by decide +kernel
theorem dX12_days_16 : decode cX12_days 16 = .ok (.iconst 1, 1) := by decide +kernel
theorem dX12_days_17 : decode cX12_days 17 = .ok (.iaload, 1) := by decide +kernel
theorem dX12_days_18 : decode cX12_days 18 = .ok (.iload_n 1, 1) := by decide +kernel
theorem dX12_days_19 : decode cX12_days 19 = .ok (.iadd, 1) := by decide +kernel
theorem dX12_days_20 : decode cX12_days 20 = .ok (.sipush 999, 3) := by decide +kernel
theorem dX12_days_23 : decode cX12_days 23 = .ok (.if_icmp .le 6, 3) := by decide +kernel
theorem dX12_days_26 : decode cX12_days 26 = .ok (.bipush (-3), 2) := by decide +kernel
theorem dX12_days_28 : decode cX12_days 28 = .ok (.ireturn, 1) := by decide +kernel
theorem dX12_days_29 : decode cX12_days 29 = .ok (.aload_n 0, 1) := by decide +kernel
theorem dX12_days_30 : decode cX12_days 30 = .ok (.getfield 9, 3) := by decide +kernel
theorem dX12_days_33 : decode cX12_days 33 = .ok (.iload_n 1, 1) := by decide +kernel
theorem dX12_days_34 : decode cX12_days 34 = .ok (.invokestatic 131, 3) := by decide +kernel
theorem dX12_days_37 : decode cX12_days 37 = .ok (.aload_n 0, 1) := by decide +kernel
theorem dX12_days_38 : decode cX12_days 38 = .ok (.getfield 9, 3) := by decide +kernel
theorem dX12_days_41 : decode cX12_days 41 = .ok (.iconst 2, 1) := by decide +kernel
theorem dX12_days_42 : decode cX12_days 42 = .ok (.iaload, 1) := by decide +kernel
theorem dX12_days_43 : decode cX12_days 43 = .ok (.ireturn, 1) := by decide +kernel
theorem dX12_isLate_0 : decode cX12_isLate 0 = .ok (.iload_n 0, 1) := by decide +kernel
theorem dX12_isLate_1 : decode cX12_isLate 1 = .ok (.iconst 0, 1) := by decide +kernel
theorem dX12_isLate_2 : decode cX12_isLate 2 = .ok (.bipush 60, 2) := by decide +kernel
theorem dX12_isLate_4 : decode cX12_isLate 4 = .ok (.invokestatic 49, 3) := by decide +kernel
theorem dX12_isLate_7 : decode cX12_isLate 7 = .ok (.ireturn, 1) := by decide +kernel
theorem dX12_takes_0 : decode cX12_takes 0 = .ok (.aload_n 0, 1) := by decide +kernel
theorem dX12_takes_1 : decode cX12_takes 1 = .ok (.getfield 9, 3) := by decide +kernel
theorem dX12_takes_4 : decode cX12_takes 4 = .ok (.aload_n 0, 1) := by decide +kernel
theorem dX12_takes_5 : decode cX12_takes 5 = .ok (.getfield 13, 3) := by decide +kernel
theorem dX12_takes_8 : decode cX12_takes 8 = .ok (.invokestatic 141, 3) := by decide +kernel
theorem dX12_takes_11 : decode cX12_takes 11 = .ok (.aload_n 0, 1) := by decide +kernel
theorem dX12_takes_12 : decode cX12_takes 12 = .ok (.getfield 13, 3) := by decide +kernel
theorem dX12_takes_15 : decode cX12_takes 15 = .ok (.iload_n 1, 1) := by decide +kernel
theorem dX12_takes_16 : decode cX12_takes 16 = .ok (.invokestatic 131, 3) := by decide +kernel
theorem dX12_takes_19 : decode cX12_takes 19 = .ok (.return_, 1) := by decide +kernel
theorem dX12_weightThen_0 : decode cX12_weightThen 0 = .ok (.aload_n 0, 1) := by decide +kernel
theorem dX12_weightThen_1 : decode cX12_weightThen 1 = .ok (.iload_n 1, 1) := by decide +kernel
theorem dX12_weightThen_2 : decode cX12_weightThen 2 = .ok (.invokevirtual 113, 3) := by decide +kernel
theorem dX12_weightThen_5 : decode cX12_weightThen 5 = .ok (.ifCond .eq 10, 3) := by decide +kernel
theorem dX12_weightThen_8 : decode cX12_weightThen 8 = .ok (.iload_n 2, 1) := by decide +kernel
theorem dX12_weightThen_9 : decode cX12_weightThen 9 = .ok (.invokestatic 155, 3) := by decide +kernel
theorem dX12_weightThen_12 : decode cX12_weightThen 12 = .ok (.ifCond .ne 5, 3) := by decide +kernel
theorem dX12_weightThen_15 : decode cX12_weightThen 15 = .ok (.iconst (-1), 1) := by decide +kernel
theorem dX12_weightThen_16 : decode cX12_weightThen 16 = .ok (.ireturn, 1) := by decide +kernel
theorem dX12_weightThen_17 : decode cX12_weightThen 17 = .ok (.aload_n 0, 1) := by decide +kernel
theorem dX12_weightThen_18 : decode cX12_weightThen 18 = .ok (.iload_n 2, 1) := by decide +kernel
theorem dX12_weightThen_19 : decode cX12_weightThen 19 = .ok (.invokevirtual 158, 3) := by decide +kernel
theorem dX12_weightThen_22 : decode cX12_weightThen 22 = .ok (.aload_n 0, 1) := by decide +kernel
theorem dX12_weightThen_23 : decode cX12_weightThen 23 = .ok (.getfield 13, 3) := by decide +kernel
theorem dX12_weightThen_26 : decode cX12_weightThen 26 = .ok (.iload_n 1, 1) := by decide +kernel
theorem dX12_weightThen_27 : decode cX12_weightThen 27 = .ok (.iconst 2, 1) := by decide +kernel
theorem dX12_weightThen_28 : decode cX12_weightThen 28 = .ok (.invokestatic 53, 3) := by decide +kernel
theorem dX12_weightThen_31 : decode cX12_weightThen 31 = .ok (.iaload, 1) := by decide +kernel
theorem dX12_weightThen_32 : decode cX12_weightThen 32 = .ok (.ireturn, 1) := by decide +kernel
theorem dX12_then_0 : decode cX12_then 0 = .ok (.iload_n 1, 1) := by decide +kernel
theorem dX12_then_1 : decode cX12_then 1 = .ok (.invokestatic 155, 3) := by decide +kernel
theorem dX12_then_4 : decode cX12_then 4 = .ok (.ifCond .eq 12, 3) := by decide +kernel
theorem dX12_then_7 : decode cX12_then 7 = .ok (.iload_n 2, 1) := by decide +kernel
theorem dX12_then_8 : decode cX12_then 8 = .ok (.iconst 0, 1) := by decide +kernel
theorem dX12_then_9 : decode cX12_then 9 = .ok (.iconst 2, 1) := by decide +kernel
theorem dX12_then_10 : decode cX12_then 10 = .ok (.invokestatic 49, 3) := by decide +kernel
theorem dX12_then_13 : decode cX12_then 13 = .ok (.ifCond .ne 5, 3) := by decide +kernel
theorem dX12_then_16 : decode cX12_then 16 = .ok (.iconst (-1), 1) := by decide +kernel
theorem dX12_then_17 : decode cX12_then 17 = .ok (.ireturn, 1) := by decide +kernel
theorem dX12_then_18 : decode cX12_then 18 = .ok (.aload_n 0, 1) := by decide +kernel
theorem dX12_then_19 : decode cX12_then 19 = .ok (.iload_n 1, 1) := by decide +kernel
theorem dX12_then_20 : decode cX12_then 20 = .ok (.invokevirtual 158, 3) := by decide +kernel
theorem dX12_then_23 : decode cX12_then 23 = .ok (.iload_n 2, 1) := by decide +kernel
theorem dX12_then_24 : decode cX12_then 24 = .ok (.ifCond .ne 13, 3) := by decide +kernel
theorem dX12_then_27 : decode cX12_then 27 = .ok (.aload_n 0, 1) := by decide +kernel
theorem dX12_then_28 : decode cX12_then 28 = .ok (.getfield 13, 3) := by decide +kernel
theorem dX12_then_31 : decode cX12_then 31 = .ok (.invokestatic 162, 3) := by decide +kernel
theorem dX12_then_34 : decode cX12_then 34 = .ok (.goto 24, 3) := by decide +kernel
theorem dX12_then_37 : decode cX12_then 37 = .ok (.iload_n 2, 1) := by decide +kernel
theorem dX12_then_38 : decode cX12_then 38 = .ok (.iconst 1, 1) := by decide +kernel
theorem dX12_then_39 : decode cX12_then 39 = .ok (.if_icmp .ne 12, 3) := by decide +kernel
theorem dX12_then_42 : decode cX12_then 42 = .ok (.aload_n 0, 1) := by decide +kernel
theorem dX12_then_43 : decode cX12_then 43 = .ok (.getfield 13, 3) := by decide +kernel
theorem dX12_then_46 : decode cX12_then 46 = .ok (.iconst 2, 1) := by decide +kernel
theorem dX12_then_47 : decode cX12_then 47 = .ok (.iaload, 1) := by decide +kernel
theorem dX12_then_48 : decode cX12_then 48 = .ok (.goto 10, 3) := by decide +kernel
theorem dX12_then_51 : decode cX12_then 51 = .ok (.aload_n 0, 1) := by decide +kernel
theorem dX12_then_52 : decode cX12_then 52 = .ok (.getfield 13, 3) := by decide +kernel
theorem dX12_then_55 : decode cX12_then 55 = .ok (.invokestatic 166, 3) := by decide +kernel
theorem dX12_then_58 : decode cX12_then 58 = .ok (.ireturn, 1) := by decide +kernel
theorem dX12_leavesOf_0 : decode cX12_leavesOf 0 = .ok (.aload_n 0, 1) := by decide +kernel
theorem dX12_leavesOf_1 : decode cX12_leavesOf 1 = .ok (.getfield 9, 3) := by decide +kernel
theorem dX12_leavesOf_4 : decode cX12_leavesOf 4 = .ok (.aload_n 0, 1) := by decide +kernel
theorem dX12_leavesOf_5 : decode cX12_leavesOf 5 = .ok (.getfield 13, 3) := by decide +kernel
theorem dX12_leavesOf_8 : decode cX12_leavesOf 8 = .ok (.invokestatic 141, 3) := by decide +kernel
theorem dX12_leavesOf_11 : decode cX12_leavesOf 11 = .ok (.iconst 0, 1) := by decide +kernel
theorem dX12_leavesOf_12 : decode cX12_leavesOf 12 = .ok (.istore_n 2, 1) := by decide +kernel
theorem dX12_leavesOf_13 : decode cX12_leavesOf 13 = .ok (.iload_n 2, 1) := by decide +kernel
theorem dX12_leavesOf_14 : decode cX12_leavesOf 14 = .ok (.bipush 60, 2) := by decide +kernel
theorem dX12_leavesOf_16 : decode cX12_leavesOf 16 = .ok (.if_icmp .gt 30, 3) := by decide +kernel
theorem dX12_leavesOf_19 : decode cX12_leavesOf 19 = .ok (.aload_n 0, 1) := by decide +kernel
theorem dX12_leavesOf_20 : decode cX12_leavesOf 20 = .ok (.getfield 13, 3) := by decide +kernel
theorem dX12_leavesOf_23 : decode cX12_leavesOf 23 = .ok (.iload_n 1, 1) := by decide +kernel
theorem dX12_leavesOf_24 : decode cX12_leavesOf 24 = .ok (.invokestatic 61, 3) := by decide +kernel
theorem dX12_leavesOf_27 : decode cX12_leavesOf 27 = .ok (.ifCond .ne 5, 3) := by decide +kernel
theorem dX12_leavesOf_30 : decode cX12_leavesOf 30 = .ok (.iload_n 2, 1) := by decide +kernel
theorem dX12_leavesOf_31 : decode cX12_leavesOf 31 = .ok (.ireturn, 1) := by decide +kernel
theorem dX12_leavesOf_32 : decode cX12_leavesOf 32 = .ok (.aload_n 0, 1) := by decide +kernel
theorem dX12_leavesOf_33 : decode cX12_leavesOf 33 = .ok (.getfield 13, 3) := by decide +kernel
theorem dX12_leavesOf_36 : decode cX12_leavesOf 36 = .ok (.iconst 0, 1) := by decide +kernel
theorem dX12_leavesOf_37 : decode cX12_leavesOf 37 = .ok (.invokestatic 82, 3) := by decide +kernel
theorem dX12_leavesOf_40 : decode cX12_leavesOf 40 = .ok (.iinc 2 1, 3) := by decide +kernel
theorem dX12_leavesOf_43 : decode cX12_leavesOf 43 = .ok (.goto (-30), 3) := by decide +kernel
theorem dX12_leavesOf_46 : decode cX12_leavesOf 46 = .ok (.bipush (-4), 2) := by decide +kernel
theorem dX12_leavesOf_48 : decode cX12_leavesOf 48 = .ok (.ireturn, 1) := by decide +kernel
theorem dX12_firstLeaves_0 : decode cX12_firstLeaves 0 = .ok (.bipush (-4), 2) := by decide +kernel
theorem dX12_firstLeaves_2 : decode cX12_firstLeaves 2 = .ok (.istore_n 1, 1) := by decide +kernel
theorem dX12_firstLeaves_3 : decode cX12_firstLeaves 3 = .ok (.ldc 169, 2) := by decide +kernel
theorem dX12_firstLeaves_5 : decode cX12_firstLeaves 5 = .ok (.istore_n 2, 1) := by decide +kernel
theorem dX12_firstLeaves_6 : decode cX12_firstLeaves 6 = .ok (.iconst 0, 1) := by decide +kernel
theorem dX12_firstLeaves_7 : decode cX12_firstLeaves 7 = .ok (.istore_n 3, 1) := by decide +kernel
theorem dX12_firstLeaves_8 : decode cX12_firstLeaves 8 = .ok (.iload_n 3, 1) := by decide +kernel
theorem dX12_firstLeaves_9 : decode cX12_firstLeaves 9 = .ok (.aload_n 0, 1) := by decide +kernel
theorem dX12_firstLeaves_10 : decode cX12_firstLeaves 10 = .ok (.getfield 9, 3) := by decide +kernel
theorem dX12_firstLeaves_13 : decode cX12_firstLeaves 13 = .ok (.iconst 0, 1) := by decide +kernel
theorem dX12_firstLeaves_14 : decode cX12_firstLeaves 14 = .ok (.iaload, 1) := by decide +kernel
theorem dX12_firstLeaves_15 : decode cX12_firstLeaves 15 = .ok (.if_icmp .ge 51, 3) := by decide +kernel
theorem dX12_firstLeaves_18 : decode cX12_firstLeaves 18 = .ok (.aload_n 0, 1) := by decide +kernel
theorem dX12_firstLeaves_19 : decode cX12_firstLeaves 19 = .ok (.getfield 9, 3) := by decide +kernel
theorem dX12_firstLeaves_22 : decode cX12_firstLeaves 22 = .ok (.iload_n 3, 1) := by decide +kernel
theorem dX12_firstLeaves_23 : decode cX12_firstLeaves 23 = .ok (.invokestatic 61, 3) := by decide +kernel
theorem dX12_firstLeaves_26 : decode cX12_firstLeaves 26 = .ok (.ifCond .eq 11, 3) := by decide +kernel
theorem dX12_firstLeaves_29 : decode cX12_firstLeaves 29 = .ok (.aload_n 0, 1) := by decide +kernel
theorem dX12_firstLeaves_30 : decode cX12_firstLeaves 30 = .ok (.iload_n 3, 1) := by decide +kernel
theorem dX12_firstLeaves_31 : decode cX12_firstLeaves 31 = .ok (.invokevirtual 170, 3) := by decide +kernel
theorem dX12_firstLeaves_34 : decode cX12_firstLeaves 34 = .ok (.goto 5, 3) := by decide +kernel
theorem dX12_firstLeaves_37 : decode cX12_firstLeaves 37 = .ok (.bipush (-4), 2) := by decide +kernel
theorem dX12_firstLeaves_39 : decode cX12_firstLeaves 39 = .ok (.istore 4, 2) := by decide +kernel
theorem dX12_firstLeaves_41 : decode cX12_firstLeaves 41 = .ok (.iload 4, 2) := by decide +kernel
theorem dX12_firstLeaves_43 : decode cX12_firstLeaves 43 = .ok (.ifCond .lt 17, 3) := by decide +kernel
theorem dX12_firstLeaves_46 : decode cX12_firstLeaves 46 = .ok (.iload 4, 2) := by decide +kernel
theorem dX12_firstLeaves_48 : decode cX12_firstLeaves 48 = .ok (.iload_n 2, 1) := by decide +kernel
theorem dX12_firstLeaves_49 : decode cX12_firstLeaves 49 = .ok (.if_icmp .lt 6, 3) := by decide +kernel
theorem dX12_firstLeaves_52 : decode cX12_firstLeaves 52 = .ok (.goto 8, 3) := by decide +kernel
theorem dX12_firstLeaves_55 : decode cX12_firstLeaves 55 = .ok (.iload_n 3, 1) := by decide +kernel
theorem dX12_firstLeaves_56 : decode cX12_firstLeaves 56 = .ok (.istore_n 1, 1) := by decide +kernel
theorem dX12_firstLeaves_57 : decode cX12_firstLeaves 57 = .ok (.iload 4, 2) := by decide +kernel
theorem dX12_firstLeaves_59 : decode cX12_firstLeaves 59 = .ok (.istore_n 2, 1) := by decide +kernel
theorem dX12_firstLeaves_60 : decode cX12_firstLeaves 60 = .ok (.iinc 3 1, 3) := by decide +kernel
theorem dX12_firstLeaves_63 : decode cX12_firstLeaves 63 = .ok (.goto (-55), 3) := by decide +kernel
theorem dX12_firstLeaves_66 : decode cX12_firstLeaves 66 = .ok (.iload_n 1, 1) := by decide +kernel
theorem dX12_firstLeaves_67 : decode cX12_firstLeaves 67 = .ok (.ireturn, 1) := by decide +kernel
theorem dX12_leaves_0 : decode cX12_leaves 0 = .ok (.iload_n 1, 1) := by decide +kernel
theorem dX12_leaves_1 : decode cX12_leaves 1 = .ok (.iconst (-1), 1) := by decide +kernel
theorem dX12_leaves_2 : decode cX12_leaves 2 = .ok (.if_icmp .ne 10, 3) := by decide +kernel
theorem dX12_leaves_5 : decode cX12_leaves 5 = .ok (.aload_n 0, 1) := by decide +kernel
theorem dX12_leaves_6 : decode cX12_leaves 6 = .ok (.invokevirtual 173, 3) := by decide +kernel
theorem dX12_leaves_9 : decode cX12_leaves 9 = .ok (.goto 20, 3) := by decide +kernel
theorem dX12_leaves_12 : decode cX12_leaves 12 = .ok (.aload_n 0, 1) := by decide +kernel
theorem dX12_leaves_13 : decode cX12_leaves 13 = .ok (.iload_n 1, 1) := by decide +kernel
theorem dX12_leaves_14 : decode cX12_leaves 14 = .ok (.invokevirtual 113, 3) := by decide +kernel
theorem dX12_leaves_17 : decode cX12_leaves 17 = .ok (.ifCond .eq 11, 3) := by decide +kernel
theorem dX12_leaves_20 : decode cX12_leaves 20 = .ok (.aload_n 0, 1) := by decide +kernel
theorem dX12_leaves_21 : decode cX12_leaves 21 = .ok (.iload_n 1, 1) := by decide +kernel
theorem dX12_leaves_22 : decode cX12_leaves 22 = .ok (.invokevirtual 170, 3) := by decide +kernel
theorem dX12_leaves_25 : decode cX12_leaves 25 = .ok (.goto 4, 3) := by decide +kernel
theorem dX12_leaves_28 : decode cX12_leaves 28 = .ok (.iconst (-1), 1) := by decide +kernel
theorem dX12_leaves_29 : decode cX12_leaves 29 = .ok (.ireturn, 1) := by decide +kernel
theorem dX12_lighterThan_0 : decode cX12_lighterThan 0 = .ok (.iconst 0, 1) := by decide +kernel
theorem dX12_lighterThan_1 : decode cX12_lighterThan 1 = .ok (.istore_n 2, 1) := by decide +kernel
theorem dX12_lighterThan_2 : decode cX12_lighterThan 2 = .ok (.aload_n 0, 1) := by decide +kernel
theorem dX12_lighterThan_3 : decode cX12_lighterThan 3 = .ok (.getfield 9, 3) := by decide +kernel
theorem dX12_lighterThan_6 : decode cX12_lighterThan 6 = .ok (.iload_n 1, 1) := by decide +kernel
theorem dX12_lighterThan_7 : decode cX12_lighterThan 7 = .ok (.iconst 2, 1) := by decide +kernel
theorem dX12_lighterThan_8 : decode cX12_lighterThan 8 = .ok (.invokestatic 53, 3) := by decide +kernel
theorem dX12_lighterThan_11 : decode cX12_lighterThan 11 = .ok (.iaload, 1) := by decide +kernel
theorem dX12_lighterThan_12 : decode cX12_lighterThan 12 = .ok (.istore_n 3, 1) := by decide +kernel
theorem dX12_lighterThan_13 : decode cX12_lighterThan 13 = .ok (.iconst 0, 1) := by decide +kernel
theorem dX12_lighterThan_14 : decode cX12_lighterThan 14 = .ok (.istore 4, 2) := by decide +kernel
theorem dX12_lighterThan_16 : decode cX12_lighterThan 16 = .ok (.iload 4, 2) := by decide +kernel
theorem dX12_lighterThan_18 : decode cX12_lighterThan 18 = .ok (.aload_n 0, 1) := by decide +kernel
theorem dX12_lighterThan_19 : decode cX12_lighterThan 19 = .ok (.getfield 9, 3) := by decide +kernel
theorem dX12_lighterThan_22 : decode cX12_lighterThan 22 = .ok (.iconst 0, 1) := by decide +kernel
theorem dX12_lighterThan_23 : decode cX12_lighterThan 23 = .ok (.iaload, 1) := by decide +kernel
theorem dX12_lighterThan_24 : decode cX12_lighterThan 24 = .ok (.if_icmp .ge 65, 3) := by decide +kernel
theorem dX12_lighterThan_27 : decode cX12_lighterThan 27 = .ok (.iload_n 2, 1) := by decide +kernel
theorem dX12_lighterThan_28 : decode cX12_lighterThan 28 = .ok (.aload_n 0, 1) := by decide +kernel
theorem dX12_lighterThan_29 : decode cX12_lighterThan 29 = .ok (.getfield 9, 3) := by decide +kernel
theorem dX12_lighterThan_32 : decode cX12_lighterThan 32 = .ok (.iload 4, 2) := by decide +kernel
theorem dX12_lighterThan_34 : decode cX12_lighterThan 34 = .ok (.invokestatic 61, 3) := by decide +kernel
theorem dX12_lighterThan_37 : decode cX12_lighterThan 37 = .ok (.ifCond .eq 43, 3) := by decide +kernel
theorem dX12_lighterThan_40 : decode cX12_lighterThan 40 = .ok (.aload_n 0, 1) := by decide +kernel
theorem dX12_lighterThan_41 : decode cX12_lighterThan 41 = .ok (.getfield 9, 3) := by decide +kernel
theorem dX12_lighterThan_44 : decode cX12_lighterThan 44 = .ok (.iload 4, 2) := by decide +kernel
theorem dX12_lighterThan_46 : decode cX12_lighterThan 46 = .ok (.iconst 2, 1) := by decide +kernel
theorem dX12_lighterThan_47 : decode cX12_lighterThan 47 = .ok (.invokestatic 53, 3) := by decide +kernel
theorem dX12_lighterThan_50 : decode cX12_lighterThan 50 = .ok (.iaload, 1) := by decide +kernel
theorem dX12_lighterThan_51 : decode cX12_lighterThan 51 = .ok (.iload_n 3, 1) := by decide +kernel
theorem dX12_lighterThan_52 : decode cX12_lighterThan 52 = .ok (.if_icmp .lt 24, 3) := by decide +kernel
theorem dX12_lighterThan_55 : decode cX12_lighterThan 55 = .ok (.aload_n 0, 1) := by decide +kernel
theorem dX12_lighterThan_56 : decode cX12_lighterThan 56 = .ok (.getfield 9, 3) := by decide +kernel
theorem dX12_lighterThan_59 : decode cX12_lighterThan 59 = .ok (.iload 4, 2) := by decide +kernel
theorem dX12_lighterThan_61 : decode cX12_lighterThan 61 = .ok (.iconst 2, 1) := by decide +kernel
theorem dX12_lighterThan_62 : decode cX12_lighterThan 62 = .ok (.invokestatic 53, 3) := by decide +kernel
theorem dX12_lighterThan_65 : decode cX12_lighterThan 65 = .ok (.iaload, 1) := by decide +kernel
theorem dX12_lighterThan_66 : decode cX12_lighterThan 66 = .ok (.iload_n 3, 1) := by decide +kernel
theorem dX12_lighterThan_67 : decode cX12_lighterThan 67 = .ok (.if_icmp .ne 13, 3) := by decide +kernel
theorem dX12_lighterThan_70 : decode cX12_lighterThan 70 = .ok (.iload 4, 2) := by decide +kernel
theorem dX12_lighterThan_72 : decode cX12_lighterThan 72 = .ok (.iload_n 1, 1) := by decide +kernel
theorem dX12_lighterThan_73 : decode cX12_lighterThan 73 = .ok (.if_icmp .ge 7, 3) := by decide +kernel
theorem dX12_lighterThan_76 : decode cX12_lighterThan 76 = .ok (.iconst 1, 1) := by decide +kernel
theorem dX12_lighterThan_77 : decode cX12_lighterThan 77 = .ok (.goto 4, 3) := by decide +kernel
theorem dX12_lighterThan_80 : decode cX12_lighterThan 80 = .ok (.iconst 0, 1) := by decide +kernel
theorem dX12_lighterThan_81 : decode cX12_lighterThan 81 = .ok (.iadd, 1) := by decide +kernel
theorem dX12_lighterThan_82 : decode cX12_lighterThan 82 = .ok (.istore_n 2, 1) := by decide +kernel
theorem dX12_lighterThan_83 : decode cX12_lighterThan 83 = .ok (.iinc 4 1, 3) := by decide +kernel
theorem dX12_lighterThan_86 : decode cX12_lighterThan 86 = .ok (.goto (-70), 3) := by decide +kernel
theorem dX12_lighterThan_89 : decode cX12_lighterThan 89 = .ok (.iload_n 2, 1) := by decide +kernel
theorem dX12_lighterThan_90 : decode cX12_lighterThan 90 = .ok (.ireturn, 1) := by decide +kernel
theorem dX12_order_0 : decode cX12_order 0 = .ok (.iload_n 1, 1) := by decide +kernel
theorem dX12_order_1 : decode cX12_order 1 = .ok (.iconst (-1), 1) := by decide +kernel
theorem dX12_order_2 : decode cX12_order 2 = .ok (.if_icmp .ge 5, 3) := by decide +kernel
theorem dX12_order_5 : decode cX12_order 5 = .ok (.iconst (-1), 1) := by decide +kernel
theorem dX12_order_6 : decode cX12_order 6 = .ok (.ireturn, 1) := by decide +kernel
theorem dX12_order_7 : decode cX12_order 7 = .ok (.bipush (-4), 2) := by decide +kernel
theorem dX12_order_9 : decode cX12_order 9 = .ok (.istore_n 2, 1) := by decide +kernel
theorem dX12_order_10 : decode cX12_order 10 = .ok (.iconst 0, 1) := by decide +kernel
theorem dX12_order_11 : decode cX12_order 11 = .ok (.istore_n 3, 1) := by decide +kernel
theorem dX12_order_12 : decode cX12_order 12 = .ok (.iload_n 3, 1) := by decide +kernel
theorem dX12_order_13 : decode cX12_order 13 = .ok (.aload_n 0, 1) := by decide +kernel
theorem dX12_order_14 : decode cX12_order 14 = .ok (.getfield 9, 3) := by decide +kernel
theorem dX12_order_17 : decode cX12_order 17 = .ok (.iconst 0, 1) := by decide +kernel
theorem dX12_order_18 : decode cX12_order 18 = .ok (.iaload, 1) := by decide +kernel
theorem dX12_order_19 : decode cX12_order 19 = .ok (.if_icmp .ge 68, 3) := by decide +kernel
theorem dX12_order_22 : decode cX12_order 22 = .ok (.aload_n 0, 1) := by decide +kernel
theorem dX12_order_23 : decode cX12_order 23 = .ok (.getfield 9, 3) := by decide +kernel
theorem dX12_order_26 : decode cX12_order 26 = .ok (.iload_n 3, 1) := by decide +kernel
theorem dX12_order_27 : decode cX12_order 27 = .ok (.invokestatic 61, 3) := by decide +kernel
theorem dX12_order_30 : decode cX12_order 30 = .ok (.ifCond .ne 6, 3) := by decide +kernel
theorem dX12_order_33 : decode cX12_order 33 = .ok (.goto 48, 3) := by decide +kernel
theorem dX12_order_36 : decode cX12_order 36 = .ok (.iload_n 1, 1) := by decide +kernel
theorem dX12_order_37 : decode cX12_order 37 = .ok (.ifCond .lt 15, 3) := by decide +kernel
theorem dX12_order_40 : decode cX12_order 40 = .ok (.aload_n 0, 1) := by decide +kernel
theorem dX12_order_41 : decode cX12_order 41 = .ok (.iload_n 3, 1) := by decide +kernel
theorem dX12_order_42 : decode cX12_order 42 = .ok (.invokevirtual 176, 3) := by decide +kernel
theorem dX12_order_45 : decode cX12_order 45 = .ok (.iload_n 1, 1) := by decide +kernel
theorem dX12_order_46 : decode cX12_order 46 = .ok (.if_icmp .ne 35, 3) := by decide +kernel
theorem dX12_order_49 : decode cX12_order 49 = .ok (.goto 30, 3) := by decide +kernel
theorem dX12_order_52 : decode cX12_order 52 = .ok (.iload_n 2, 1) := by decide +kernel
theorem dX12_order_53 : decode cX12_order 53 = .ok (.ifCond .lt 26, 3) := by decide +kernel
theorem dX12_order_56 : decode cX12_order 56 = .ok (.aload_n 0, 1) := by decide +kernel
theorem dX12_order_57 : decode cX12_order 57 = .ok (.getfield 9, 3) := by decide +kernel
theorem dX12_order_60 : decode cX12_order 60 = .ok (.iload_n 3, 1) := by decide +kernel
theorem dX12_order_61 : decode cX12_order 61 = .ok (.iconst 2, 1) := by decide +kernel
theorem dX12_order_62 : decode cX12_order 62 = .ok (.invokestatic 53, 3) := by decide +kernel
theorem dX12_order_65 : decode cX12_order 65 = .ok (.iaload, 1) := by decide +kernel
theorem dX12_order_66 : decode cX12_order 66 = .ok (.aload_n 0, 1) := by decide +kernel
theorem dX12_order_67 : decode cX12_order 67 = .ok (.getfield 9, 3) := by decide +kernel
theorem dX12_order_70 : decode cX12_order 70 = .ok (.iload_n 2, 1) := by decide +kernel
theorem dX12_order_71 : decode cX12_order 71 = .ok (.iconst 2, 1) := by decide +kernel
theorem dX12_order_72 : decode cX12_order 72 = .ok (.invokestatic 53, 3) := by decide +kernel
theorem dX12_order_75 : decode cX12_order 75 = .ok (.iaload, 1) := by decide +kernel
theorem dX12_order_76 : decode cX12_order 76 = .ok (.if_icmp .le 5, 3) := by decide +kernel
theorem dX12_order_79 : decode cX12_order 79 = .ok (.iload_n 3, 1) := by decide +kernel
theorem dX12_order_80 : decode cX12_order 80 = .ok (.istore_n 2, 1) := by decide +kernel
theorem dX12_order_81 : decode cX12_order 81 = .ok (.iinc 3 1, 3) := by decide +kernel
theorem dX12_order_84 : decode cX12_order 84 = .ok (.goto (-72), 3) := by decide +kernel
theorem dX12_order_87 : decode cX12_order 87 = .ok (.iload_n 2, 1) := by decide +kernel
theorem dX12_order_88 : decode cX12_order 88 = .ok (.ireturn, 1) := by decide +kernel
theorem dX12_feed_0 : decode cX12_feed 0 = .ok (.iload_n 1, 1) := by decide +kernel
theorem dX12_feed_1 : decode cX12_feed 1 = .ok (.invokestatic 155, 3) := by decide +kernel
theorem dX12_feed_4 : decode cX12_feed 4 = .ok (.ifCond .eq 12, 3) := by decide +kernel
theorem dX12_feed_7 : decode cX12_feed 7 = .ok (.iload_n 2, 1) := by decide +kernel
theorem dX12_feed_8 : decode cX12_feed 8 = .ok (.iconst 0, 1) := by decide +kernel
theorem dX12_feed_9 : decode cX12_feed 9 = .ok (.iconst 1, 1) := by decide +kernel
theorem dX12_feed_10 : decode cX12_feed 10 = .ok (.invokestatic 49, 3) := by decide +kernel
theorem dX12_feed_13 : decode cX12_feed 13 = .ok (.ifCond .ne 5, 3) := by decide +kernel
theorem dX12_feed_16 : decode cX12_feed 16 = .ok (.iconst (-1), 1) := by decide +kernel
theorem dX12_feed_17 : decode cX12_feed 17 = .ok (.ireturn, 1) := by decide +kernel
theorem dX12_feed_18 : decode cX12_feed 18 = .ok (.iconst 0, 1) := by decide +kernel
theorem dX12_feed_19 : decode cX12_feed 19 = .ok (.istore_n 3, 1) := by decide +kernel
theorem dX12_feed_20 : decode cX12_feed 20 = .ok (.iconst (-1), 1) := by decide +kernel
theorem dX12_feed_21 : decode cX12_feed 21 = .ok (.istore 4, 2) := by decide +kernel
theorem dX12_feed_23 : decode cX12_feed 23 = .ok (.iconst 0, 1) := by decide +kernel
theorem dX12_feed_24 : decode cX12_feed 24 = .ok (.istore 5, 2) := by decide +kernel
theorem dX12_feed_26 : decode cX12_feed 26 = .ok (.iload 5, 2) := by decide +kernel
theorem dX12_feed_28 : decode cX12_feed 28 = .ok (.bipush 10, 2) := by decide +kernel
theorem dX12_feed_30 : decode cX12_feed 30 = .ok (.if_icmp .ge 61, 3) := by decide +kernel
theorem dX12_feed_33 : decode cX12_feed 33 = .ok (.aload_n 0, 1) := by decide +kernel
theorem dX12_feed_34 : decode cX12_feed 34 = .ok (.getfield 9, 3) := by decide +kernel
theorem dX12_feed_37 : decode cX12_feed 37 = .ok (.aload_n 0, 1) := by decide +kernel
theorem dX12_feed_38 : decode cX12_feed 38 = .ok (.getfield 13, 3) := by decide +kernel
theorem dX12_feed_41 : decode cX12_feed 41 = .ok (.invokestatic 141, 3) := by decide +kernel
theorem dX12_feed_44 : decode cX12_feed 44 = .ok (.aload_n 0, 1) := by decide +kernel
theorem dX12_feed_45 : decode cX12_feed 45 = .ok (.getfield 13, 3) := by decide +kernel
theorem dX12_feed_48 : decode cX12_feed 48 = .ok (.iconst 3, 1) := by decide +kernel
theorem dX12_feed_49 : decode cX12_feed 49 = .ok (.iload 5, 2) := by decide +kernel
theorem dX12_feed_51 : decode cX12_feed 51 = .ok (.iastore, 1) := by decide +kernel
theorem dX12_feed_52 : decode cX12_feed 52 = .ok (.aload_n 0, 1) := by decide +kernel
theorem dX12_feed_53 : decode cX12_feed 53 = .ok (.getfield 13, 3) := by decide +kernel
theorem dX12_feed_56 : decode cX12_feed 56 = .ok (.iload_n 1, 1) := by decide +kernel
theorem dX12_feed_57 : decode cX12_feed 57 = .ok (.invokestatic 131, 3) := by decide +kernel
theorem dX12_feed_60 : decode cX12_feed 60 = .ok (.aload_n 0, 1) := by decide +kernel
theorem dX12_feed_61 : decode cX12_feed 61 = .ok (.getfield 13, 3) := by decide +kernel
theorem dX12_feed_64 : decode cX12_feed 64 = .ok (.iconst 2, 1) := by decide +kernel
theorem dX12_feed_65 : decode cX12_feed 65 = .ok (.iaload, 1) := by decide +kernel
theorem dX12_feed_66 : decode cX12_feed 66 = .ok (.iload 4, 2) := by decide +kernel
theorem dX12_feed_68 : decode cX12_feed 68 = .ok (.if_icmp .gt 6, 3) := by decide +kernel
theorem dX12_feed_71 : decode cX12_feed 71 = .ok (.goto 14, 3) := by decide +kernel
theorem dX12_feed_74 : decode cX12_feed 74 = .ok (.iload 5, 2) := by decide +kernel
theorem dX12_feed_76 : decode cX12_feed 76 = .ok (.istore_n 3, 1) := by decide +kernel
theorem dX12_feed_77 : decode cX12_feed 77 = .ok (.aload_n 0, 1) := by decide +kernel
theorem dX12_feed_78 : decode cX12_feed 78 = .ok (.getfield 13, 3) := by decide +kernel
theorem dX12_feed_81 : decode cX12_feed 81 = .ok (.iconst 2, 1) := by decide +kernel
theorem dX12_feed_82 : decode cX12_feed 82 = .ok (.iaload, 1) := by decide +kernel
theorem dX12_feed_83 : decode cX12_feed 83 = .ok (.istore 4, 2) := by decide +kernel
theorem dX12_feed_85 : decode cX12_feed 85 = .ok (.iinc 5 1, 3) := by decide +kernel
theorem dX12_feed_88 : decode cX12_feed 88 = .ok (.goto (-62), 3) := by decide +kernel
theorem dX12_feed_91 : decode cX12_feed 91 = .ok (.iload_n 2, 1) := by decide +kernel
theorem dX12_feed_92 : decode cX12_feed 92 = .ok (.ifCond .ne 7, 3) := by decide +kernel
theorem dX12_feed_95 : decode cX12_feed 95 = .ok (.iload_n 3, 1) := by decide +kernel
theorem dX12_feed_96 : decode cX12_feed 96 = .ok (.goto 5, 3) := by decide +kernel
theorem dX12_feed_99 : decode cX12_feed 99 = .ok (.iload 4, 2) := by decide +kernel
theorem dX12_feed_101 : decode cX12_feed 101 = .ok (.ireturn, 1) := by decide +kernel
theorem dX12_empty_0 : decode cX12_empty 0 = .ok (.iload_n 1, 1) := by decide +kernel
theorem dX12_empty_1 : decode cX12_empty 1 = .ok (.invokestatic 155, 3) := by decide +kernel
theorem dX12_empty_4 : decode cX12_empty 4 = .ok (.ifCond .ne 5, 3) := by decide +kernel
theorem dX12_empty_7 : decode cX12_empty 7 = .ok (.iconst (-1), 1) := by decide +kernel
theorem dX12_empty_8 : decode cX12_empty 8 = .ok (.ireturn, 1) := by decide +kernel
theorem dX12_empty_9 : decode cX12_empty 9 = .ok (.iconst 0, 1) := by decide +kernel
theorem dX12_empty_10 : decode cX12_empty 10 = .ok (.istore_n 2, 1) := by decide +kernel
theorem dX12_empty_11 : decode cX12_empty 11 = .ok (.iload_n 2, 1) := by decide +kernel
theorem dX12_empty_12 : decode cX12_empty 12 = .ok (.bipush 10, 2) := by decide +kernel
theorem dX12_empty_14 : decode cX12_empty 14 = .ok (.if_icmp .ge 47, 3) := by decide +kernel
theorem dX12_empty_17 : decode cX12_empty 17 = .ok (.aload_n 0, 1) := by decide +kernel
theorem dX12_empty_18 : decode cX12_empty 18 = .ok (.getfield 9, 3) := by decide +kernel
theorem dX12_empty_21 : decode cX12_empty 21 = .ok (.aload_n 0, 1) := by decide +kernel
theorem dX12_empty_22 : decode cX12_empty 22 = .ok (.getfield 13, 3) := by decide +kernel
theorem dX12_empty_25 : decode cX12_empty 25 = .ok (.invokestatic 141, 3) := by decide +kernel
theorem dX12_empty_28 : decode cX12_empty 28 = .ok (.aload_n 0, 1) := by decide +kernel
theorem dX12_empty_29 : decode cX12_empty 29 = .ok (.getfield 13, 3) := by decide +kernel
theorem dX12_empty_32 : decode cX12_empty 32 = .ok (.iconst 4, 1) := by decide +kernel
theorem dX12_empty_33 : decode cX12_empty 33 = .ok (.iload_n 2, 1) := by decide +kernel
theorem dX12_empty_34 : decode cX12_empty 34 = .ok (.iastore, 1) := by decide +kernel
theorem dX12_empty_35 : decode cX12_empty 35 = .ok (.aload_n 0, 1) := by decide +kernel
theorem dX12_empty_36 : decode cX12_empty 36 = .ok (.getfield 13, 3) := by decide +kernel
theorem dX12_empty_39 : decode cX12_empty 39 = .ok (.iload_n 1, 1) := by decide +kernel
theorem dX12_empty_40 : decode cX12_empty 40 = .ok (.invokestatic 131, 3) := by decide +kernel
theorem dX12_empty_43 : decode cX12_empty 43 = .ok (.aload_n 0, 1) := by decide +kernel
theorem dX12_empty_44 : decode cX12_empty 44 = .ok (.getfield 13, 3) := by decide +kernel
theorem dX12_empty_47 : decode cX12_empty 47 = .ok (.invokestatic 162, 3) := by decide +kernel
theorem dX12_empty_50 : decode cX12_empty 50 = .ok (.ifCond .ne 5, 3) := by decide +kernel
theorem dX12_empty_53 : decode cX12_empty 53 = .ok (.iload_n 2, 1) := by decide +kernel
theorem dX12_empty_54 : decode cX12_empty 54 = .ok (.ireturn, 1) := by decide +kernel
theorem dX12_empty_55 : decode cX12_empty 55 = .ok (.iinc 2 1, 3) := by decide +kernel
theorem dX12_empty_58 : decode cX12_empty 58 = .ok (.goto (-47), 3) := by decide +kernel
theorem dX12_empty_61 : decode cX12_empty 61 = .ok (.bipush (-4), 2) := by decide +kernel
theorem dX12_empty_63 : decode cX12_empty 63 = .ok (.ireturn, 1) := by decide +kernel
theorem dX12_hasLeftNext_0 : decode cX12_hasLeftNext 0 = .ok (.aload_n 0, 1) := by decide +kernel
theorem dX12_hasLeftNext_1 : decode cX12_hasLeftNext 1 = .ok (.getfield 13, 3) := by decide +kernel
theorem dX12_hasLeftNext_4 : decode cX12_hasLeftNext 4 = .ok (.iconst 0, 1) := by decide +kernel
theorem dX12_hasLeftNext_5 : decode cX12_hasLeftNext 5 = .ok (.invokestatic 82, 3) := by decide +kernel
theorem dX12_hasLeftNext_8 : decode cX12_hasLeftNext 8 = .ok (.aload_n 0, 1) := by decide +kernel
theorem dX12_hasLeftNext_9 : decode cX12_hasLeftNext 9 = .ok (.getfield 13, 3) := by decide +kernel
theorem dX12_hasLeftNext_12 : decode cX12_hasLeftNext 12 = .ok (.iload_n 1, 1) := by decide +kernel
theorem dX12_hasLeftNext_13 : decode cX12_hasLeftNext 13 = .ok (.invokestatic 61, 3) := by decide +kernel
theorem dX12_hasLeftNext_16 : decode cX12_hasLeftNext 16 = .ok (.ifCond .ne 7, 3) := by decide +kernel
theorem dX12_hasLeftNext_19 : decode cX12_hasLeftNext 19 = .ok (.iconst 1, 1) := by decide +kernel
theorem dX12_hasLeftNext_20 : decode cX12_hasLeftNext 20 = .ok (.goto 4, 3) := by decide +kernel
theorem dX12_hasLeftNext_23 : decode cX12_hasLeftNext 23 = .ok (.iconst 0, 1) := by decide +kernel
theorem dX12_hasLeftNext_24 : decode cX12_hasLeftNext 24 = .ok (.ireturn, 1) := by decide +kernel
theorem dX12_tell_0 : decode cX12_tell 0 = .ok (.aload_n 0, 1) := by decide +kernel
theorem dX12_tell_1 : decode cX12_tell 1 = .ok (.iload_n 1, 1) := by decide +kernel
theorem dX12_tell_2 : decode cX12_tell 2 = .ok (.invokevirtual 113, 3) := by decide +kernel
theorem dX12_tell_5 : decode cX12_tell 5 = .ok (.ifCond .ne 5, 3) := by decide +kernel
theorem dX12_tell_8 : decode cX12_tell 8 = .ok (.iconst (-1), 1) := by decide +kernel
theorem dX12_tell_9 : decode cX12_tell 9 = .ok (.ireturn, 1) := by decide +kernel
theorem dX12_tell_10 : decode cX12_tell 10 = .ok (.aload_n 0, 1) := by decide +kernel
theorem dX12_tell_11 : decode cX12_tell 11 = .ok (.getfield 9, 3) := by decide +kernel
theorem dX12_tell_14 : decode cX12_tell 14 = .ok (.iload_n 1, 1) := by decide +kernel
theorem dX12_tell_15 : decode cX12_tell 15 = .ok (.invokestatic 61, 3) := by decide +kernel
theorem dX12_tell_18 : decode cX12_tell 18 = .ok (.ifCond .ne 6, 3) := by decide +kernel
theorem dX12_tell_21 : decode cX12_tell 21 = .ok (.bipush (-3), 2) := by decide +kernel
theorem dX12_tell_23 : decode cX12_tell 23 = .ok (.ireturn, 1) := by decide +kernel
theorem dX12_tell_24 : decode cX12_tell 24 = .ok (.iconst 0, 1) := by decide +kernel
theorem dX12_tell_25 : decode cX12_tell 25 = .ok (.istore_n 2, 1) := by decide +kernel
theorem dX12_tell_26 : decode cX12_tell 26 = .ok (.iload_n 2, 1) := by decide +kernel
theorem dX12_tell_27 : decode cX12_tell 27 = .ok (.aload_n 0, 1) := by decide +kernel
theorem dX12_tell_28 : decode cX12_tell 28 = .ok (.getfield 9, 3) := by decide +kernel
theorem dX12_tell_31 : decode cX12_tell 31 = .ok (.iload_n 1, 1) := by decide +kernel
theorem dX12_tell_32 : decode cX12_tell 32 = .ok (.iconst 4, 1) := by decide +kernel
theorem dX12_tell_33 : decode cX12_tell 33 = .ok (.invokestatic 53, 3) := by decide +kernel
theorem dX12_tell_36 : decode cX12_tell 36 = .ok (.iaload, 1) := by decide +kernel
theorem dX12_tell_37 : decode cX12_tell 37 = .ok (.if_icmp .gt 51, 3) := by decide +kernel
theorem dX12_tell_40 : decode cX12_tell 40 = .ok (.aload_n 0, 1) := by decide +kernel
theorem dX12_tell_41 : decode cX12_tell 41 = .ok (.getfield 9, 3) := by decide +kernel
theorem dX12_tell_44 : decode cX12_tell 44 = .ok (.aload_n 0, 1) := by decide +kernel
theorem dX12_tell_45 : decode cX12_tell 45 = .ok (.getfield 13, 3) := by decide +kernel
theorem dX12_tell_48 : decode cX12_tell 48 = .ok (.invokestatic 141, 3) := by decide +kernel
theorem dX12_tell_51 : decode cX12_tell 51 = .ok (.iconst 0, 1) := by decide +kernel
theorem dX12_tell_52 : decode cX12_tell 52 = .ok (.istore_n 3, 1) := by decide +kernel
theorem dX12_tell_53 : decode cX12_tell 53 = .ok (.iload_n 3, 1) := by decide +kernel
theorem dX12_tell_54 : decode cX12_tell 54 = .ok (.iload_n 2, 1) := by decide +kernel
theorem dX12_tell_55 : decode cX12_tell 55 = .ok (.if_icmp .ge 17, 3) := by decide +kernel
theorem dX12_tell_58 : decode cX12_tell 58 = .ok (.aload_n 0, 1) := by decide +kernel
theorem dX12_tell_59 : decode cX12_tell 59 = .ok (.getfield 13, 3) := by decide +kernel
theorem dX12_tell_62 : decode cX12_tell 62 = .ok (.iload_n 1, 1) := by decide +kernel
theorem dX12_tell_63 : decode cX12_tell 63 = .ok (.invokestatic 120, 3) := by decide +kernel
theorem dX12_tell_66 : decode cX12_tell 66 = .ok (.iinc 3 1, 3) := by decide +kernel
theorem dX12_tell_69 : decode cX12_tell 69 = .ok (.goto (-16), 3) := by decide +kernel
theorem dX12_tell_72 : decode cX12_tell 72 = .ok (.aload_n 0, 1) := by decide +kernel
theorem dX12_tell_73 : decode cX12_tell 73 = .ok (.iload_n 1, 1) := by decide +kernel
theorem dX12_tell_74 : decode cX12_tell 74 = .ok (.invokevirtual 179, 3) := by decide +kernel
theorem dX12_tell_77 : decode cX12_tell 77 = .ok (.ifCond .eq 5, 3) := by decide +kernel
theorem dX12_tell_80 : decode cX12_tell 80 = .ok (.iload_n 2, 1) := by decide +kernel
theorem dX12_tell_81 : decode cX12_tell 81 = .ok (.ireturn, 1) := by decide +kernel
theorem dX12_tell_82 : decode cX12_tell 82 = .ok (.iinc 2 1, 3) := by decide +kernel
theorem dX12_tell_85 : decode cX12_tell 85 = .ok (.goto (-59), 3) := by decide +kernel
theorem dX12_tell_88 : decode cX12_tell 88 = .ok (.bipush (-4), 2) := by decide +kernel
theorem dX12_tell_90 : decode cX12_tell 90 = .ok (.ireturn, 1) := by decide +kernel
theorem dX12_loan_0 : decode cX12_loan 0 = .ok (.aload_n 0, 1) := by decide +kernel
theorem dX12_loan_1 : decode cX12_loan 1 = .ok (.iload_n 1, 1) := by decide +kernel
theorem dX12_loan_2 : decode cX12_loan 2 = .ok (.invokevirtual 113, 3) := by decide +kernel
theorem dX12_loan_5 : decode cX12_loan 5 = .ok (.ifCond .eq 16, 3) := by decide +kernel
theorem dX12_loan_8 : decode cX12_loan 8 = .ok (.aload_n 0, 1) := by decide +kernel
theorem dX12_loan_9 : decode cX12_loan 9 = .ok (.iload_n 2, 1) := by decide +kernel
theorem dX12_loan_10 : decode cX12_loan 10 = .ok (.invokevirtual 113, 3) := by decide +kernel
theorem dX12_loan_13 : decode cX12_loan 13 = .ok (.ifCond .eq 8, 3) := by decide +kernel
theorem dX12_loan_16 : decode cX12_loan 16 = .ok (.iload_n 1, 1) := by decide +kernel
theorem dX12_loan_17 : decode cX12_loan 17 = .ok (.iload_n 2, 1) := by decide +kernel
theorem dX12_loan_18 : decode cX12_loan 18 = .ok (.if_icmp .ne 5, 3) := by decide +kernel
theorem dX12_loan_21 : decode cX12_loan 21 = .ok (.iconst (-1), 1) := by decide +kernel
theorem dX12_loan_22 : decode cX12_loan 22 = .ok (.ireturn, 1) := by decide +kernel
theorem dX12_loan_23 : decode cX12_loan 23 = .ok (.aload_n 0, 1) := by decide +kernel
theorem dX12_loan_24 : decode cX12_loan 24 = .ok (.getfield 9, 3) := by decide +kernel
theorem dX12_loan_27 : decode cX12_loan 27 = .ok (.iload_n 1, 1) := by decide +kernel
theorem dX12_loan_28 : decode cX12_loan 28 = .ok (.invokestatic 61, 3) := by decide +kernel
theorem dX12_loan_31 : decode cX12_loan 31 = .ok (.ifCond .eq 14, 3) := by decide +kernel
theorem dX12_loan_34 : decode cX12_loan 34 = .ok (.aload_n 0, 1) := by decide +kernel
theorem dX12_loan_35 : decode cX12_loan 35 = .ok (.getfield 9, 3) := by decide +kernel
theorem dX12_loan_38 : decode cX12_loan 38 = .ok (.iload_n 2, 1) := by decide +kernel
theorem dX12_loan_39 : decode cX12_loan 39 = .ok (.invokestatic 61, 3) := by decide +kernel
theorem dX12_loan_42 : decode cX12_loan 42 = .ok (.ifCond .ne 6, 3) := by decide +kernel
theorem dX12_loan_45 : decode cX12_loan 45 = .ok (.bipush (-3), 2) := by decide +kernel
theorem dX12_loan_47 : decode cX12_loan 47 = .ok (.ireturn, 1) := by decide +kernel
theorem dX12_loan_48 : decode cX12_loan 48 = .ok (.iconst 0, 1) := by decide +kernel
theorem dX12_loan_49 : decode cX12_loan 49 = .ok (.istore_n 3, 1) := by decide +kernel
theorem dX12_loan_50 : decode cX12_loan 50 = .ok (.iload_n 3, 1) := by decide +kernel
theorem dX12_loan_51 : decode cX12_loan 51 = .ok (.bipush 20, 2) := by decide +kernel
theorem dX12_loan_53 : decode cX12_loan 53 = .ok (.if_icmp .gt 56, 3) := by decide +kernel
theorem dX12_loan_56 : decode cX12_loan 56 = .ok (.aload_n 0, 1) := by decide +kernel
theorem dX12_loan_57 : decode cX12_loan 57 = .ok (.getfield 9, 3) := by decide +kernel
theorem dX12_loan_60 : decode cX12_loan 60 = .ok (.aload_n 0, 1) := by decide +kernel
theorem dX12_loan_61 : decode cX12_loan 61 = .ok (.getfield 13, 3) := by decide +kernel
theorem dX12_loan_64 : decode cX12_loan 64 = .ok (.invokestatic 141, 3) := by decide +kernel
theorem dX12_loan_67 : decode cX12_loan 67 = .ok (.aload_n 0, 1) := by decide +kernel
theorem dX12_loan_68 : decode cX12_loan 68 = .ok (.getfield 13, 3) := by decide +kernel
theorem dX12_loan_71 : decode cX12_loan 71 = .ok (.iload_n 1, 1) := by decide +kernel
theorem dX12_loan_72 : decode cX12_loan 72 = .ok (.iload_n 2, 1) := by decide +kernel
theorem dX12_loan_73 : decode cX12_loan 73 = .ok (.iload_n 3, 1) := by decide +kernel
theorem dX12_loan_74 : decode cX12_loan 74 = .ok (.invokestatic 123, 3) := by decide +kernel
theorem dX12_loan_77 : decode cX12_loan 77 = .ok (.ifCond .ne 6, 3) := by decide +kernel
theorem dX12_loan_80 : decode cX12_loan 80 = .ok (.goto 23, 3) := by decide +kernel
theorem dX12_loan_83 : decode cX12_loan 83 = .ok (.aload_n 0, 1) := by decide +kernel
theorem dX12_loan_84 : decode cX12_loan 84 = .ok (.getfield 13, 3) := by decide +kernel
theorem dX12_loan_87 : decode cX12_loan 87 = .ok (.iload_n 1, 1) := by decide +kernel
theorem dX12_loan_88 : decode cX12_loan 88 = .ok (.iload_n 2, 1) := by decide +kernel
theorem dX12_loan_89 : decode cX12_loan 89 = .ok (.iload_n 3, 1) := by decide +kernel
theorem dX12_loan_90 : decode cX12_loan 90 = .ok (.invokestatic 127, 3) := by decide +kernel
theorem dX12_loan_93 : decode cX12_loan 93 = .ok (.aload_n 0, 1) := by decide +kernel
theorem dX12_loan_94 : decode cX12_loan 94 = .ok (.iload_n 1, 1) := by decide +kernel
theorem dX12_loan_95 : decode cX12_loan 95 = .ok (.invokevirtual 179, 3) := by decide +kernel
theorem dX12_loan_98 : decode cX12_loan 98 = .ok (.ifCond .eq 5, 3) := by decide +kernel
theorem dX12_loan_101 : decode cX12_loan 101 = .ok (.iload_n 3, 1) := by decide +kernel
theorem dX12_loan_102 : decode cX12_loan 102 = .ok (.ireturn, 1) := by decide +kernel
theorem dX12_loan_103 : decode cX12_loan 103 = .ok (.iinc 3 1, 3) := by decide +kernel
theorem dX12_loan_106 : decode cX12_loan 106 = .ok (.goto (-56), 3) := by decide +kernel
theorem dX12_loan_109 : decode cX12_loan 109 = .ok (.bipush (-4), 2) := by decide +kernel
theorem dX12_loan_111 : decode cX12_loan 111 = .ok (.ireturn, 1) := by decide +kernel
theorem dX12_waits_0 : decode cX12_waits 0 = .ok (.iload_n 1, 1) := by decide +kernel
theorem dX12_waits_1 : decode cX12_waits 1 = .ok (.invokestatic 155, 3) := by decide +kernel
theorem dX12_waits_4 : decode cX12_waits 4 = .ok (.ifCond .ne 5, 3) := by decide +kernel
theorem dX12_waits_7 : decode cX12_waits 7 = .ok (.iconst (-1), 1) := by decide +kernel
theorem dX12_waits_8 : decode cX12_waits 8 = .ok (.ireturn, 1) := by decide +kernel
theorem dX12_waits_9 : decode cX12_waits 9 = .ok (.aload_n 0, 1) := by decide +kernel
theorem dX12_waits_10 : decode cX12_waits 10 = .ok (.iload_n 1, 1) := by decide +kernel
theorem dX12_waits_11 : decode cX12_waits 11 = .ok (.invokevirtual 158, 3) := by decide +kernel
theorem dX12_waits_14 : decode cX12_waits 14 = .ok (.aload_n 0, 1) := by decide +kernel
theorem dX12_waits_15 : decode cX12_waits 15 = .ok (.getfield 13, 3) := by decide +kernel
theorem dX12_waits_18 : decode cX12_waits 18 = .ok (.iconst 2, 1) := by decide +kernel
theorem dX12_waits_19 : decode cX12_waits 19 = .ok (.iaload, 1) := by decide +kernel
theorem dX12_waits_20 : decode cX12_waits 20 = .ok (.istore_n 2, 1) := by decide +kernel
theorem dX12_waits_21 : decode cX12_waits 21 = .ok (.bipush (-4), 2) := by decide +kernel
theorem dX12_waits_23 : decode cX12_waits 23 = .ok (.istore_n 3, 1) := by decide +kernel
theorem dX12_waits_24 : decode cX12_waits 24 = .ok (.iconst 0, 1) := by decide +kernel
theorem dX12_waits_25 : decode cX12_waits 25 = .ok (.istore 4, 2) := by decide +kernel
theorem dX12_waits_27 : decode cX12_waits 27 = .ok (.iload 4, 2) := by decide +kernel
theorem dX12_waits_29 : decode cX12_waits 29 = .ok (.aload_n 0, 1) := by decide +kernel
theorem dX12_waits_30 : decode cX12_waits 30 = .ok (.getfield 9, 3) := by decide +kernel
theorem dX12_waits_33 : decode cX12_waits 33 = .ok (.iconst 0, 1) := by decide +kernel
theorem dX12_waits_34 : decode cX12_waits 34 = .ok (.iaload, 1) := by decide +kernel
theorem dX12_waits_35 : decode cX12_waits 35 = .ok (.if_icmp .ge 81, 3) := by decide +kernel
theorem dX12_waits_38 : decode cX12_waits 38 = .ok (.aload_n 0, 1) := by decide +kernel
theorem dX12_waits_39 : decode cX12_waits 39 = .ok (.getfield 9, 3) := by decide +kernel
theorem dX12_waits_42 : decode cX12_waits 42 = .ok (.iload 4, 2) := by decide +kernel
theorem dX12_waits_44 : decode cX12_waits 44 = .ok (.invokestatic 61, 3) := by decide +kernel
theorem dX12_waits_47 : decode cX12_waits 47 = .ok (.ifCond .ne 6, 3) := by decide +kernel
theorem dX12_waits_50 : decode cX12_waits 50 = .ok (.goto 60, 3) := by decide +kernel
theorem dX12_waits_53 : decode cX12_waits 53 = .ok (.aload_n 0, 1) := by decide +kernel
theorem dX12_waits_54 : decode cX12_waits 54 = .ok (.getfield 9, 3) := by decide +kernel
theorem dX12_waits_57 : decode cX12_waits 57 = .ok (.aload_n 0, 1) := by decide +kernel
theorem dX12_waits_58 : decode cX12_waits 58 = .ok (.getfield 13, 3) := by decide +kernel
theorem dX12_waits_61 : decode cX12_waits 61 = .ok (.invokestatic 141, 3) := by decide +kernel
theorem dX12_waits_64 : decode cX12_waits 64 = .ok (.aload_n 0, 1) := by decide +kernel
theorem dX12_waits_65 : decode cX12_waits 65 = .ok (.getfield 13, 3) := by decide +kernel
theorem dX12_waits_68 : decode cX12_waits 68 = .ok (.iload 4, 2) := by decide +kernel
theorem dX12_waits_70 : decode cX12_waits 70 = .ok (.iconst 5, 1) := by decide +kernel
theorem dX12_waits_71 : decode cX12_waits 71 = .ok (.invokestatic 53, 3) := by decide +kernel
theorem dX12_waits_74 : decode cX12_waits 74 = .ok (.dup2, 1) := by decide +kernel
theorem dX12_waits_75 : decode cX12_waits 75 = .ok (.iaload, 1) := by decide +kernel
theorem dX12_waits_76 : decode cX12_waits 76 = .ok (.iconst 5, 1) := by decide +kernel
theorem dX12_waits_77 : decode cX12_waits 77 = .ok (.iadd, 1) := by decide +kernel
theorem dX12_waits_78 : decode cX12_waits 78 = .ok (.iastore, 1) := by decide +kernel
theorem dX12_waits_79 : decode cX12_waits 79 = .ok (.aload_n 0, 1) := by decide +kernel
theorem dX12_waits_80 : decode cX12_waits 80 = .ok (.getfield 13, 3) := by decide +kernel
theorem dX12_waits_83 : decode cX12_waits 83 = .ok (.iload_n 1, 1) := by decide +kernel
theorem dX12_waits_84 : decode cX12_waits 84 = .ok (.invokestatic 131, 3) := by decide +kernel
theorem dX12_waits_87 : decode cX12_waits 87 = .ok (.aload_n 0, 1) := by decide +kernel
theorem dX12_waits_88 : decode cX12_waits 88 = .ok (.getfield 13, 3) := by decide +kernel
theorem dX12_waits_91 : decode cX12_waits 91 = .ok (.iconst 2, 1) := by decide +kernel
theorem dX12_waits_92 : decode cX12_waits 92 = .ok (.iaload, 1) := by decide +kernel
theorem dX12_waits_93 : decode cX12_waits 93 = .ok (.iload_n 2, 1) := by decide +kernel
theorem dX12_waits_94 : decode cX12_waits 94 = .ok (.if_icmp .gt 6, 3) := by decide +kernel
theorem dX12_waits_97 : decode cX12_waits 97 = .ok (.goto 13, 3) := by decide +kernel
theorem dX12_waits_100 : decode cX12_waits 100 = .ok (.iload 4, 2) := by decide +kernel
theorem dX12_waits_102 : decode cX12_waits 102 = .ok (.istore_n 3, 1) := by decide +kernel
theorem dX12_waits_103 : decode cX12_waits 103 = .ok (.aload_n 0, 1) := by decide +kernel
theorem dX12_waits_104 : decode cX12_waits 104 = .ok (.getfield 13, 3) := by decide +kernel
theorem dX12_waits_107 : decode cX12_waits 107 = .ok (.iconst 2, 1) := by decide +kernel
theorem dX12_waits_108 : decode cX12_waits 108 = .ok (.iaload, 1) := by decide +kernel
theorem dX12_waits_109 : decode cX12_waits 109 = .ok (.istore_n 2, 1) := by decide +kernel
theorem dX12_waits_110 : decode cX12_waits 110 = .ok (.iinc 4 1, 3) := by decide +kernel
theorem dX12_waits_113 : decode cX12_waits 113 = .ok (.goto (-86), 3) := by decide +kernel
theorem dX12_waits_116 : decode cX12_waits 116 = .ok (.iload_n 3, 1) := by decide +kernel
theorem dX12_waits_117 : decode cX12_waits 117 = .ok (.ireturn, 1) := by decide +kernel
theorem dX12_leftBy_0 : decode cX12_leftBy 0 = .ok (.aload_n 0, 1) := by decide +kernel
theorem dX12_leftBy_1 : decode cX12_leftBy 1 = .ok (.getfield 9, 3) := by decide +kernel
theorem dX12_leftBy_4 : decode cX12_leftBy 4 = .ok (.aload_n 0, 1) := by decide +kernel
theorem dX12_leftBy_5 : decode cX12_leftBy 5 = .ok (.getfield 13, 3) := by decide +kernel
theorem dX12_leftBy_8 : decode cX12_leftBy 8 = .ok (.invokestatic 141, 3) := by decide +kernel
theorem dX12_leftBy_11 : decode cX12_leftBy 11 = .ok (.iload_n 3, 1) := by decide +kernel
theorem dX12_leftBy_12 : decode cX12_leftBy 12 = .ok (.ifCond .le 28, 3) := by decide +kernel
theorem dX12_leftBy_15 : decode cX12_leftBy 15 = .ok (.aload_n 0, 1) := by decide +kernel
theorem dX12_leftBy_16 : decode cX12_leftBy 16 = .ok (.getfield 13, 3) := by decide +kernel
theorem dX12_leftBy_19 : decode cX12_leftBy 19 = .ok (.iload_n 1, 1) := by decide +kernel
theorem dX12_leftBy_20 : decode cX12_leftBy 20 = .ok (.iload_n 2, 1) := by decide +kernel
theorem dX12_leftBy_21 : decode cX12_leftBy 21 = .ok (.iload_n 3, 1) := by decide +kernel
theorem dX12_leftBy_22 : decode cX12_leftBy 22 = .ok (.invokestatic 123, 3) := by decide +kernel
theorem dX12_leftBy_25 : decode cX12_leftBy 25 = .ok (.ifCond .ne 5, 3) := by decide +kernel
theorem dX12_leftBy_28 : decode cX12_leftBy 28 = .ok (.iconst (-1), 1) := by decide +kernel
theorem dX12_leftBy_29 : decode cX12_leftBy 29 = .ok (.ireturn, 1) := by decide +kernel
theorem dX12_leftBy_30 : decode cX12_leftBy 30 = .ok (.aload_n 0, 1) := by decide +kernel
theorem dX12_leftBy_31 : decode cX12_leftBy 31 = .ok (.getfield 13, 3) := by decide +kernel
theorem dX12_leftBy_34 : decode cX12_leftBy 34 = .ok (.iload_n 1, 1) := by decide +kernel
theorem dX12_leftBy_35 : decode cX12_leftBy 35 = .ok (.iload_n 2, 1) := by decide +kernel
theorem dX12_leftBy_36 : decode cX12_leftBy 36 = .ok (.iload_n 3, 1) := by decide +kernel
theorem dX12_leftBy_37 : decode cX12_leftBy 37 = .ok (.invokestatic 127, 3) := by decide +kernel
theorem dX12_leftBy_40 : decode cX12_leftBy 40 = .ok (.aload_n 0, 1) := by decide +kernel
theorem dX12_leftBy_41 : decode cX12_leftBy 41 = .ok (.getfield 13, 3) := by decide +kernel
theorem dX12_leftBy_44 : decode cX12_leftBy 44 = .ok (.iconst 0, 1) := by decide +kernel
theorem dX12_leftBy_45 : decode cX12_leftBy 45 = .ok (.invokestatic 82, 3) := by decide +kernel
theorem dX12_leftBy_48 : decode cX12_leftBy 48 = .ok (.aload_n 0, 1) := by decide +kernel
theorem dX12_leftBy_49 : decode cX12_leftBy 49 = .ok (.getfield 13, 3) := by decide +kernel
theorem dX12_leftBy_52 : decode cX12_leftBy 52 = .ok (.iload_n 1, 1) := by decide +kernel
theorem dX12_leftBy_53 : decode cX12_leftBy 53 = .ok (.invokestatic 61, 3) := by decide +kernel
theorem dX12_leftBy_56 : decode cX12_leftBy 56 = .ok (.ifCond .eq 7, 3) := by decide +kernel
theorem dX12_leftBy_59 : decode cX12_leftBy 59 = .ok (.iconst 0, 1) := by decide +kernel
theorem dX12_leftBy_60 : decode cX12_leftBy 60 = .ok (.goto 4, 3) := by decide +kernel
theorem dX12_leftBy_63 : decode cX12_leftBy 63 = .ok (.iconst 1, 1) := by decide +kernel
theorem dX12_leftBy_64 : decode cX12_leftBy 64 = .ok (.iload_n 1, 1) := by decide +kernel
theorem dX12_leftBy_65 : decode cX12_leftBy 65 = .ok (.iload_n 2, 1) := by decide +kernel
theorem dX12_leftBy_66 : decode cX12_leftBy 66 = .ok (.if_icmp .eq 14, 3) := by decide +kernel
theorem dX12_leftBy_69 : decode cX12_leftBy 69 = .ok (.aload_n 0, 1) := by decide +kernel
theorem dX12_leftBy_70 : decode cX12_leftBy 70 = .ok (.getfield 13, 3) := by decide +kernel
theorem dX12_leftBy_73 : decode cX12_leftBy 73 = .ok (.iload_n 2, 1) := by decide +kernel
theorem dX12_leftBy_74 : decode cX12_leftBy 74 = .ok (.invokestatic 61, 3) := by decide +kernel
theorem dX12_leftBy_77 : decode cX12_leftBy 77 = .ok (.ifCond .eq 7, 3) := by decide +kernel
theorem dX12_leftBy_80 : decode cX12_leftBy 80 = .ok (.iconst 0, 1) := by decide +kernel
theorem dX12_leftBy_81 : decode cX12_leftBy 81 = .ok (.goto 4, 3) := by decide +kernel
theorem dX12_leftBy_84 : decode cX12_leftBy 84 = .ok (.iconst 1, 1) := by decide +kernel
theorem dX12_leftBy_85 : decode cX12_leftBy 85 = .ok (.iadd, 1) := by decide +kernel
theorem dX12_leftBy_86 : decode cX12_leftBy 86 = .ok (.ireturn, 1) := by decide +kernel
theorem dX12_pairOf_0 : decode cX12_pairOf 0 = .ok (.aload_n 0, 1) := by decide +kernel
theorem dX12_pairOf_1 : decode cX12_pairOf 1 = .ok (.iload_n 1, 1) := by decide +kernel
theorem dX12_pairOf_2 : decode cX12_pairOf 2 = .ok (.iload_n 2, 1) := by decide +kernel
theorem dX12_pairOf_3 : decode cX12_pairOf 3 = .ok (.iconst 5, 1) := by decide +kernel
theorem dX12_pairOf_4 : decode cX12_pairOf 4 = .ok (.invokevirtual 182, 3) := by decide +kernel
theorem dX12_pairOf_7 : decode cX12_pairOf 7 = .ok (.istore_n 3, 1) := by decide +kernel
theorem dX12_pairOf_8 : decode cX12_pairOf 8 = .ok (.aload_n 0, 1) := by decide +kernel
theorem dX12_pairOf_9 : decode cX12_pairOf 9 = .ok (.iload_n 2, 1) := by decide +kernel
theorem dX12_pairOf_10 : decode cX12_pairOf 10 = .ok (.iload_n 1, 1) := by decide +kernel
theorem dX12_pairOf_11 : decode cX12_pairOf 11 = .ok (.iconst 5, 1) := by decide +kernel
theorem dX12_pairOf_12 : decode cX12_pairOf 12 = .ok (.invokevirtual 182, 3) := by decide +kernel
theorem dX12_pairOf_15 : decode cX12_pairOf 15 = .ok (.istore 4, 2) := by decide +kernel
theorem dX12_pairOf_17 : decode cX12_pairOf 17 = .ok (.iload_n 3, 1) := by decide +kernel
theorem dX12_pairOf_18 : decode cX12_pairOf 18 = .ok (.iload 4, 2) := by decide +kernel
theorem dX12_pairOf_20 : decode cX12_pairOf 20 = .ok (.if_icmp .le 7, 3) := by decide +kernel
theorem dX12_pairOf_23 : decode cX12_pairOf 23 = .ok (.iload_n 3, 1) := by decide +kernel
theorem dX12_pairOf_24 : decode cX12_pairOf 24 = .ok (.goto 5, 3) := by decide +kernel
theorem dX12_pairOf_27 : decode cX12_pairOf 27 = .ok (.iload 4, 2) := by decide +kernel
theorem dX12_pairOf_29 : decode cX12_pairOf 29 = .ok (.ireturn, 1) := by decide +kernel
theorem dX12_matches_0 : decode cX12_matches 0 = .ok (.aload_n 0, 1) := by decide +kernel
theorem dX12_matches_1 : decode cX12_matches 1 = .ok (.getfield 9, 3) := by decide +kernel
theorem dX12_matches_4 : decode cX12_matches 4 = .ok (.invokestatic 162, 3) := by decide +kernel
theorem dX12_matches_7 : decode cX12_matches 7 = .ok (.istore_n 1, 1) := by decide +kernel
theorem dX12_matches_8 : decode cX12_matches 8 = .ok (.iconst 0, 1) := by decide +kernel
theorem dX12_matches_9 : decode cX12_matches 9 = .ok (.istore_n 2, 1) := by decide +kernel
theorem dX12_matches_10 : decode cX12_matches 10 = .ok (.iload_n 2, 1) := by decide +kernel
theorem dX12_matches_11 : decode cX12_matches 11 = .ok (.aload_n 0, 1) := by decide +kernel
theorem dX12_matches_12 : decode cX12_matches 12 = .ok (.getfield 9, 3) := by decide +kernel
theorem dX12_matches_15 : decode cX12_matches 15 = .ok (.iconst 0, 1) := by decide +kernel
theorem dX12_matches_16 : decode cX12_matches 16 = .ok (.iaload, 1) := by decide +kernel
theorem dX12_matches_17 : decode cX12_matches 17 = .ok (.if_icmp .ge 79, 3) := by decide +kernel
theorem dX12_matches_20 : decode cX12_matches 20 = .ok (.iconst 0, 1) := by decide +kernel
theorem dX12_matches_21 : decode cX12_matches 21 = .ok (.istore_n 3, 1) := by decide +kernel
theorem dX12_matches_22 : decode cX12_matches 22 = .ok (.iload_n 3, 1) := by decide +kernel
theorem dX12_matches_23 : decode cX12_matches 23 = .ok (.aload_n 0, 1) := by decide +kernel
theorem dX12_matches_24 : decode cX12_matches 24 = .ok (.getfield 9, 3) := by decide +kernel
theorem dX12_matches_27 : decode cX12_matches 27 = .ok (.iconst 0, 1) := by decide +kernel
theorem dX12_matches_28 : decode cX12_matches 28 = .ok (.iaload, 1) := by decide +kernel
theorem dX12_matches_29 : decode cX12_matches 29 = .ok (.if_icmp .ge 61, 3) := by decide +kernel
theorem dX12_matches_32 : decode cX12_matches 32 = .ok (.aload_n 0, 1) := by decide +kernel
theorem dX12_matches_33 : decode cX12_matches 33 = .ok (.getfield 25, 3) := by decide +kernel
theorem dX12_matches_36 : decode cX12_matches 36 = .ok (.bipush 7, 2) := by decide +kernel
theorem dX12_matches_38 : decode cX12_matches 38 = .ok (.iload_n 2, 1) := by decide +kernel
theorem dX12_matches_39 : decode cX12_matches 39 = .ok (.imul, 1) := by decide +kernel
theorem dX12_matches_40 : decode cX12_matches 40 = .ok (.iload_n 3, 1) := by decide +kernel
theorem dX12_matches_41 : decode cX12_matches 41 = .ok (.iadd, 1) := by decide +kernel
theorem dX12_matches_42 : decode cX12_matches 42 = .ok (.iload_n 1, 1) := by decide +kernel
theorem dX12_matches_43 : decode cX12_matches 43 = .ok (.iload_n 2, 1) := by decide +kernel
theorem dX12_matches_44 : decode cX12_matches 44 = .ok (.invokestatic 68, 3) := by decide +kernel
theorem dX12_matches_47 : decode cX12_matches 47 = .ok (.ifCond .eq 11, 3) := by decide +kernel
theorem dX12_matches_50 : decode cX12_matches 50 = .ok (.iload_n 1, 1) := by decide +kernel
theorem dX12_matches_51 : decode cX12_matches 51 = .ok (.iload_n 3, 1) := by decide +kernel
theorem dX12_matches_52 : decode cX12_matches 52 = .ok (.invokestatic 68, 3) := by decide +kernel
theorem dX12_matches_55 : decode cX12_matches 55 = .ok (.ifCond .ne 7, 3) := by decide +kernel
theorem dX12_matches_58 : decode cX12_matches 58 = .ok (.iconst (-1), 1) := by decide +kernel
theorem dX12_matches_59 : decode cX12_matches 59 = .ok (.goto 24, 3) := by decide +kernel
theorem dX12_matches_62 : decode cX12_matches 62 = .ok (.iload_n 2, 1) := by decide +kernel
theorem dX12_matches_63 : decode cX12_matches 63 = .ok (.iload_n 3, 1) := by decide +kernel
theorem dX12_matches_64 : decode cX12_matches 64 = .ok (.if_icmp .ne 13, 3) := by decide +kernel
theorem dX12_matches_67 : decode cX12_matches 67 = .ok (.aload_n 0, 1) := by decide +kernel
theorem dX12_matches_68 : decode cX12_matches 68 = .ok (.iload_n 2, 1) := by decide +kernel
theorem dX12_matches_69 : decode cX12_matches 69 = .ok (.iload_n 2, 1) := by decide +kernel
theorem dX12_matches_70 : decode cX12_matches 70 = .ok (.iconst 0, 1) := by decide +kernel
theorem dX12_matches_71 : decode cX12_matches 71 = .ok (.invokevirtual 182, 3) := by decide +kernel
theorem dX12_matches_74 : decode cX12_matches 74 = .ok (.goto 9, 3) := by decide +kernel
theorem dX12_matches_77 : decode cX12_matches 77 = .ok (.aload_n 0, 1) := by decide +kernel
theorem dX12_matches_78 : decode cX12_matches 78 = .ok (.iload_n 2, 1) := by decide +kernel
theorem dX12_matches_79 : decode cX12_matches 79 = .ok (.iload_n 3, 1) := by decide +kernel
theorem dX12_matches_80 : decode cX12_matches 80 = .ok (.invokevirtual 185, 3) := by decide +kernel
theorem dX12_matches_83 : decode cX12_matches 83 = .ok (.iastore, 1) := by decide +kernel
theorem dX12_matches_84 : decode cX12_matches 84 = .ok (.iinc 3 1, 3) := by decide +kernel
theorem dX12_matches_87 : decode cX12_matches 87 = .ok (.goto (-65), 3) := by decide +kernel
theorem dX12_matches_90 : decode cX12_matches 90 = .ok (.iinc 2 1, 3) := by decide +kernel
theorem dX12_matches_93 : decode cX12_matches 93 = .ok (.goto (-83), 3) := by decide +kernel
theorem dX12_matches_96 : decode cX12_matches 96 = .ok (.iconst 0, 1) := by decide +kernel
theorem dX12_matches_97 : decode cX12_matches 97 = .ok (.istore_n 2, 1) := by decide +kernel
theorem dX12_matches_98 : decode cX12_matches 98 = .ok (.iload_n 2, 1) := by decide +kernel
theorem dX12_matches_99 : decode cX12_matches 99 = .ok (.sipush 128, 3) := by decide +kernel
theorem dX12_matches_102 : decode cX12_matches 102 = .ok (.if_icmp .ge 28, 3) := by decide +kernel
theorem dX12_matches_105 : decode cX12_matches 105 = .ok (.aload_n 0, 1) := by decide +kernel
theorem dX12_matches_106 : decode cX12_matches 106 = .ok (.getfield 28, 3) := by decide +kernel
theorem dX12_matches_109 : decode cX12_matches 109 = .ok (.iload_n 2, 1) := by decide +kernel
theorem dX12_matches_110 : decode cX12_matches 110 = .ok (.iload_n 2, 1) := by decide +kernel
theorem dX12_matches_111 : decode cX12_matches 111 = .ok (.ifCond .ne 7, 3) := by decide +kernel
theorem dX12_matches_114 : decode cX12_matches 114 = .ok (.iconst 0, 1) := by decide +kernel
theorem dX12_matches_115 : decode cX12_matches 115 = .ok (.goto 8, 3) := by decide +kernel
theorem dX12_matches_118 : decode cX12_matches 118 = .ok (.aload_n 0, 1) := by decide +kernel
theorem dX12_matches_119 : decode cX12_matches 119 = .ok (.iload_n 2, 1) := by decide +kernel
theorem dX12_matches_120 : decode cX12_matches 120 = .ok (.invokevirtual 188, 3) := by decide +kernel
theorem dX12_matches_123 : decode cX12_matches 123 = .ok (.iastore, 1) := by decide +kernel
theorem dX12_matches_124 : decode cX12_matches 124 = .ok (.iinc 2 1, 3) := by decide +kernel
theorem dX12_matches_127 : decode cX12_matches 127 = .ok (.goto (-29), 3) := by decide +kernel
theorem dX12_matches_130 : decode cX12_matches 130 = .ok (.return_, 1) := by decide +kernel
theorem dX12_leastIn_0 : decode cX12_leastIn 0 = .ok (.iconst 0, 1) := by decide +kernel
theorem dX12_leastIn_1 : decode cX12_leastIn 1 = .ok (.istore_n 1, 1) := by decide +kernel
theorem dX12_leastIn_2 : decode cX12_leastIn 2 = .ok (.iload_n 0, 1) := by decide +kernel
theorem dX12_leastIn_3 : decode cX12_leastIn 3 = .ok (.iload_n 1, 1) := by decide +kernel
theorem dX12_leastIn_4 : decode cX12_leastIn 4 = .ok (.invokestatic 68, 3) := by decide +kernel
theorem dX12_leastIn_7 : decode cX12_leastIn 7 = .ok (.ifCond .ne 9, 3) := by decide +kernel
theorem dX12_leastIn_10 : decode cX12_leastIn 10 = .ok (.iinc 1 1, 3) := by decide +kernel
theorem dX12_leastIn_13 : decode cX12_leastIn 13 = .ok (.goto (-11), 3) := by decide +kernel
theorem dX12_leastIn_16 : decode cX12_leastIn 16 = .ok (.iload_n 1, 1) := by decide +kernel
theorem dX12_leastIn_17 : decode cX12_leastIn 17 = .ok (.ireturn, 1) := by decide +kernel
theorem dX12_bestOf_0 : decode cX12_bestOf 0 = .ok (.iload_n 1, 1) := by decide +kernel
theorem dX12_bestOf_1 : decode cX12_bestOf 1 = .ok (.invokestatic 191, 3) := by decide +kernel
theorem dX12_bestOf_4 : decode cX12_bestOf 4 = .ok (.istore_n 2, 1) := by decide +kernel
theorem dX12_bestOf_5 : decode cX12_bestOf 5 = .ok (.iconst (-1), 1) := by decide +kernel
theorem dX12_bestOf_6 : decode cX12_bestOf 6 = .ok (.istore_n 3, 1) := by decide +kernel
theorem dX12_bestOf_7 : decode cX12_bestOf 7 = .ok (.iload_n 2, 1) := by decide +kernel
theorem dX12_bestOf_8 : decode cX12_bestOf 8 = .ok (.istore 4, 2) := by decide +kernel
theorem dX12_bestOf_10 : decode cX12_bestOf 10 = .ok (.iload 4, 2) := by decide +kernel
theorem dX12_bestOf_12 : decode cX12_bestOf 12 = .ok (.aload_n 0, 1) := by decide +kernel
theorem dX12_bestOf_13 : decode cX12_bestOf 13 = .ok (.getfield 9, 3) := by decide +kernel
theorem dX12_bestOf_16 : decode cX12_bestOf 16 = .ok (.iconst 0, 1) := by decide +kernel
theorem dX12_bestOf_17 : decode cX12_bestOf 17 = .ok (.iaload, 1) := by decide +kernel
theorem dX12_bestOf_18 : decode cX12_bestOf 18 = .ok (.if_icmp .ge 100, 3) := by decide +kernel
theorem dX12_bestOf_21 : decode cX12_bestOf 21 = .ok (.iload_n 2, 1) := by decide +kernel
theorem dX12_bestOf_22 : decode cX12_bestOf 22 = .ok (.aload_n 0, 1) := by decide +kernel
theorem dX12_bestOf_23 : decode cX12_bestOf 23 = .ok (.getfield 9, 3) := by decide +kernel
theorem dX12_bestOf_26 : decode cX12_bestOf 26 = .ok (.iconst 0, 1) := by decide +kernel
theorem dX12_bestOf_27 : decode cX12_bestOf 27 = .ok (.iaload, 1) := by decide +kernel
theorem dX12_bestOf_28 : decode cX12_bestOf 28 = .ok (.if_icmp .ge 90, 3) := by decide +kernel
theorem dX12_bestOf_31 : decode cX12_bestOf 31 = .ok (.iload_n 1, 1) := by decide +kernel
theorem dX12_bestOf_32 : decode cX12_bestOf 32 = .ok (.iload 4, 2) := by decide +kernel
theorem dX12_bestOf_34 : decode cX12_bestOf 34 = .ok (.invokestatic 68, 3) := by decide +kernel
theorem dX12_bestOf_37 : decode cX12_bestOf 37 = .ok (.ifCond .eq 18, 3) := by decide +kernel
theorem dX12_bestOf_40 : decode cX12_bestOf 40 = .ok (.aload_n 0, 1) := by decide +kernel
theorem dX12_bestOf_41 : decode cX12_bestOf 41 = .ok (.getfield 25, 3) := by decide +kernel
theorem dX12_bestOf_44 : decode cX12_bestOf 44 = .ok (.bipush 7, 2) := by decide +kernel
theorem dX12_bestOf_46 : decode cX12_bestOf 46 = .ok (.iload_n 2, 1) := by decide +kernel
theorem dX12_bestOf_47 : decode cX12_bestOf 47 = .ok (.imul, 1) := by decide +kernel
theorem dX12_bestOf_48 : decode cX12_bestOf 48 = .ok (.iload 4, 2) := by decide +kernel
theorem dX12_bestOf_50 : decode cX12_bestOf 50 = .ok (.iadd, 1) := by decide +kernel
theorem dX12_bestOf_51 : decode cX12_bestOf 51 = .ok (.iaload, 1) := by decide +kernel
theorem dX12_bestOf_52 : decode cX12_bestOf 52 = .ok (.goto 4, 3) := by decide +kernel
theorem dX12_bestOf_55 : decode cX12_bestOf 55 = .ok (.iconst (-1), 1) := by decide +kernel
theorem dX12_bestOf_56 : decode cX12_bestOf 56 = .ok (.istore 5, 2) := by decide +kernel
theorem dX12_bestOf_58 : decode cX12_bestOf 58 = .ok (.iload 5, 2) := by decide +kernel
theorem dX12_bestOf_60 : decode cX12_bestOf 60 = .ok (.ifCond .lt 52, 3) := by decide +kernel
theorem dX12_bestOf_63 : decode cX12_bestOf 63 = .ok (.iload 5, 2) := by decide +kernel
theorem dX12_bestOf_65 : decode cX12_bestOf 65 = .ok (.aload_n 0, 1) := by decide +kernel
theorem dX12_bestOf_66 : decode cX12_bestOf 66 = .ok (.getfield 28, 3) := by decide +kernel
theorem dX12_bestOf_69 : decode cX12_bestOf 69 = .ok (.iload_n 1, 1) := by decide +kernel
theorem dX12_bestOf_70 : decode cX12_bestOf 70 = .ok (.iconst 1, 1) := by decide +kernel
theorem dX12_bestOf_71 : decode cX12_bestOf 71 = .ok (.iload_n 2, 1) := by decide +kernel
theorem dX12_bestOf_72 : decode cX12_bestOf 72 = .ok (.ishl, 1) := by decide +kernel
theorem dX12_bestOf_73 : decode cX12_bestOf 73 = .ok (.iconst (-1), 1) := by decide +kernel
theorem dX12_bestOf_74 : decode cX12_bestOf 74 = .ok (.ixor, 1) := by decide +kernel
theorem dX12_bestOf_75 : decode cX12_bestOf 75 = .ok (.iand, 1) := by decide +kernel
theorem dX12_bestOf_76 : decode cX12_bestOf 76 = .ok (.iconst 1, 1) := by decide +kernel
theorem dX12_bestOf_77 : decode cX12_bestOf 77 = .ok (.iload 4, 2) := by decide +kernel
theorem dX12_bestOf_79 : decode cX12_bestOf 79 = .ok (.ishl, 1) := by decide +kernel
theorem dX12_bestOf_80 : decode cX12_bestOf 80 = .ok (.iconst (-1), 1) := by decide +kernel
theorem dX12_bestOf_81 : decode cX12_bestOf 81 = .ok (.ixor, 1) := by decide +kernel
theorem dX12_bestOf_82 : decode cX12_bestOf 82 = .ok (.iand, 1) := by decide +kernel
theorem dX12_bestOf_83 : decode cX12_bestOf 83 = .ok (.iaload, 1) := by decide +kernel
theorem dX12_bestOf_84 : decode cX12_bestOf 84 = .ok (.iadd, 1) := by decide +kernel
theorem dX12_bestOf_85 : decode cX12_bestOf 85 = .ok (.iload_n 3, 1) := by decide +kernel
theorem dX12_bestOf_86 : decode cX12_bestOf 86 = .ok (.if_icmp .le 26, 3) := by decide +kernel
theorem dX12_bestOf_89 : decode cX12_bestOf 89 = .ok (.iload 5, 2) := by decide +kernel
theorem dX12_bestOf_91 : decode cX12_bestOf 91 = .ok (.aload_n 0, 1) := by decide +kernel
theorem dX12_bestOf_92 : decode cX12_bestOf 92 = .ok (.getfield 28, 3) := by decide +kernel
theorem dX12_bestOf_95 : decode cX12_bestOf 95 = .ok (.iload_n 1, 1) := by decide +kernel
theorem dX12_bestOf_96 : decode cX12_bestOf 96 = .ok (.iconst 1, 1) := by decide +kernel
theorem dX12_bestOf_97 : decode cX12_bestOf 97 = .ok (.iload_n 2, 1) := by decide +kernel
theorem dX12_bestOf_98 : decode cX12_bestOf 98 = .ok (.ishl, 1) := by decide +kernel
theorem dX12_bestOf_99 : decode cX12_bestOf 99 = .ok (.iconst (-1), 1) := by decide +kernel
theorem dX12_bestOf_100 : decode cX12_bestOf 100 = .ok (.ixor, 1) := by decide +kernel
theorem dX12_bestOf_101 : decode cX12_bestOf 101 = .ok (.iand, 1) := by decide +kernel
theorem dX12_bestOf_102 : decode cX12_bestOf 102 = .ok (.iconst 1, 1) := by decide +kernel
theorem dX12_bestOf_103 : decode cX12_bestOf 103 = .ok (.iload 4, 2) := by decide +kernel
theorem dX12_bestOf_105 : decode cX12_bestOf 105 = .ok (.ishl, 1) := by decide +kernel
theorem dX12_bestOf_106 : decode cX12_bestOf 106 = .ok (.iconst (-1), 1) := by decide +kernel
theorem dX12_bestOf_107 : decode cX12_bestOf 107 = .ok (.ixor, 1) := by decide +kernel
theorem dX12_bestOf_108 : decode cX12_bestOf 108 = .ok (.iand, 1) := by decide +kernel
theorem dX12_bestOf_109 : decode cX12_bestOf 109 = .ok (.iaload, 1) := by decide +kernel
theorem dX12_bestOf_110 : decode cX12_bestOf 110 = .ok (.iadd, 1) := by decide +kernel
theorem dX12_bestOf_111 : decode cX12_bestOf 111 = .ok (.istore_n 3, 1) := by decide +kernel
theorem dX12_bestOf_112 : decode cX12_bestOf 112 = .ok (.iinc 4 1, 3) := by decide +kernel
theorem dX12_bestOf_115 : decode cX12_bestOf 115 = .ok (.goto (-105), 3) := by decide +kernel
theorem dX12_bestOf_118 : decode cX12_bestOf 118 = .ok (.iload_n 3, 1) := by decide +kernel
theorem dX12_bestOf_119 : decode cX12_bestOf 119 = .ok (.ifCond .ge 7, 3) := by decide +kernel
theorem dX12_bestOf_122 : decode cX12_bestOf 122 = .ok (.iconst 0, 1) := by decide +kernel
theorem dX12_bestOf_123 : decode cX12_bestOf 123 = .ok (.goto 4, 3) := by decide +kernel
theorem dX12_bestOf_126 : decode cX12_bestOf 126 = .ok (.iload_n 3, 1) := by decide +kernel
theorem dX12_bestOf_127 : decode cX12_bestOf 127 = .ok (.ireturn, 1) := by decide +kernel
theorem dX12_partnerOf_0 : decode cX12_partnerOf 0 = .ok (.iload_n 1, 1) := by decide +kernel
theorem dX12_partnerOf_1 : decode cX12_partnerOf 1 = .ok (.invokestatic 191, 3) := by decide +kernel
theorem dX12_partnerOf_4 : decode cX12_partnerOf 4 = .ok (.istore_n 2, 1) := by decide +kernel
theorem dX12_partnerOf_5 : decode cX12_partnerOf 5 = .ok (.iload_n 2, 1) := by decide +kernel
theorem dX12_partnerOf_6 : decode cX12_partnerOf 6 = .ok (.iconst 1, 1) := by decide +kernel
theorem dX12_partnerOf_7 : decode cX12_partnerOf 7 = .ok (.iadd, 1) := by decide +kernel
theorem dX12_partnerOf_8 : decode cX12_partnerOf 8 = .ok (.istore_n 3, 1) := by decide +kernel
theorem dX12_partnerOf_9 : decode cX12_partnerOf 9 = .ok (.iload_n 3, 1) := by decide +kernel
theorem dX12_partnerOf_10 : decode cX12_partnerOf 10 = .ok (.aload_n 0, 1) := by decide +kernel
theorem dX12_partnerOf_11 : decode cX12_partnerOf 11 = .ok (.getfield 9, 3) := by decide +kernel
theorem dX12_partnerOf_14 : decode cX12_partnerOf 14 = .ok (.iconst 0, 1) := by decide +kernel
theorem dX12_partnerOf_15 : decode cX12_partnerOf 15 = .ok (.iaload, 1) := by decide +kernel
theorem dX12_partnerOf_16 : decode cX12_partnerOf 16 = .ok (.if_icmp .ge 71, 3) := by decide +kernel
theorem dX12_partnerOf_19 : decode cX12_partnerOf 19 = .ok (.iload_n 1, 1) := by decide +kernel
theorem dX12_partnerOf_20 : decode cX12_partnerOf 20 = .ok (.iload_n 3, 1) := by decide +kernel
theorem dX12_partnerOf_21 : decode cX12_partnerOf 21 = .ok (.invokestatic 68, 3) := by decide +kernel
theorem dX12_partnerOf_24 : decode cX12_partnerOf 24 = .ok (.ifCond .eq 17, 3) := by decide +kernel
theorem dX12_partnerOf_27 : decode cX12_partnerOf 27 = .ok (.aload_n 0, 1) := by decide +kernel
theorem dX12_partnerOf_28 : decode cX12_partnerOf 28 = .ok (.getfield 25, 3) := by decide +kernel
theorem dX12_partnerOf_31 : decode cX12_partnerOf 31 = .ok (.bipush 7, 2) := by decide +kernel
theorem dX12_partnerOf_33 : decode cX12_partnerOf 33 = .ok (.iload_n 2, 1) := by decide +kernel
theorem dX12_partnerOf_34 : decode cX12_partnerOf 34 = .ok (.imul, 1) := by decide +kernel
theorem dX12_partnerOf_35 : decode cX12_partnerOf 35 = .ok (.iload_n 3, 1) := by decide +kernel
theorem dX12_partnerOf_36 : decode cX12_partnerOf 36 = .ok (.iadd, 1) := by decide +kernel
theorem dX12_partnerOf_37 : decode cX12_partnerOf 37 = .ok (.iaload, 1) := by decide +kernel
theorem dX12_partnerOf_38 : decode cX12_partnerOf 38 = .ok (.goto 4, 3) := by decide +kernel
theorem dX12_partnerOf_41 : decode cX12_partnerOf 41 = .ok (.iconst (-1), 1) := by decide +kernel
theorem dX12_partnerOf_42 : decode cX12_partnerOf 42 = .ok (.istore 4, 2) := by decide +kernel
theorem dX12_partnerOf_44 : decode cX12_partnerOf 44 = .ok (.iload 4, 2) := by decide +kernel
theorem dX12_partnerOf_46 : decode cX12_partnerOf 46 = .ok (.ifCond .lt 35, 3) := by decide +kernel
theorem dX12_partnerOf_49 : decode cX12_partnerOf 49 = .ok (.iload 4, 2) := by decide +kernel
theorem dX12_partnerOf_51 : decode cX12_partnerOf 51 = .ok (.aload_n 0, 1) := by decide +kernel
theorem dX12_partnerOf_52 : decode cX12_partnerOf 52 = .ok (.getfield 28, 3) := by decide +kernel
theorem dX12_partnerOf_55 : decode cX12_partnerOf 55 = .ok (.iload_n 1, 1) := by decide +kernel
theorem dX12_partnerOf_56 : decode cX12_partnerOf 56 = .ok (.iconst 1, 1) := by decide +kernel
theorem dX12_partnerOf_57 : decode cX12_partnerOf 57 = .ok (.iload_n 2, 1) := by decide +kernel
theorem dX12_partnerOf_58 : decode cX12_partnerOf 58 = .ok (.ishl, 1) := by decide +kernel
theorem dX12_partnerOf_59 : decode cX12_partnerOf 59 = .ok (.iconst (-1), 1) := by decide +kernel
theorem dX12_partnerOf_60 : decode cX12_partnerOf 60 = .ok (.ixor, 1) := by decide +kernel
theorem dX12_partnerOf_61 : decode cX12_partnerOf 61 = .ok (.iand, 1) := by decide +kernel
theorem dX12_partnerOf_62 : decode cX12_partnerOf 62 = .ok (.iconst 1, 1) := by decide +kernel
theorem dX12_partnerOf_63 : decode cX12_partnerOf 63 = .ok (.iload_n 3, 1) := by decide +kernel
theorem dX12_partnerOf_64 : decode cX12_partnerOf 64 = .ok (.ishl, 1) := by decide +kernel
theorem dX12_partnerOf_65 : decode cX12_partnerOf 65 = .ok (.iconst (-1), 1) := by decide +kernel
theorem dX12_partnerOf_66 : decode cX12_partnerOf 66 = .ok (.ixor, 1) := by decide +kernel
theorem dX12_partnerOf_67 : decode cX12_partnerOf 67 = .ok (.iand, 1) := by decide +kernel
theorem dX12_partnerOf_68 : decode cX12_partnerOf 68 = .ok (.iaload, 1) := by decide +kernel
theorem dX12_partnerOf_69 : decode cX12_partnerOf 69 = .ok (.iadd, 1) := by decide +kernel
theorem dX12_partnerOf_70 : decode cX12_partnerOf 70 = .ok (.aload_n 0, 1) := by decide +kernel
theorem dX12_partnerOf_71 : decode cX12_partnerOf 71 = .ok (.getfield 28, 3) := by decide +kernel
theorem dX12_partnerOf_74 : decode cX12_partnerOf 74 = .ok (.iload_n 1, 1) := by decide +kernel
theorem dX12_partnerOf_75 : decode cX12_partnerOf 75 = .ok (.iaload, 1) := by decide +kernel
theorem dX12_partnerOf_76 : decode cX12_partnerOf 76 = .ok (.if_icmp .ne 5, 3) := by decide +kernel
theorem dX12_partnerOf_79 : decode cX12_partnerOf 79 = .ok (.iload_n 3, 1) := by decide +kernel
theorem dX12_partnerOf_80 : decode cX12_partnerOf 80 = .ok (.ireturn, 1) := by decide +kernel
theorem dX12_partnerOf_81 : decode cX12_partnerOf 81 = .ok (.iinc 3 1, 3) := by decide +kernel
theorem dX12_partnerOf_84 : decode cX12_partnerOf 84 = .ok (.goto (-75), 3) := by decide +kernel
theorem dX12_partnerOf_87 : decode cX12_partnerOf 87 = .ok (.bipush (-4), 2) := by decide +kernel
theorem dX12_partnerOf_89 : decode cX12_partnerOf 89 = .ok (.ireturn, 1) := by decide +kernel
theorem dX12_pairs_0 : decode cX12_pairs 0 = .ok (.iload_n 1, 1) := by decide +kernel
theorem dX12_pairs_1 : decode cX12_pairs 1 = .ok (.iconst (-1), 1) := by decide +kernel
theorem dX12_pairs_2 : decode cX12_pairs 2 = .ok (.if_icmp .eq 13, 3) := by decide +kernel
theorem dX12_pairs_5 : decode cX12_pairs 5 = .ok (.aload_n 0, 1) := by decide +kernel
theorem dX12_pairs_6 : decode cX12_pairs 6 = .ok (.iload_n 1, 1) := by decide +kernel
theorem dX12_pairs_7 : decode cX12_pairs 7 = .ok (.invokevirtual 113, 3) := by decide +kernel
theorem dX12_pairs_10 : decode cX12_pairs 10 = .ok (.ifCond .ne 5, 3) := by decide +kernel
theorem dX12_pairs_13 : decode cX12_pairs 13 = .ok (.iconst (-1), 1) := by decide +kernel
theorem dX12_pairs_14 : decode cX12_pairs 14 = .ok (.ireturn, 1) := by decide +kernel
theorem dX12_pairs_15 : decode cX12_pairs 15 = .ok (.aload_n 0, 1) := by decide +kernel
theorem dX12_pairs_16 : decode cX12_pairs 16 = .ok (.invokevirtual 194, 3) := by decide +kernel
theorem dX12_pairs_19 : decode cX12_pairs 19 = .ok (.aload_n 0, 1) := by decide +kernel
theorem dX12_pairs_20 : decode cX12_pairs 20 = .ok (.getfield 9, 3) := by decide +kernel
theorem dX12_pairs_23 : decode cX12_pairs 23 = .ok (.invokestatic 162, 3) := by decide +kernel
theorem dX12_pairs_26 : decode cX12_pairs 26 = .ok (.istore_n 2, 1) := by decide +kernel
theorem dX12_pairs_27 : decode cX12_pairs 27 = .ok (.iload_n 1, 1) := by decide +kernel
theorem dX12_pairs_28 : decode cX12_pairs 28 = .ok (.ifCond .ge 10, 3) := by decide +kernel
theorem dX12_pairs_31 : decode cX12_pairs 31 = .ok (.aload_n 0, 1) := by decide +kernel
theorem dX12_pairs_32 : decode cX12_pairs 32 = .ok (.getfield 28, 3) := by decide +kernel
theorem dX12_pairs_35 : decode cX12_pairs 35 = .ok (.iload_n 2, 1) := by decide +kernel
theorem dX12_pairs_36 : decode cX12_pairs 36 = .ok (.iaload, 1) := by decide +kernel
theorem dX12_pairs_37 : decode cX12_pairs 37 = .ok (.ireturn, 1) := by decide +kernel
theorem dX12_pairs_38 : decode cX12_pairs 38 = .ok (.iload_n 2, 1) := by decide +kernel
theorem dX12_pairs_39 : decode cX12_pairs 39 = .ok (.ifCond .eq 60, 3) := by decide +kernel
theorem dX12_pairs_42 : decode cX12_pairs 42 = .ok (.iload_n 2, 1) := by decide +kernel
theorem dX12_pairs_43 : decode cX12_pairs 43 = .ok (.invokestatic 191, 3) := by decide +kernel
theorem dX12_pairs_46 : decode cX12_pairs 46 = .ok (.istore_n 3, 1) := by decide +kernel
theorem dX12_pairs_47 : decode cX12_pairs 47 = .ok (.aload_n 0, 1) := by decide +kernel
theorem dX12_pairs_48 : decode cX12_pairs 48 = .ok (.iload_n 2, 1) := by decide +kernel
theorem dX12_pairs_49 : decode cX12_pairs 49 = .ok (.invokevirtual 197, 3) := by decide +kernel
theorem dX12_pairs_52 : decode cX12_pairs 52 = .ok (.istore 4, 2) := by decide +kernel
theorem dX12_pairs_54 : decode cX12_pairs 54 = .ok (.iload_n 3, 1) := by decide +kernel
theorem dX12_pairs_55 : decode cX12_pairs 55 = .ok (.iload_n 1, 1) := by decide +kernel
theorem dX12_pairs_56 : decode cX12_pairs 56 = .ok (.if_icmp .ne 6, 3) := by decide +kernel
theorem dX12_pairs_59 : decode cX12_pairs 59 = .ok (.iload 4, 2) := by decide +kernel
theorem dX12_pairs_61 : decode cX12_pairs 61 = .ok (.ireturn, 1) := by decide +kernel
theorem dX12_pairs_62 : decode cX12_pairs 62 = .ok (.iload 4, 2) := by decide +kernel
theorem dX12_pairs_64 : decode cX12_pairs 64 = .ok (.iload_n 1, 1) := by decide +kernel
theorem dX12_pairs_65 : decode cX12_pairs 65 = .ok (.if_icmp .ne 5, 3) := by decide +kernel
theorem dX12_pairs_68 : decode cX12_pairs 68 = .ok (.iload_n 3, 1) := by decide +kernel
theorem dX12_pairs_69 : decode cX12_pairs 69 = .ok (.ireturn, 1) := by decide +kernel
theorem dX12_pairs_70 : decode cX12_pairs 70 = .ok (.iload_n 2, 1) := by decide +kernel
theorem dX12_pairs_71 : decode cX12_pairs 71 = .ok (.iload 4, 2) := by decide +kernel
theorem dX12_pairs_73 : decode cX12_pairs 73 = .ok (.ifCond .ge 11, 3) := by decide +kernel
theorem dX12_pairs_76 : decode cX12_pairs 76 = .ok (.iconst 1, 1) := by decide +kernel
theorem dX12_pairs_77 : decode cX12_pairs 77 = .ok (.iload_n 3, 1) := by decide +kernel
theorem dX12_pairs_78 : decode cX12_pairs 78 = .ok (.ishl, 1) := by decide +kernel
theorem dX12_pairs_79 : decode cX12_pairs 79 = .ok (.iconst (-1), 1) := by decide +kernel
theorem dX12_pairs_80 : decode cX12_pairs 80 = .ok (.ixor, 1) := by decide +kernel
theorem dX12_pairs_81 : decode cX12_pairs 81 = .ok (.goto 13, 3) := by decide +kernel
theorem dX12_pairs_84 : decode cX12_pairs 84 = .ok (.iconst 1, 1) := by decide +kernel
theorem dX12_pairs_85 : decode cX12_pairs 85 = .ok (.iload_n 3, 1) := by decide +kernel
theorem dX12_pairs_86 : decode cX12_pairs 86 = .ok (.ishl, 1) := by decide +kernel
theorem dX12_pairs_87 : decode cX12_pairs 87 = .ok (.iconst 1, 1) := by decide +kernel
theorem dX12_pairs_88 : decode cX12_pairs 88 = .ok (.iload 4, 2) := by decide +kernel
theorem dX12_pairs_90 : decode cX12_pairs 90 = .ok (.ishl, 1) := by decide +kernel
theorem dX12_pairs_91 : decode cX12_pairs 91 = .ok (.ior, 1) := by decide +kernel
theorem dX12_pairs_92 : decode cX12_pairs 92 = .ok (.iconst (-1), 1) := by decide +kernel
theorem dX12_pairs_93 : decode cX12_pairs 93 = .ok (.ixor, 1) := by decide +kernel
theorem dX12_pairs_94 : decode cX12_pairs 94 = .ok (.iand, 1) := by decide +kernel
theorem dX12_pairs_95 : decode cX12_pairs 95 = .ok (.istore_n 2, 1) := by decide +kernel
theorem dX12_pairs_96 : decode cX12_pairs 96 = .ok (.goto (-58), 3) := by decide +kernel
theorem dX12_pairs_99 : decode cX12_pairs 99 = .ok (.bipush (-4), 2) := by decide +kernel
theorem dX12_pairs_101 : decode cX12_pairs 101 = .ok (.ireturn, 1) := by decide +kernel
theorem dX12_ledger_0 : decode cX12_ledger 0 = .ok (.iconst 0, 1) := by decide +kernel
theorem dX12_ledger_1 : decode cX12_ledger 1 = .ok (.istore_n 1, 1) := by decide +kernel
theorem dX12_ledger_2 : decode cX12_ledger 2 = .ok (.iconst 0, 1) := by decide +kernel
theorem dX12_ledger_3 : decode cX12_ledger 3 = .ok (.istore_n 2, 1) := by decide +kernel
theorem dX12_ledger_4 : decode cX12_ledger 4 = .ok (.iload_n 2, 1) := by decide +kernel
theorem dX12_ledger_5 : decode cX12_ledger 5 = .ok (.aload_n 0, 1) := by decide +kernel
theorem dX12_ledger_6 : decode cX12_ledger 6 = .ok (.getfield 9, 3) := by decide +kernel
theorem dX12_ledger_9 : decode cX12_ledger 9 = .ok (.iconst 0, 1) := by decide +kernel
theorem dX12_ledger_10 : decode cX12_ledger 10 = .ok (.iaload, 1) := by decide +kernel
theorem dX12_ledger_11 : decode cX12_ledger 11 = .ok (.if_icmp .ge 48, 3) := by decide +kernel
theorem dX12_ledger_14 : decode cX12_ledger 14 = .ok (.iload_n 1, 1) := by decide +kernel
theorem dX12_ledger_15 : decode cX12_ledger 15 = .ok (.aload_n 0, 1) := by decide +kernel
theorem dX12_ledger_16 : decode cX12_ledger 16 = .ok (.getfield 9, 3) := by decide +kernel
theorem dX12_ledger_19 : decode cX12_ledger 19 = .ok (.iload_n 2, 1) := by decide +kernel
theorem dX12_ledger_20 : decode cX12_ledger 20 = .ok (.invokestatic 61, 3) := by decide +kernel
theorem dX12_ledger_23 : decode cX12_ledger 23 = .ok (.ifCond .eq 27, 3) := by decide +kernel
theorem dX12_ledger_26 : decode cX12_ledger 26 = .ok (.aload_n 0, 1) := by decide +kernel
theorem dX12_ledger_27 : decode cX12_ledger 27 = .ok (.getfield 9, 3) := by decide +kernel
theorem dX12_ledger_30 : decode cX12_ledger 30 = .ok (.iload_n 2, 1) := by decide +kernel
theorem dX12_ledger_31 : decode cX12_ledger 31 = .ok (.iconst 3, 1) := by decide +kernel
theorem dX12_ledger_32 : decode cX12_ledger 32 = .ok (.invokestatic 53, 3) := by decide +kernel
theorem dX12_ledger_35 : decode cX12_ledger 35 = .ok (.iaload, 1) := by decide +kernel
theorem dX12_ledger_36 : decode cX12_ledger 36 = .ok (.aload_n 0, 1) := by decide +kernel
theorem dX12_ledger_37 : decode cX12_ledger 37 = .ok (.getfield 9, 3) := by decide +kernel
theorem dX12_ledger_40 : decode cX12_ledger 40 = .ok (.iload_n 2, 1) := by decide +kernel
theorem dX12_ledger_41 : decode cX12_ledger 41 = .ok (.iconst 2, 1) := by decide +kernel
theorem dX12_ledger_42 : decode cX12_ledger 42 = .ok (.invokestatic 53, 3) := by decide +kernel
theorem dX12_ledger_45 : decode cX12_ledger 45 = .ok (.iaload, 1) := by decide +kernel
theorem dX12_ledger_46 : decode cX12_ledger 46 = .ok (.isub, 1) := by decide +kernel
theorem dX12_ledger_47 : decode cX12_ledger 47 = .ok (.goto 4, 3) := by decide +kernel
theorem dX12_ledger_50 : decode cX12_ledger 50 = .ok (.iconst 0, 1) := by decide +kernel
theorem dX12_ledger_51 : decode cX12_ledger 51 = .ok (.iadd, 1) := by decide +kernel
theorem dX12_ledger_52 : decode cX12_ledger 52 = .ok (.istore_n 1, 1) := by decide +kernel
theorem dX12_ledger_53 : decode cX12_ledger 53 = .ok (.iinc 2 1, 3) := by decide +kernel
theorem dX12_ledger_56 : decode cX12_ledger 56 = .ok (.goto (-52), 3) := by decide +kernel
theorem dX12_ledger_59 : decode cX12_ledger 59 = .ok (.iload_n 1, 1) := by decide +kernel
theorem dX12_ledger_60 : decode cX12_ledger 60 = .ok (.ireturn, 1) := by decide +kernel
theorem dX12_sameOnes_0 : decode cX12_sameOnes 0 = .ok (.iconst 0, 1) := by decide +kernel
theorem dX12_sameOnes_1 : decode cX12_sameOnes 1 = .ok (.istore_n 1, 1) := by decide +kernel
theorem dX12_sameOnes_2 : decode cX12_sameOnes 2 = .ok (.iconst 0, 1) := by decide +kernel
theorem dX12_sameOnes_3 : decode cX12_sameOnes 3 = .ok (.istore_n 2, 1) := by decide +kernel
theorem dX12_sameOnes_4 : decode cX12_sameOnes 4 = .ok (.iload_n 2, 1) := by decide +kernel
theorem dX12_sameOnes_5 : decode cX12_sameOnes 5 = .ok (.aload_n 0, 1) := by decide +kernel
theorem dX12_sameOnes_6 : decode cX12_sameOnes 6 = .ok (.getfield 9, 3) := by decide +kernel
theorem dX12_sameOnes_9 : decode cX12_sameOnes 9 = .ok (.iconst 0, 1) := by decide +kernel
theorem dX12_sameOnes_10 : decode cX12_sameOnes 10 = .ok (.iaload, 1) := by decide +kernel
theorem dX12_sameOnes_11 : decode cX12_sameOnes 11 = .ok (.if_icmp .ge 82, 3) := by decide +kernel
theorem dX12_sameOnes_14 : decode cX12_sameOnes 14 = .ok (.iload_n 2, 1) := by decide +kernel
theorem dX12_sameOnes_15 : decode cX12_sameOnes 15 = .ok (.iconst 1, 1) := by decide +kernel
theorem dX12_sameOnes_16 : decode cX12_sameOnes 16 = .ok (.iadd, 1) := by decide +kernel
theorem dX12_sameOnes_17 : decode cX12_sameOnes 17 = .ok (.istore_n 3, 1) := by decide +kernel
theorem dX12_sameOnes_18 : decode cX12_sameOnes 18 = .ok (.iload_n 3, 1) := by decide +kernel
theorem dX12_sameOnes_19 : decode cX12_sameOnes 19 = .ok (.aload_n 0, 1) := by decide +kernel
theorem dX12_sameOnes_20 : decode cX12_sameOnes 20 = .ok (.getfield 9, 3) := by decide +kernel
theorem dX12_sameOnes_23 : decode cX12_sameOnes 23 = .ok (.iconst 0, 1) := by decide +kernel
theorem dX12_sameOnes_24 : decode cX12_sameOnes 24 = .ok (.iaload, 1) := by decide +kernel
theorem dX12_sameOnes_25 : decode cX12_sameOnes 25 = .ok (.if_icmp .ge 62, 3) := by decide +kernel
theorem dX12_sameOnes_28 : decode cX12_sameOnes 28 = .ok (.iload_n 1, 1) := by decide +kernel
theorem dX12_sameOnes_29 : decode cX12_sameOnes 29 = .ok (.aload_n 0, 1) := by decide +kernel
theorem dX12_sameOnes_30 : decode cX12_sameOnes 30 = .ok (.getfield 9, 3) := by decide +kernel
theorem dX12_sameOnes_33 : decode cX12_sameOnes 33 = .ok (.iload_n 2, 1) := by decide +kernel
theorem dX12_sameOnes_34 : decode cX12_sameOnes 34 = .ok (.invokestatic 61, 3) := by decide +kernel
theorem dX12_sameOnes_37 : decode cX12_sameOnes 37 = .ok (.ifCond .eq 41, 3) := by decide +kernel
theorem dX12_sameOnes_40 : decode cX12_sameOnes 40 = .ok (.aload_n 0, 1) := by decide +kernel
theorem dX12_sameOnes_41 : decode cX12_sameOnes 41 = .ok (.getfield 9, 3) := by decide +kernel
theorem dX12_sameOnes_44 : decode cX12_sameOnes 44 = .ok (.iload_n 3, 1) := by decide +kernel
theorem dX12_sameOnes_45 : decode cX12_sameOnes 45 = .ok (.invokestatic 61, 3) := by decide +kernel
theorem dX12_sameOnes_48 : decode cX12_sameOnes 48 = .ok (.ifCond .eq 30, 3) := by decide +kernel
theorem dX12_sameOnes_51 : decode cX12_sameOnes 51 = .ok (.aload_n 0, 1) := by decide +kernel
theorem dX12_sameOnes_52 : decode cX12_sameOnes 52 = .ok (.getfield 9, 3) := by decide +kernel
theorem dX12_sameOnes_55 : decode cX12_sameOnes 55 = .ok (.iload_n 2, 1) := by decide +kernel
theorem dX12_sameOnes_56 : decode cX12_sameOnes 56 = .ok (.iconst 2, 1) := by decide +kernel
theorem dX12_sameOnes_57 : decode cX12_sameOnes 57 = .ok (.invokestatic 53, 3) := by decide +kernel
theorem dX12_sameOnes_60 : decode cX12_sameOnes 60 = .ok (.iaload, 1) := by decide +kernel
theorem dX12_sameOnes_61 : decode cX12_sameOnes 61 = .ok (.aload_n 0, 1) := by decide +kernel
theorem dX12_sameOnes_62 : decode cX12_sameOnes 62 = .ok (.getfield 9, 3) := by decide +kernel
theorem dX12_sameOnes_65 : decode cX12_sameOnes 65 = .ok (.iload_n 3, 1) := by decide +kernel
theorem dX12_sameOnes_66 : decode cX12_sameOnes 66 = .ok (.iconst 2, 1) := by decide +kernel
theorem dX12_sameOnes_67 : decode cX12_sameOnes 67 = .ok (.invokestatic 53, 3) := by decide +kernel
theorem dX12_sameOnes_70 : decode cX12_sameOnes 70 = .ok (.iaload, 1) := by decide +kernel
theorem dX12_sameOnes_71 : decode cX12_sameOnes 71 = .ok (.if_icmp .ne 7, 3) := by decide +kernel
theorem dX12_sameOnes_74 : decode cX12_sameOnes 74 = .ok (.iconst 1, 1) := by decide +kernel
theorem dX12_sameOnes_75 : decode cX12_sameOnes 75 = .ok (.goto 4, 3) := by decide +kernel
theorem dX12_sameOnes_78 : decode cX12_sameOnes 78 = .ok (.iconst 0, 1) := by decide +kernel
theorem dX12_sameOnes_79 : decode cX12_sameOnes 79 = .ok (.iadd, 1) := by decide +kernel
theorem dX12_sameOnes_80 : decode cX12_sameOnes 80 = .ok (.istore_n 1, 1) := by decide +kernel
theorem dX12_sameOnes_81 : decode cX12_sameOnes 81 = .ok (.iinc 3 1, 3) := by decide +kernel
theorem dX12_sameOnes_84 : decode cX12_sameOnes 84 = .ok (.goto (-66), 3) := by decide +kernel
theorem dX12_sameOnes_87 : decode cX12_sameOnes 87 = .ok (.iinc 2 1, 3) := by decide +kernel
theorem dX12_sameOnes_90 : decode cX12_sameOnes 90 = .ok (.goto (-86), 3) := by decide +kernel
theorem dX12_sameOnes_93 : decode cX12_sameOnes 93 = .ok (.iload_n 1, 1) := by decide +kernel
theorem dX12_sameOnes_94 : decode cX12_sameOnes 94 = .ok (.ireturn, 1) := by decide +kernel
theorem dX12_tears_0 : decode cX12_tears 0 = .ok (.iload_n 1, 1) := by decide +kernel
theorem dX12_tears_1 : decode cX12_tears 1 = .ok (.iconst 0, 1) := by decide +kernel
theorem dX12_tears_2 : decode cX12_tears 2 = .ok (.iconst 3, 1) := by decide +kernel
theorem dX12_tears_3 : decode cX12_tears 3 = .ok (.invokestatic 49, 3) := by decide +kernel
theorem dX12_tears_6 : decode cX12_tears 6 = .ok (.ifCond .ne 5, 3) := by decide +kernel
theorem dX12_tears_9 : decode cX12_tears 9 = .ok (.iconst (-1), 1) := by decide +kernel
theorem dX12_tears_10 : decode cX12_tears 10 = .ok (.ireturn, 1) := by decide +kernel
theorem dX12_tears_11 : decode cX12_tears 11 = .ok (.iload_n 1, 1) := by decide +kernel
theorem dX12_tears_12 : decode cX12_tears 12 = .ok (.iconst 1, 1) := by decide +kernel
theorem dX12_tears_13 : decode cX12_tears 13 = .ok (.if_icmp .ne 8, 3) := by decide +kernel
theorem dX12_tears_16 : decode cX12_tears 16 = .ok (.aload_n 0, 1) := by decide +kernel
theorem dX12_tears_17 : decode cX12_tears 17 = .ok (.invokevirtual 200, 3) := by decide +kernel
theorem dX12_tears_20 : decode cX12_tears 20 = .ok (.ireturn, 1) := by decide +kernel
theorem dX12_tears_21 : decode cX12_tears 21 = .ok (.aload_n 0, 1) := by decide +kernel
theorem dX12_tears_22 : decode cX12_tears 22 = .ok (.iconst 1, 1) := by decide +kernel
theorem dX12_tears_23 : decode cX12_tears 23 = .ok (.invokevirtual 158, 3) := by decide +kernel
theorem dX12_tears_26 : decode cX12_tears 26 = .ok (.iconst 0, 1) := by decide +kernel
theorem dX12_tears_27 : decode cX12_tears 27 = .ok (.istore_n 2, 1) := by decide +kernel
theorem dX12_tears_28 : decode cX12_tears 28 = .ok (.iconst 0, 1) := by decide +kernel
theorem dX12_tears_29 : decode cX12_tears 29 = .ok (.istore_n 3, 1) := by decide +kernel
theorem dX12_tears_30 : decode cX12_tears 30 = .ok (.iconst 0, 1) := by decide +kernel
theorem dX12_tears_31 : decode cX12_tears 31 = .ok (.istore 4, 2) := by decide +kernel
theorem dX12_tears_33 : decode cX12_tears 33 = .ok (.iload 4, 2) := by decide +kernel
theorem dX12_tears_35 : decode cX12_tears 35 = .ok (.aload_n 0, 1) := by decide +kernel
theorem dX12_tears_36 : decode cX12_tears 36 = .ok (.getfield 9, 3) := by decide +kernel
theorem dX12_tears_39 : decode cX12_tears 39 = .ok (.iconst 0, 1) := by decide +kernel
theorem dX12_tears_40 : decode cX12_tears 40 = .ok (.iaload, 1) := by decide +kernel
theorem dX12_tears_41 : decode cX12_tears 41 = .ok (.if_icmp .ge 82, 3) := by decide +kernel
theorem dX12_tears_44 : decode cX12_tears 44 = .ok (.aload_n 0, 1) := by decide +kernel
theorem dX12_tears_45 : decode cX12_tears 45 = .ok (.getfield 9, 3) := by decide +kernel
theorem dX12_tears_48 : decode cX12_tears 48 = .ok (.iload 4, 2) := by decide +kernel
theorem dX12_tears_50 : decode cX12_tears 50 = .ok (.invokestatic 61, 3) := by decide +kernel
theorem dX12_tears_53 : decode cX12_tears 53 = .ok (.ifCond .ne 6, 3) := by decide +kernel
theorem dX12_tears_56 : decode cX12_tears 56 = .ok (.goto 61, 3) := by decide +kernel
theorem dX12_tears_59 : decode cX12_tears 59 = .ok (.iload_n 3, 1) := by decide +kernel
theorem dX12_tears_60 : decode cX12_tears 60 = .ok (.aload_n 0, 1) := by decide +kernel
theorem dX12_tears_61 : decode cX12_tears 61 = .ok (.getfield 9, 3) := by decide +kernel
theorem dX12_tears_64 : decode cX12_tears 64 = .ok (.iload 4, 2) := by decide +kernel
theorem dX12_tears_66 : decode cX12_tears 66 = .ok (.iconst 4, 1) := by decide +kernel
theorem dX12_tears_67 : decode cX12_tears 67 = .ok (.invokestatic 53, 3) := by decide +kernel
theorem dX12_tears_70 : decode cX12_tears 70 = .ok (.iaload, 1) := by decide +kernel
theorem dX12_tears_71 : decode cX12_tears 71 = .ok (.iadd, 1) := by decide +kernel
theorem dX12_tears_72 : decode cX12_tears 72 = .ok (.istore_n 3, 1) := by decide +kernel
theorem dX12_tears_73 : decode cX12_tears 73 = .ok (.iload_n 2, 1) := by decide +kernel
theorem dX12_tears_74 : decode cX12_tears 74 = .ok (.iload_n 1, 1) := by decide +kernel
theorem dX12_tears_75 : decode cX12_tears 75 = .ok (.ifCond .ne 20, 3) := by decide +kernel
theorem dX12_tears_78 : decode cX12_tears 78 = .ok (.aload_n 0, 1) := by decide +kernel
theorem dX12_tears_79 : decode cX12_tears 79 = .ok (.getfield 9, 3) := by decide +kernel
theorem dX12_tears_82 : decode cX12_tears 82 = .ok (.iload 4, 2) := by decide +kernel
theorem dX12_tears_84 : decode cX12_tears 84 = .ok (.iconst 4, 1) := by decide +kernel
theorem dX12_tears_85 : decode cX12_tears 85 = .ok (.invokestatic 53, 3) := by decide +kernel
theorem dX12_tears_88 : decode cX12_tears 88 = .ok (.iaload, 1) := by decide +kernel
theorem dX12_tears_89 : decode cX12_tears 89 = .ok (.ifCond .ne 25, 3) := by decide +kernel
theorem dX12_tears_92 : decode cX12_tears 92 = .ok (.goto 15, 3) := by decide +kernel
theorem dX12_tears_95 : decode cX12_tears 95 = .ok (.aload_n 0, 1) := by decide +kernel
theorem dX12_tears_96 : decode cX12_tears 96 = .ok (.getfield 13, 3) := by decide +kernel
theorem dX12_tears_99 : decode cX12_tears 99 = .ok (.iload 4, 2) := by decide +kernel
theorem dX12_tears_101 : decode cX12_tears 101 = .ok (.invokestatic 61, 3) := by decide +kernel
theorem dX12_tears_104 : decode cX12_tears 104 = .ok (.ifCond .ne 10, 3) := by decide +kernel
theorem dX12_tears_107 : decode cX12_tears 107 = .ok (.iconst 1, 1) := by decide +kernel
theorem dX12_tears_108 : decode cX12_tears 108 = .ok (.iload 4, 2) := by decide +kernel
theorem dX12_tears_110 : decode cX12_tears 110 = .ok (.ishl, 1) := by decide +kernel
theorem dX12_tears_111 : decode cX12_tears 111 = .ok (.goto 4, 3) := by decide +kernel
theorem dX12_tears_114 : decode cX12_tears 114 = .ok (.iconst 0, 1) := by decide +kernel
theorem dX12_tears_115 : decode cX12_tears 115 = .ok (.ior, 1) := by decide +kernel
theorem dX12_tears_116 : decode cX12_tears 116 = .ok (.istore_n 2, 1) := by decide +kernel
theorem dX12_tears_117 : decode cX12_tears 117 = .ok (.iinc 4 1, 3) := by decide +kernel
theorem dX12_tears_120 : decode cX12_tears 120 = .ok (.goto (-87), 3) := by decide +kernel
theorem dX12_tears_123 : decode cX12_tears 123 = .ok (.iload_n 1, 1) := by decide +kernel
theorem dX12_tears_124 : decode cX12_tears 124 = .ok (.iconst 3, 1) := by decide +kernel
theorem dX12_tears_125 : decode cX12_tears 125 = .ok (.if_icmp .ne 7, 3) := by decide +kernel
theorem dX12_tears_128 : decode cX12_tears 128 = .ok (.iload_n 3, 1) := by decide +kernel
theorem dX12_tears_129 : decode cX12_tears 129 = .ok (.goto 4, 3) := by decide +kernel
theorem dX12_tears_132 : decode cX12_tears 132 = .ok (.iload_n 2, 1) := by decide +kernel
theorem dX12_tears_133 : decode cX12_tears 133 = .ok (.ireturn, 1) := by decide +kernel
theorem dX12_leastOf_0 : decode cX12_leastOf 0 = .ok (.iload_n 0, 1) := by decide +kernel
theorem dX12_leastOf_1 : decode cX12_leastOf 1 = .ok (.ifCond .ne 8, 3) := by decide +kernel
theorem dX12_leastOf_4 : decode cX12_leastOf 4 = .ok (.bipush (-128), 2) := by decide +kernel
theorem dX12_leastOf_6 : decode cX12_leastOf 6 = .ok (.goto 16, 3) := by decide +kernel
theorem dX12_leastOf_9 : decode cX12_leastOf 9 = .ok (.iload_n 0, 1) := by decide +kernel
theorem dX12_leastOf_10 : decode cX12_leastOf 10 = .ok (.iconst 1, 1) := by decide +kernel
theorem dX12_leastOf_11 : decode cX12_leastOf 11 = .ok (.if_icmp .ne 9, 3) := by decide +kernel
theorem dX12_leastOf_14 : decode cX12_leastOf 14 = .ok (.sipush (-32768), 3) := by decide +kernel
theorem dX12_leastOf_17 : decode cX12_leastOf 17 = .ok (.goto 5, 3) := by decide +kernel
theorem dX12_leastOf_20 : decode cX12_leastOf 20 = .ok (.ldc 203, 2) := by decide +kernel
theorem dX12_leastOf_22 : decode cX12_leastOf 22 = .ok (.ireturn, 1) := by decide +kernel
theorem dX12_isTold_0 : decode cX12_isTold 0 = .ok (.aload_n 0, 1) := by decide +kernel
theorem dX12_isTold_1 : decode cX12_isTold 1 = .ok (.getfield 46, 3) := by decide +kernel
theorem dX12_isTold_4 : decode cX12_isTold 4 = .ok (.bipush 100, 2) := by decide +kernel
theorem dX12_isTold_6 : decode cX12_isTold 6 = .ok (.iload_n 1, 1) := by decide +kernel
theorem dX12_isTold_7 : decode cX12_isTold 7 = .ok (.imul, 1) := by decide +kernel
theorem dX12_isTold_8 : decode cX12_isTold 8 = .ok (.iload_n 2, 1) := by decide +kernel
theorem dX12_isTold_9 : decode cX12_isTold 9 = .ok (.iadd, 1) := by decide +kernel
theorem dX12_isTold_10 : decode cX12_isTold 10 = .ok (.iaload, 1) := by decide +kernel
theorem dX12_isTold_11 : decode cX12_isTold 11 = .ok (.aload_n 0, 1) := by decide +kernel
theorem dX12_isTold_12 : decode cX12_isTold 12 = .ok (.getfield 40, 3) := by decide +kernel
theorem dX12_isTold_15 : decode cX12_isTold 15 = .ok (.iload_n 1, 1) := by decide +kernel
theorem dX12_isTold_16 : decode cX12_isTold 16 = .ok (.iaload, 1) := by decide +kernel
theorem dX12_isTold_17 : decode cX12_isTold 17 = .ok (.invokestatic 204, 3) := by decide +kernel
theorem dX12_isTold_20 : decode cX12_isTold 20 = .ok (.if_icmp .eq 18, 3) := by decide +kernel
theorem dX12_isTold_23 : decode cX12_isTold 23 = .ok (.aload_n 0, 1) := by decide +kernel
theorem dX12_isTold_24 : decode cX12_isTold 24 = .ok (.getfield 46, 3) := by decide +kernel
theorem dX12_isTold_27 : decode cX12_isTold 27 = .ok (.bipush 100, 2) := by decide +kernel
theorem dX12_isTold_29 : decode cX12_isTold 29 = .ok (.iload_n 1, 1) := by decide +kernel
theorem dX12_isTold_30 : decode cX12_isTold 30 = .ok (.imul, 1) := by decide +kernel
theorem dX12_isTold_31 : decode cX12_isTold 31 = .ok (.iload_n 2, 1) := by decide +kernel
theorem dX12_isTold_32 : decode cX12_isTold 32 = .ok (.iadd, 1) := by decide +kernel
theorem dX12_isTold_33 : decode cX12_isTold 33 = .ok (.iaload, 1) := by decide +kernel
theorem dX12_isTold_34 : decode cX12_isTold 34 = .ok (.iload_n 3, 1) := by decide +kernel
theorem dX12_isTold_35 : decode cX12_isTold 35 = .ok (.if_icmp .ne 7, 3) := by decide +kernel
theorem dX12_isTold_38 : decode cX12_isTold 38 = .ok (.iconst 1, 1) := by decide +kernel
theorem dX12_isTold_39 : decode cX12_isTold 39 = .ok (.goto 4, 3) := by decide +kernel
theorem dX12_isTold_42 : decode cX12_isTold 42 = .ok (.iconst 0, 1) := by decide +kernel
theorem dX12_isTold_43 : decode cX12_isTold 43 = .ok (.ireturn, 1) := by decide +kernel
theorem dX12_whatIs_0 : decode cX12_whatIs 0 = .ok (.aload_n 0, 1) := by decide +kernel
theorem dX12_whatIs_1 : decode cX12_whatIs 1 = .ok (.iload_n 2, 1) := by decide +kernel
theorem dX12_whatIs_2 : decode cX12_whatIs 2 = .ok (.invokevirtual 113, 3) := by decide +kernel
theorem dX12_whatIs_5 : decode cX12_whatIs 5 = .ok (.ifCond .eq 12, 3) := by decide +kernel
theorem dX12_whatIs_8 : decode cX12_whatIs 8 = .ok (.iload_n 3, 1) := by decide +kernel
theorem dX12_whatIs_9 : decode cX12_whatIs 9 = .ok (.iconst 0, 1) := by decide +kernel
theorem dX12_whatIs_10 : decode cX12_whatIs 10 = .ok (.iconst 1, 1) := by decide +kernel
theorem dX12_whatIs_11 : decode cX12_whatIs 11 = .ok (.invokestatic 49, 3) := by decide +kernel
theorem dX12_whatIs_14 : decode cX12_whatIs 14 = .ok (.ifCond .ne 5, 3) := by decide +kernel
theorem dX12_whatIs_17 : decode cX12_whatIs 17 = .ok (.iconst (-1), 1) := by decide +kernel
theorem dX12_whatIs_18 : decode cX12_whatIs 18 = .ok (.ireturn, 1) := by decide +kernel
theorem dX12_whatIs_19 : decode cX12_whatIs 19 = .ok (.aload_n 0, 1) := by decide +kernel
theorem dX12_whatIs_20 : decode cX12_whatIs 20 = .ok (.iload_n 1, 1) := by decide +kernel
theorem dX12_whatIs_21 : decode cX12_whatIs 21 = .ok (.iconst (-1), 1) := by decide +kernel
theorem dX12_whatIs_22 : decode cX12_whatIs 22 = .ok (.invokevirtual 134, 3) := by decide +kernel
theorem dX12_whatIs_25 : decode cX12_whatIs 25 = .ok (.istore 4, 2) := by decide +kernel
theorem dX12_whatIs_27 : decode cX12_whatIs 27 = .ok (.iload 4, 2) := by decide +kernel
theorem dX12_whatIs_29 : decode cX12_whatIs 29 = .ok (.ifCond .eq 6, 3) := by decide +kernel
theorem dX12_whatIs_32 : decode cX12_whatIs 32 = .ok (.iload 4, 2) := by decide +kernel
theorem dX12_whatIs_34 : decode cX12_whatIs 34 = .ok (.ireturn, 1) := by decide +kernel
theorem dX12_whatIs_35 : decode cX12_whatIs 35 = .ok (.iconst 0, 1) := by decide +kernel
theorem dX12_whatIs_36 : decode cX12_whatIs 36 = .ok (.istore 5, 2) := by decide +kernel
theorem dX12_whatIs_38 : decode cX12_whatIs 38 = .ok (.iconst 0, 1) := by decide +kernel
theorem dX12_whatIs_39 : decode cX12_whatIs 39 = .ok (.istore 6, 2) := by decide +kernel
theorem dX12_whatIs_41 : decode cX12_whatIs 41 = .ok (.iload 6, 2) := by decide +kernel
theorem dX12_whatIs_43 : decode cX12_whatIs 43 = .ok (.iload_n 3, 1) := by decide +kernel
theorem dX12_whatIs_44 : decode cX12_whatIs 44 = .ok (.ifCond .ne 8, 3) := by decide +kernel
theorem dX12_whatIs_47 : decode cX12_whatIs 47 = .ok (.bipush 8, 2) := by decide +kernel
theorem dX12_whatIs_49 : decode cX12_whatIs 49 = .ok (.goto 5, 3) := by decide +kernel
theorem dX12_whatIs_52 : decode cX12_whatIs 52 = .ok (.bipush 10, 2) := by decide +kernel
theorem dX12_whatIs_54 : decode cX12_whatIs 54 = .ok (.if_icmp .ge 103, 3) := by decide +kernel
theorem dX12_whatIs_57 : decode cX12_whatIs 57 = .ok (.iconst 1, 1) := by decide +kernel
theorem dX12_whatIs_58 : decode cX12_whatIs 58 = .ok (.istore 7, 2) := by decide +kernel
theorem dX12_whatIs_60 : decode cX12_whatIs 60 = .ok (.aload_n 0, 1) := by decide +kernel
theorem dX12_whatIs_61 : decode cX12_whatIs 61 = .ok (.getfield 9, 3) := by decide +kernel
theorem dX12_whatIs_64 : decode cX12_whatIs 64 = .ok (.aload_n 0, 1) := by decide +kernel
theorem dX12_whatIs_65 : decode cX12_whatIs 65 = .ok (.getfield 13, 3) := by decide +kernel
theorem dX12_whatIs_68 : decode cX12_whatIs 68 = .ok (.invokestatic 141, 3) := by decide +kernel
theorem dX12_whatIs_71 : decode cX12_whatIs 71 = .ok (.aload_n 0, 1) := by decide +kernel
theorem dX12_whatIs_72 : decode cX12_whatIs 72 = .ok (.getfield 13, 3) := by decide +kernel
theorem dX12_whatIs_75 : decode cX12_whatIs 75 = .ok (.iload_n 2, 1) := by decide +kernel
theorem dX12_whatIs_76 : decode cX12_whatIs 76 = .ok (.iload_n 3, 1) := by decide +kernel
theorem dX12_whatIs_77 : decode cX12_whatIs 77 = .ok (.invokestatic 53, 3) := by decide +kernel
theorem dX12_whatIs_80 : decode cX12_whatIs 80 = .ok (.iload 6, 2) := by decide +kernel
theorem dX12_whatIs_82 : decode cX12_whatIs 82 = .ok (.iastore, 1) := by decide +kernel
theorem dX12_whatIs_83 : decode cX12_whatIs 83 = .ok (.iconst 0, 1) := by decide +kernel
theorem dX12_whatIs_84 : decode cX12_whatIs 84 = .ok (.istore 8, 2) := by decide +kernel
theorem dX12_whatIs_86 : decode cX12_whatIs 86 = .ok (.iload 8, 2) := by decide +kernel
theorem dX12_whatIs_88 : decode cX12_whatIs 88 = .ok (.aload_n 0, 1) := by decide +kernel
theorem dX12_whatIs_89 : decode cX12_whatIs 89 = .ok (.getfield 43, 3) := by decide +kernel
theorem dX12_whatIs_92 : decode cX12_whatIs 92 = .ok (.iload_n 1, 1) := by decide +kernel
theorem dX12_whatIs_93 : decode cX12_whatIs 93 = .ok (.iaload, 1) := by decide +kernel
theorem dX12_whatIs_94 : decode cX12_whatIs 94 = .ok (.if_icmp .ge 39, 3) := by decide +kernel
theorem dX12_whatIs_97 : decode cX12_whatIs 97 = .ok (.iload 7, 2) := by decide +kernel
theorem dX12_whatIs_99 : decode cX12_whatIs 99 = .ok (.aload_n 0, 1) := by decide +kernel
theorem dX12_whatIs_100 : decode cX12_whatIs 100 = .ok (.iload_n 1, 1) := by decide +kernel
theorem dX12_whatIs_101 : decode cX12_whatIs 101 = .ok (.iload 8, 2) := by decide +kernel
theorem dX12_whatIs_103 : decode cX12_whatIs 103 = .ok (.aload_n 0, 1) := by decide +kernel
theorem dX12_whatIs_104 : decode cX12_whatIs 104 = .ok (.getfield 13, 3) := by decide +kernel
theorem dX12_whatIs_107 : decode cX12_whatIs 107 = .ok (.iload_n 2, 1) := by decide +kernel
theorem dX12_whatIs_108 : decode cX12_whatIs 108 = .ok (.iconst 2, 1) := by decide +kernel
theorem dX12_whatIs_109 : decode cX12_whatIs 109 = .ok (.invokestatic 53, 3) := by decide +kernel
theorem dX12_whatIs_112 : decode cX12_whatIs 112 = .ok (.iaload, 1) := by decide +kernel
theorem dX12_whatIs_113 : decode cX12_whatIs 113 = .ok (.invokevirtual 207, 3) := by decide +kernel
theorem dX12_whatIs_116 : decode cX12_whatIs 116 = .ok (.iand, 1) := by decide +kernel
theorem dX12_whatIs_117 : decode cX12_whatIs 117 = .ok (.istore 7, 2) := by decide +kernel
theorem dX12_whatIs_119 : decode cX12_whatIs 119 = .ok (.aload_n 0, 1) := by decide +kernel
theorem dX12_whatIs_120 : decode cX12_whatIs 120 = .ok (.getfield 13, 3) := by decide +kernel
theorem dX12_whatIs_123 : decode cX12_whatIs 123 = .ok (.iconst 0, 1) := by decide +kernel
theorem dX12_whatIs_124 : decode cX12_whatIs 124 = .ok (.invokestatic 82, 3) := by decide +kernel
theorem dX12_whatIs_127 : decode cX12_whatIs 127 = .ok (.iinc 8 1, 3) := by decide +kernel
theorem dX12_whatIs_130 : decode cX12_whatIs 130 = .ok (.goto (-44), 3) := by decide +kernel
theorem dX12_whatIs_133 : decode cX12_whatIs 133 = .ok (.iload 5, 2) := by decide +kernel
theorem dX12_whatIs_135 : decode cX12_whatIs 135 = .ok (.iload 7, 2) := by decide +kernel
theorem dX12_whatIs_137 : decode cX12_whatIs 137 = .ok (.ifCond .eq 10, 3) := by decide +kernel
theorem dX12_whatIs_140 : decode cX12_whatIs 140 = .ok (.iconst 1, 1) := by decide +kernel
theorem dX12_whatIs_141 : decode cX12_whatIs 141 = .ok (.iload 6, 2) := by decide +kernel
theorem dX12_whatIs_143 : decode cX12_whatIs 143 = .ok (.ishl, 1) := by decide +kernel
theorem dX12_whatIs_144 : decode cX12_whatIs 144 = .ok (.goto 4, 3) := by decide +kernel
theorem dX12_whatIs_147 : decode cX12_whatIs 147 = .ok (.iconst 0, 1) := by decide +kernel
theorem dX12_whatIs_148 : decode cX12_whatIs 148 = .ok (.ior, 1) := by decide +kernel
theorem dX12_whatIs_149 : decode cX12_whatIs 149 = .ok (.istore 5, 2) := by decide +kernel
theorem dX12_whatIs_151 : decode cX12_whatIs 151 = .ok (.iinc 6 1, 3) := by decide +kernel
theorem dX12_whatIs_154 : decode cX12_whatIs 154 = .ok (.goto (-113), 3) := by decide +kernel
theorem dX12_whatIs_157 : decode cX12_whatIs 157 = .ok (.iload 5, 2) := by decide +kernel
theorem dX12_whatIs_159 : decode cX12_whatIs 159 = .ok (.ireturn, 1) := by decide +kernel
theorem dX12_hasComeSo_0 : decode cX12_hasComeSo 0 = .ok (.aload_n 0, 1) := by decide +kernel
theorem dX12_hasComeSo_1 : decode cX12_hasComeSo 1 = .ok (.getfield 9, 3) := by decide +kernel
theorem dX12_hasComeSo_4 : decode cX12_hasComeSo 4 = .ok (.aload_n 0, 1) := by decide +kernel
theorem dX12_hasComeSo_5 : decode cX12_hasComeSo 5 = .ok (.getfield 13, 3) := by decide +kernel
theorem dX12_hasComeSo_8 : decode cX12_hasComeSo 8 = .ok (.invokestatic 141, 3) := by decide +kernel
theorem dX12_hasComeSo_11 : decode cX12_hasComeSo 11 = .ok (.aload_n 0, 1) := by decide +kernel
theorem dX12_hasComeSo_12 : decode cX12_hasComeSo 12 = .ok (.getfield 13, 3) := by decide +kernel
theorem dX12_hasComeSo_15 : decode cX12_hasComeSo 15 = .ok (.iload_n 2, 1) := by decide +kernel
theorem dX12_hasComeSo_16 : decode cX12_hasComeSo 16 = .ok (.iconst 3, 1) := by decide +kernel
theorem dX12_hasComeSo_17 : decode cX12_hasComeSo 17 = .ok (.invokestatic 53, 3) := by decide +kernel
theorem dX12_hasComeSo_20 : decode cX12_hasComeSo 20 = .ok (.iload_n 3, 1) := by decide +kernel
theorem dX12_hasComeSo_21 : decode cX12_hasComeSo 21 = .ok (.iastore, 1) := by decide +kernel
theorem dX12_hasComeSo_22 : decode cX12_hasComeSo 22 = .ok (.iconst 0, 1) := by decide +kernel
theorem dX12_hasComeSo_23 : decode cX12_hasComeSo 23 = .ok (.istore 4, 2) := by decide +kernel
theorem dX12_hasComeSo_25 : decode cX12_hasComeSo 25 = .ok (.iload 4, 2) := by decide +kernel
theorem dX12_hasComeSo_27 : decode cX12_hasComeSo 27 = .ok (.aload_n 0, 1) := by decide +kernel
theorem dX12_hasComeSo_28 : decode cX12_hasComeSo 28 = .ok (.getfield 43, 3) := by decide +kernel
theorem dX12_hasComeSo_31 : decode cX12_hasComeSo 31 = .ok (.iload_n 1, 1) := by decide +kernel
theorem dX12_hasComeSo_32 : decode cX12_hasComeSo 32 = .ok (.iaload, 1) := by decide +kernel
theorem dX12_hasComeSo_33 : decode cX12_hasComeSo 33 = .ok (.if_icmp .ge 40, 3) := by decide +kernel
theorem dX12_hasComeSo_36 : decode cX12_hasComeSo 36 = .ok (.aload_n 0, 1) := by decide +kernel
theorem dX12_hasComeSo_37 : decode cX12_hasComeSo 37 = .ok (.iload_n 1, 1) := by decide +kernel
theorem dX12_hasComeSo_38 : decode cX12_hasComeSo 38 = .ok (.iload 4, 2) := by decide +kernel
theorem dX12_hasComeSo_40 : decode cX12_hasComeSo 40 = .ok (.aload_n 0, 1) := by decide +kernel
theorem dX12_hasComeSo_41 : decode cX12_hasComeSo 41 = .ok (.getfield 13, 3) := by decide +kernel
theorem dX12_hasComeSo_44 : decode cX12_hasComeSo 44 = .ok (.iload_n 2, 1) := by decide +kernel
theorem dX12_hasComeSo_45 : decode cX12_hasComeSo 45 = .ok (.bipush 6, 2) := by decide +kernel
theorem dX12_hasComeSo_47 : decode cX12_hasComeSo 47 = .ok (.invokestatic 53, 3) := by decide +kernel
theorem dX12_hasComeSo_50 : decode cX12_hasComeSo 50 = .ok (.iaload, 1) := by decide +kernel
theorem dX12_hasComeSo_51 : decode cX12_hasComeSo 51 = .ok (.invokevirtual 207, 3) := by decide +kernel
theorem dX12_hasComeSo_54 : decode cX12_hasComeSo 54 = .ok (.ifCond .ne 5, 3) := by decide +kernel
theorem dX12_hasComeSo_57 : decode cX12_hasComeSo 57 = .ok (.iconst 0, 1) := by decide +kernel
theorem dX12_hasComeSo_58 : decode cX12_hasComeSo 58 = .ok (.ireturn, 1) := by decide +kernel
theorem dX12_hasComeSo_59 : decode cX12_hasComeSo 59 = .ok (.aload_n 0, 1) := by decide +kernel
theorem dX12_hasComeSo_60 : decode cX12_hasComeSo 60 = .ok (.getfield 13, 3) := by decide +kernel
theorem dX12_hasComeSo_63 : decode cX12_hasComeSo 63 = .ok (.iconst 0, 1) := by decide +kernel
theorem dX12_hasComeSo_64 : decode cX12_hasComeSo 64 = .ok (.invokestatic 82, 3) := by decide +kernel
theorem dX12_hasComeSo_67 : decode cX12_hasComeSo 67 = .ok (.iinc 4 1, 3) := by decide +kernel
theorem dX12_hasComeSo_70 : decode cX12_hasComeSo 70 = .ok (.goto (-45), 3) := by decide +kernel
theorem dX12_hasComeSo_73 : decode cX12_hasComeSo 73 = .ok (.iconst 1, 1) := by decide +kernel
theorem dX12_hasComeSo_74 : decode cX12_hasComeSo 74 = .ok (.ireturn, 1) := by decide +kernel
theorem dX12_cameWith_0 : decode cX12_cameWith 0 = .ok (.aload_n 0, 1) := by decide +kernel
theorem dX12_cameWith_1 : decode cX12_cameWith 1 = .ok (.iload_n 2, 1) := by decide +kernel
theorem dX12_cameWith_2 : decode cX12_cameWith 2 = .ok (.invokevirtual 113, 3) := by decide +kernel
theorem dX12_cameWith_5 : decode cX12_cameWith 5 = .ok (.ifCond .eq 12, 3) := by decide +kernel
theorem dX12_cameWith_8 : decode cX12_cameWith 8 = .ok (.iload_n 3, 1) := by decide +kernel
theorem dX12_cameWith_9 : decode cX12_cameWith 9 = .ok (.iconst 0, 1) := by decide +kernel
theorem dX12_cameWith_10 : decode cX12_cameWith 10 = .ok (.iconst 2, 1) := by decide +kernel
theorem dX12_cameWith_11 : decode cX12_cameWith 11 = .ok (.invokestatic 49, 3) := by decide +kernel
theorem dX12_cameWith_14 : decode cX12_cameWith 14 = .ok (.ifCond .ne 5, 3) := by decide +kernel
theorem dX12_cameWith_17 : decode cX12_cameWith 17 = .ok (.iconst (-1), 1) := by decide +kernel
theorem dX12_cameWith_18 : decode cX12_cameWith 18 = .ok (.ireturn, 1) := by decide +kernel
theorem dX12_cameWith_19 : decode cX12_cameWith 19 = .ok (.aload_n 0, 1) := by decide +kernel
theorem dX12_cameWith_20 : decode cX12_cameWith 20 = .ok (.iload_n 1, 1) := by decide +kernel
theorem dX12_cameWith_21 : decode cX12_cameWith 21 = .ok (.iconst (-1), 1) := by decide +kernel
theorem dX12_cameWith_22 : decode cX12_cameWith 22 = .ok (.invokevirtual 134, 3) := by decide +kernel
theorem dX12_cameWith_25 : decode cX12_cameWith 25 = .ok (.istore 4, 2) := by decide +kernel
theorem dX12_cameWith_27 : decode cX12_cameWith 27 = .ok (.iload 4, 2) := by decide +kernel
theorem dX12_cameWith_29 : decode cX12_cameWith 29 = .ok (.ifCond .eq 6, 3) := by decide +kernel
theorem dX12_cameWith_32 : decode cX12_cameWith 32 = .ok (.iload 4, 2) := by decide +kernel
theorem dX12_cameWith_34 : decode cX12_cameWith 34 = .ok (.ireturn, 1) := by decide +kernel
theorem dX12_cameWith_35 : decode cX12_cameWith 35 = .ok (.iconst 0, 1) := by decide +kernel
theorem dX12_cameWith_36 : decode cX12_cameWith 36 = .ok (.istore 5, 2) := by decide +kernel
theorem dX12_cameWith_38 : decode cX12_cameWith 38 = .ok (.bipush (-4), 2) := by decide +kernel
theorem dX12_cameWith_40 : decode cX12_cameWith 40 = .ok (.istore 6, 2) := by decide +kernel
theorem dX12_cameWith_42 : decode cX12_cameWith 42 = .ok (.bipush (-4), 2) := by decide +kernel
theorem dX12_cameWith_44 : decode cX12_cameWith 44 = .ok (.istore 7, 2) := by decide +kernel
theorem dX12_cameWith_46 : decode cX12_cameWith 46 = .ok (.iconst 0, 1) := by decide +kernel
theorem dX12_cameWith_47 : decode cX12_cameWith 47 = .ok (.istore 8, 2) := by decide +kernel
theorem dX12_cameWith_49 : decode cX12_cameWith 49 = .ok (.iload 8, 2) := by decide +kernel
theorem dX12_cameWith_51 : decode cX12_cameWith 51 = .ok (.bipush 120, 2) := by decide +kernel
theorem dX12_cameWith_53 : decode cX12_cameWith 53 = .ok (.if_icmp .gt 44, 3) := by decide +kernel
theorem dX12_cameWith_56 : decode cX12_cameWith 56 = .ok (.aload_n 0, 1) := by decide +kernel
theorem dX12_cameWith_57 : decode cX12_cameWith 57 = .ok (.iload_n 1, 1) := by decide +kernel
theorem dX12_cameWith_58 : decode cX12_cameWith 58 = .ok (.iload_n 2, 1) := by decide +kernel
theorem dX12_cameWith_59 : decode cX12_cameWith 59 = .ok (.iload 8, 2) := by decide +kernel
theorem dX12_cameWith_61 : decode cX12_cameWith 61 = .ok (.invokevirtual 210, 3) := by decide +kernel
theorem dX12_cameWith_64 : decode cX12_cameWith 64 = .ok (.ifCond .ne 6, 3) := by decide +kernel
theorem dX12_cameWith_67 : decode cX12_cameWith 67 = .ok (.goto 24, 3) := by decide +kernel
theorem dX12_cameWith_70 : decode cX12_cameWith 70 = .ok (.iload 5, 2) := by decide +kernel
theorem dX12_cameWith_72 : decode cX12_cameWith 72 = .ok (.ifCond .ne 8, 3) := by decide +kernel
theorem dX12_cameWith_75 : decode cX12_cameWith 75 = .ok (.iload 8, 2) := by decide +kernel
theorem dX12_cameWith_77 : decode cX12_cameWith 77 = .ok (.goto 5, 3) := by decide +kernel
theorem dX12_cameWith_80 : decode cX12_cameWith 80 = .ok (.iload 6, 2) := by decide +kernel
theorem dX12_cameWith_82 : decode cX12_cameWith 82 = .ok (.istore 6, 2) := by decide +kernel
theorem dX12_cameWith_84 : decode cX12_cameWith 84 = .ok (.iload 8, 2) := by decide +kernel
theorem dX12_cameWith_86 : decode cX12_cameWith 86 = .ok (.istore 7, 2) := by decide +kernel
theorem dX12_cameWith_88 : decode cX12_cameWith 88 = .ok (.iinc 5 1, 3) := by decide +kernel
theorem dX12_cameWith_91 : decode cX12_cameWith 91 = .ok (.iinc 8 1, 3) := by decide +kernel
theorem dX12_cameWith_94 : decode cX12_cameWith 94 = .ok (.goto (-45), 3) := by decide +kernel
theorem dX12_cameWith_97 : decode cX12_cameWith 97 = .ok (.iload_n 3, 1) := by decide +kernel
theorem dX12_cameWith_98 : decode cX12_cameWith 98 = .ok (.ifCond .ne 8, 3) := by decide +kernel
theorem dX12_cameWith_101 : decode cX12_cameWith 101 = .ok (.iload 5, 2) := by decide +kernel
theorem dX12_cameWith_103 : decode cX12_cameWith 103 = .ok (.goto 15, 3) := by decide +kernel
theorem dX12_cameWith_106 : decode cX12_cameWith 106 = .ok (.iload_n 3, 1) := by decide +kernel
theorem dX12_cameWith_107 : decode cX12_cameWith 107 = .ok (.iconst 1, 1) := by decide +kernel
theorem dX12_cameWith_108 : decode cX12_cameWith 108 = .ok (.if_icmp .ne 8, 3) := by decide +kernel
theorem dX12_cameWith_111 : decode cX12_cameWith 111 = .ok (.iload 6, 2) := by decide +kernel
theorem dX12_cameWith_113 : decode cX12_cameWith 113 = .ok (.goto 5, 3) := by decide +kernel
theorem dX12_cameWith_116 : decode cX12_cameWith 116 = .ok (.iload 7, 2) := by decide +kernel
theorem dX12_cameWith_118 : decode cX12_cameWith 118 = .ok (.ireturn, 1) := by decide +kernel
theorem dX12_hasBy_0 : decode cX12_hasBy 0 = .ok (.aload_n 0, 1) := by decide +kernel
theorem dX12_hasBy_1 : decode cX12_hasBy 1 = .ok (.getfield 9, 3) := by decide +kernel
theorem dX12_hasBy_4 : decode cX12_hasBy 4 = .ok (.aload_n 0, 1) := by decide +kernel
theorem dX12_hasBy_5 : decode cX12_hasBy 5 = .ok (.getfield 13, 3) := by decide +kernel
theorem dX12_hasBy_8 : decode cX12_hasBy 8 = .ok (.invokestatic 141, 3) := by decide +kernel
theorem dX12_hasBy_11 : decode cX12_hasBy 11 = .ok (.aload_n 0, 1) := by decide +kernel
theorem dX12_hasBy_12 : decode cX12_hasBy 12 = .ok (.getfield 13, 3) := by decide +kernel
theorem dX12_hasBy_15 : decode cX12_hasBy 15 = .ok (.iload_n 3, 1) := by decide +kernel
theorem dX12_hasBy_16 : decode cX12_hasBy 16 = .ok (.iload_n 2, 1) := by decide +kernel
theorem dX12_hasBy_17 : decode cX12_hasBy 17 = .ok (.ishl, 1) := by decide +kernel
theorem dX12_hasBy_18 : decode cX12_hasBy 18 = .ok (.iload 5, 2) := by decide +kernel
theorem dX12_hasBy_20 : decode cX12_hasBy 20 = .ok (.iload 4, 2) := by decide +kernel
theorem dX12_hasBy_22 : decode cX12_hasBy 22 = .ok (.ishl, 1) := by decide +kernel
theorem dX12_hasBy_23 : decode cX12_hasBy 23 = .ok (.ior, 1) := by decide +kernel
theorem dX12_hasBy_24 : decode cX12_hasBy 24 = .ok (.invokestatic 82, 3) := by decide +kernel
theorem dX12_hasBy_27 : decode cX12_hasBy 27 = .ok (.aload_n 0, 1) := by decide +kernel
theorem dX12_hasBy_28 : decode cX12_hasBy 28 = .ok (.getfield 13, 3) := by decide +kernel
theorem dX12_hasBy_31 : decode cX12_hasBy 31 = .ok (.iload 6, 2) := by decide +kernel
theorem dX12_hasBy_33 : decode cX12_hasBy 33 = .ok (.iconst 1, 1) := by decide +kernel
theorem dX12_hasBy_34 : decode cX12_hasBy 34 = .ok (.isub, 1) := by decide +kernel
theorem dX12_hasBy_35 : decode cX12_hasBy 35 = .ok (.invokestatic 131, 3) := by decide +kernel
theorem dX12_hasBy_38 : decode cX12_hasBy 38 = .ok (.aload_n 0, 1) := by decide +kernel
theorem dX12_hasBy_39 : decode cX12_hasBy 39 = .ok (.getfield 13, 3) := by decide +kernel
theorem dX12_hasBy_42 : decode cX12_hasBy 42 = .ok (.iload_n 1, 1) := by decide +kernel
theorem dX12_hasBy_43 : decode cX12_hasBy 43 = .ok (.invokestatic 61, 3) := by decide +kernel
theorem dX12_hasBy_46 : decode cX12_hasBy 46 = .ok (.ifCond .eq 19, 3) := by decide +kernel
theorem dX12_hasBy_49 : decode cX12_hasBy 49 = .ok (.aload_n 0, 1) := by decide +kernel
theorem dX12_hasBy_50 : decode cX12_hasBy 50 = .ok (.getfield 13, 3) := by decide +kernel
theorem dX12_hasBy_53 : decode cX12_hasBy 53 = .ok (.iload_n 1, 1) := by decide +kernel
theorem dX12_hasBy_54 : decode cX12_hasBy 54 = .ok (.iconst 2, 1) := by decide +kernel
theorem dX12_hasBy_55 : decode cX12_hasBy 55 = .ok (.invokestatic 53, 3) := by decide +kernel
theorem dX12_hasBy_58 : decode cX12_hasBy 58 = .ok (.iaload, 1) := by decide +kernel
theorem dX12_hasBy_59 : decode cX12_hasBy 59 = .ok (.bipush 20, 2) := by decide +kernel
theorem dX12_hasBy_61 : decode cX12_hasBy 61 = .ok (.idiv, 1) := by decide +kernel
theorem dX12_hasBy_62 : decode cX12_hasBy 62 = .ok (.goto 5, 3) := by decide +kernel
theorem dX12_hasBy_65 : decode cX12_hasBy 65 = .ok (.bipush 6, 2) := by decide +kernel
theorem dX12_hasBy_67 : decode cX12_hasBy 67 = .ok (.iload_n 1, 1) := by decide +kernel
theorem dX12_hasBy_68 : decode cX12_hasBy 68 = .ok (.iload_n 2, 1) := by decide +kernel
theorem dX12_hasBy_69 : decode cX12_hasBy 69 = .ok (.if_icmp .ne 7, 3) := by decide +kernel
theorem dX12_hasBy_72 : decode cX12_hasBy 72 = .ok (.iload_n 3, 1) := by decide +kernel
theorem dX12_hasBy_73 : decode cX12_hasBy 73 = .ok (.goto 5, 3) := by decide +kernel
theorem dX12_hasBy_76 : decode cX12_hasBy 76 = .ok (.iload 5, 2) := by decide +kernel
theorem dX12_hasBy_78 : decode cX12_hasBy 78 = .ok (.isub, 1) := by decide +kernel
theorem dX12_hasBy_79 : decode cX12_hasBy 79 = .ok (.ireturn, 1) := by decide +kernel
theorem dX12_two_0 : decode cX12_two 0 = .ok (.aload_n 0, 1) := by decide +kernel
theorem dX12_two_1 : decode cX12_two 1 = .ok (.iload_n 1, 1) := by decide +kernel
theorem dX12_two_2 : decode cX12_two 2 = .ok (.invokevirtual 113, 3) := by decide +kernel
theorem dX12_two_5 : decode cX12_two 5 = .ok (.ifCond .eq 26, 3) := by decide +kernel
theorem dX12_two_8 : decode cX12_two 8 = .ok (.aload_n 0, 1) := by decide +kernel
theorem dX12_two_9 : decode cX12_two 9 = .ok (.iload_n 2, 1) := by decide +kernel
theorem dX12_two_10 : decode cX12_two 10 = .ok (.invokevirtual 113, 3) := by decide +kernel
theorem dX12_two_13 : decode cX12_two 13 = .ok (.ifCond .eq 18, 3) := by decide +kernel
theorem dX12_two_16 : decode cX12_two 16 = .ok (.iload_n 1, 1) := by decide +kernel
theorem dX12_two_17 : decode cX12_two 17 = .ok (.iload_n 2, 1) := by decide +kernel
theorem dX12_two_18 : decode cX12_two 18 = .ok (.if_icmp .eq 13, 3) := by decide +kernel
theorem dX12_two_21 : decode cX12_two 21 = .ok (.iload_n 3, 1) := by decide +kernel
theorem dX12_two_22 : decode cX12_two 22 = .ok (.iconst 1, 1) := by decide +kernel
theorem dX12_two_23 : decode cX12_two 23 = .ok (.bipush 30, 2) := by decide +kernel
theorem dX12_two_25 : decode cX12_two 25 = .ok (.invokestatic 49, 3) := by decide +kernel
theorem dX12_two_28 : decode cX12_two 28 = .ok (.ifCond .ne 5, 3) := by decide +kernel
theorem dX12_two_31 : decode cX12_two 31 = .ok (.iconst (-1), 1) := by decide +kernel
theorem dX12_two_32 : decode cX12_two 32 = .ok (.ireturn, 1) := by decide +kernel
theorem dX12_two_33 : decode cX12_two 33 = .ok (.aload_n 0, 1) := by decide +kernel
theorem dX12_two_34 : decode cX12_two 34 = .ok (.getfield 9, 3) := by decide +kernel
theorem dX12_two_37 : decode cX12_two 37 = .ok (.iload_n 1, 1) := by decide +kernel
theorem dX12_two_38 : decode cX12_two 38 = .ok (.invokestatic 61, 3) := by decide +kernel
theorem dX12_two_41 : decode cX12_two 41 = .ok (.ifCond .eq 14, 3) := by decide +kernel
theorem dX12_two_44 : decode cX12_two 44 = .ok (.aload_n 0, 1) := by decide +kernel
theorem dX12_two_45 : decode cX12_two 45 = .ok (.getfield 9, 3) := by decide +kernel
theorem dX12_two_48 : decode cX12_two 48 = .ok (.iload_n 2, 1) := by decide +kernel
theorem dX12_two_49 : decode cX12_two 49 = .ok (.invokestatic 61, 3) := by decide +kernel
theorem dX12_two_52 : decode cX12_two 52 = .ok (.ifCond .ne 6, 3) := by decide +kernel
theorem dX12_two_55 : decode cX12_two 55 = .ok (.bipush (-3), 2) := by decide +kernel
theorem dX12_two_57 : decode cX12_two 57 = .ok (.ireturn, 1) := by decide +kernel
theorem dX12_two_58 : decode cX12_two 58 = .ok (.iconst 0, 1) := by decide +kernel
theorem dX12_two_59 : decode cX12_two 59 = .ok (.istore 4, 2) := by decide +kernel
theorem dX12_two_61 : decode cX12_two 61 = .ok (.iload 4, 2) := by decide +kernel
theorem dX12_two_63 : decode cX12_two 63 = .ok (.iconst 4, 1) := by decide +kernel
theorem dX12_two_64 : decode cX12_two 64 = .ok (.if_icmp .ge 88, 3) := by decide +kernel
theorem dX12_two_67 : decode cX12_two 67 = .ok (.iload 4, 2) := by decide +kernel
theorem dX12_two_69 : decode cX12_two 69 = .ok (.iconst 2, 1) := by decide +kernel
theorem dX12_two_70 : decode cX12_two 70 = .ok (.idiv, 1) := by decide +kernel
theorem dX12_two_71 : decode cX12_two 71 = .ok (.istore 5, 2) := by decide +kernel
theorem dX12_two_73 : decode cX12_two 73 = .ok (.iload 4, 2) := by decide +kernel
theorem dX12_two_75 : decode cX12_two 75 = .ok (.iconst 2, 1) := by decide +kernel
theorem dX12_two_76 : decode cX12_two 76 = .ok (.irem, 1) := by decide +kernel
theorem dX12_two_77 : decode cX12_two 77 = .ok (.istore 6, 2) := by decide +kernel
theorem dX12_two_79 : decode cX12_two 79 = .ok (.aload_n 0, 1) := by decide +kernel
theorem dX12_two_80 : decode cX12_two 80 = .ok (.iload_n 1, 1) := by decide +kernel
theorem dX12_two_81 : decode cX12_two 81 = .ok (.iload_n 1, 1) := by decide +kernel
theorem dX12_two_82 : decode cX12_two 82 = .ok (.iconst 1, 1) := by decide +kernel
theorem dX12_two_83 : decode cX12_two 83 = .ok (.iload 5, 2) := by decide +kernel
theorem dX12_two_85 : decode cX12_two 85 = .ok (.isub, 1) := by decide +kernel
theorem dX12_two_86 : decode cX12_two 86 = .ok (.iload_n 2, 1) := by decide +kernel
theorem dX12_two_87 : decode cX12_two 87 = .ok (.iload 6, 2) := by decide +kernel
theorem dX12_two_89 : decode cX12_two 89 = .ok (.iload_n 3, 1) := by decide +kernel
theorem dX12_two_90 : decode cX12_two 90 = .ok (.invokevirtual 213, 3) := by decide +kernel
theorem dX12_two_93 : decode cX12_two 93 = .ok (.aload_n 0, 1) := by decide +kernel
theorem dX12_two_94 : decode cX12_two 94 = .ok (.iload_n 1, 1) := by decide +kernel
theorem dX12_two_95 : decode cX12_two 95 = .ok (.iload_n 1, 1) := by decide +kernel
theorem dX12_two_96 : decode cX12_two 96 = .ok (.iload 5, 2) := by decide +kernel
theorem dX12_two_98 : decode cX12_two 98 = .ok (.iload_n 2, 1) := by decide +kernel
theorem dX12_two_99 : decode cX12_two 99 = .ok (.iload 6, 2) := by decide +kernel
theorem dX12_two_101 : decode cX12_two 101 = .ok (.iload_n 3, 1) := by decide +kernel
theorem dX12_two_102 : decode cX12_two 102 = .ok (.invokevirtual 213, 3) := by decide +kernel
theorem dX12_two_105 : decode cX12_two 105 = .ok (.if_icmp .gt 41, 3) := by decide +kernel
theorem dX12_two_108 : decode cX12_two 108 = .ok (.aload_n 0, 1) := by decide +kernel
theorem dX12_two_109 : decode cX12_two 109 = .ok (.iload_n 2, 1) := by decide +kernel
theorem dX12_two_110 : decode cX12_two 110 = .ok (.iload_n 1, 1) := by decide +kernel
theorem dX12_two_111 : decode cX12_two 111 = .ok (.iload 5, 2) := by decide +kernel
theorem dX12_two_113 : decode cX12_two 113 = .ok (.iload_n 2, 1) := by decide +kernel
theorem dX12_two_114 : decode cX12_two 114 = .ok (.iconst 1, 1) := by decide +kernel
theorem dX12_two_115 : decode cX12_two 115 = .ok (.iload 6, 2) := by decide +kernel
theorem dX12_two_117 : decode cX12_two 117 = .ok (.isub, 1) := by decide +kernel
theorem dX12_two_118 : decode cX12_two 118 = .ok (.iload_n 3, 1) := by decide +kernel
theorem dX12_two_119 : decode cX12_two 119 = .ok (.invokevirtual 213, 3) := by decide +kernel
theorem dX12_two_122 : decode cX12_two 122 = .ok (.aload_n 0, 1) := by decide +kernel
theorem dX12_two_123 : decode cX12_two 123 = .ok (.iload_n 2, 1) := by decide +kernel
theorem dX12_two_124 : decode cX12_two 124 = .ok (.iload_n 1, 1) := by decide +kernel
theorem dX12_two_125 : decode cX12_two 125 = .ok (.iload 5, 2) := by decide +kernel
theorem dX12_two_127 : decode cX12_two 127 = .ok (.iload_n 2, 1) := by decide +kernel
theorem dX12_two_128 : decode cX12_two 128 = .ok (.iload 6, 2) := by decide +kernel
theorem dX12_two_130 : decode cX12_two 130 = .ok (.iload_n 3, 1) := by decide +kernel
theorem dX12_two_131 : decode cX12_two 131 = .ok (.invokevirtual 213, 3) := by decide +kernel
theorem dX12_two_134 : decode cX12_two 134 = .ok (.if_icmp .gt 12, 3) := by decide +kernel
theorem dX12_two_137 : decode cX12_two 137 = .ok (.bipush 10, 2) := by decide +kernel
theorem dX12_two_139 : decode cX12_two 139 = .ok (.iload 5, 2) := by decide +kernel
theorem dX12_two_141 : decode cX12_two 141 = .ok (.imul, 1) := by decide +kernel
theorem dX12_two_142 : decode cX12_two 142 = .ok (.iload 6, 2) := by decide +kernel
theorem dX12_two_144 : decode cX12_two 144 = .ok (.iadd, 1) := by decide +kernel
theorem dX12_two_145 : decode cX12_two 145 = .ok (.ireturn, 1) := by decide +kernel
theorem dX12_two_146 : decode cX12_two 146 = .ok (.iinc 4 1, 3) := by decide +kernel
theorem dX12_two_149 : decode cX12_two 149 = .ok (.goto (-88), 3) := by decide +kernel
theorem dX12_two_152 : decode cX12_two 152 = .ok (.bipush (-4), 2) := by decide +kernel
theorem dX12_two_154 : decode cX12_two 154 = .ok (.ireturn, 1) := by decide +kernel
theorem dX12_gcd_0 : decode cX12_gcd 0 = .ok (.lload_n 0, 1) := by decide +kernel
theorem dX12_gcd_1 : decode cX12_gcd 1 = .ok (.lconst 0, 1) := by decide +kernel
theorem dX12_gcd_2 : decode cX12_gcd 2 = .ok (.lcmp, 1) := by decide +kernel
theorem dX12_gcd_3 : decode cX12_gcd 3 = .ok (.ifCond .ge 8, 3) := by decide +kernel
theorem dX12_gcd_6 : decode cX12_gcd 6 = .ok (.lload_n 0, 1) := by decide +kernel
theorem dX12_gcd_7 : decode cX12_gcd 7 = .ok (.lneg, 1) := by decide +kernel
theorem dX12_gcd_8 : decode cX12_gcd 8 = .ok (.goto 4, 3) := by decide +kernel
theorem dX12_gcd_11 : decode cX12_gcd 11 = .ok (.lload_n 0, 1) := by decide +kernel
theorem dX12_gcd_12 : decode cX12_gcd 12 = .ok (.lstore 4, 2) := by decide +kernel
theorem dX12_gcd_14 : decode cX12_gcd 14 = .ok (.lload_n 2, 1) := by decide +kernel
theorem dX12_gcd_15 : decode cX12_gcd 15 = .ok (.lstore 6, 2) := by decide +kernel
theorem dX12_gcd_17 : decode cX12_gcd 17 = .ok (.lload 6, 2) := by decide +kernel
theorem dX12_gcd_19 : decode cX12_gcd 19 = .ok (.lconst 0, 1) := by decide +kernel
theorem dX12_gcd_20 : decode cX12_gcd 20 = .ok (.lcmp, 1) := by decide +kernel
theorem dX12_gcd_21 : decode cX12_gcd 21 = .ok (.ifCond .eq 21, 3) := by decide +kernel
theorem dX12_gcd_24 : decode cX12_gcd 24 = .ok (.lload 4, 2) := by decide +kernel
theorem dX12_gcd_26 : decode cX12_gcd 26 = .ok (.lload 6, 2) := by decide +kernel
theorem dX12_gcd_28 : decode cX12_gcd 28 = .ok (.lrem, 1) := by decide +kernel
theorem dX12_gcd_29 : decode cX12_gcd 29 = .ok (.lstore 8, 2) := by decide +kernel
theorem dX12_gcd_31 : decode cX12_gcd 31 = .ok (.lload 6, 2) := by decide +kernel
theorem dX12_gcd_33 : decode cX12_gcd 33 = .ok (.lstore 4, 2) := by decide +kernel
theorem dX12_gcd_35 : decode cX12_gcd 35 = .ok (.lload 8, 2) := by decide +kernel
theorem dX12_gcd_37 : decode cX12_gcd 37 = .ok (.lstore 6, 2) := by decide +kernel
theorem dX12_gcd_39 : decode cX12_gcd 39 = .ok (.goto (-22), 3) := by decide +kernel
theorem dX12_gcd_42 : decode cX12_gcd 42 = .ok (.lload 4, 2) := by decide +kernel
theorem dX12_gcd_44 : decode cX12_gcd 44 = .ok (.lreturn, 1) := by decide +kernel
theorem dX12_partOf_0 : decode cX12_partOf 0 = .ok (.lload_n 0, 1) := by decide +kernel
theorem dX12_partOf_1 : decode cX12_partOf 1 = .ok (.lconst 0, 1) := by decide +kernel
theorem dX12_partOf_2 : decode cX12_partOf 2 = .ok (.lcmp, 1) := by decide +kernel
theorem dX12_partOf_3 : decode cX12_partOf 3 = .ok (.ifCond .ne 7, 3) := by decide +kernel
theorem dX12_partOf_6 : decode cX12_partOf 6 = .ok (.iload 4, 2) := by decide +kernel
theorem dX12_partOf_8 : decode cX12_partOf 8 = .ok (.i2l, 1) := by decide +kernel
theorem dX12_partOf_9 : decode cX12_partOf 9 = .ok (.lreturn, 1) := by decide +kernel
theorem dX12_partOf_10 : decode cX12_partOf 10 = .ok (.iload 4, 2) := by decide +kernel
theorem dX12_partOf_12 : decode cX12_partOf 12 = .ok (.ifCond .ne 7, 3) := by decide +kernel
theorem dX12_partOf_15 : decode cX12_partOf 15 = .ok (.lload_n 0, 1) := by decide +kernel
theorem dX12_partOf_16 : decode cX12_partOf 16 = .ok (.goto 4, 3) := by decide +kernel
theorem dX12_partOf_19 : decode cX12_partOf 19 = .ok (.lload_n 2, 1) := by decide +kernel
theorem dX12_partOf_20 : decode cX12_partOf 20 = .ok (.lload_n 0, 1) := by decide +kernel
theorem dX12_partOf_21 : decode cX12_partOf 21 = .ok (.lload_n 2, 1) := by decide +kernel
theorem dX12_partOf_22 : decode cX12_partOf 22 = .ok (.invokestatic 217, 3) := by decide +kernel
theorem dX12_partOf_25 : decode cX12_partOf 25 = .ok (.ldiv, 1) := by decide +kernel
theorem dX12_partOf_26 : decode cX12_partOf 26 = .ok (.lreturn, 1) := by decide +kernel
theorem dX12_feasts_0 : decode cX12_feasts 0 = .ok (.aload_n 0, 1) := by decide +kernel
theorem dX12_feasts_1 : decode cX12_feasts 1 = .ok (.iload_n 1, 1) := by decide +kernel
theorem dX12_feasts_2 : decode cX12_feasts 2 = .ok (.invokevirtual 113, 3) := by decide +kernel
theorem dX12_feasts_5 : decode cX12_feasts 5 = .ok (.ifCond .eq 33, 3) := by decide +kernel
theorem dX12_feasts_8 : decode cX12_feasts 8 = .ok (.iload_n 2, 1) := by decide +kernel
theorem dX12_feasts_9 : decode cX12_feasts 9 = .ok (.iconst 0, 1) := by decide +kernel
theorem dX12_feasts_10 : decode cX12_feasts 10 = .ok (.bipush 7, 2) := by decide +kernel
theorem dX12_feasts_12 : decode cX12_feasts 12 = .ok (.invokestatic 49, 3) := by decide +kernel
theorem dX12_feasts_15 : decode cX12_feasts 15 = .ok (.ifCond .eq 23, 3) := by decide +kernel
theorem dX12_feasts_18 : decode cX12_feasts 18 = .ok (.iload_n 3, 1) := by decide +kernel
theorem dX12_feasts_19 : decode cX12_feasts 19 = .ok (.iconst 2, 1) := by decide +kernel
theorem dX12_feasts_20 : decode cX12_feasts 20 = .ok (.bipush 20, 2) := by decide +kernel
theorem dX12_feasts_22 : decode cX12_feasts 22 = .ok (.invokestatic 49, 3) := by decide +kernel
theorem dX12_feasts_25 : decode cX12_feasts 25 = .ok (.ifCond .eq 13, 3) := by decide +kernel
theorem dX12_feasts_28 : decode cX12_feasts 28 = .ok (.iload 4, 2) := by decide +kernel
theorem dX12_feasts_30 : decode cX12_feasts 30 = .ok (.iconst 0, 1) := by decide +kernel
theorem dX12_feasts_31 : decode cX12_feasts 31 = .ok (.iconst 1, 1) := by decide +kernel
theorem dX12_feasts_32 : decode cX12_feasts 32 = .ok (.invokestatic 49, 3) := by decide +kernel
theorem dX12_feasts_35 : decode cX12_feasts 35 = .ok (.ifCond .ne 7, 3) := by decide +kernel
theorem dX12_feasts_38 : decode cX12_feasts 38 = .ok (.ldc2_w 221, 3) := by decide +kernel
theorem dX12_feasts_41 : decode cX12_feasts 41 = .ok (.lreturn, 1) := by decide +kernel
theorem dX12_feasts_42 : decode cX12_feasts 42 = .ok (.lconst 0, 1) := by decide +kernel
theorem dX12_feasts_43 : decode cX12_feasts 43 = .ok (.lstore 5, 2) := by decide +kernel
theorem dX12_feasts_45 : decode cX12_feasts 45 = .ok (.lconst 1, 1) := by decide +kernel
theorem dX12_feasts_46 : decode cX12_feasts 46 = .ok (.lstore 7, 2) := by decide +kernel
theorem dX12_feasts_48 : decode cX12_feasts 48 = .ok (.iconst 0, 1) := by decide +kernel
theorem dX12_feasts_49 : decode cX12_feasts 49 = .ok (.istore 9, 2) := by decide +kernel
theorem dX12_feasts_51 : decode cX12_feasts 51 = .ok (.iload 9, 2) := by decide +kernel
theorem dX12_feasts_53 : decode cX12_feasts 53 = .ok (.iload_n 2, 1) := by decide +kernel
theorem dX12_feasts_54 : decode cX12_feasts 54 = .ok (.if_icmp .ge 16, 3) := by decide +kernel
theorem dX12_feasts_57 : decode cX12_feasts 57 = .ok (.lload 7, 2) := by decide +kernel
theorem dX12_feasts_59 : decode cX12_feasts 59 = .ok (.iload_n 3, 1) := by decide +kernel
theorem dX12_feasts_60 : decode cX12_feasts 60 = .ok (.i2l, 1) := by decide +kernel
theorem dX12_feasts_61 : decode cX12_feasts 61 = .ok (.lmul, 1) := by decide +kernel
theorem dX12_feasts_62 : decode cX12_feasts 62 = .ok (.lstore 7, 2) := by decide +kernel
theorem dX12_feasts_64 : decode cX12_feasts 64 = .ok (.iinc 9 1, 3) := by decide +kernel
theorem dX12_feasts_67 : decode cX12_feasts 67 = .ok (.goto (-16), 3) := by decide +kernel
theorem dX12_feasts_70 : decode cX12_feasts 70 = .ok (.iconst 0, 1) := by decide +kernel
theorem dX12_feasts_71 : decode cX12_feasts 71 = .ok (.istore 9, 2) := by decide +kernel
theorem dX12_feasts_73 : decode cX12_feasts 73 = .ok (.iload 9, 2) := by decide +kernel
theorem dX12_feasts_75 : decode cX12_feasts 75 = .ok (.iconst 1, 1) := by decide +kernel
theorem dX12_feasts_76 : decode cX12_feasts 76 = .ok (.iload_n 2, 1) := by decide +kernel
theorem dX12_feasts_77 : decode cX12_feasts 77 = .ok (.ishl, 1) := by decide +kernel
theorem dX12_feasts_78 : decode cX12_feasts 78 = .ok (.if_icmp .ge 140, 3) := by decide +kernel
theorem dX12_feasts_81 : decode cX12_feasts 81 = .ok (.lconst 1, 1) := by decide +kernel
theorem dX12_feasts_82 : decode cX12_feasts 82 = .ok (.lstore 10, 2) := by decide +kernel
theorem dX12_feasts_84 : decode cX12_feasts 84 = .ok (.aload_n 0, 1) := by decide +kernel
theorem dX12_feasts_85 : decode cX12_feasts 85 = .ok (.getfield 9, 3) := by decide +kernel
theorem dX12_feasts_88 : decode cX12_feasts 88 = .ok (.aload_n 0, 1) := by decide +kernel
theorem dX12_feasts_89 : decode cX12_feasts 89 = .ok (.getfield 13, 3) := by decide +kernel
theorem dX12_feasts_92 : decode cX12_feasts 92 = .ok (.invokestatic 141, 3) := by decide +kernel
theorem dX12_feasts_95 : decode cX12_feasts 95 = .ok (.iconst 0, 1) := by decide +kernel
theorem dX12_feasts_96 : decode cX12_feasts 96 = .ok (.istore 12, 2) := by decide +kernel
theorem dX12_feasts_98 : decode cX12_feasts 98 = .ok (.iload 12, 2) := by decide +kernel
theorem dX12_feasts_100 : decode cX12_feasts 100 = .ok (.iload_n 2, 1) := by decide +kernel
theorem dX12_feasts_101 : decode cX12_feasts 101 = .ok (.if_icmp .ge 89, 3) := by decide +kernel
theorem dX12_feasts_104 : decode cX12_feasts 104 = .ok (.lload 10, 2) := by decide +kernel
theorem dX12_feasts_106 : decode cX12_feasts 106 = .ok (.iload 9, 2) := by decide +kernel
theorem dX12_feasts_108 : decode cX12_feasts 108 = .ok (.iload 12, 2) := by decide +kernel
theorem dX12_feasts_110 : decode cX12_feasts 110 = .ok (.invokestatic 68, 3) := by decide +kernel
theorem dX12_feasts_113 : decode cX12_feasts 113 = .ok (.ifCond .eq 7, 3) := by decide +kernel
theorem dX12_feasts_116 : decode cX12_feasts 116 = .ok (.lconst 1, 1) := by decide +kernel
theorem dX12_feasts_117 : decode cX12_feasts 117 = .ok (.goto 7, 3) := by decide +kernel
theorem dX12_feasts_120 : decode cX12_feasts 120 = .ok (.iload_n 3, 1) := by decide +kernel
theorem dX12_feasts_121 : decode cX12_feasts 121 = .ok (.iconst 1, 1) := by decide +kernel
theorem dX12_feasts_122 : decode cX12_feasts 122 = .ok (.isub, 1) := by decide +kernel
theorem dX12_feasts_123 : decode cX12_feasts 123 = .ok (.i2l, 1) := by decide +kernel
theorem dX12_feasts_124 : decode cX12_feasts 124 = .ok (.lmul, 1) := by decide +kernel
theorem dX12_feasts_125 : decode cX12_feasts 125 = .ok (.lstore 10, 2) := by decide +kernel
theorem dX12_feasts_127 : decode cX12_feasts 127 = .ok (.aload_n 0, 1) := by decide +kernel
theorem dX12_feasts_128 : decode cX12_feasts 128 = .ok (.getfield 13, 3) := by decide +kernel
theorem dX12_feasts_131 : decode cX12_feasts 131 = .ok (.iconst 3, 1) := by decide +kernel
theorem dX12_feasts_132 : decode cX12_feasts 132 = .ok (.iload 9, 2) := by decide +kernel
theorem dX12_feasts_134 : decode cX12_feasts 134 = .ok (.iload 12, 2) := by decide +kernel
theorem dX12_feasts_136 : decode cX12_feasts 136 = .ok (.invokestatic 68, 3) := by decide +kernel
theorem dX12_feasts_139 : decode cX12_feasts 139 = .ok (.ifCond .ne 12, 3) := by decide +kernel
theorem dX12_feasts_142 : decode cX12_feasts 142 = .ok (.aload_n 0, 1) := by decide +kernel
theorem dX12_feasts_143 : decode cX12_feasts 143 = .ok (.getfield 9, 3) := by decide +kernel
theorem dX12_feasts_146 : decode cX12_feasts 146 = .ok (.iconst 3, 1) := by decide +kernel
theorem dX12_feasts_147 : decode cX12_feasts 147 = .ok (.iaload, 1) := by decide +kernel
theorem dX12_feasts_148 : decode cX12_feasts 148 = .ok (.goto 27, 3) := by decide +kernel
theorem dX12_feasts_151 : decode cX12_feasts 151 = .ok (.aload_n 0, 1) := by decide +kernel
theorem dX12_feasts_152 : decode cX12_feasts 152 = .ok (.getfield 9, 3) := by decide +kernel
theorem dX12_feasts_155 : decode cX12_feasts 155 = .ok (.iconst 3, 1) := by decide +kernel
theorem dX12_feasts_156 : decode cX12_feasts 156 = .ok (.iaload, 1) := by decide +kernel
theorem dX12_feasts_157 : decode cX12_feasts 157 = .ok (.bipush 6, 2) := by decide +kernel
theorem dX12_feasts_159 : decode cX12_feasts 159 = .ok (.if_icmp .le 8, 3) := by decide +kernel
theorem dX12_feasts_162 : decode cX12_feasts 162 = .ok (.bipush 9, 2) := by decide +kernel
theorem dX12_feasts_164 : decode cX12_feasts 164 = .ok (.goto 11, 3) := by decide +kernel
theorem dX12_feasts_167 : decode cX12_feasts 167 = .ok (.aload_n 0, 1) := by decide +kernel
theorem dX12_feasts_168 : decode cX12_feasts 168 = .ok (.getfield 9, 3) := by decide +kernel
theorem dX12_feasts_171 : decode cX12_feasts 171 = .ok (.iconst 3, 1) := by decide +kernel
theorem dX12_feasts_172 : decode cX12_feasts 172 = .ok (.iaload, 1) := by decide +kernel
theorem dX12_feasts_173 : decode cX12_feasts 173 = .ok (.iconst 3, 1) := by decide +kernel
theorem dX12_feasts_174 : decode cX12_feasts 174 = .ok (.iadd, 1) := by decide +kernel
theorem dX12_feasts_175 : decode cX12_feasts 175 = .ok (.iastore, 1) := by decide +kernel
theorem dX12_feasts_176 : decode cX12_feasts 176 = .ok (.aload_n 0, 1) := by decide +kernel
theorem dX12_feasts_177 : decode cX12_feasts 177 = .ok (.getfield 13, 3) := by decide +kernel
theorem dX12_feasts_180 : decode cX12_feasts 180 = .ok (.iconst 0, 1) := by decide +kernel
theorem dX12_feasts_181 : decode cX12_feasts 181 = .ok (.invokestatic 82, 3) := by decide +kernel
theorem dX12_feasts_184 : decode cX12_feasts 184 = .ok (.iinc 12 1, 3) := by decide +kernel
theorem dX12_feasts_187 : decode cX12_feasts 187 = .ok (.goto (-89), 3) := by decide +kernel
theorem dX12_feasts_190 : decode cX12_feasts 190 = .ok (.lload 5, 2) := by decide +kernel
theorem dX12_feasts_192 : decode cX12_feasts 192 = .ok (.aload_n 0, 1) := by decide +kernel
theorem dX12_feasts_193 : decode cX12_feasts 193 = .ok (.getfield 13, 3) := by decide +kernel
theorem dX12_feasts_196 : decode cX12_feasts 196 = .ok (.iload_n 1, 1) := by decide +kernel
theorem dX12_feasts_197 : decode cX12_feasts 197 = .ok (.invokestatic 61, 3) := by decide +kernel
theorem dX12_feasts_200 : decode cX12_feasts 200 = .ok (.ifCond .eq 7, 3) := by decide +kernel
theorem dX12_feasts_203 : decode cX12_feasts 203 = .ok (.lconst 0, 1) := by decide +kernel
theorem dX12_feasts_204 : decode cX12_feasts 204 = .ok (.goto 5, 3) := by decide +kernel
theorem dX12_feasts_207 : decode cX12_feasts 207 = .ok (.lload 10, 2) := by decide +kernel
theorem dX12_feasts_209 : decode cX12_feasts 209 = .ok (.ladd, 1) := by decide +kernel
theorem dX12_feasts_210 : decode cX12_feasts 210 = .ok (.lstore 5, 2) := by decide +kernel
theorem dX12_feasts_212 : decode cX12_feasts 212 = .ok (.iinc 9 1, 3) := by decide +kernel
theorem dX12_feasts_215 : decode cX12_feasts 215 = .ok (.goto (-142), 3) := by decide +kernel
theorem dX12_feasts_218 : decode cX12_feasts 218 = .ok (.lload 5, 2) := by decide +kernel
theorem dX12_feasts_220 : decode cX12_feasts 220 = .ok (.lload 7, 2) := by decide +kernel
theorem dX12_feasts_222 : decode cX12_feasts 222 = .ok (.iload 4, 2) := by decide +kernel
theorem dX12_feasts_224 : decode cX12_feasts 224 = .ok (.invokestatic 223, 3) := by decide +kernel
theorem dX12_feasts_227 : decode cX12_feasts 227 = .ok (.lreturn, 1) := by decide +kernel
theorem dX12_mean_0 : decode cX12_mean 0 = .ok (.iload_n 1, 1) := by decide +kernel
theorem dX12_mean_1 : decode cX12_mean 1 = .ok (.iconst 0, 1) := by decide +kernel
theorem dX12_mean_2 : decode cX12_mean 2 = .ok (.iconst 1, 1) := by decide +kernel
theorem dX12_mean_3 : decode cX12_mean 3 = .ok (.invokestatic 49, 3) := by decide +kernel
theorem dX12_mean_6 : decode cX12_mean 6 = .ok (.ifCond .ne 7, 3) := by decide +kernel
theorem dX12_mean_9 : decode cX12_mean 9 = .ok (.ldc2_w 221, 3) := by decide +kernel
theorem dX12_mean_12 : decode cX12_mean 12 = .ok (.lreturn, 1) := by decide +kernel
theorem dX12_mean_13 : decode cX12_mean 13 = .ok (.lconst 0, 1) := by decide +kernel
theorem dX12_mean_14 : decode cX12_mean 14 = .ok (.lstore_n 2, 1) := by decide +kernel
theorem dX12_mean_15 : decode cX12_mean 15 = .ok (.iconst 0, 1) := by decide +kernel
theorem dX12_mean_16 : decode cX12_mean 16 = .ok (.istore 4, 2) := by decide +kernel
theorem dX12_mean_18 : decode cX12_mean 18 = .ok (.iconst 0, 1) := by decide +kernel
theorem dX12_mean_19 : decode cX12_mean 19 = .ok (.istore 5, 2) := by decide +kernel
theorem dX12_mean_21 : decode cX12_mean 21 = .ok (.iload 5, 2) := by decide +kernel
theorem dX12_mean_23 : decode cX12_mean 23 = .ok (.aload_n 0, 1) := by decide +kernel
theorem dX12_mean_24 : decode cX12_mean 24 = .ok (.getfield 9, 3) := by decide +kernel
theorem dX12_mean_27 : decode cX12_mean 27 = .ok (.iconst 0, 1) := by decide +kernel
theorem dX12_mean_28 : decode cX12_mean 28 = .ok (.iaload, 1) := by decide +kernel
theorem dX12_mean_29 : decode cX12_mean 29 = .ok (.if_icmp .ge 54, 3) := by decide +kernel
theorem dX12_mean_32 : decode cX12_mean 32 = .ok (.aload_n 0, 1) := by decide +kernel
theorem dX12_mean_33 : decode cX12_mean 33 = .ok (.getfield 9, 3) := by decide +kernel
theorem dX12_mean_36 : decode cX12_mean 36 = .ok (.iload 5, 2) := by decide +kernel
theorem dX12_mean_38 : decode cX12_mean 38 = .ok (.invokestatic 61, 3) := by decide +kernel
theorem dX12_mean_41 : decode cX12_mean 41 = .ok (.ifCond .eq 6, 3) := by decide +kernel
theorem dX12_mean_44 : decode cX12_mean 44 = .ok (.goto 33, 3) := by decide +kernel
theorem dX12_mean_47 : decode cX12_mean 47 = .ok (.lload_n 2, 1) := by decide +kernel
theorem dX12_mean_48 : decode cX12_mean 48 = .ok (.aload_n 0, 1) := by decide +kernel
theorem dX12_mean_49 : decode cX12_mean 49 = .ok (.getfield 9, 3) := by decide +kernel
theorem dX12_mean_52 : decode cX12_mean 52 = .ok (.iload 5, 2) := by decide +kernel
theorem dX12_mean_54 : decode cX12_mean 54 = .ok (.iconst 3, 1) := by decide +kernel
theorem dX12_mean_55 : decode cX12_mean 55 = .ok (.invokestatic 53, 3) := by decide +kernel
theorem dX12_mean_58 : decode cX12_mean 58 = .ok (.iaload, 1) := by decide +kernel
theorem dX12_mean_59 : decode cX12_mean 59 = .ok (.aload_n 0, 1) := by decide +kernel
theorem dX12_mean_60 : decode cX12_mean 60 = .ok (.getfield 9, 3) := by decide +kernel
theorem dX12_mean_63 : decode cX12_mean 63 = .ok (.iload 5, 2) := by decide +kernel
theorem dX12_mean_65 : decode cX12_mean 65 = .ok (.iconst 2, 1) := by decide +kernel
theorem dX12_mean_66 : decode cX12_mean 66 = .ok (.invokestatic 53, 3) := by decide +kernel
theorem dX12_mean_69 : decode cX12_mean 69 = .ok (.iaload, 1) := by decide +kernel
theorem dX12_mean_70 : decode cX12_mean 70 = .ok (.isub, 1) := by decide +kernel
theorem dX12_mean_71 : decode cX12_mean 71 = .ok (.i2l, 1) := by decide +kernel
theorem dX12_mean_72 : decode cX12_mean 72 = .ok (.ladd, 1) := by decide +kernel
theorem dX12_mean_73 : decode cX12_mean 73 = .ok (.lstore_n 2, 1) := by decide +kernel
theorem dX12_mean_74 : decode cX12_mean 74 = .ok (.iinc 4 1, 3) := by decide +kernel
theorem dX12_mean_77 : decode cX12_mean 77 = .ok (.iinc 5 1, 3) := by decide +kernel
theorem dX12_mean_80 : decode cX12_mean 80 = .ok (.goto (-59), 3) := by decide +kernel
theorem dX12_mean_83 : decode cX12_mean 83 = .ok (.lload_n 2, 1) := by decide +kernel
theorem dX12_mean_84 : decode cX12_mean 84 = .ok (.iload 4, 2) := by decide +kernel
theorem dX12_mean_86 : decode cX12_mean 86 = .ok (.i2l, 1) := by decide +kernel
theorem dX12_mean_87 : decode cX12_mean 87 = .ok (.iload_n 1, 1) := by decide +kernel
theorem dX12_mean_88 : decode cX12_mean 88 = .ok (.invokestatic 223, 3) := by decide +kernel
theorem dX12_mean_91 : decode cX12_mean 91 = .ok (.lreturn, 1) := by decide +kernel
theorem dX12_forged_0 : decode cX12_forged 0 = .ok (.aload_n 0, 1) := by decide +kernel
theorem dX12_forged_1 : decode cX12_forged 1 = .ok (.iload_n 1, 1) := by decide +kernel
theorem dX12_forged_2 : decode cX12_forged 2 = .ok (.iconst (-1), 1) := by decide +kernel
theorem dX12_forged_3 : decode cX12_forged 3 = .ok (.invokevirtual 134, 3) := by decide +kernel
theorem dX12_forged_6 : decode cX12_forged 6 = .ok (.istore_n 2, 1) := by decide +kernel
theorem dX12_forged_7 : decode cX12_forged 7 = .ok (.iload_n 2, 1) := by decide +kernel
theorem dX12_forged_8 : decode cX12_forged 8 = .ok (.ifCond .eq 5, 3) := by decide +kernel
theorem dX12_forged_11 : decode cX12_forged 11 = .ok (.iload_n 2, 1) := by decide +kernel
theorem dX12_forged_12 : decode cX12_forged 12 = .ok (.ireturn, 1) := by decide +kernel
theorem dX12_forged_13 : decode cX12_forged 13 = .ok (.iconst 0, 1) := by decide +kernel
theorem dX12_forged_14 : decode cX12_forged 14 = .ok (.istore_n 3, 1) := by decide +kernel
theorem dX12_forged_15 : decode cX12_forged 15 = .ok (.iload_n 3, 1) := by decide +kernel
theorem dX12_forged_16 : decode cX12_forged 16 = .ok (.aload_n 0, 1) := by decide +kernel
theorem dX12_forged_17 : decode cX12_forged 17 = .ok (.getfield 43, 3) := by decide +kernel
theorem dX12_forged_20 : decode cX12_forged 20 = .ok (.iload_n 1, 1) := by decide +kernel
theorem dX12_forged_21 : decode cX12_forged 21 = .ok (.iaload, 1) := by decide +kernel
theorem dX12_forged_22 : decode cX12_forged 22 = .ok (.if_icmp .ge 43, 3) := by decide +kernel
theorem dX12_forged_25 : decode cX12_forged 25 = .ok (.aload_n 0, 1) := by decide +kernel
theorem dX12_forged_26 : decode cX12_forged 26 = .ok (.iload_n 3, 1) := by decide +kernel
theorem dX12_forged_27 : decode cX12_forged 27 = .ok (.invokevirtual 113, 3) := by decide +kernel
theorem dX12_forged_30 : decode cX12_forged 30 = .ok (.ifCond .eq 27, 3) := by decide +kernel
theorem dX12_forged_33 : decode cX12_forged 33 = .ok (.aload_n 0, 1) := by decide +kernel
theorem dX12_forged_34 : decode cX12_forged 34 = .ok (.getfield 46, 3) := by decide +kernel
theorem dX12_forged_37 : decode cX12_forged 37 = .ok (.bipush 100, 2) := by decide +kernel
theorem dX12_forged_39 : decode cX12_forged 39 = .ok (.iload_n 1, 1) := by decide +kernel
theorem dX12_forged_40 : decode cX12_forged 40 = .ok (.imul, 1) := by decide +kernel
theorem dX12_forged_41 : decode cX12_forged 41 = .ok (.iload_n 3, 1) := by decide +kernel
theorem dX12_forged_42 : decode cX12_forged 42 = .ok (.iadd, 1) := by decide +kernel
theorem dX12_forged_43 : decode cX12_forged 43 = .ok (.iaload, 1) := by decide +kernel
theorem dX12_forged_44 : decode cX12_forged 44 = .ok (.aload_n 0, 1) := by decide +kernel
theorem dX12_forged_45 : decode cX12_forged 45 = .ok (.getfield 9, 3) := by decide +kernel
theorem dX12_forged_48 : decode cX12_forged 48 = .ok (.iload_n 3, 1) := by decide +kernel
theorem dX12_forged_49 : decode cX12_forged 49 = .ok (.iconst 3, 1) := by decide +kernel
theorem dX12_forged_50 : decode cX12_forged 50 = .ok (.invokestatic 53, 3) := by decide +kernel
theorem dX12_forged_53 : decode cX12_forged 53 = .ok (.iaload, 1) := by decide +kernel
theorem dX12_forged_54 : decode cX12_forged 54 = .ok (.if_icmp .eq 5, 3) := by decide +kernel
theorem dX12_forged_57 : decode cX12_forged 57 = .ok (.iload_n 3, 1) := by decide +kernel
theorem dX12_forged_58 : decode cX12_forged 58 = .ok (.ireturn, 1) := by decide +kernel
theorem dX12_forged_59 : decode cX12_forged 59 = .ok (.iinc 3 1, 3) := by decide +kernel
theorem dX12_forged_62 : decode cX12_forged 62 = .ok (.goto (-47), 3) := by decide +kernel
theorem dX12_forged_65 : decode cX12_forged 65 = .ok (.bipush (-4), 2) := by decide +kernel
theorem dX12_forged_67 : decode cX12_forged 67 = .ok (.ireturn, 1) := by decide +kernel
theorem dX12_judge_0 : decode cX12_judge 0 = .ok (.aload_n 0, 1) := by decide +kernel
theorem dX12_judge_1 : decode cX12_judge 1 = .ok (.iload_n 1, 1) := by decide +kernel
theorem dX12_judge_2 : decode cX12_judge 2 = .ok (.iconst (-1), 1) := by decide +kernel
theorem dX12_judge_3 : decode cX12_judge 3 = .ok (.invokevirtual 134, 3) := by decide +kernel
theorem dX12_judge_6 : decode cX12_judge 6 = .ok (.istore_n 2, 1) := by decide +kernel
theorem dX12_judge_7 : decode cX12_judge 7 = .ok (.iload_n 2, 1) := by decide +kernel
theorem dX12_judge_8 : decode cX12_judge 8 = .ok (.ifCond .eq 5, 3) := by decide +kernel
theorem dX12_judge_11 : decode cX12_judge 11 = .ok (.iload_n 2, 1) := by decide +kernel
theorem dX12_judge_12 : decode cX12_judge 12 = .ok (.ireturn, 1) := by decide +kernel
theorem dX12_judge_13 : decode cX12_judge 13 = .ok (.aload_n 0, 1) := by decide +kernel
theorem dX12_judge_14 : decode cX12_judge 14 = .ok (.getfield 9, 3) := by decide +kernel
theorem dX12_judge_17 : decode cX12_judge 17 = .ok (.aload_n 0, 1) := by decide +kernel
theorem dX12_judge_18 : decode cX12_judge 18 = .ok (.getfield 13, 3) := by decide +kernel
theorem dX12_judge_21 : decode cX12_judge 21 = .ok (.invokestatic 141, 3) := by decide +kernel
theorem dX12_judge_24 : decode cX12_judge 24 = .ok (.iconst 0, 1) := by decide +kernel
theorem dX12_judge_25 : decode cX12_judge 25 = .ok (.istore_n 3, 1) := by decide +kernel
theorem dX12_judge_26 : decode cX12_judge 26 = .ok (.iload_n 3, 1) := by decide +kernel
theorem dX12_judge_27 : decode cX12_judge 27 = .ok (.aload_n 0, 1) := by decide +kernel
theorem dX12_judge_28 : decode cX12_judge 28 = .ok (.getfield 43, 3) := by decide +kernel
theorem dX12_judge_31 : decode cX12_judge 31 = .ok (.iload_n 1, 1) := by decide +kernel
theorem dX12_judge_32 : decode cX12_judge 32 = .ok (.iaload, 1) := by decide +kernel
theorem dX12_judge_33 : decode cX12_judge 33 = .ok (.if_icmp .ge 35, 3) := by decide +kernel
theorem dX12_judge_36 : decode cX12_judge 36 = .ok (.aload_n 0, 1) := by decide +kernel
theorem dX12_judge_37 : decode cX12_judge 37 = .ok (.iload_n 1, 1) := by decide +kernel
theorem dX12_judge_38 : decode cX12_judge 38 = .ok (.iload_n 3, 1) := by decide +kernel
theorem dX12_judge_39 : decode cX12_judge 39 = .ok (.aload_n 0, 1) := by decide +kernel
theorem dX12_judge_40 : decode cX12_judge 40 = .ok (.getfield 13, 3) := by decide +kernel
theorem dX12_judge_43 : decode cX12_judge 43 = .ok (.invokestatic 166, 3) := by decide +kernel
theorem dX12_judge_46 : decode cX12_judge 46 = .ok (.invokevirtual 207, 3) := by decide +kernel
theorem dX12_judge_49 : decode cX12_judge 49 = .ok (.ifCond .ne 5, 3) := by decide +kernel
theorem dX12_judge_52 : decode cX12_judge 52 = .ok (.iload_n 3, 1) := by decide +kernel
theorem dX12_judge_53 : decode cX12_judge 53 = .ok (.ireturn, 1) := by decide +kernel
theorem dX12_judge_54 : decode cX12_judge 54 = .ok (.aload_n 0, 1) := by decide +kernel
theorem dX12_judge_55 : decode cX12_judge 55 = .ok (.getfield 13, 3) := by decide +kernel
theorem dX12_judge_58 : decode cX12_judge 58 = .ok (.iconst 0, 1) := by decide +kernel
theorem dX12_judge_59 : decode cX12_judge 59 = .ok (.invokestatic 82, 3) := by decide +kernel
theorem dX12_judge_62 : decode cX12_judge 62 = .ok (.iinc 3 1, 3) := by decide +kernel
theorem dX12_judge_65 : decode cX12_judge 65 = .ok (.goto (-39), 3) := by decide +kernel
theorem dX12_judge_68 : decode cX12_judge 68 = .ok (.bipush (-4), 2) := by decide +kernel
theorem dX12_judge_70 : decode cX12_judge 70 = .ok (.ireturn, 1) := by decide +kernel
theorem dX12_drawn_0 : decode cX12_drawn 0 = .ok (.aload_n 0, 1) := by decide +kernel
theorem dX12_drawn_1 : decode cX12_drawn 1 = .ok (.aload_n 0, 1) := by decide +kernel
theorem dX12_drawn_2 : decode cX12_drawn 2 = .ok (.getfield 227, 3) := by decide +kernel
theorem dX12_drawn_5 : decode cX12_drawn 5 = .ok (.ldc 230, 2) := by decide +kernel
theorem dX12_drawn_7 : decode cX12_drawn 7 = .ok (.imul, 1) := by decide +kernel
theorem dX12_drawn_8 : decode cX12_drawn 8 = .ok (.sipush 12345, 3) := by decide +kernel
theorem dX12_drawn_11 : decode cX12_drawn 11 = .ok (.iadd, 1) := by decide +kernel
theorem dX12_drawn_12 : decode cX12_drawn 12 = .ok (.putfield 227, 3) := by decide +kernel
theorem dX12_drawn_15 : decode cX12_drawn 15 = .ok (.aload_n 0, 1) := by decide +kernel
theorem dX12_drawn_16 : decode cX12_drawn 16 = .ok (.getfield 227, 3) := by decide +kernel
theorem dX12_drawn_19 : decode cX12_drawn 19 = .ok (.ldc 231, 2) := by decide +kernel
theorem dX12_drawn_21 : decode cX12_drawn 21 = .ok (.iand, 1) := by decide +kernel
theorem dX12_drawn_22 : decode cX12_drawn 22 = .ok (.ldc 232, 2) := by decide +kernel
theorem dX12_drawn_24 : decode cX12_drawn 24 = .ok (.idiv, 1) := by decide +kernel
theorem dX12_drawn_25 : decode cX12_drawn 25 = .ok (.iload_n 1, 1) := by decide +kernel
theorem dX12_drawn_26 : decode cX12_drawn 26 = .ok (.irem, 1) := by decide +kernel
theorem dX12_drawn_27 : decode cX12_drawn 27 = .ok (.ireturn, 1) := by decide +kernel
theorem dX12_seasons_0 : decode cX12_seasons 0 = .ok (.iload_n 1, 1) := by decide +kernel
theorem dX12_seasons_1 : decode cX12_seasons 1 = .ok (.iconst 1, 1) := by decide +kernel
theorem dX12_seasons_2 : decode cX12_seasons 2 = .ok (.bipush 20, 2) := by decide +kernel
theorem dX12_seasons_4 : decode cX12_seasons 4 = .ok (.invokestatic 49, 3) := by decide +kernel
theorem dX12_seasons_7 : decode cX12_seasons 7 = .ok (.ifCond .eq 12, 3) := by decide +kernel
theorem dX12_seasons_10 : decode cX12_seasons 10 = .ok (.iload_n 3, 1) := by decide +kernel
theorem dX12_seasons_11 : decode cX12_seasons 11 = .ok (.iconst 0, 1) := by decide +kernel
theorem dX12_seasons_12 : decode cX12_seasons 12 = .ok (.iconst 1, 1) := by decide +kernel
theorem dX12_seasons_13 : decode cX12_seasons 13 = .ok (.invokestatic 49, 3) := by decide +kernel
theorem dX12_seasons_16 : decode cX12_seasons 16 = .ok (.ifCond .ne 5, 3) := by decide +kernel
theorem dX12_seasons_19 : decode cX12_seasons 19 = .ok (.iconst (-1), 1) := by decide +kernel
theorem dX12_seasons_20 : decode cX12_seasons 20 = .ok (.ireturn, 1) := by decide +kernel
theorem dX12_seasons_21 : decode cX12_seasons 21 = .ok (.aload_n 0, 1) := by decide +kernel
theorem dX12_seasons_22 : decode cX12_seasons 22 = .ok (.iload_n 2, 1) := by decide +kernel
theorem dX12_seasons_23 : decode cX12_seasons 23 = .ok (.putfield 227, 3) := by decide +kernel
theorem dX12_seasons_26 : decode cX12_seasons 26 = .ok (.iconst 0, 1) := by decide +kernel
theorem dX12_seasons_27 : decode cX12_seasons 27 = .ok (.istore 4, 2) := by decide +kernel
theorem dX12_seasons_29 : decode cX12_seasons 29 = .ok (.iconst 0, 1) := by decide +kernel
theorem dX12_seasons_30 : decode cX12_seasons 30 = .ok (.istore 5, 2) := by decide +kernel
theorem dX12_seasons_32 : decode cX12_seasons 32 = .ok (.iload 5, 2) := by decide +kernel
theorem dX12_seasons_34 : decode cX12_seasons 34 = .ok (.iload_n 1, 1) := by decide +kernel
theorem dX12_seasons_35 : decode cX12_seasons 35 = .ok (.if_icmp .ge 113, 3) := by decide +kernel
theorem dX12_seasons_38 : decode cX12_seasons 38 = .ok (.aload_n 0, 1) := by decide +kernel
theorem dX12_seasons_39 : decode cX12_seasons 39 = .ok (.getfield 9, 3) := by decide +kernel
theorem dX12_seasons_42 : decode cX12_seasons 42 = .ok (.aload_n 0, 1) := by decide +kernel
theorem dX12_seasons_43 : decode cX12_seasons 43 = .ok (.getfield 13, 3) := by decide +kernel
theorem dX12_seasons_46 : decode cX12_seasons 46 = .ok (.invokestatic 141, 3) := by decide +kernel
theorem dX12_seasons_49 : decode cX12_seasons 49 = .ok (.iconst 0, 1) := by decide +kernel
theorem dX12_seasons_50 : decode cX12_seasons 50 = .ok (.istore 6, 2) := by decide +kernel
theorem dX12_seasons_52 : decode cX12_seasons 52 = .ok (.iload 6, 2) := by decide +kernel
theorem dX12_seasons_54 : decode cX12_seasons 54 = .ok (.aload_n 0, 1) := by decide +kernel
theorem dX12_seasons_55 : decode cX12_seasons 55 = .ok (.getfield 9, 3) := by decide +kernel
theorem dX12_seasons_58 : decode cX12_seasons 58 = .ok (.iconst 0, 1) := by decide +kernel
theorem dX12_seasons_59 : decode cX12_seasons 59 = .ok (.iaload, 1) := by decide +kernel
theorem dX12_seasons_60 : decode cX12_seasons 60 = .ok (.if_icmp .ge 38, 3) := by decide +kernel
theorem dX12_seasons_63 : decode cX12_seasons 63 = .ok (.aload_n 0, 1) := by decide +kernel
theorem dX12_seasons_64 : decode cX12_seasons 64 = .ok (.getfield 9, 3) := by decide +kernel
theorem dX12_seasons_67 : decode cX12_seasons 67 = .ok (.iload 6, 2) := by decide +kernel
theorem dX12_seasons_69 : decode cX12_seasons 69 = .ok (.invokestatic 61, 3) := by decide +kernel
theorem dX12_seasons_72 : decode cX12_seasons 72 = .ok (.ifCond .eq 20, 3) := by decide +kernel
theorem dX12_seasons_75 : decode cX12_seasons 75 = .ok (.aload_n 0, 1) := by decide +kernel
theorem dX12_seasons_76 : decode cX12_seasons 76 = .ok (.getfield 13, 3) := by decide +kernel
theorem dX12_seasons_79 : decode cX12_seasons 79 = .ok (.iload 6, 2) := by decide +kernel
theorem dX12_seasons_81 : decode cX12_seasons 81 = .ok (.iconst 2, 1) := by decide +kernel
theorem dX12_seasons_82 : decode cX12_seasons 82 = .ok (.invokestatic 53, 3) := by decide +kernel
theorem dX12_seasons_85 : decode cX12_seasons 85 = .ok (.aload_n 0, 1) := by decide +kernel
theorem dX12_seasons_86 : decode cX12_seasons 86 = .ok (.bipush 100, 2) := by decide +kernel
theorem dX12_seasons_88 : decode cX12_seasons 88 = .ok (.invokevirtual 233, 3) := by decide +kernel
theorem dX12_seasons_91 : decode cX12_seasons 91 = .ok (.iastore, 1) := by decide +kernel
theorem dX12_seasons_92 : decode cX12_seasons 92 = .ok (.iinc 6 1, 3) := by decide +kernel
theorem dX12_seasons_95 : decode cX12_seasons 95 = .ok (.goto (-43), 3) := by decide +kernel
theorem dX12_seasons_98 : decode cX12_seasons 98 = .ok (.aload_n 0, 1) := by decide +kernel
theorem dX12_seasons_99 : decode cX12_seasons 99 = .ok (.getfield 13, 3) := by decide +kernel
theorem dX12_seasons_102 : decode cX12_seasons 102 = .ok (.bipush 9, 2) := by decide +kernel
theorem dX12_seasons_104 : decode cX12_seasons 104 = .ok (.invokestatic 131, 3) := by decide +kernel
theorem dX12_seasons_107 : decode cX12_seasons 107 = .ok (.iload 4, 2) := by decide +kernel
theorem dX12_seasons_109 : decode cX12_seasons 109 = .ok (.iload_n 3, 1) := by decide +kernel
theorem dX12_seasons_110 : decode cX12_seasons 110 = .ok (.ifCond .ne 19, 3) := by decide +kernel
theorem dX12_seasons_113 : decode cX12_seasons 113 = .ok (.aload_n 0, 1) := by decide +kernel
theorem dX12_seasons_114 : decode cX12_seasons 114 = .ok (.getfield 13, 3) := by decide +kernel
theorem dX12_seasons_117 : decode cX12_seasons 117 = .ok (.iconst 2, 1) := by decide +kernel
theorem dX12_seasons_118 : decode cX12_seasons 118 = .ok (.iaload, 1) := by decide +kernel
theorem dX12_seasons_119 : decode cX12_seasons 119 = .ok (.aload_n 0, 1) := by decide +kernel
theorem dX12_seasons_120 : decode cX12_seasons 120 = .ok (.getfield 9, 3) := by decide +kernel
theorem dX12_seasons_123 : decode cX12_seasons 123 = .ok (.iconst 2, 1) := by decide +kernel
theorem dX12_seasons_124 : decode cX12_seasons 124 = .ok (.iaload, 1) := by decide +kernel
theorem dX12_seasons_125 : decode cX12_seasons 125 = .ok (.isub, 1) := by decide +kernel
theorem dX12_seasons_126 : decode cX12_seasons 126 = .ok (.goto 13, 3) := by decide +kernel
theorem dX12_seasons_129 : decode cX12_seasons 129 = .ok (.aload_n 0, 1) := by decide +kernel
theorem dX12_seasons_130 : decode cX12_seasons 130 = .ok (.getfield 13, 3) := by decide +kernel
theorem dX12_seasons_133 : decode cX12_seasons 133 = .ok (.invokestatic 162, 3) := by decide +kernel
theorem dX12_seasons_136 : decode cX12_seasons 136 = .ok (.invokestatic 236, 3) := by decide +kernel
theorem dX12_seasons_139 : decode cX12_seasons 139 = .ok (.iadd, 1) := by decide +kernel
theorem dX12_seasons_140 : decode cX12_seasons 140 = .ok (.istore 4, 2) := by decide +kernel
theorem dX12_seasons_142 : decode cX12_seasons 142 = .ok (.iinc 5 1, 3) := by decide +kernel
theorem dX12_seasons_145 : decode cX12_seasons 145 = .ok (.goto (-113), 3) := by decide +kernel
theorem dX12_seasons_148 : decode cX12_seasons 148 = .ok (.iload 4, 2) := by decide +kernel
theorem dX12_seasons_150 : decode cX12_seasons 150 = .ok (.ireturn, 1) := by decide +kernel
theorem dX12_image_0 : decode cX12_image 0 = .ok (.aload_n 0, 1) := by decide +kernel
theorem dX12_image_1 : decode cX12_image 1 = .ok (.getfield 9, 3) := by decide +kernel
theorem dX12_image_4 : decode cX12_image 4 = .ok (.aload_n 0, 1) := by decide +kernel
theorem dX12_image_5 : decode cX12_image 5 = .ok (.getfield 16, 3) := by decide +kernel
theorem dX12_image_8 : decode cX12_image 8 = .ok (.invokestatic 141, 3) := by decide +kernel
theorem dX12_image_11 : decode cX12_image 11 = .ok (.aload_n 0, 1) := by decide +kernel
theorem dX12_image_12 : decode cX12_image 12 = .ok (.iconst 1, 1) := by decide +kernel
theorem dX12_image_13 : decode cX12_image 13 = .ok (.putfield 239, 3) := by decide +kernel
theorem dX12_image_16 : decode cX12_image 16 = .ok (.aload_n 0, 1) := by decide +kernel
theorem dX12_image_17 : decode cX12_image 17 = .ok (.getfield 9, 3) := by decide +kernel
theorem dX12_image_20 : decode cX12_image 20 = .ok (.iconst 1, 1) := by decide +kernel
theorem dX12_image_21 : decode cX12_image 21 = .ok (.iaload, 1) := by decide +kernel
theorem dX12_image_22 : decode cX12_image 22 = .ok (.ireturn, 1) := by decide +kernel
theorem dX12_restore_0 : decode cX12_restore 0 = .ok (.aload_n 0, 1) := by decide +kernel
theorem dX12_restore_1 : decode cX12_restore 1 = .ok (.getfield 239, 3) := by decide +kernel
theorem dX12_restore_4 : decode cX12_restore 4 = .ok (.ifCond .ne 6, 3) := by decide +kernel
theorem dX12_restore_7 : decode cX12_restore 7 = .ok (.bipush (-3), 2) := by decide +kernel
theorem dX12_restore_9 : decode cX12_restore 9 = .ok (.ireturn, 1) := by decide +kernel
theorem dX12_restore_10 : decode cX12_restore 10 = .ok (.aload_n 0, 1) := by decide +kernel
theorem dX12_restore_11 : decode cX12_restore 11 = .ok (.getfield 16, 3) := by decide +kernel
theorem dX12_restore_14 : decode cX12_restore 14 = .ok (.aload_n 0, 1) := by decide +kernel
theorem dX12_restore_15 : decode cX12_restore 15 = .ok (.getfield 9, 3) := by decide +kernel
theorem dX12_restore_18 : decode cX12_restore 18 = .ok (.invokestatic 141, 3) := by decide +kernel
theorem dX12_restore_21 : decode cX12_restore 21 = .ok (.aload_n 0, 1) := by decide +kernel
theorem dX12_restore_22 : decode cX12_restore 22 = .ok (.getfield 9, 3) := by decide +kernel
theorem dX12_restore_25 : decode cX12_restore 25 = .ok (.iconst 1, 1) := by decide +kernel
theorem dX12_restore_26 : decode cX12_restore 26 = .ok (.iaload, 1) := by decide +kernel
theorem dX12_restore_27 : decode cX12_restore 27 = .ok (.ireturn, 1) := by decide +kernel
theorem dX12_count_0 : decode cX12_count 0 = .ok (.iload_n 1, 1) := by decide +kernel
theorem dX12_count_1 : decode cX12_count 1 = .ok (.iconst 0, 1) := by decide +kernel
theorem dX12_count_2 : decode cX12_count 2 = .ok (.iconst 4, 1) := by decide +kernel
theorem dX12_count_3 : decode cX12_count 3 = .ok (.invokestatic 49, 3) := by decide +kernel
theorem dX12_count_6 : decode cX12_count 6 = .ok (.ifCond .eq 10, 3) := by decide +kernel
theorem dX12_count_9 : decode cX12_count 9 = .ok (.aload_n 0, 1) := by decide +kernel
theorem dX12_count_10 : decode cX12_count 10 = .ok (.getfield 9, 3) := by decide +kernel
theorem dX12_count_13 : decode cX12_count 13 = .ok (.iload_n 1, 1) := by decide +kernel
theorem dX12_count_14 : decode cX12_count 14 = .ok (.iaload, 1) := by decide +kernel
theorem dX12_count_15 : decode cX12_count 15 = .ok (.ireturn, 1) := by decide +kernel
theorem dX12_count_16 : decode cX12_count 16 = .ok (.iload_n 1, 1) := by decide +kernel
theorem dX12_count_17 : decode cX12_count 17 = .ok (.iconst 5, 1) := by decide +kernel
theorem dX12_count_18 : decode cX12_count 18 = .ok (.if_icmp .ne 13, 3) := by decide +kernel
theorem dX12_count_21 : decode cX12_count 21 = .ok (.aload_n 0, 1) := by decide +kernel
theorem dX12_count_22 : decode cX12_count 22 = .ok (.getfield 9, 3) := by decide +kernel
theorem dX12_count_25 : decode cX12_count 25 = .ok (.invokestatic 162, 3) := by decide +kernel
theorem dX12_count_28 : decode cX12_count 28 = .ok (.goto 20, 3) := by decide +kernel
theorem dX12_count_31 : decode cX12_count 31 = .ok (.iload_n 1, 1) := by decide +kernel
theorem dX12_count_32 : decode cX12_count 32 = .ok (.bipush 6, 2) := by decide +kernel
theorem dX12_count_34 : decode cX12_count 34 = .ok (.if_icmp .ne 13, 3) := by decide +kernel
theorem dX12_count_37 : decode cX12_count 37 = .ok (.aload_n 0, 1) := by decide +kernel
theorem dX12_count_38 : decode cX12_count 38 = .ok (.getfield 9, 3) := by decide +kernel
theorem dX12_count_41 : decode cX12_count 41 = .ok (.invokestatic 166, 3) := by decide +kernel
theorem dX12_count_44 : decode cX12_count 44 = .ok (.goto 4, 3) := by decide +kernel
theorem dX12_count_47 : decode cX12_count 47 = .ok (.iconst (-1), 1) := by decide +kernel
theorem dX12_count_48 : decode cX12_count 48 = .ok (.ireturn, 1) := by decide +kernel
theorem dX12_thrown_0 : decode cX12_thrown 0 = .ok (.aload_n 0, 1) := by decide +kernel
theorem dX12_thrown_1 : decode cX12_thrown 1 = .ok (.getfield 243, 3) := by decide +kernel
theorem dX12_thrown_4 : decode cX12_thrown 4 = .ok (.ireturn, 1) := by decide +kernel
theorem dX12_isShelf_0 : decode cX12_isShelf 0 = .ok (.iload_n 0, 1) := by decide +kernel
theorem dX12_isShelf_1 : decode cX12_isShelf 1 = .ok (.iconst 0, 1) := by decide +kernel
theorem dX12_isShelf_2 : decode cX12_isShelf 2 = .ok (.bipush 7, 2) := by decide +kernel
theorem dX12_isShelf_4 : decode cX12_isShelf 4 = .ok (.invokestatic 49, 3) := by decide +kernel
theorem dX12_isShelf_7 : decode cX12_isShelf 7 = .ok (.ireturn, 1) := by decide +kernel
theorem dX12_wrongRow_0 : decode cX12_wrongRow 0 = .ok (.iload_n 1, 1) := by decide +kernel
theorem dX12_wrongRow_1 : decode cX12_wrongRow 1 = .ok (.invokestatic 246, 3) := by decide +kernel
theorem dX12_wrongRow_4 : decode cX12_wrongRow 4 = .ok (.ifCond .ne 7, 3) := by decide +kernel
theorem dX12_wrongRow_7 : decode cX12_wrongRow 7 = .ok (.iconst (-1), 1) := by decide +kernel
theorem dX12_wrongRow_8 : decode cX12_wrongRow 8 = .ok (.goto 47, 3) := by decide +kernel
theorem dX12_wrongRow_11 : decode cX12_wrongRow 11 = .ok (.aload_n 0, 1) := by decide +kernel
theorem dX12_wrongRow_12 : decode cX12_wrongRow 12 = .ok (.getfield 31, 3) := by decide +kernel
theorem dX12_wrongRow_15 : decode cX12_wrongRow 15 = .ok (.iload_n 1, 1) := by decide +kernel
theorem dX12_wrongRow_16 : decode cX12_wrongRow 16 = .ok (.iaload, 1) := by decide +kernel
theorem dX12_wrongRow_17 : decode cX12_wrongRow 17 = .ok (.ifCond .ne 8, 3) := by decide +kernel
theorem dX12_wrongRow_20 : decode cX12_wrongRow 20 = .ok (.bipush (-11), 2) := by decide +kernel
theorem dX12_wrongRow_22 : decode cX12_wrongRow 22 = .ok (.goto 33, 3) := by decide +kernel
theorem dX12_wrongRow_25 : decode cX12_wrongRow 25 = .ok (.aload_n 0, 1) := by decide +kernel
theorem dX12_wrongRow_26 : decode cX12_wrongRow 26 = .ok (.getfield 31, 3) := by decide +kernel
theorem dX12_wrongRow_29 : decode cX12_wrongRow 29 = .ok (.iload_n 1, 1) := by decide +kernel
theorem dX12_wrongRow_30 : decode cX12_wrongRow 30 = .ok (.iaload, 1) := by decide +kernel
theorem dX12_wrongRow_31 : decode cX12_wrongRow 31 = .ok (.iconst 2, 1) := by decide +kernel
theorem dX12_wrongRow_32 : decode cX12_wrongRow 32 = .ok (.if_icmp .ne 17, 3) := by decide +kernel
theorem dX12_wrongRow_35 : decode cX12_wrongRow 35 = .ok (.iload_n 2, 1) := by decide +kernel
theorem dX12_wrongRow_36 : decode cX12_wrongRow 36 = .ok (.ifCond .lt 18, 3) := by decide +kernel
theorem dX12_wrongRow_39 : decode cX12_wrongRow 39 = .ok (.aload_n 0, 1) := by decide +kernel
theorem dX12_wrongRow_40 : decode cX12_wrongRow 40 = .ok (.getfield 40, 3) := by decide +kernel
theorem dX12_wrongRow_43 : decode cX12_wrongRow 43 = .ok (.iload_n 1, 1) := by decide +kernel
theorem dX12_wrongRow_44 : decode cX12_wrongRow 44 = .ok (.iaload, 1) := by decide +kernel
theorem dX12_wrongRow_45 : decode cX12_wrongRow 45 = .ok (.iload_n 2, 1) := by decide +kernel
theorem dX12_wrongRow_46 : decode cX12_wrongRow 46 = .ok (.if_icmp .eq 8, 3) := by decide +kernel
theorem dX12_wrongRow_49 : decode cX12_wrongRow 49 = .ok (.bipush (-12), 2) := by decide +kernel
theorem dX12_wrongRow_51 : decode cX12_wrongRow 51 = .ok (.goto 4, 3) := by decide +kernel
theorem dX12_wrongRow_54 : decode cX12_wrongRow 54 = .ok (.iconst 0, 1) := by decide +kernel
theorem dX12_wrongRow_55 : decode cX12_wrongRow 55 = .ok (.ireturn, 1) := by decide +kernel
theorem dX12_wrongKept_0 : decode cX12_wrongKept 0 = .ok (.iload_n 1, 1) := by decide +kernel
theorem dX12_wrongKept_1 : decode cX12_wrongKept 1 = .ok (.invokestatic 246, 3) := by decide +kernel
theorem dX12_wrongKept_4 : decode cX12_wrongKept 4 = .ok (.ifCond .ne 7, 3) := by decide +kernel
theorem dX12_wrongKept_7 : decode cX12_wrongKept 7 = .ok (.iconst (-1), 1) := by decide +kernel
theorem dX12_wrongKept_8 : decode cX12_wrongKept 8 = .ok (.goto 33, 3) := by decide +kernel
theorem dX12_wrongKept_11 : decode cX12_wrongKept 11 = .ok (.aload_n 0, 1) := by decide +kernel
theorem dX12_wrongKept_12 : decode cX12_wrongKept 12 = .ok (.getfield 31, 3) := by decide +kernel
theorem dX12_wrongKept_15 : decode cX12_wrongKept 15 = .ok (.iload_n 1, 1) := by decide +kernel
theorem dX12_wrongKept_16 : decode cX12_wrongKept 16 = .ok (.iaload, 1) := by decide +kernel
theorem dX12_wrongKept_17 : decode cX12_wrongKept 17 = .ok (.ifCond .ne 8, 3) := by decide +kernel
theorem dX12_wrongKept_20 : decode cX12_wrongKept 20 = .ok (.bipush (-11), 2) := by decide +kernel
theorem dX12_wrongKept_22 : decode cX12_wrongKept 22 = .ok (.goto 19, 3) := by decide +kernel
theorem dX12_wrongKept_25 : decode cX12_wrongKept 25 = .ok (.aload_n 0, 1) := by decide +kernel
theorem dX12_wrongKept_26 : decode cX12_wrongKept 26 = .ok (.getfield 31, 3) := by decide +kernel
theorem dX12_wrongKept_29 : decode cX12_wrongKept 29 = .ok (.iload_n 1, 1) := by decide +kernel
theorem dX12_wrongKept_30 : decode cX12_wrongKept 30 = .ok (.iaload, 1) := by decide +kernel
theorem dX12_wrongKept_31 : decode cX12_wrongKept 31 = .ok (.iconst 2, 1) := by decide +kernel
theorem dX12_wrongKept_32 : decode cX12_wrongKept 32 = .ok (.if_icmp .ne 8, 3) := by decide +kernel
theorem dX12_wrongKept_35 : decode cX12_wrongKept 35 = .ok (.bipush (-12), 2) := by decide +kernel
theorem dX12_wrongKept_37 : decode cX12_wrongKept 37 = .ok (.goto 4, 3) := by decide +kernel
theorem dX12_wrongKept_40 : decode cX12_wrongKept 40 = .ok (.iconst 0, 1) := by decide +kernel
theorem dX12_wrongKept_41 : decode cX12_wrongKept 41 = .ok (.ireturn, 1) := by decide +kernel
theorem dX12_keep_0 : decode cX12_keep 0 = .ok (.iload_n 1, 1) := by decide +kernel
theorem dX12_keep_1 : decode cX12_keep 1 = .ok (.invokestatic 246, 3) := by decide +kernel
theorem dX12_keep_4 : decode cX12_keep 4 = .ok (.ifCond .eq 38, 3) := by decide +kernel
theorem dX12_keep_7 : decode cX12_keep 7 = .ok (.iload_n 2, 1) := by decide +kernel
theorem dX12_keep_8 : decode cX12_keep 8 = .ok (.iconst 0, 1) := by decide +kernel
theorem dX12_keep_9 : decode cX12_keep 9 = .ok (.iconst 1, 1) := by decide +kernel
theorem dX12_keep_10 : decode cX12_keep 10 = .ok (.invokestatic 49, 3) := by decide +kernel
theorem dX12_keep_13 : decode cX12_keep 13 = .ok (.ifCond .eq 29, 3) := by decide +kernel
theorem dX12_keep_16 : decode cX12_keep 16 = .ok (.iload_n 2, 1) := by decide +kernel
theorem dX12_keep_17 : decode cX12_keep 17 = .ok (.iconst 1, 1) := by decide +kernel
theorem dX12_keep_18 : decode cX12_keep 18 = .ok (.if_icmp .ne 26, 3) := by decide +kernel
theorem dX12_keep_21 : decode cX12_keep 21 = .ok (.iload_n 3, 1) := by decide +kernel
theorem dX12_keep_22 : decode cX12_keep 22 = .ok (.iconst 0, 1) := by decide +kernel
theorem dX12_keep_23 : decode cX12_keep 23 = .ok (.bipush 7, 2) := by decide +kernel
theorem dX12_keep_25 : decode cX12_keep 25 = .ok (.invokestatic 49, 3) := by decide +kernel
theorem dX12_keep_28 : decode cX12_keep 28 = .ok (.ifCond .eq 14, 3) := by decide +kernel
theorem dX12_keep_31 : decode cX12_keep 31 = .ok (.iload 4, 2) := by decide +kernel
theorem dX12_keep_33 : decode cX12_keep 33 = .ok (.iconst 0, 1) := by decide +kernel
theorem dX12_keep_34 : decode cX12_keep 34 = .ok (.bipush 9, 2) := by decide +kernel
theorem dX12_keep_36 : decode cX12_keep 36 = .ok (.invokestatic 49, 3) := by decide +kernel
theorem dX12_keep_39 : decode cX12_keep 39 = .ok (.ifCond .ne 5, 3) := by decide +kernel
theorem dX12_keep_42 : decode cX12_keep 42 = .ok (.iconst (-1), 1) := by decide +kernel
theorem dX12_keep_43 : decode cX12_keep 43 = .ok (.ireturn, 1) := by decide +kernel
theorem dX12_keep_44 : decode cX12_keep 44 = .ok (.aload_n 0, 1) := by decide +kernel
theorem dX12_keep_45 : decode cX12_keep 45 = .ok (.getfield 31, 3) := by decide +kernel
theorem dX12_keep_48 : decode cX12_keep 48 = .ok (.iload_n 1, 1) := by decide +kernel
theorem dX12_keep_49 : decode cX12_keep 49 = .ok (.iload_n 2, 1) := by decide +kernel
theorem dX12_keep_50 : decode cX12_keep 50 = .ok (.iastore, 1) := by decide +kernel
theorem dX12_keep_51 : decode cX12_keep 51 = .ok (.aload_n 0, 1) := by decide +kernel
theorem dX12_keep_52 : decode cX12_keep 52 = .ok (.getfield 34, 3) := by decide +kernel
theorem dX12_keep_55 : decode cX12_keep 55 = .ok (.iload_n 1, 1) := by decide +kernel
theorem dX12_keep_56 : decode cX12_keep 56 = .ok (.iload_n 3, 1) := by decide +kernel
theorem dX12_keep_57 : decode cX12_keep 57 = .ok (.iastore, 1) := by decide +kernel
theorem dX12_keep_58 : decode cX12_keep 58 = .ok (.aload_n 0, 1) := by decide +kernel
theorem dX12_keep_59 : decode cX12_keep 59 = .ok (.getfield 37, 3) := by decide +kernel
theorem dX12_keep_62 : decode cX12_keep 62 = .ok (.iload_n 1, 1) := by decide +kernel
theorem dX12_keep_63 : decode cX12_keep 63 = .ok (.iload 4, 2) := by decide +kernel
theorem dX12_keep_65 : decode cX12_keep 65 = .ok (.iastore, 1) := by decide +kernel
theorem dX12_keep_66 : decode cX12_keep 66 = .ok (.iconst 0, 1) := by decide +kernel
theorem dX12_keep_67 : decode cX12_keep 67 = .ok (.ireturn, 1) := by decide +kernel
theorem dX12_row_0 : decode cX12_row 0 = .ok (.iload_n 1, 1) := by decide +kernel
theorem dX12_row_1 : decode cX12_row 1 = .ok (.invokestatic 246, 3) := by decide +kernel
theorem dX12_row_4 : decode cX12_row 4 = .ok (.ifCond .eq 18, 3) := by decide +kernel
theorem dX12_row_7 : decode cX12_row 7 = .ok (.iload_n 2, 1) := by decide +kernel
theorem dX12_row_8 : decode cX12_row 8 = .ok (.iconst 0, 1) := by decide +kernel
theorem dX12_row_9 : decode cX12_row 9 = .ok (.iconst 2, 1) := by decide +kernel
theorem dX12_row_10 : decode cX12_row 10 = .ok (.invokestatic 49, 3) := by decide +kernel
theorem dX12_row_13 : decode cX12_row 13 = .ok (.ifCond .eq 9, 3) := by decide +kernel
theorem dX12_row_16 : decode cX12_row 16 = .ok (.iload_n 3, 1) := by decide +kernel
theorem dX12_row_17 : decode cX12_row 17 = .ok (.bipush 100, 2) := by decide +kernel
theorem dX12_row_19 : decode cX12_row 19 = .ok (.if_icmp .le 5, 3) := by decide +kernel
theorem dX12_row_22 : decode cX12_row 22 = .ok (.iconst (-1), 1) := by decide +kernel
theorem dX12_row_23 : decode cX12_row 23 = .ok (.ireturn, 1) := by decide +kernel
theorem dX12_row_24 : decode cX12_row 24 = .ok (.iload_n 3, 1) := by decide +kernel
theorem dX12_row_25 : decode cX12_row 25 = .ok (.ifCond .ge 6, 3) := by decide +kernel
theorem dX12_row_28 : decode cX12_row 28 = .ok (.bipush (-14), 2) := by decide +kernel
theorem dX12_row_30 : decode cX12_row 30 = .ok (.ireturn, 1) := by decide +kernel
theorem dX12_row_31 : decode cX12_row 31 = .ok (.aload_n 0, 1) := by decide +kernel
theorem dX12_row_32 : decode cX12_row 32 = .ok (.getfield 31, 3) := by decide +kernel
theorem dX12_row_35 : decode cX12_row 35 = .ok (.iload_n 1, 1) := by decide +kernel
theorem dX12_row_36 : decode cX12_row 36 = .ok (.iconst 2, 1) := by decide +kernel
theorem dX12_row_37 : decode cX12_row 37 = .ok (.iastore, 1) := by decide +kernel
theorem dX12_row_38 : decode cX12_row 38 = .ok (.aload_n 0, 1) := by decide +kernel
theorem dX12_row_39 : decode cX12_row 39 = .ok (.getfield 40, 3) := by decide +kernel
theorem dX12_row_42 : decode cX12_row 42 = .ok (.iload_n 1, 1) := by decide +kernel
theorem dX12_row_43 : decode cX12_row 43 = .ok (.iload_n 2, 1) := by decide +kernel
theorem dX12_row_44 : decode cX12_row 44 = .ok (.iastore, 1) := by decide +kernel
theorem dX12_row_45 : decode cX12_row 45 = .ok (.aload_n 0, 1) := by decide +kernel
theorem dX12_row_46 : decode cX12_row 46 = .ok (.getfield 43, 3) := by decide +kernel
theorem dX12_row_49 : decode cX12_row 49 = .ok (.iload_n 1, 1) := by decide +kernel
theorem dX12_row_50 : decode cX12_row 50 = .ok (.iload_n 3, 1) := by decide +kernel
theorem dX12_row_51 : decode cX12_row 51 = .ok (.iastore, 1) := by decide +kernel
theorem dX12_row_52 : decode cX12_row 52 = .ok (.iconst 0, 1) := by decide +kernel
theorem dX12_row_53 : decode cX12_row 53 = .ok (.istore 4, 2) := by decide +kernel
theorem dX12_row_55 : decode cX12_row 55 = .ok (.iload 4, 2) := by decide +kernel
theorem dX12_row_57 : decode cX12_row 57 = .ok (.bipush 100, 2) := by decide +kernel
theorem dX12_row_59 : decode cX12_row 59 = .ok (.if_icmp .ge 22, 3) := by decide +kernel
theorem dX12_row_62 : decode cX12_row 62 = .ok (.aload_n 0, 1) := by decide +kernel
theorem dX12_row_63 : decode cX12_row 63 = .ok (.getfield 46, 3) := by decide +kernel
theorem dX12_row_66 : decode cX12_row 66 = .ok (.bipush 100, 2) := by decide +kernel
theorem dX12_row_68 : decode cX12_row 68 = .ok (.iload_n 1, 1) := by decide +kernel
theorem dX12_row_69 : decode cX12_row 69 = .ok (.imul, 1) := by decide +kernel
theorem dX12_row_70 : decode cX12_row 70 = .ok (.iload 4, 2) := by decide +kernel
theorem dX12_row_72 : decode cX12_row 72 = .ok (.iadd, 1) := by decide +kernel
theorem dX12_row_73 : decode cX12_row 73 = .ok (.iconst 0, 1) := by decide +kernel
theorem dX12_row_74 : decode cX12_row 74 = .ok (.iastore, 1) := by decide +kernel
theorem dX12_row_75 : decode cX12_row 75 = .ok (.iinc 4 1, 3) := by decide +kernel
theorem dX12_row_78 : decode cX12_row 78 = .ok (.goto (-23), 3) := by decide +kernel
theorem dX12_row_81 : decode cX12_row 81 = .ok (.iconst 0, 1) := by decide +kernel
theorem dX12_row_82 : decode cX12_row 82 = .ok (.ireturn, 1) := by decide +kernel
theorem dX12_put_0 : decode cX12_put 0 = .ok (.aload_n 0, 1) := by decide +kernel
theorem dX12_put_1 : decode cX12_put 1 = .ok (.iload_n 1, 1) := by decide +kernel
theorem dX12_put_2 : decode cX12_put 2 = .ok (.iconst (-1), 1) := by decide +kernel
theorem dX12_put_3 : decode cX12_put 3 = .ok (.invokevirtual 134, 3) := by decide +kernel
theorem dX12_put_6 : decode cX12_put 6 = .ok (.istore 4, 2) := by decide +kernel
theorem dX12_put_8 : decode cX12_put 8 = .ok (.iload 4, 2) := by decide +kernel
theorem dX12_put_10 : decode cX12_put 10 = .ok (.ifCond .eq 6, 3) := by decide +kernel
theorem dX12_put_13 : decode cX12_put 13 = .ok (.iload 4, 2) := by decide +kernel
theorem dX12_put_15 : decode cX12_put 15 = .ok (.ireturn, 1) := by decide +kernel
theorem dX12_put_16 : decode cX12_put 16 = .ok (.iload_n 2, 1) := by decide +kernel
theorem dX12_put_17 : decode cX12_put 17 = .ok (.iconst 0, 1) := by decide +kernel
theorem dX12_put_18 : decode cX12_put 18 = .ok (.aload_n 0, 1) := by decide +kernel
theorem dX12_put_19 : decode cX12_put 19 = .ok (.getfield 43, 3) := by decide +kernel
theorem dX12_put_22 : decode cX12_put 22 = .ok (.iload_n 1, 1) := by decide +kernel
theorem dX12_put_23 : decode cX12_put 23 = .ok (.iaload, 1) := by decide +kernel
theorem dX12_put_24 : decode cX12_put 24 = .ok (.iconst 1, 1) := by decide +kernel
theorem dX12_put_25 : decode cX12_put 25 = .ok (.isub, 1) := by decide +kernel
theorem dX12_put_26 : decode cX12_put 26 = .ok (.invokestatic 49, 3) := by decide +kernel
theorem dX12_put_29 : decode cX12_put 29 = .ok (.ifCond .ne 6, 3) := by decide +kernel
theorem dX12_put_32 : decode cX12_put 32 = .ok (.bipush (-13), 2) := by decide +kernel
theorem dX12_put_34 : decode cX12_put 34 = .ok (.ireturn, 1) := by decide +kernel
theorem dX12_put_35 : decode cX12_put 35 = .ok (.aload_n 0, 1) := by decide +kernel
theorem dX12_put_36 : decode cX12_put 36 = .ok (.getfield 46, 3) := by decide +kernel
theorem dX12_put_39 : decode cX12_put 39 = .ok (.bipush 100, 2) := by decide +kernel
theorem dX12_put_41 : decode cX12_put 41 = .ok (.iload_n 1, 1) := by decide +kernel
theorem dX12_put_42 : decode cX12_put 42 = .ok (.imul, 1) := by decide +kernel
theorem dX12_put_43 : decode cX12_put 43 = .ok (.iload_n 2, 1) := by decide +kernel
theorem dX12_put_44 : decode cX12_put 44 = .ok (.iadd, 1) := by decide +kernel
theorem dX12_put_45 : decode cX12_put 45 = .ok (.aload_n 0, 1) := by decide +kernel
theorem dX12_put_46 : decode cX12_put 46 = .ok (.getfield 40, 3) := by decide +kernel
theorem dX12_put_49 : decode cX12_put 49 = .ok (.iload_n 1, 1) := by decide +kernel
theorem dX12_put_50 : decode cX12_put 50 = .ok (.iaload, 1) := by decide +kernel
theorem dX12_put_51 : decode cX12_put 51 = .ok (.ifCond .ne 8, 3) := by decide +kernel
theorem dX12_put_54 : decode cX12_put 54 = .ok (.iload_n 3, 1) := by decide +kernel
theorem dX12_put_55 : decode cX12_put 55 = .ok (.i2b, 1) := by decide +kernel
theorem dX12_put_56 : decode cX12_put 56 = .ok (.goto 19, 3) := by decide +kernel
theorem dX12_put_59 : decode cX12_put 59 = .ok (.aload_n 0, 1) := by decide +kernel
theorem dX12_put_60 : decode cX12_put 60 = .ok (.getfield 40, 3) := by decide +kernel
theorem dX12_put_63 : decode cX12_put 63 = .ok (.iload_n 1, 1) := by decide +kernel
theorem dX12_put_64 : decode cX12_put 64 = .ok (.iaload, 1) := by decide +kernel
theorem dX12_put_65 : decode cX12_put 65 = .ok (.iconst 1, 1) := by decide +kernel
theorem dX12_put_66 : decode cX12_put 66 = .ok (.if_icmp .ne 8, 3) := by decide +kernel
theorem dX12_put_69 : decode cX12_put 69 = .ok (.iload_n 3, 1) := by decide +kernel
theorem dX12_put_70 : decode cX12_put 70 = .ok (.i2s, 1) := by decide +kernel
theorem dX12_put_71 : decode cX12_put 71 = .ok (.goto 4, 3) := by decide +kernel
theorem dX12_put_74 : decode cX12_put 74 = .ok (.iload_n 3, 1) := by decide +kernel
theorem dX12_put_75 : decode cX12_put 75 = .ok (.iastore, 1) := by decide +kernel
theorem dX12_put_76 : decode cX12_put 76 = .ok (.iconst 0, 1) := by decide +kernel
theorem dX12_put_77 : decode cX12_put 77 = .ok (.ireturn, 1) := by decide +kernel
theorem dX12_element_0 : decode cX12_element 0 = .ok (.aload_n 0, 1) := by decide +kernel
theorem dX12_element_1 : decode cX12_element 1 = .ok (.iload_n 1, 1) := by decide +kernel
theorem dX12_element_2 : decode cX12_element 2 = .ok (.invokestatic 246, 3) := by decide +kernel
theorem dX12_element_5 : decode cX12_element 5 = .ok (.ifCond .ne 7, 3) := by decide +kernel
theorem dX12_element_8 : decode cX12_element 8 = .ok (.iconst 1, 1) := by decide +kernel
theorem dX12_element_9 : decode cX12_element 9 = .ok (.goto 34, 3) := by decide +kernel
theorem dX12_element_12 : decode cX12_element 12 = .ok (.aload_n 0, 1) := by decide +kernel
theorem dX12_element_13 : decode cX12_element 13 = .ok (.getfield 31, 3) := by decide +kernel
theorem dX12_element_16 : decode cX12_element 16 = .ok (.iload_n 1, 1) := by decide +kernel
theorem dX12_element_17 : decode cX12_element 17 = .ok (.iaload, 1) := by decide +kernel
theorem dX12_element_18 : decode cX12_element 18 = .ok (.iconst 2, 1) := by decide +kernel
theorem dX12_element_19 : decode cX12_element 19 = .ok (.if_icmp .ne 19, 3) := by decide +kernel
theorem dX12_element_22 : decode cX12_element 22 = .ok (.iload_n 2, 1) := by decide +kernel
theorem dX12_element_23 : decode cX12_element 23 = .ok (.iconst 0, 1) := by decide +kernel
theorem dX12_element_24 : decode cX12_element 24 = .ok (.aload_n 0, 1) := by decide +kernel
theorem dX12_element_25 : decode cX12_element 25 = .ok (.getfield 43, 3) := by decide +kernel
theorem dX12_element_28 : decode cX12_element 28 = .ok (.iload_n 1, 1) := by decide +kernel
theorem dX12_element_29 : decode cX12_element 29 = .ok (.iaload, 1) := by decide +kernel
theorem dX12_element_30 : decode cX12_element 30 = .ok (.iconst 1, 1) := by decide +kernel
theorem dX12_element_31 : decode cX12_element 31 = .ok (.isub, 1) := by decide +kernel
theorem dX12_element_32 : decode cX12_element 32 = .ok (.invokestatic 49, 3) := by decide +kernel
theorem dX12_element_35 : decode cX12_element 35 = .ok (.ifCond .ne 7, 3) := by decide +kernel
theorem dX12_element_38 : decode cX12_element 38 = .ok (.iconst 2, 1) := by decide +kernel
theorem dX12_element_39 : decode cX12_element 39 = .ok (.goto 4, 3) := by decide +kernel
theorem dX12_element_42 : decode cX12_element 42 = .ok (.iconst 0, 1) := by decide +kernel
theorem dX12_element_43 : decode cX12_element 43 = .ok (.putfield 243, 3) := by decide +kernel
theorem dX12_element_46 : decode cX12_element 46 = .ok (.aload_n 0, 1) := by decide +kernel
theorem dX12_element_47 : decode cX12_element 47 = .ok (.getfield 243, 3) := by decide +kernel
theorem dX12_element_50 : decode cX12_element 50 = .ok (.ifCond .ne 18, 3) := by decide +kernel
theorem dX12_element_53 : decode cX12_element 53 = .ok (.aload_n 0, 1) := by decide +kernel
theorem dX12_element_54 : decode cX12_element 54 = .ok (.getfield 46, 3) := by decide +kernel
theorem dX12_element_57 : decode cX12_element 57 = .ok (.bipush 100, 2) := by decide +kernel
theorem dX12_element_59 : decode cX12_element 59 = .ok (.iload_n 1, 1) := by decide +kernel
theorem dX12_element_60 : decode cX12_element 60 = .ok (.imul, 1) := by decide +kernel
theorem dX12_element_61 : decode cX12_element 61 = .ok (.iload_n 2, 1) := by decide +kernel
theorem dX12_element_62 : decode cX12_element 62 = .ok (.iadd, 1) := by decide +kernel
theorem dX12_element_63 : decode cX12_element 63 = .ok (.iaload, 1) := by decide +kernel
theorem dX12_element_64 : decode cX12_element 64 = .ok (.i2l, 1) := by decide +kernel
theorem dX12_element_65 : decode cX12_element 65 = .ok (.goto 4, 3) := by decide +kernel
theorem dX12_element_68 : decode cX12_element 68 = .ok (.lconst 0, 1) := by decide +kernel
theorem dX12_element_69 : decode cX12_element 69 = .ok (.lreturn, 1) := by decide +kernel
theorem dX12_copy_0 : decode cX12_copy 0 = .ok (.iload_n 1, 1) := by decide +kernel
theorem dX12_copy_1 : decode cX12_copy 1 = .ok (.invokestatic 246, 3) := by decide +kernel
theorem dX12_copy_4 : decode cX12_copy 4 = .ok (.ifCond .eq 10, 3) := by decide +kernel
theorem dX12_copy_7 : decode cX12_copy 7 = .ok (.iload_n 3, 1) := by decide +kernel
theorem dX12_copy_8 : decode cX12_copy 8 = .ok (.invokestatic 246, 3) := by decide +kernel
theorem dX12_copy_11 : decode cX12_copy 11 = .ok (.ifCond .ne 5, 3) := by decide +kernel
theorem dX12_copy_14 : decode cX12_copy 14 = .ok (.iconst (-1), 1) := by decide +kernel
theorem dX12_copy_15 : decode cX12_copy 15 = .ok (.ireturn, 1) := by decide +kernel
theorem dX12_copy_16 : decode cX12_copy 16 = .ok (.aload_n 0, 1) := by decide +kernel
theorem dX12_copy_17 : decode cX12_copy 17 = .ok (.getfield 31, 3) := by decide +kernel
theorem dX12_copy_20 : decode cX12_copy 20 = .ok (.iload_n 1, 1) := by decide +kernel
theorem dX12_copy_21 : decode cX12_copy 21 = .ok (.iaload, 1) := by decide +kernel
theorem dX12_copy_22 : decode cX12_copy 22 = .ok (.ifCond .eq 12, 3) := by decide +kernel
theorem dX12_copy_25 : decode cX12_copy 25 = .ok (.aload_n 0, 1) := by decide +kernel
theorem dX12_copy_26 : decode cX12_copy 26 = .ok (.getfield 31, 3) := by decide +kernel
theorem dX12_copy_29 : decode cX12_copy 29 = .ok (.iload_n 3, 1) := by decide +kernel
theorem dX12_copy_30 : decode cX12_copy 30 = .ok (.iaload, 1) := by decide +kernel
theorem dX12_copy_31 : decode cX12_copy 31 = .ok (.ifCond .ne 6, 3) := by decide +kernel
theorem dX12_copy_34 : decode cX12_copy 34 = .ok (.bipush (-11), 2) := by decide +kernel
theorem dX12_copy_36 : decode cX12_copy 36 = .ok (.ireturn, 1) := by decide +kernel
theorem dX12_copy_37 : decode cX12_copy 37 = .ok (.aload_n 0, 1) := by decide +kernel
theorem dX12_copy_38 : decode cX12_copy 38 = .ok (.getfield 31, 3) := by decide +kernel
theorem dX12_copy_41 : decode cX12_copy 41 = .ok (.iload_n 1, 1) := by decide +kernel
theorem dX12_copy_42 : decode cX12_copy 42 = .ok (.iaload, 1) := by decide +kernel
theorem dX12_copy_43 : decode cX12_copy 43 = .ok (.iconst 2, 1) := by decide +kernel
theorem dX12_copy_44 : decode cX12_copy 44 = .ok (.if_icmp .ne 28, 3) := by decide +kernel
theorem dX12_copy_47 : decode cX12_copy 47 = .ok (.aload_n 0, 1) := by decide +kernel
theorem dX12_copy_48 : decode cX12_copy 48 = .ok (.getfield 31, 3) := by decide +kernel
theorem dX12_copy_51 : decode cX12_copy 51 = .ok (.iload_n 3, 1) := by decide +kernel
theorem dX12_copy_52 : decode cX12_copy 52 = .ok (.iaload, 1) := by decide +kernel
theorem dX12_copy_53 : decode cX12_copy 53 = .ok (.iconst 2, 1) := by decide +kernel
theorem dX12_copy_54 : decode cX12_copy 54 = .ok (.if_icmp .ne 18, 3) := by decide +kernel
theorem dX12_copy_57 : decode cX12_copy 57 = .ok (.aload_n 0, 1) := by decide +kernel
theorem dX12_copy_58 : decode cX12_copy 58 = .ok (.getfield 40, 3) := by decide +kernel
theorem dX12_copy_61 : decode cX12_copy 61 = .ok (.iload_n 1, 1) := by decide +kernel
theorem dX12_copy_62 : decode cX12_copy 62 = .ok (.iaload, 1) := by decide +kernel
theorem dX12_copy_63 : decode cX12_copy 63 = .ok (.aload_n 0, 1) := by decide +kernel
theorem dX12_copy_64 : decode cX12_copy 64 = .ok (.getfield 40, 3) := by decide +kernel
theorem dX12_copy_67 : decode cX12_copy 67 = .ok (.iload_n 3, 1) := by decide +kernel
theorem dX12_copy_68 : decode cX12_copy 68 = .ok (.iaload, 1) := by decide +kernel
theorem dX12_copy_69 : decode cX12_copy 69 = .ok (.if_icmp .eq 6, 3) := by decide +kernel
theorem dX12_copy_72 : decode cX12_copy 72 = .ok (.bipush (-12), 2) := by decide +kernel
theorem dX12_copy_74 : decode cX12_copy 74 = .ok (.ireturn, 1) := by decide +kernel
theorem dX12_copy_75 : decode cX12_copy 75 = .ok (.iload 5, 2) := by decide +kernel
theorem dX12_copy_77 : decode cX12_copy 77 = .ok (.ifCond .lt 39, 3) := by decide +kernel
theorem dX12_copy_80 : decode cX12_copy 80 = .ok (.iload_n 2, 1) := by decide +kernel
theorem dX12_copy_81 : decode cX12_copy 81 = .ok (.ifCond .lt 35, 3) := by decide +kernel
theorem dX12_copy_84 : decode cX12_copy 84 = .ok (.iload 4, 2) := by decide +kernel
theorem dX12_copy_86 : decode cX12_copy 86 = .ok (.ifCond .lt 30, 3) := by decide +kernel
theorem dX12_copy_89 : decode cX12_copy 89 = .ok (.iload 5, 2) := by decide +kernel
theorem dX12_copy_91 : decode cX12_copy 91 = .ok (.aload_n 0, 1) := by decide +kernel
theorem dX12_copy_92 : decode cX12_copy 92 = .ok (.getfield 43, 3) := by decide +kernel
theorem dX12_copy_95 : decode cX12_copy 95 = .ok (.iload_n 1, 1) := by decide +kernel
theorem dX12_copy_96 : decode cX12_copy 96 = .ok (.iaload, 1) := by decide +kernel
theorem dX12_copy_97 : decode cX12_copy 97 = .ok (.iload_n 2, 1) := by decide +kernel
theorem dX12_copy_98 : decode cX12_copy 98 = .ok (.isub, 1) := by decide +kernel
theorem dX12_copy_99 : decode cX12_copy 99 = .ok (.if_icmp .gt 17, 3) := by decide +kernel
theorem dX12_copy_102 : decode cX12_copy 102 = .ok (.iload 5, 2) := by decide +kernel
theorem dX12_copy_104 : decode cX12_copy 104 = .ok (.aload_n 0, 1) := by decide +kernel
theorem dX12_copy_105 : decode cX12_copy 105 = .ok (.getfield 43, 3) := by decide +kernel
theorem dX12_copy_108 : decode cX12_copy 108 = .ok (.iload_n 3, 1) := by decide +kernel
theorem dX12_copy_109 : decode cX12_copy 109 = .ok (.iaload, 1) := by decide +kernel
theorem dX12_copy_110 : decode cX12_copy 110 = .ok (.iload 4, 2) := by decide +kernel
theorem dX12_copy_112 : decode cX12_copy 112 = .ok (.isub, 1) := by decide +kernel
theorem dX12_copy_113 : decode cX12_copy 113 = .ok (.if_icmp .le 6, 3) := by decide +kernel
theorem dX12_copy_116 : decode cX12_copy 116 = .ok (.bipush (-13), 2) := by decide +kernel
theorem dX12_copy_118 : decode cX12_copy 118 = .ok (.ireturn, 1) := by decide +kernel
theorem dX12_copy_119 : decode cX12_copy 119 = .ok (.iconst 0, 1) := by decide +kernel
theorem dX12_copy_120 : decode cX12_copy 120 = .ok (.istore 6, 2) := by decide +kernel
theorem dX12_copy_122 : decode cX12_copy 122 = .ok (.iload 6, 2) := by decide +kernel
theorem dX12_copy_124 : decode cX12_copy 124 = .ok (.iload 5, 2) := by decide +kernel
theorem dX12_copy_126 : decode cX12_copy 126 = .ok (.if_icmp .ge 58, 3) := by decide +kernel
theorem dX12_copy_129 : decode cX12_copy 129 = .ok (.iload_n 2, 1) := by decide +kernel
theorem dX12_copy_130 : decode cX12_copy 130 = .ok (.iload 4, 2) := by decide +kernel
theorem dX12_copy_132 : decode cX12_copy 132 = .ok (.if_icmp .le 8, 3) := by decide +kernel
theorem dX12_copy_135 : decode cX12_copy 135 = .ok (.iload 6, 2) := by decide +kernel
theorem dX12_copy_137 : decode cX12_copy 137 = .ok (.goto 10, 3) := by decide +kernel
theorem dX12_copy_140 : decode cX12_copy 140 = .ok (.iload 5, 2) := by decide +kernel
theorem dX12_copy_142 : decode cX12_copy 142 = .ok (.iconst 1, 1) := by decide +kernel
theorem dX12_copy_143 : decode cX12_copy 143 = .ok (.isub, 1) := by decide +kernel
theorem dX12_copy_144 : decode cX12_copy 144 = .ok (.iload 6, 2) := by decide +kernel
theorem dX12_copy_146 : decode cX12_copy 146 = .ok (.isub, 1) := by decide +kernel
theorem dX12_copy_147 : decode cX12_copy 147 = .ok (.istore 7, 2) := by decide +kernel
theorem dX12_copy_149 : decode cX12_copy 149 = .ok (.aload_n 0, 1) := by decide +kernel
theorem dX12_copy_150 : decode cX12_copy 150 = .ok (.getfield 46, 3) := by decide +kernel
theorem dX12_copy_153 : decode cX12_copy 153 = .ok (.bipush 100, 2) := by decide +kernel
theorem dX12_copy_155 : decode cX12_copy 155 = .ok (.iload_n 3, 1) := by decide +kernel
theorem dX12_copy_156 : decode cX12_copy 156 = .ok (.imul, 1) := by decide +kernel
theorem dX12_copy_157 : decode cX12_copy 157 = .ok (.iload 4, 2) := by decide +kernel
theorem dX12_copy_159 : decode cX12_copy 159 = .ok (.iadd, 1) := by decide +kernel
theorem dX12_copy_160 : decode cX12_copy 160 = .ok (.iload 7, 2) := by decide +kernel
theorem dX12_copy_162 : decode cX12_copy 162 = .ok (.iadd, 1) := by decide +kernel
theorem dX12_copy_163 : decode cX12_copy 163 = .ok (.aload_n 0, 1) := by decide +kernel
theorem dX12_copy_164 : decode cX12_copy 164 = .ok (.getfield 46, 3) := by decide +kernel
theorem dX12_copy_167 : decode cX12_copy 167 = .ok (.bipush 100, 2) := by decide +kernel
theorem dX12_copy_169 : decode cX12_copy 169 = .ok (.iload_n 1, 1) := by decide +kernel
theorem dX12_copy_170 : decode cX12_copy 170 = .ok (.imul, 1) := by decide +kernel
theorem dX12_copy_171 : decode cX12_copy 171 = .ok (.iload_n 2, 1) := by decide +kernel
theorem dX12_copy_172 : decode cX12_copy 172 = .ok (.iadd, 1) := by decide +kernel
theorem dX12_copy_173 : decode cX12_copy 173 = .ok (.iload 7, 2) := by decide +kernel
theorem dX12_copy_175 : decode cX12_copy 175 = .ok (.iadd, 1) := by decide +kernel
theorem dX12_copy_176 : decode cX12_copy 176 = .ok (.iaload, 1) := by decide +kernel
theorem dX12_copy_177 : decode cX12_copy 177 = .ok (.iastore, 1) := by decide +kernel
theorem dX12_copy_178 : decode cX12_copy 178 = .ok (.iinc 6 1, 3) := by decide +kernel
theorem dX12_copy_181 : decode cX12_copy 181 = .ok (.goto (-59), 3) := by decide +kernel
theorem dX12_copy_184 : decode cX12_copy 184 = .ok (.iload 5, 2) := by decide +kernel
theorem dX12_copy_186 : decode cX12_copy 186 = .ok (.ireturn, 1) := by decide +kernel
theorem dX12_costBy_0 : decode cX12_costBy 0 = .ok (.iload_n 0, 1) := by decide +kernel
theorem dX12_costBy_1 : decode cX12_costBy 1 = .ok (.tableswitch 63 1 7 #[43, 47, 49, 51, 57, 57, 59], 43) := by decide +kernel
theorem dX12_costBy_44 : decode cX12_costBy 44 = .ok (.iconst 2, 1) := by decide +kernel
theorem dX12_costBy_45 : decode cX12_costBy 45 = .ok (.iload_n 1, 1) := by decide +kernel
theorem dX12_costBy_46 : decode cX12_costBy 46 = .ok (.iadd, 1) := by decide +kernel
theorem dX12_costBy_47 : decode cX12_costBy 47 = .ok (.ireturn, 1) := by decide +kernel
theorem dX12_costBy_48 : decode cX12_costBy 48 = .ok (.iconst 1, 1) := by decide +kernel
theorem dX12_costBy_49 : decode cX12_costBy 49 = .ok (.ireturn, 1) := by decide +kernel
theorem dX12_costBy_50 : decode cX12_costBy 50 = .ok (.iconst 5, 1) := by decide +kernel
theorem dX12_costBy_51 : decode cX12_costBy 51 = .ok (.ireturn, 1) := by decide +kernel
theorem dX12_costBy_52 : decode cX12_costBy 52 = .ok (.iconst 2, 1) := by decide +kernel
theorem dX12_costBy_53 : decode cX12_costBy 53 = .ok (.iconst 2, 1) := by decide +kernel
theorem dX12_costBy_54 : decode cX12_costBy 54 = .ok (.iload_n 1, 1) := by decide +kernel
theorem dX12_costBy_55 : decode cX12_costBy 55 = .ok (.iadd, 1) := by decide +kernel
theorem dX12_costBy_56 : decode cX12_costBy 56 = .ok (.imul, 1) := by decide +kernel
theorem dX12_costBy_57 : decode cX12_costBy 57 = .ok (.ireturn, 1) := by decide +kernel
theorem dX12_costBy_58 : decode cX12_costBy 58 = .ok (.iconst 0, 1) := by decide +kernel
theorem dX12_costBy_59 : decode cX12_costBy 59 = .ok (.ireturn, 1) := by decide +kernel
theorem dX12_costBy_60 : decode cX12_costBy 60 = .ok (.iconst 1, 1) := by decide +kernel
theorem dX12_costBy_61 : decode cX12_costBy 61 = .ok (.iload_n 1, 1) := by decide +kernel
theorem dX12_costBy_62 : decode cX12_costBy 62 = .ok (.iadd, 1) := by decide +kernel
theorem dX12_costBy_63 : decode cX12_costBy 63 = .ok (.ireturn, 1) := by decide +kernel
theorem dX12_costBy_64 : decode cX12_costBy 64 = .ok (.iconst 2, 1) := by decide +kernel
theorem dX12_costBy_65 : decode cX12_costBy 65 = .ok (.ireturn, 1) := by decide +kernel
theorem dX12_cost_0 : decode cX12_cost 0 = .ok (.aload_n 0, 1) := by decide +kernel
theorem dX12_cost_1 : decode cX12_cost 1 = .ok (.iload_n 1, 1) := by decide +kernel
theorem dX12_cost_2 : decode cX12_cost 2 = .ok (.invokevirtual 152, 3) := by decide +kernel
theorem dX12_cost_5 : decode cX12_cost 5 = .ok (.istore_n 2, 1) := by decide +kernel
theorem dX12_cost_6 : decode cX12_cost 6 = .ok (.iload_n 2, 1) := by decide +kernel
theorem dX12_cost_7 : decode cX12_cost 7 = .ok (.ifCond .eq 7, 3) := by decide +kernel
theorem dX12_cost_10 : decode cX12_cost 10 = .ok (.iload_n 2, 1) := by decide +kernel
theorem dX12_cost_11 : decode cX12_cost 11 = .ok (.goto 18, 3) := by decide +kernel
theorem dX12_cost_14 : decode cX12_cost 14 = .ok (.aload_n 0, 1) := by decide +kernel
theorem dX12_cost_15 : decode cX12_cost 15 = .ok (.getfield 34, 3) := by decide +kernel
theorem dX12_cost_18 : decode cX12_cost 18 = .ok (.iload_n 1, 1) := by decide +kernel
theorem dX12_cost_19 : decode cX12_cost 19 = .ok (.iaload, 1) := by decide +kernel
theorem dX12_cost_20 : decode cX12_cost 20 = .ok (.aload_n 0, 1) := by decide +kernel
theorem dX12_cost_21 : decode cX12_cost 21 = .ok (.getfield 37, 3) := by decide +kernel
theorem dX12_cost_24 : decode cX12_cost 24 = .ok (.iload_n 1, 1) := by decide +kernel
theorem dX12_cost_25 : decode cX12_cost 25 = .ok (.iaload, 1) := by decide +kernel
theorem dX12_cost_26 : decode cX12_cost 26 = .ok (.invokestatic 249, 3) := by decide +kernel
theorem dX12_cost_29 : decode cX12_cost 29 = .ok (.ireturn, 1) := by decide +kernel
theorem dX12_toss_0 : decode cX12_toss 0 = .ok (.aload_n 0, 1) := by decide +kernel
theorem dX12_toss_1 : decode cX12_toss 1 = .ok (.iload_n 1, 1) := by decide +kernel
theorem dX12_toss_2 : decode cX12_toss 2 = .ok (.invokevirtual 152, 3) := by decide +kernel
theorem dX12_toss_5 : decode cX12_toss 5 = .ok (.istore_n 2, 1) := by decide +kernel
theorem dX12_toss_6 : decode cX12_toss 6 = .ok (.iload_n 2, 1) := by decide +kernel
theorem dX12_toss_7 : decode cX12_toss 7 = .ok (.ifCond .eq 5, 3) := by decide +kernel
theorem dX12_toss_10 : decode cX12_toss 10 = .ok (.iload_n 2, 1) := by decide +kernel
theorem dX12_toss_11 : decode cX12_toss 11 = .ok (.ireturn, 1) := by decide +kernel
theorem dX12_toss_12 : decode cX12_toss 12 = .ok (.aload_n 0, 1) := by decide +kernel
theorem dX12_toss_13 : decode cX12_toss 13 = .ok (.getfield 34, 3) := by decide +kernel
theorem dX12_toss_16 : decode cX12_toss 16 = .ok (.iload_n 1, 1) := by decide +kernel
theorem dX12_toss_17 : decode cX12_toss 17 = .ok (.iaload, 1) := by decide +kernel
theorem dX12_toss_18 : decode cX12_toss 18 = .ok (.istore_n 3, 1) := by decide +kernel
theorem dX12_toss_19 : decode cX12_toss 19 = .ok (.aload_n 0, 1) := by decide +kernel
theorem dX12_toss_20 : decode cX12_toss 20 = .ok (.getfield 37, 3) := by decide +kernel
theorem dX12_toss_23 : decode cX12_toss 23 = .ok (.iload_n 1, 1) := by decide +kernel
theorem dX12_toss_24 : decode cX12_toss 24 = .ok (.iaload, 1) := by decide +kernel
theorem dX12_toss_25 : decode cX12_toss 25 = .ok (.istore 4, 2) := by decide +kernel
theorem dX12_toss_27 : decode cX12_toss 27 = .ok (.iload_n 3, 1) := by decide +kernel
theorem dX12_toss_28 : decode cX12_toss 28 = .ok (.iconst 2, 1) := by decide +kernel
theorem dX12_toss_29 : decode cX12_toss 29 = .ok (.if_icmp .eq 14, 3) := by decide +kernel
theorem dX12_toss_32 : decode cX12_toss 32 = .ok (.iload_n 3, 1) := by decide +kernel
theorem dX12_toss_33 : decode cX12_toss 33 = .ok (.bipush 6, 2) := by decide +kernel
theorem dX12_toss_35 : decode cX12_toss 35 = .ok (.if_icmp .eq 8, 3) := by decide +kernel
theorem dX12_toss_38 : decode cX12_toss 38 = .ok (.iload 4, 2) := by decide +kernel
theorem dX12_toss_40 : decode cX12_toss 40 = .ok (.ifCond .ne 6, 3) := by decide +kernel
theorem dX12_toss_43 : decode cX12_toss 43 = .ok (.bipush (-15), 2) := by decide +kernel
theorem dX12_toss_45 : decode cX12_toss 45 = .ok (.ireturn, 1) := by decide +kernel
theorem dX12_toss_46 : decode cX12_toss 46 = .ok (.iload_n 3, 1) := by decide +kernel
theorem dX12_toss_47 : decode cX12_toss 47 = .ok (.iconst 4, 1) := by decide +kernel
theorem dX12_toss_48 : decode cX12_toss 48 = .ok (.if_icmp .ne 16, 3) := by decide +kernel
theorem dX12_toss_51 : decode cX12_toss 51 = .ok (.sipush 200, 3) := by decide +kernel
theorem dX12_toss_54 : decode cX12_toss 54 = .ok (.iload_n 3, 1) := by decide +kernel
theorem dX12_toss_55 : decode cX12_toss 55 = .ok (.iload 4, 2) := by decide +kernel
theorem dX12_toss_57 : decode cX12_toss 57 = .ok (.invokestatic 249, 3) := by decide +kernel
theorem dX12_toss_60 : decode cX12_toss 60 = .ok (.iadd, 1) := by decide +kernel
theorem dX12_toss_61 : decode cX12_toss 61 = .ok (.goto 23, 3) := by decide +kernel
theorem dX12_toss_64 : decode cX12_toss 64 = .ok (.iload_n 3, 1) := by decide +kernel
theorem dX12_toss_65 : decode cX12_toss 65 = .ok (.iconst 3, 1) := by decide +kernel
theorem dX12_toss_66 : decode cX12_toss 66 = .ok (.if_icmp .eq 8, 3) := by decide +kernel
theorem dX12_toss_69 : decode cX12_toss 69 = .ok (.iload_n 3, 1) := by decide +kernel
theorem dX12_toss_70 : decode cX12_toss 70 = .ok (.iconst 5, 1) := by decide +kernel
theorem dX12_toss_71 : decode cX12_toss 71 = .ok (.if_icmp .ne 11, 3) := by decide +kernel
theorem dX12_toss_74 : decode cX12_toss 74 = .ok (.bipush 100, 2) := by decide +kernel
theorem dX12_toss_76 : decode cX12_toss 76 = .ok (.iload 4, 2) := by decide +kernel
theorem dX12_toss_78 : decode cX12_toss 78 = .ok (.iadd, 1) := by decide +kernel
theorem dX12_toss_79 : decode cX12_toss 79 = .ok (.goto 5, 3) := by decide +kernel
theorem dX12_toss_82 : decode cX12_toss 82 = .ok (.iload 4, 2) := by decide +kernel
theorem dX12_toss_84 : decode cX12_toss 84 = .ok (.ireturn, 1) := by decide +kernel
