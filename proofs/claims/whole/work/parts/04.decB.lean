theorem dX11_init_0 : decode cX11_init 0 = .ok (.aload_n 0, 1) := by decide +kernel
theorem dX11_init_1 : decode cX11_init 1 = .ok (.invokespecial 1, 3) := by decide +kernel
theorem dX11_init_4 : decode cX11_init 4 = .ok (.aload_n 0, 1) := by decide +kernel
theorem dX11_init_5 : decode cX11_init 5 = .ok (.new 7, 3) := by decide +kernel
theorem dX11_init_8 : decode cX11_init 8 = .ok (.dup, 1) := by decide +kernel
theorem dX11_init_9 : decode cX11_init 9 = .ok (.invokespecial 9, 3) := by decide +kernel
theorem dX11_init_12 : decode cX11_init 12 = .ok (.putfield 10, 3) := by decide +kernel
theorem dX11_init_15 : decode cX11_init 15 = .ok (.aload_n 0, 1) := by decide +kernel
theorem dX11_init_16 : decode cX11_init 16 = .ok (.new 7, 3) := by decide +kernel
theorem dX11_init_19 : decode cX11_init 19 = .ok (.dup, 1) := by decide +kernel
theorem dX11_init_20 : decode cX11_init 20 = .ok (.invokespecial 9, 3) := by decide +kernel
theorem dX11_init_23 : decode cX11_init 23 = .ok (.putfield 16, 3) := by decide +kernel
theorem dX11_init_26 : decode cX11_init 26 = .ok (.aload_n 0, 1) := by decide +kernel
theorem dX11_init_27 : decode cX11_init 27 = .ok (.new 7, 3) := by decide +kernel
theorem dX11_init_30 : decode cX11_init 30 = .ok (.dup, 1) := by decide +kernel
theorem dX11_init_31 : decode cX11_init 31 = .ok (.invokespecial 9, 3) := by decide +kernel
theorem dX11_init_34 : decode cX11_init 34 = .ok (.putfield 19, 3) := by decide +kernel
theorem dX11_init_37 : decode cX11_init 37 = .ok (.aload_n 0, 1) := by decide +kernel
theorem dX11_init_38 : decode cX11_init 38 = .ok (.iconst 0, 1) := by decide +kernel
theorem dX11_init_39 : decode cX11_init 39 = .ok (.putfield 22, 3) := by decide +kernel
theorem dX11_init_42 : decode cX11_init 42 = .ok (.aload_n 0, 1) := by decide +kernel
theorem dX11_init_43 : decode cX11_init 43 = .ok (.bipush 8, 2) := by decide +kernel
theorem dX11_init_45 : decode cX11_init 45 = .ok (.anewarray 26, 3) := by decide +kernel
theorem dX11_init_48 : decode cX11_init 48 = .ok (.putfield 28, 3) := by decide +kernel
theorem dX11_init_51 : decode cX11_init 51 = .ok (.aload_n 0, 1) := by decide +kernel
theorem dX11_init_52 : decode cX11_init 52 = .ok (.bipush 8, 2) := by decide +kernel
theorem dX11_init_54 : decode cX11_init 54 = .ok (.anewarray 32, 3) := by decide +kernel
theorem dX11_init_57 : decode cX11_init 57 = .ok (.putfield 34, 3) := by decide +kernel
theorem dX11_init_60 : decode cX11_init 60 = .ok (.aload_n 0, 1) := by decide +kernel
theorem dX11_init_61 : decode cX11_init 61 = .ok (.bipush 49, 2) := by decide +kernel
theorem dX11_init_63 : decode cX11_init 63 = .ok (.newarray .int, 2) := by decide +kernel
theorem dX11_init_65 : decode cX11_init 65 = .ok (.putfield 38, 3) := by decide +kernel
theorem dX11_init_68 : decode cX11_init 68 = .ok (.aload_n 0, 1) := by decide +kernel
theorem dX11_init_69 : decode cX11_init 69 = .ok (.sipush 128, 3) := by decide +kernel
theorem dX11_init_72 : decode cX11_init 72 = .ok (.newarray .int, 2) := by decide +kernel
theorem dX11_init_74 : decode cX11_init 74 = .ok (.putfield 42, 3) := by decide +kernel
theorem dX11_init_77 : decode cX11_init 77 = .ok (.return_, 1) := by decide +kernel
theorem dX11_house_0 : decode cX11_house 0 = .ok (.iload_n 1, 1) := by decide +kernel
theorem dX11_house_1 : decode cX11_house 1 = .ok (.invokestatic 45, 3) := by decide +kernel
theorem dX11_house_4 : decode cX11_house 4 = .ok (.ifCond .ne 5, 3) := by decide +kernel
theorem dX11_house_7 : decode cX11_house 7 = .ok (.iconst (-1), 1) := by decide +kernel
theorem dX11_house_8 : decode cX11_house 8 = .ok (.ireturn, 1) := by decide +kernel
theorem dX11_house_9 : decode cX11_house 9 = .ok (.aload_n 0, 1) := by decide +kernel
theorem dX11_house_10 : decode cX11_house 10 = .ok (.iload_n 1, 1) := by decide +kernel
theorem dX11_house_11 : decode cX11_house 11 = .ok (.invokevirtual 49, 3) := by decide +kernel
theorem dX11_house_14 : decode cX11_house 14 = .ok (.astore_n 2, 1) := by decide +kernel
theorem dX11_house_15 : decode cX11_house 15 = .ok (.aload_n 2, 1) := by decide +kernel
theorem dX11_house_16 : decode cX11_house 16 = .ok (.ifnonnull 9, 3) := by decide +kernel
theorem dX11_house_19 : decode cX11_house 19 = .ok (.aload_n 0, 1) := by decide +kernel
theorem dX11_house_20 : decode cX11_house 20 = .ok (.iload_n 1, 1) := by decide +kernel
theorem dX11_house_21 : decode cX11_house 21 = .ok (.invokevirtual 53, 3) := by decide +kernel
theorem dX11_house_24 : decode cX11_house 24 = .ok (.ireturn, 1) := by decide +kernel
theorem dX11_house_25 : decode cX11_house 25 = .ok (.aload_n 2, 1) := by decide +kernel
theorem dX11_house_26 : decode cX11_house 26 = .ok (.getfield 57, 3) := by decide +kernel
theorem dX11_house_29 : decode cX11_house 29 = .ok (.ifCond .eq 6, 3) := by decide +kernel
theorem dX11_house_32 : decode cX11_house 32 = .ok (.bipush (-12), 2) := by decide +kernel
theorem dX11_house_34 : decode cX11_house 34 = .ok (.ireturn, 1) := by decide +kernel
theorem dX11_house_35 : decode cX11_house 35 = .ok (.new 61, 3) := by decide +kernel
theorem dX11_house_38 : decode cX11_house 38 = .ok (.dup, 1) := by decide +kernel
theorem dX11_house_39 : decode cX11_house 39 = .ok (.aload_n 2, 1) := by decide +kernel
theorem dX11_house_40 : decode cX11_house 40 = .ok (.invokespecial 63, 3) := by decide +kernel
theorem dX11_house_43 : decode cX11_house 43 = .ok (.astore_n 3, 1) := by decide +kernel
theorem dX11_house_44 : decode cX11_house 44 = .ok (.aload_n 3, 1) := by decide +kernel
theorem dX11_house_45 : decode cX11_house 45 = .ok (.invokevirtual 66, 3) := by decide +kernel
theorem dX11_house_48 : decode cX11_house 48 = .ok (.istore 4, 2) := by decide +kernel
theorem dX11_house_50 : decode cX11_house 50 = .ok (.iload 4, 2) := by decide +kernel
theorem dX11_house_52 : decode cX11_house 52 = .ok (.ifCond .lt 10, 3) := by decide +kernel
theorem dX11_house_55 : decode cX11_house 55 = .ok (.sipush (-1000), 3) := by decide +kernel
theorem dX11_house_58 : decode cX11_house 58 = .ok (.iload 4, 2) := by decide +kernel
theorem dX11_house_60 : decode cX11_house 60 = .ok (.isub, 1) := by decide +kernel
theorem dX11_house_61 : decode cX11_house 61 = .ok (.ireturn, 1) := by decide +kernel
theorem dX11_house_62 : decode cX11_house 62 = .ok (.aload_n 0, 1) := by decide +kernel
theorem dX11_house_63 : decode cX11_house 63 = .ok (.getfield 16, 3) := by decide +kernel
theorem dX11_house_66 : decode cX11_house 66 = .ok (.aload_n 0, 1) := by decide +kernel
theorem dX11_house_67 : decode cX11_house 67 = .ok (.getfield 10, 3) := by decide +kernel
theorem dX11_house_70 : decode cX11_house 70 = .ok (.invokevirtual 70, 3) := by decide +kernel
theorem dX11_house_73 : decode cX11_house 73 = .ok (.iconst 0, 1) := by decide +kernel
theorem dX11_house_74 : decode cX11_house 74 = .ok (.istore 5, 2) := by decide +kernel
theorem dX11_house_76 : decode cX11_house 76 = .ok (.iconst 0, 1) := by decide +kernel
theorem dX11_house_77 : decode cX11_house 77 = .ok (.istore 6, 2) := by decide +kernel
theorem dX11_house_79 : decode cX11_house 79 = .ok (.iload 5, 2) := by decide +kernel
theorem dX11_house_81 : decode cX11_house 81 = .ok (.bipush 100, 2) := by decide +kernel
theorem dX11_house_83 : decode cX11_house 83 = .ok (.if_icmp .ge 49, 3) := by decide +kernel
theorem dX11_house_86 : decode cX11_house 86 = .ok (.iload 6, 2) := by decide +kernel
theorem dX11_house_88 : decode cX11_house 88 = .ok (.aload_n 2, 1) := by decide +kernel
theorem dX11_house_89 : decode cX11_house 89 = .ok (.invokevirtual 74, 3) := by decide +kernel
theorem dX11_house_92 : decode cX11_house 92 = .ok (.if_icmp .ge 40, 3) := by decide +kernel
theorem dX11_house_95 : decode cX11_house 95 = .ok (.aload_n 3, 1) := by decide +kernel
theorem dX11_house_96 : decode cX11_house 96 = .ok (.aload_n 0, 1) := by decide +kernel
theorem dX11_house_97 : decode cX11_house 97 = .ok (.getfield 16, 3) := by decide +kernel
theorem dX11_house_100 : decode cX11_house 100 = .ok (.iload 6, 2) := by decide +kernel
theorem dX11_house_102 : decode cX11_house 102 = .ok (.invokevirtual 77, 3) := by decide +kernel
theorem dX11_house_105 : decode cX11_house 105 = .ok (.ifCond .ne 10, 3) := by decide +kernel
theorem dX11_house_108 : decode cX11_house 108 = .ok (.sipush (-2000), 3) := by decide +kernel
theorem dX11_house_111 : decode cX11_house 111 = .ok (.iload 6, 2) := by decide +kernel
theorem dX11_house_113 : decode cX11_house 113 = .ok (.isub, 1) := by decide +kernel
theorem dX11_house_114 : decode cX11_house 114 = .ok (.ireturn, 1) := by decide +kernel
theorem dX11_house_115 : decode cX11_house 115 = .ok (.iload 6, 2) := by decide +kernel
theorem dX11_house_117 : decode cX11_house 117 = .ok (.aload_n 3, 1) := by decide +kernel
theorem dX11_house_118 : decode cX11_house 118 = .ok (.iload 6, 2) := by decide +kernel
theorem dX11_house_120 : decode cX11_house 120 = .ok (.invokevirtual 81, 3) := by decide +kernel
theorem dX11_house_123 : decode cX11_house 123 = .ok (.iadd, 1) := by decide +kernel
theorem dX11_house_124 : decode cX11_house 124 = .ok (.istore 6, 2) := by decide +kernel
theorem dX11_house_126 : decode cX11_house 126 = .ok (.iinc 5 1, 3) := by decide +kernel
theorem dX11_house_129 : decode cX11_house 129 = .ok (.goto (-50), 3) := by decide +kernel
theorem dX11_house_132 : decode cX11_house 132 = .ok (.aload_n 0, 1) := by decide +kernel
theorem dX11_house_133 : decode cX11_house 133 = .ok (.getfield 10, 3) := by decide +kernel
theorem dX11_house_136 : decode cX11_house 136 = .ok (.aload_n 0, 1) := by decide +kernel
theorem dX11_house_137 : decode cX11_house 137 = .ok (.getfield 16, 3) := by decide +kernel
theorem dX11_house_140 : decode cX11_house 140 = .ok (.invokevirtual 70, 3) := by decide +kernel
theorem dX11_house_143 : decode cX11_house 143 = .ok (.iload 5, 2) := by decide +kernel
theorem dX11_house_145 : decode cX11_house 145 = .ok (.ireturn, 1) := by decide +kernel
theorem dX11_guest_0 : decode cX11_guest 0 = .ok (.aload_n 0, 1) := by decide +kernel
theorem dX11_guest_1 : decode cX11_guest 1 = .ok (.getfield 10, 3) := by decide +kernel
theorem dX11_guest_4 : decode cX11_guest 4 = .ok (.iload_n 1, 1) := by decide +kernel
theorem dX11_guest_5 : decode cX11_guest 5 = .ok (.invokevirtual 84, 3) := by decide +kernel
theorem dX11_guest_8 : decode cX11_guest 8 = .ok (.ifCond .ne 5, 3) := by decide +kernel
theorem dX11_guest_11 : decode cX11_guest 11 = .ok (.iconst (-1), 1) := by decide +kernel
theorem dX11_guest_12 : decode cX11_guest 12 = .ok (.ireturn, 1) := by decide +kernel
theorem dX11_guest_13 : decode cX11_guest 13 = .ok (.iload_n 2, 1) := by decide +kernel
theorem dX11_guest_14 : decode cX11_guest 14 = .ok (.tableswitch 159 0 8 #[50, 63, 76, 86, 96, 106, 116, 133, 150], 50) := by decide +kernel
theorem dX11_guest_64 : decode cX11_guest 64 = .ok (.aload_n 0, 1) := by decide +kernel
theorem dX11_guest_65 : decode cX11_guest 65 = .ok (.getfield 10, 3) := by decide +kernel
theorem dX11_guest_68 : decode cX11_guest 68 = .ok (.getfield 87, 3) := by decide +kernel
theorem dX11_guest_71 : decode cX11_guest 71 = .ok (.iload_n 1, 1) := by decide +kernel
theorem dX11_guest_72 : decode cX11_guest 72 = .ok (.aaload, 1) := by decide +kernel
theorem dX11_guest_73 : decode cX11_guest 73 = .ok (.getfield 90, 3) := by decide +kernel
theorem dX11_guest_76 : decode cX11_guest 76 = .ok (.ireturn, 1) := by decide +kernel
theorem dX11_guest_77 : decode cX11_guest 77 = .ok (.aload_n 0, 1) := by decide +kernel
theorem dX11_guest_78 : decode cX11_guest 78 = .ok (.getfield 10, 3) := by decide +kernel
theorem dX11_guest_81 : decode cX11_guest 81 = .ok (.getfield 87, 3) := by decide +kernel
theorem dX11_guest_84 : decode cX11_guest 84 = .ok (.iload_n 1, 1) := by decide +kernel
theorem dX11_guest_85 : decode cX11_guest 85 = .ok (.aaload, 1) := by decide +kernel
theorem dX11_guest_86 : decode cX11_guest 86 = .ok (.getfield 92, 3) := by decide +kernel
theorem dX11_guest_89 : decode cX11_guest 89 = .ok (.ireturn, 1) := by decide +kernel
theorem dX11_guest_90 : decode cX11_guest 90 = .ok (.aload_n 0, 1) := by decide +kernel
theorem dX11_guest_91 : decode cX11_guest 91 = .ok (.getfield 10, 3) := by decide +kernel
theorem dX11_guest_94 : decode cX11_guest 94 = .ok (.getfield 95, 3) := by decide +kernel
theorem dX11_guest_97 : decode cX11_guest 97 = .ok (.iload_n 1, 1) := by decide +kernel
theorem dX11_guest_98 : decode cX11_guest 98 = .ok (.iaload, 1) := by decide +kernel
theorem dX11_guest_99 : decode cX11_guest 99 = .ok (.ireturn, 1) := by decide +kernel
theorem dX11_guest_100 : decode cX11_guest 100 = .ok (.aload_n 0, 1) := by decide +kernel
theorem dX11_guest_101 : decode cX11_guest 101 = .ok (.getfield 10, 3) := by decide +kernel
theorem dX11_guest_104 : decode cX11_guest 104 = .ok (.getfield 98, 3) := by decide +kernel
theorem dX11_guest_107 : decode cX11_guest 107 = .ok (.iload_n 1, 1) := by decide +kernel
theorem dX11_guest_108 : decode cX11_guest 108 = .ok (.iaload, 1) := by decide +kernel
theorem dX11_guest_109 : decode cX11_guest 109 = .ok (.ireturn, 1) := by decide +kernel
theorem dX11_guest_110 : decode cX11_guest 110 = .ok (.aload_n 0, 1) := by decide +kernel
theorem dX11_guest_111 : decode cX11_guest 111 = .ok (.getfield 10, 3) := by decide +kernel
theorem dX11_guest_114 : decode cX11_guest 114 = .ok (.getfield 101, 3) := by decide +kernel
theorem dX11_guest_117 : decode cX11_guest 117 = .ok (.iload_n 1, 1) := by decide +kernel
theorem dX11_guest_118 : decode cX11_guest 118 = .ok (.iaload, 1) := by decide +kernel
theorem dX11_guest_119 : decode cX11_guest 119 = .ok (.ireturn, 1) := by decide +kernel
theorem dX11_guest_120 : decode cX11_guest 120 = .ok (.aload_n 0, 1) := by decide +kernel
theorem dX11_guest_121 : decode cX11_guest 121 = .ok (.getfield 10, 3) := by decide +kernel
theorem dX11_guest_124 : decode cX11_guest 124 = .ok (.getfield 104, 3) := by decide +kernel
theorem dX11_guest_127 : decode cX11_guest 127 = .ok (.iload_n 1, 1) := by decide +kernel
theorem dX11_guest_128 : decode cX11_guest 128 = .ok (.iaload, 1) := by decide +kernel
theorem dX11_guest_129 : decode cX11_guest 129 = .ok (.ireturn, 1) := by decide +kernel
theorem dX11_guest_130 : decode cX11_guest 130 = .ok (.aload_n 0, 1) := by decide +kernel
theorem dX11_guest_131 : decode cX11_guest 131 = .ok (.getfield 10, 3) := by decide +kernel
theorem dX11_guest_134 : decode cX11_guest 134 = .ok (.iload_n 1, 1) := by decide +kernel
theorem dX11_guest_135 : decode cX11_guest 135 = .ok (.invokevirtual 107, 3) := by decide +kernel
theorem dX11_guest_138 : decode cX11_guest 138 = .ok (.ifCond .eq 7, 3) := by decide +kernel
theorem dX11_guest_141 : decode cX11_guest 141 = .ok (.iconst 1, 1) := by decide +kernel
theorem dX11_guest_142 : decode cX11_guest 142 = .ok (.goto 4, 3) := by decide +kernel
theorem dX11_guest_145 : decode cX11_guest 145 = .ok (.iconst 0, 1) := by decide +kernel
theorem dX11_guest_146 : decode cX11_guest 146 = .ok (.ireturn, 1) := by decide +kernel
theorem dX11_guest_147 : decode cX11_guest 147 = .ok (.aload_n 0, 1) := by decide +kernel
theorem dX11_guest_148 : decode cX11_guest 148 = .ok (.getfield 10, 3) := by decide +kernel
theorem dX11_guest_151 : decode cX11_guest 151 = .ok (.iload_n 1, 1) := by decide +kernel
theorem dX11_guest_152 : decode cX11_guest 152 = .ok (.invokevirtual 110, 3) := by decide +kernel
theorem dX11_guest_155 : decode cX11_guest 155 = .ok (.ifCond .eq 7, 3) := by decide +kernel
theorem dX11_guest_158 : decode cX11_guest 158 = .ok (.iconst 1, 1) := by decide +kernel
theorem dX11_guest_159 : decode cX11_guest 159 = .ok (.goto 4, 3) := by decide +kernel
theorem dX11_guest_162 : decode cX11_guest 162 = .ok (.iconst 0, 1) := by decide +kernel
theorem dX11_guest_163 : decode cX11_guest 163 = .ok (.ireturn, 1) := by decide +kernel
theorem dX11_guest_164 : decode cX11_guest 164 = .ok (.aload_n 0, 1) := by decide +kernel
theorem dX11_guest_165 : decode cX11_guest 165 = .ok (.getfield 10, 3) := by decide +kernel
theorem dX11_guest_168 : decode cX11_guest 168 = .ok (.iload_n 1, 1) := by decide +kernel
theorem dX11_guest_169 : decode cX11_guest 169 = .ok (.invokevirtual 113, 3) := by decide +kernel
theorem dX11_guest_172 : decode cX11_guest 172 = .ok (.ireturn, 1) := by decide +kernel
theorem dX11_guest_173 : decode cX11_guest 173 = .ok (.iconst (-1), 1) := by decide +kernel
theorem dX11_guest_174 : decode cX11_guest 174 = .ok (.ireturn, 1) := by decide +kernel
theorem dX11_comes_0 : decode cX11_comes 0 = .ok (.iload_n 1, 1) := by decide +kernel
theorem dX11_comes_1 : decode cX11_comes 1 = .ok (.invokestatic 45, 3) := by decide +kernel
theorem dX11_comes_4 : decode cX11_comes 4 = .ok (.ifCond .eq 10, 3) := by decide +kernel
theorem dX11_comes_7 : decode cX11_comes 7 = .ok (.iload_n 2, 1) := by decide +kernel
theorem dX11_comes_8 : decode cX11_comes 8 = .ok (.invokestatic 116, 3) := by decide +kernel
theorem dX11_comes_11 : decode cX11_comes 11 = .ok (.ifCond .ne 5, 3) := by decide +kernel
theorem dX11_comes_14 : decode cX11_comes 14 = .ok (.iconst (-1), 1) := by decide +kernel
theorem dX11_comes_15 : decode cX11_comes 15 = .ok (.ireturn, 1) := by decide +kernel
theorem dX11_comes_16 : decode cX11_comes 16 = .ok (.aload_n 0, 1) := by decide +kernel
theorem dX11_comes_17 : decode cX11_comes 17 = .ok (.iload_n 1, 1) := by decide +kernel
theorem dX11_comes_18 : decode cX11_comes 18 = .ok (.invokevirtual 119, 3) := by decide +kernel
theorem dX11_comes_21 : decode cX11_comes 21 = .ok (.astore_n 3, 1) := by decide +kernel
theorem dX11_comes_22 : decode cX11_comes 22 = .ok (.aload_n 3, 1) := by decide +kernel
theorem dX11_comes_23 : decode cX11_comes 23 = .ok (.ifnonnull 9, 3) := by decide +kernel
theorem dX11_comes_26 : decode cX11_comes 26 = .ok (.aload_n 0, 1) := by decide +kernel
theorem dX11_comes_27 : decode cX11_comes 27 = .ok (.iload_n 1, 1) := by decide +kernel
theorem dX11_comes_28 : decode cX11_comes 28 = .ok (.invokevirtual 123, 3) := by decide +kernel
theorem dX11_comes_31 : decode cX11_comes 31 = .ok (.ireturn, 1) := by decide +kernel
theorem dX11_comes_32 : decode cX11_comes 32 = .ok (.aload_n 0, 1) := by decide +kernel
theorem dX11_comes_33 : decode cX11_comes 33 = .ok (.getfield 10, 3) := by decide +kernel
theorem dX11_comes_36 : decode cX11_comes 36 = .ok (.invokevirtual 126, 3) := by decide +kernel
theorem dX11_comes_39 : decode cX11_comes 39 = .ok (.ifCond .eq 6, 3) := by decide +kernel
theorem dX11_comes_42 : decode cX11_comes 42 = .ok (.bipush (-2), 2) := by decide +kernel
theorem dX11_comes_44 : decode cX11_comes 44 = .ok (.ireturn, 1) := by decide +kernel
theorem dX11_comes_45 : decode cX11_comes 45 = .ok (.aload_n 0, 1) := by decide +kernel
theorem dX11_comes_46 : decode cX11_comes 46 = .ok (.getfield 10, 3) := by decide +kernel
theorem dX11_comes_49 : decode cX11_comes 49 = .ok (.aload_n 3, 1) := by decide +kernel
theorem dX11_comes_50 : decode cX11_comes 50 = .ok (.iload_n 2, 1) := by decide +kernel
theorem dX11_comes_51 : decode cX11_comes 51 = .ok (.invokevirtual 130, 3) := by decide +kernel
theorem dX11_comes_54 : decode cX11_comes 54 = .ok (.aload_n 0, 1) := by decide +kernel
theorem dX11_comes_55 : decode cX11_comes 55 = .ok (.getfield 10, 3) := by decide +kernel
theorem dX11_comes_58 : decode cX11_comes 58 = .ok (.getfield 134, 3) := by decide +kernel
theorem dX11_comes_61 : decode cX11_comes 61 = .ok (.iconst 1, 1) := by decide +kernel
theorem dX11_comes_62 : decode cX11_comes 62 = .ok (.isub, 1) := by decide +kernel
theorem dX11_comes_63 : decode cX11_comes 63 = .ok (.ireturn, 1) := by decide +kernel
theorem dX11_tells_0 : decode cX11_tells 0 = .ok (.aload_n 0, 1) := by decide +kernel
theorem dX11_tells_1 : decode cX11_tells 1 = .ok (.getfield 10, 3) := by decide +kernel
theorem dX11_tells_4 : decode cX11_tells 4 = .ok (.iload_n 1, 1) := by decide +kernel
theorem dX11_tells_5 : decode cX11_tells 5 = .ok (.invokevirtual 84, 3) := by decide +kernel
theorem dX11_tells_8 : decode cX11_tells 8 = .ok (.ifCond .ne 5, 3) := by decide +kernel
theorem dX11_tells_11 : decode cX11_tells 11 = .ok (.iconst (-1), 1) := by decide +kernel
theorem dX11_tells_12 : decode cX11_tells 12 = .ok (.ireturn, 1) := by decide +kernel
theorem dX11_tells_13 : decode cX11_tells 13 = .ok (.aload_n 0, 1) := by decide +kernel
theorem dX11_tells_14 : decode cX11_tells 14 = .ok (.getfield 10, 3) := by decide +kernel
theorem dX11_tells_17 : decode cX11_tells 17 = .ok (.iload_n 1, 1) := by decide +kernel
theorem dX11_tells_18 : decode cX11_tells 18 = .ok (.invokevirtual 137, 3) := by decide +kernel
theorem dX11_tells_21 : decode cX11_tells 21 = .ok (.ifCond .ne 6, 3) := by decide +kernel
theorem dX11_tells_24 : decode cX11_tells 24 = .ok (.bipush (-3), 2) := by decide +kernel
theorem dX11_tells_26 : decode cX11_tells 26 = .ok (.ireturn, 1) := by decide +kernel
theorem dX11_tells_27 : decode cX11_tells 27 = .ok (.aload_n 0, 1) := by decide +kernel
theorem dX11_tells_28 : decode cX11_tells 28 = .ok (.getfield 10, 3) := by decide +kernel
theorem dX11_tells_31 : decode cX11_tells 31 = .ok (.iload_n 1, 1) := by decide +kernel
theorem dX11_tells_32 : decode cX11_tells 32 = .ok (.invokevirtual 140, 3) := by decide +kernel
theorem dX11_tells_35 : decode cX11_tells 35 = .ok (.aload_n 0, 1) := by decide +kernel
theorem dX11_tells_36 : decode cX11_tells 36 = .ok (.getfield 10, 3) := by decide +kernel
theorem dX11_tells_39 : decode cX11_tells 39 = .ok (.getfield 95, 3) := by decide +kernel
theorem dX11_tells_42 : decode cX11_tells 42 = .ok (.iload_n 1, 1) := by decide +kernel
theorem dX11_tells_43 : decode cX11_tells 43 = .ok (.iaload, 1) := by decide +kernel
theorem dX11_tells_44 : decode cX11_tells 44 = .ok (.ireturn, 1) := by decide +kernel
theorem dX11_lends_0 : decode cX11_lends 0 = .ok (.aload_n 0, 1) := by decide +kernel
theorem dX11_lends_1 : decode cX11_lends 1 = .ok (.iload_n 1, 1) := by decide +kernel
theorem dX11_lends_2 : decode cX11_lends 2 = .ok (.iload_n 2, 1) := by decide +kernel
theorem dX11_lends_3 : decode cX11_lends 3 = .ok (.invokevirtual 144, 3) := by decide +kernel
theorem dX11_lends_6 : decode cX11_lends 6 = .ok (.ifCond .eq 14, 3) := by decide +kernel
theorem dX11_lends_9 : decode cX11_lends 9 = .ok (.iload_n 3, 1) := by decide +kernel
theorem dX11_lends_10 : decode cX11_lends 10 = .ok (.iconst 1, 1) := by decide +kernel
theorem dX11_lends_11 : decode cX11_lends 11 = .ok (.if_icmp .lt 9, 3) := by decide +kernel
theorem dX11_lends_14 : decode cX11_lends 14 = .ok (.iload_n 3, 1) := by decide +kernel
theorem dX11_lends_15 : decode cX11_lends 15 = .ok (.bipush 20, 2) := by decide +kernel
theorem dX11_lends_17 : decode cX11_lends 17 = .ok (.if_icmp .le 5, 3) := by decide +kernel
theorem dX11_lends_20 : decode cX11_lends 20 = .ok (.iconst (-1), 1) := by decide +kernel
theorem dX11_lends_21 : decode cX11_lends 21 = .ok (.ireturn, 1) := by decide +kernel
theorem dX11_lends_22 : decode cX11_lends 22 = .ok (.aload_n 0, 1) := by decide +kernel
theorem dX11_lends_23 : decode cX11_lends 23 = .ok (.getfield 10, 3) := by decide +kernel
theorem dX11_lends_26 : decode cX11_lends 26 = .ok (.iload_n 1, 1) := by decide +kernel
theorem dX11_lends_27 : decode cX11_lends 27 = .ok (.iload_n 2, 1) := by decide +kernel
theorem dX11_lends_28 : decode cX11_lends 28 = .ok (.iload_n 3, 1) := by decide +kernel
theorem dX11_lends_29 : decode cX11_lends 29 = .ok (.invokevirtual 148, 3) := by decide +kernel
theorem dX11_lends_32 : decode cX11_lends 32 = .ok (.ifCond .ne 6, 3) := by decide +kernel
theorem dX11_lends_35 : decode cX11_lends 35 = .ok (.bipush (-3), 2) := by decide +kernel
theorem dX11_lends_37 : decode cX11_lends 37 = .ok (.ireturn, 1) := by decide +kernel
theorem dX11_lends_38 : decode cX11_lends 38 = .ok (.aload_n 0, 1) := by decide +kernel
theorem dX11_lends_39 : decode cX11_lends 39 = .ok (.getfield 10, 3) := by decide +kernel
theorem dX11_lends_42 : decode cX11_lends 42 = .ok (.iload_n 1, 1) := by decide +kernel
theorem dX11_lends_43 : decode cX11_lends 43 = .ok (.iload_n 2, 1) := by decide +kernel
theorem dX11_lends_44 : decode cX11_lends 44 = .ok (.iload_n 3, 1) := by decide +kernel
theorem dX11_lends_45 : decode cX11_lends 45 = .ok (.invokevirtual 152, 3) := by decide +kernel
theorem dX11_lends_48 : decode cX11_lends 48 = .ok (.aload_n 0, 1) := by decide +kernel
theorem dX11_lends_49 : decode cX11_lends 49 = .ok (.getfield 10, 3) := by decide +kernel
theorem dX11_lends_52 : decode cX11_lends 52 = .ok (.getfield 95, 3) := by decide +kernel
theorem dX11_lends_55 : decode cX11_lends 55 = .ok (.iload_n 1, 1) := by decide +kernel
theorem dX11_lends_56 : decode cX11_lends 56 = .ok (.iaload, 1) := by decide +kernel
theorem dX11_lends_57 : decode cX11_lends 57 = .ok (.ireturn, 1) := by decide +kernel
theorem dX11_table_0 : decode cX11_table 0 = .ok (.iload_n 1, 1) := by decide +kernel
theorem dX11_table_1 : decode cX11_table 1 = .ok (.invokestatic 156, 3) := by decide +kernel
theorem dX11_table_4 : decode cX11_table 4 = .ok (.ifCond .eq 10, 3) := by decide +kernel
theorem dX11_table_7 : decode cX11_table 7 = .ok (.iload_n 2, 1) := by decide +kernel
theorem dX11_table_8 : decode cX11_table 8 = .ok (.invokestatic 156, 3) := by decide +kernel
theorem dX11_table_11 : decode cX11_table 11 = .ok (.ifCond .ne 5, 3) := by decide +kernel
theorem dX11_table_14 : decode cX11_table 14 = .ok (.iconst (-1), 1) := by decide +kernel
theorem dX11_table_15 : decode cX11_table 15 = .ok (.ireturn, 1) := by decide +kernel
theorem dX11_table_16 : decode cX11_table 16 = .ok (.bipush 10, 2) := by decide +kernel
theorem dX11_table_18 : decode cX11_table 18 = .ok (.aload_n 0, 1) := by decide +kernel
theorem dX11_table_19 : decode cX11_table 19 = .ok (.getfield 10, 3) := by decide +kernel
theorem dX11_table_22 : decode cX11_table 22 = .ok (.getfield 159, 3) := by decide +kernel
theorem dX11_table_25 : decode cX11_table 25 = .ok (.imul, 1) := by decide +kernel
theorem dX11_table_26 : decode cX11_table 26 = .ok (.aload_n 0, 1) := by decide +kernel
theorem dX11_table_27 : decode cX11_table 27 = .ok (.getfield 10, 3) := by decide +kernel
theorem dX11_table_30 : decode cX11_table 30 = .ok (.getfield 162, 3) := by decide +kernel
theorem dX11_table_33 : decode cX11_table 33 = .ok (.iadd, 1) := by decide +kernel
theorem dX11_table_34 : decode cX11_table 34 = .ok (.istore_n 3, 1) := by decide +kernel
theorem dX11_table_35 : decode cX11_table 35 = .ok (.aload_n 0, 1) := by decide +kernel
theorem dX11_table_36 : decode cX11_table 36 = .ok (.getfield 10, 3) := by decide +kernel
theorem dX11_table_39 : decode cX11_table 39 = .ok (.iload_n 1, 1) := by decide +kernel
theorem dX11_table_40 : decode cX11_table 40 = .ok (.putfield 159, 3) := by decide +kernel
theorem dX11_table_43 : decode cX11_table 43 = .ok (.aload_n 0, 1) := by decide +kernel
theorem dX11_table_44 : decode cX11_table 44 = .ok (.getfield 10, 3) := by decide +kernel
theorem dX11_table_47 : decode cX11_table 47 = .ok (.iload_n 2, 1) := by decide +kernel
theorem dX11_table_48 : decode cX11_table 48 = .ok (.putfield 162, 3) := by decide +kernel
theorem dX11_table_51 : decode cX11_table 51 = .ok (.iload_n 3, 1) := by decide +kernel
theorem dX11_table_52 : decode cX11_table 52 = .ok (.ireturn, 1) := by decide +kernel
theorem dX11_weighs_0 : decode cX11_weighs 0 = .ok (.aload_n 0, 1) := by decide +kernel
theorem dX11_weighs_1 : decode cX11_weighs 1 = .ok (.getfield 10, 3) := by decide +kernel
theorem dX11_weighs_4 : decode cX11_weighs 4 = .ok (.iload_n 1, 1) := by decide +kernel
theorem dX11_weighs_5 : decode cX11_weighs 5 = .ok (.invokevirtual 84, 3) := by decide +kernel
theorem dX11_weighs_8 : decode cX11_weighs 8 = .ok (.ifCond .eq 10, 3) := by decide +kernel
theorem dX11_weighs_11 : decode cX11_weighs 11 = .ok (.iload_n 2, 1) := by decide +kernel
theorem dX11_weighs_12 : decode cX11_weighs 12 = .ok (.invokestatic 116, 3) := by decide +kernel
theorem dX11_weighs_15 : decode cX11_weighs 15 = .ok (.ifCond .ne 5, 3) := by decide +kernel
theorem dX11_weighs_18 : decode cX11_weighs 18 = .ok (.iconst (-1), 1) := by decide +kernel
theorem dX11_weighs_19 : decode cX11_weighs 19 = .ok (.ireturn, 1) := by decide +kernel
theorem dX11_weighs_20 : decode cX11_weighs 20 = .ok (.aload_n 0, 1) := by decide +kernel
theorem dX11_weighs_21 : decode cX11_weighs 21 = .ok (.getfield 10, 3) := by decide +kernel
theorem dX11_weighs_24 : decode cX11_weighs 24 = .ok (.iload_n 1, 1) := by decide +kernel
theorem dX11_weighs_25 : decode cX11_weighs 25 = .ok (.invokevirtual 107, 3) := by decide +kernel
theorem dX11_weighs_28 : decode cX11_weighs 28 = .ok (.ifCond .ne 6, 3) := by decide +kernel
theorem dX11_weighs_31 : decode cX11_weighs 31 = .ok (.bipush (-3), 2) := by decide +kernel
theorem dX11_weighs_33 : decode cX11_weighs 33 = .ok (.ireturn, 1) := by decide +kernel
theorem dX11_weighs_34 : decode cX11_weighs 34 = .ok (.aload_n 0, 1) := by decide +kernel
theorem dX11_weighs_35 : decode cX11_weighs 35 = .ok (.getfield 10, 3) := by decide +kernel
theorem dX11_weighs_38 : decode cX11_weighs 38 = .ok (.getfield 95, 3) := by decide +kernel
theorem dX11_weighs_41 : decode cX11_weighs 41 = .ok (.iload_n 1, 1) := by decide +kernel
theorem dX11_weighs_42 : decode cX11_weighs 42 = .ok (.iaload, 1) := by decide +kernel
theorem dX11_weighs_43 : decode cX11_weighs 43 = .ok (.istore_n 3, 1) := by decide +kernel
theorem dX11_weighs_44 : decode cX11_weighs 44 = .ok (.aload_n 0, 1) := by decide +kernel
theorem dX11_weighs_45 : decode cX11_weighs 45 = .ok (.getfield 10, 3) := by decide +kernel
theorem dX11_weighs_48 : decode cX11_weighs 48 = .ok (.getfield 95, 3) := by decide +kernel
theorem dX11_weighs_51 : decode cX11_weighs 51 = .ok (.iload_n 1, 1) := by decide +kernel
theorem dX11_weighs_52 : decode cX11_weighs 52 = .ok (.iload_n 2, 1) := by decide +kernel
theorem dX11_weighs_53 : decode cX11_weighs 53 = .ok (.iastore, 1) := by decide +kernel
theorem dX11_weighs_54 : decode cX11_weighs 54 = .ok (.iload_n 3, 1) := by decide +kernel
theorem dX11_weighs_55 : decode cX11_weighs 55 = .ok (.ireturn, 1) := by decide +kernel
theorem dX11_days_0 : decode cX11_days 0 = .ok (.iload_n 1, 1) := by decide +kernel
theorem dX11_days_1 : decode cX11_days 1 = .ok (.iconst 1, 1) := by decide +kernel
theorem dX11_days_2 : decode cX11_days 2 = .ok (.if_icmp .lt 9, 3) := by decide +kernel
theorem dX11_days_5 : decode cX11_days 5 = .ok (.iload_n 1, 1) := by decide +kernel
theorem dX11_days_6 : decode cX11_days 6 = .ok (.bipush 60, 2) := by decide +kernel
theorem dX11_days_8 : decode cX11_days 8 = .ok (.if_icmp .le 5, 3) := by decide +kernel
theorem dX11_days_11 : decode cX11_days 11 = .ok (.iconst (-1), 1) := by decide +kernel
theorem dX11_days_12 : decode cX11_days 12 = .ok (.ireturn, 1) := by decide +kernel
theorem dX11_days_13 : decode cX11_days 13 = .ok (.aload_n 0, 1) := by decide +kernel
theorem dX11_days_14 : decode cX11_days 14 = .ok (.getfield 10, 3) := by decide +kernel
theorem dX11_days_17 : decode cX11_days 17 = .ok (.getfield 165, 3) := by decide +kernel
theorem dX11_days_20 : decode cX11_days 20 = .ok (.iload_n 1, 1) := by decide +kernel
theorem dX11_days_21 : decode cX11_days 21 = .ok (.iadd, 1) := by decide +kernel
theorem dX11_days_22 : decode cX11_days 22 = .ok (.sipush 999, 3) := by decide +kernel
theorem dX11_days_25 : decode cX11_days 25 = .ok (.if_icmp .le 6, 3) := by decide +kernel
theorem dX11_days_28 : decode cX11_days 28 = .ok (.bipush (-3), 2) := by decide +kernel
theorem dX11_days_30 : decode cX11_days 30 = .ok (.ireturn, 1) := by decide +kernel
theorem dX11_days_31 : decode cX11_days 31 = .ok (.aload_n 0, 1) := by decide +kernel
theorem dX11_days_32 : decode cX11_days 32 = .ok (.getfield 10, 3) := by decide +kernel
theorem dX11_days_35 : decode cX11_days 35 = .ok (.iload_n 1, 1) := by decide +kernel
theorem dX11_days_36 : decode cX11_days 36 = .ok (.invokevirtual 168, 3) := by decide +kernel
theorem dX11_days_39 : decode cX11_days 39 = .ok (.aload_n 0, 1) := by decide +kernel
theorem dX11_days_40 : decode cX11_days 40 = .ok (.getfield 10, 3) := by decide +kernel
theorem dX11_days_43 : decode cX11_days 43 = .ok (.getfield 171, 3) := by decide +kernel
theorem dX11_days_46 : decode cX11_days 46 = .ok (.ireturn, 1) := by decide +kernel
theorem dX11_weightThen_0 : decode cX11_weightThen 0 = .ok (.aload_n 0, 1) := by decide +kernel
theorem dX11_weightThen_1 : decode cX11_weightThen 1 = .ok (.getfield 10, 3) := by decide +kernel
theorem dX11_weightThen_4 : decode cX11_weightThen 4 = .ok (.iload_n 1, 1) := by decide +kernel
theorem dX11_weightThen_5 : decode cX11_weightThen 5 = .ok (.invokevirtual 84, 3) := by decide +kernel
theorem dX11_weightThen_8 : decode cX11_weightThen 8 = .ok (.ifCond .eq 10, 3) := by decide +kernel
theorem dX11_weightThen_11 : decode cX11_weightThen 11 = .ok (.iload_n 2, 1) := by decide +kernel
theorem dX11_weightThen_12 : decode cX11_weightThen 12 = .ok (.invokestatic 174, 3) := by decide +kernel
theorem dX11_weightThen_15 : decode cX11_weightThen 15 = .ok (.ifCond .ne 5, 3) := by decide +kernel
theorem dX11_weightThen_18 : decode cX11_weightThen 18 = .ok (.iconst (-1), 1) := by decide +kernel
theorem dX11_weightThen_19 : decode cX11_weightThen 19 = .ok (.ireturn, 1) := by decide +kernel
theorem dX11_weightThen_20 : decode cX11_weightThen 20 = .ok (.aload_n 0, 1) := by decide +kernel
theorem dX11_weightThen_21 : decode cX11_weightThen 21 = .ok (.getfield 16, 3) := by decide +kernel
theorem dX11_weightThen_24 : decode cX11_weightThen 24 = .ok (.aload_n 0, 1) := by decide +kernel
theorem dX11_weightThen_25 : decode cX11_weightThen 25 = .ok (.getfield 10, 3) := by decide +kernel
theorem dX11_weightThen_28 : decode cX11_weightThen 28 = .ok (.invokevirtual 70, 3) := by decide +kernel
theorem dX11_weightThen_31 : decode cX11_weightThen 31 = .ok (.aload_n 0, 1) := by decide +kernel
theorem dX11_weightThen_32 : decode cX11_weightThen 32 = .ok (.getfield 16, 3) := by decide +kernel
theorem dX11_weightThen_35 : decode cX11_weightThen 35 = .ok (.iload_n 2, 1) := by decide +kernel
theorem dX11_weightThen_36 : decode cX11_weightThen 36 = .ok (.invokevirtual 168, 3) := by decide +kernel
theorem dX11_weightThen_39 : decode cX11_weightThen 39 = .ok (.aload_n 0, 1) := by decide +kernel
theorem dX11_weightThen_40 : decode cX11_weightThen 40 = .ok (.getfield 16, 3) := by decide +kernel
theorem dX11_weightThen_43 : decode cX11_weightThen 43 = .ok (.getfield 95, 3) := by decide +kernel
theorem dX11_weightThen_46 : decode cX11_weightThen 46 = .ok (.iload_n 1, 1) := by decide +kernel
theorem dX11_weightThen_47 : decode cX11_weightThen 47 = .ok (.iaload, 1) := by decide +kernel
theorem dX11_weightThen_48 : decode cX11_weightThen 48 = .ok (.ireturn, 1) := by decide +kernel
theorem dX11_then_0 : decode cX11_then 0 = .ok (.iload_n 1, 1) := by decide +kernel
theorem dX11_then_1 : decode cX11_then 1 = .ok (.invokestatic 174, 3) := by decide +kernel
theorem dX11_then_4 : decode cX11_then 4 = .ok (.ifCond .eq 12, 3) := by decide +kernel
theorem dX11_then_7 : decode cX11_then 7 = .ok (.iload_n 2, 1) := by decide +kernel
theorem dX11_then_8 : decode cX11_then 8 = .ok (.ifCond .lt 8, 3) := by decide +kernel
theorem dX11_then_11 : decode cX11_then 11 = .ok (.iload_n 2, 1) := by decide +kernel
theorem dX11_then_12 : decode cX11_then 12 = .ok (.iconst 2, 1) := by decide +kernel
theorem dX11_then_13 : decode cX11_then 13 = .ok (.if_icmp .le 5, 3) := by decide +kernel
theorem dX11_then_16 : decode cX11_then 16 = .ok (.iconst (-1), 1) := by decide +kernel
theorem dX11_then_17 : decode cX11_then 17 = .ok (.ireturn, 1) := by decide +kernel
theorem dX11_then_18 : decode cX11_then 18 = .ok (.aload_n 0, 1) := by decide +kernel
theorem dX11_then_19 : decode cX11_then 19 = .ok (.getfield 16, 3) := by decide +kernel
theorem dX11_then_22 : decode cX11_then 22 = .ok (.aload_n 0, 1) := by decide +kernel
theorem dX11_then_23 : decode cX11_then 23 = .ok (.getfield 10, 3) := by decide +kernel
theorem dX11_then_26 : decode cX11_then 26 = .ok (.invokevirtual 70, 3) := by decide +kernel
theorem dX11_then_29 : decode cX11_then 29 = .ok (.aload_n 0, 1) := by decide +kernel
theorem dX11_then_30 : decode cX11_then 30 = .ok (.getfield 16, 3) := by decide +kernel
theorem dX11_then_33 : decode cX11_then 33 = .ok (.iload_n 1, 1) := by decide +kernel
theorem dX11_then_34 : decode cX11_then 34 = .ok (.invokevirtual 168, 3) := by decide +kernel
theorem dX11_then_37 : decode cX11_then 37 = .ok (.iload_n 2, 1) := by decide +kernel
theorem dX11_then_38 : decode cX11_then 38 = .ok (.ifCond .ne 11, 3) := by decide +kernel
theorem dX11_then_41 : decode cX11_then 41 = .ok (.aload_n 0, 1) := by decide +kernel
theorem dX11_then_42 : decode cX11_then 42 = .ok (.getfield 16, 3) := by decide +kernel
theorem dX11_then_45 : decode cX11_then 45 = .ok (.getfield 177, 3) := by decide +kernel
theorem dX11_then_48 : decode cX11_then 48 = .ok (.ireturn, 1) := by decide +kernel
theorem dX11_then_49 : decode cX11_then 49 = .ok (.iload_n 2, 1) := by decide +kernel
theorem dX11_then_50 : decode cX11_then 50 = .ok (.iconst 1, 1) := by decide +kernel
theorem dX11_then_51 : decode cX11_then 51 = .ok (.if_icmp .ne 13, 3) := by decide +kernel
theorem dX11_then_54 : decode cX11_then 54 = .ok (.aload_n 0, 1) := by decide +kernel
theorem dX11_then_55 : decode cX11_then 55 = .ok (.getfield 16, 3) := by decide +kernel
theorem dX11_then_58 : decode cX11_then 58 = .ok (.getfield 171, 3) := by decide +kernel
theorem dX11_then_61 : decode cX11_then 61 = .ok (.goto 10, 3) := by decide +kernel
theorem dX11_then_64 : decode cX11_then 64 = .ok (.aload_n 0, 1) := by decide +kernel
theorem dX11_then_65 : decode cX11_then 65 = .ok (.getfield 16, 3) := by decide +kernel
theorem dX11_then_68 : decode cX11_then 68 = .ok (.invokevirtual 180, 3) := by decide +kernel
theorem dX11_then_71 : decode cX11_then 71 = .ok (.ireturn, 1) := by decide +kernel
theorem dX11_leaves_0 : decode cX11_leaves 0 = .ok (.iload_n 1, 1) := by decide +kernel
theorem dX11_leaves_1 : decode cX11_leaves 1 = .ok (.iconst (-1), 1) := by decide +kernel
theorem dX11_leaves_2 : decode cX11_leaves 2 = .ok (.if_icmp .ne 8, 3) := by decide +kernel
theorem dX11_leaves_5 : decode cX11_leaves 5 = .ok (.aload_n 0, 1) := by decide +kernel
theorem dX11_leaves_6 : decode cX11_leaves 6 = .ok (.invokevirtual 183, 3) := by decide +kernel
theorem dX11_leaves_9 : decode cX11_leaves 9 = .ok (.ireturn, 1) := by decide +kernel
theorem dX11_leaves_10 : decode cX11_leaves 10 = .ok (.aload_n 0, 1) := by decide +kernel
theorem dX11_leaves_11 : decode cX11_leaves 11 = .ok (.getfield 10, 3) := by decide +kernel
theorem dX11_leaves_14 : decode cX11_leaves 14 = .ok (.iload_n 1, 1) := by decide +kernel
theorem dX11_leaves_15 : decode cX11_leaves 15 = .ok (.invokevirtual 84, 3) := by decide +kernel
theorem dX11_leaves_18 : decode cX11_leaves 18 = .ok (.ifCond .ne 5, 3) := by decide +kernel
theorem dX11_leaves_21 : decode cX11_leaves 21 = .ok (.iconst (-1), 1) := by decide +kernel
theorem dX11_leaves_22 : decode cX11_leaves 22 = .ok (.ireturn, 1) := by decide +kernel
theorem dX11_leaves_23 : decode cX11_leaves 23 = .ok (.aload_n 0, 1) := by decide +kernel
theorem dX11_leaves_24 : decode cX11_leaves 24 = .ok (.getfield 16, 3) := by decide +kernel
theorem dX11_leaves_27 : decode cX11_leaves 27 = .ok (.aload_n 0, 1) := by decide +kernel
theorem dX11_leaves_28 : decode cX11_leaves 28 = .ok (.getfield 10, 3) := by decide +kernel
theorem dX11_leaves_31 : decode cX11_leaves 31 = .ok (.invokevirtual 70, 3) := by decide +kernel
theorem dX11_leaves_34 : decode cX11_leaves 34 = .ok (.iconst 0, 1) := by decide +kernel
theorem dX11_leaves_35 : decode cX11_leaves 35 = .ok (.istore_n 2, 1) := by decide +kernel
theorem dX11_leaves_36 : decode cX11_leaves 36 = .ok (.iload_n 2, 1) := by decide +kernel
theorem dX11_leaves_37 : decode cX11_leaves 37 = .ok (.bipush 60, 2) := by decide +kernel
theorem dX11_leaves_39 : decode cX11_leaves 39 = .ok (.if_icmp .gt 30, 3) := by decide +kernel
theorem dX11_leaves_42 : decode cX11_leaves 42 = .ok (.aload_n 0, 1) := by decide +kernel
theorem dX11_leaves_43 : decode cX11_leaves 43 = .ok (.getfield 16, 3) := by decide +kernel
theorem dX11_leaves_46 : decode cX11_leaves 46 = .ok (.iload_n 1, 1) := by decide +kernel
theorem dX11_leaves_47 : decode cX11_leaves 47 = .ok (.invokevirtual 107, 3) := by decide +kernel
theorem dX11_leaves_50 : decode cX11_leaves 50 = .ok (.ifCond .ne 5, 3) := by decide +kernel
theorem dX11_leaves_53 : decode cX11_leaves 53 = .ok (.iload_n 2, 1) := by decide +kernel
theorem dX11_leaves_54 : decode cX11_leaves 54 = .ok (.ireturn, 1) := by decide +kernel
theorem dX11_leaves_55 : decode cX11_leaves 55 = .ok (.aload_n 0, 1) := by decide +kernel
theorem dX11_leaves_56 : decode cX11_leaves 56 = .ok (.getfield 16, 3) := by decide +kernel
theorem dX11_leaves_59 : decode cX11_leaves 59 = .ok (.iload_n 1, 1) := by decide +kernel
theorem dX11_leaves_60 : decode cX11_leaves 60 = .ok (.invokevirtual 186, 3) := by decide +kernel
theorem dX11_leaves_63 : decode cX11_leaves 63 = .ok (.iinc 2 1, 3) := by decide +kernel
theorem dX11_leaves_66 : decode cX11_leaves 66 = .ok (.goto (-30), 3) := by decide +kernel
theorem dX11_leaves_69 : decode cX11_leaves 69 = .ok (.bipush (-4), 2) := by decide +kernel
theorem dX11_leaves_71 : decode cX11_leaves 71 = .ok (.ireturn, 1) := by decide +kernel
theorem dX11_order_0 : decode cX11_order 0 = .ok (.iload_n 1, 1) := by decide +kernel
theorem dX11_order_1 : decode cX11_order 1 = .ok (.iconst (-1), 1) := by decide +kernel
theorem dX11_order_2 : decode cX11_order 2 = .ok (.if_icmp .ge 5, 3) := by decide +kernel
theorem dX11_order_5 : decode cX11_order 5 = .ok (.iconst (-1), 1) := by decide +kernel
theorem dX11_order_6 : decode cX11_order 6 = .ok (.ireturn, 1) := by decide +kernel
theorem dX11_order_7 : decode cX11_order 7 = .ok (.iload_n 1, 1) := by decide +kernel
theorem dX11_order_8 : decode cX11_order 8 = .ok (.iconst (-1), 1) := by decide +kernel
theorem dX11_order_9 : decode cX11_order 9 = .ok (.if_icmp .ne 13, 3) := by decide +kernel
theorem dX11_order_12 : decode cX11_order 12 = .ok (.aload_n 0, 1) := by decide +kernel
theorem dX11_order_13 : decode cX11_order 13 = .ok (.getfield 10, 3) := by decide +kernel
theorem dX11_order_16 : decode cX11_order 16 = .ok (.invokevirtual 189, 3) := by decide +kernel
theorem dX11_order_19 : decode cX11_order 19 = .ok (.goto 11, 3) := by decide +kernel
theorem dX11_order_22 : decode cX11_order 22 = .ok (.aload_n 0, 1) := by decide +kernel
theorem dX11_order_23 : decode cX11_order 23 = .ok (.getfield 10, 3) := by decide +kernel
theorem dX11_order_26 : decode cX11_order 26 = .ok (.iload_n 1, 1) := by decide +kernel
theorem dX11_order_27 : decode cX11_order 27 = .ok (.invokevirtual 192, 3) := by decide +kernel
theorem dX11_order_30 : decode cX11_order 30 = .ok (.ireturn, 1) := by decide +kernel
theorem dX11_firstToLeave_0 : decode cX11_firstToLeave 0 = .ok (.aload_n 0, 1) := by decide +kernel
theorem dX11_firstToLeave_1 : decode cX11_firstToLeave 1 = .ok (.getfield 16, 3) := by decide +kernel
theorem dX11_firstToLeave_4 : decode cX11_firstToLeave 4 = .ok (.aload_n 0, 1) := by decide +kernel
theorem dX11_firstToLeave_5 : decode cX11_firstToLeave 5 = .ok (.getfield 10, 3) := by decide +kernel
theorem dX11_firstToLeave_8 : decode cX11_firstToLeave 8 = .ok (.invokevirtual 70, 3) := by decide +kernel
theorem dX11_firstToLeave_11 : decode cX11_firstToLeave 11 = .ok (.iconst 1, 1) := by decide +kernel
theorem dX11_firstToLeave_12 : decode cX11_firstToLeave 12 = .ok (.istore_n 1, 1) := by decide +kernel
theorem dX11_firstToLeave_13 : decode cX11_firstToLeave 13 = .ok (.iload_n 1, 1) := by decide +kernel
theorem dX11_firstToLeave_14 : decode cX11_firstToLeave 14 = .ok (.bipush 60, 2) := by decide +kernel
theorem dX11_firstToLeave_16 : decode cX11_firstToLeave 16 = .ok (.if_icmp .gt 43, 3) := by decide +kernel
theorem dX11_firstToLeave_19 : decode cX11_firstToLeave 19 = .ok (.aload_n 0, 1) := by decide +kernel
theorem dX11_firstToLeave_20 : decode cX11_firstToLeave 20 = .ok (.getfield 16, 3) := by decide +kernel
theorem dX11_firstToLeave_23 : decode cX11_firstToLeave 23 = .ok (.invokevirtual 195, 3) := by decide +kernel
theorem dX11_firstToLeave_26 : decode cX11_firstToLeave 26 = .ok (.aload_n 0, 1) := by decide +kernel
theorem dX11_firstToLeave_27 : decode cX11_firstToLeave 27 = .ok (.getfield 10, 3) := by decide +kernel
theorem dX11_firstToLeave_30 : decode cX11_firstToLeave 30 = .ok (.getfield 177, 3) := by decide +kernel
theorem dX11_firstToLeave_33 : decode cX11_firstToLeave 33 = .ok (.aload_n 0, 1) := by decide +kernel
theorem dX11_firstToLeave_34 : decode cX11_firstToLeave 34 = .ok (.getfield 16, 3) := by decide +kernel
theorem dX11_firstToLeave_37 : decode cX11_firstToLeave 37 = .ok (.getfield 177, 3) := by decide +kernel
theorem dX11_firstToLeave_40 : decode cX11_firstToLeave 40 = .ok (.iconst (-1), 1) := by decide +kernel
theorem dX11_firstToLeave_41 : decode cX11_firstToLeave 41 = .ok (.ixor, 1) := by decide +kernel
theorem dX11_firstToLeave_42 : decode cX11_firstToLeave 42 = .ok (.iand, 1) := by decide +kernel
theorem dX11_firstToLeave_43 : decode cX11_firstToLeave 43 = .ok (.istore_n 2, 1) := by decide +kernel
theorem dX11_firstToLeave_44 : decode cX11_firstToLeave 44 = .ok (.iload_n 2, 1) := by decide +kernel
theorem dX11_firstToLeave_45 : decode cX11_firstToLeave 45 = .ok (.ifCond .eq 8, 3) := by decide +kernel
theorem dX11_firstToLeave_48 : decode cX11_firstToLeave 48 = .ok (.iload_n 2, 1) := by decide +kernel
theorem dX11_firstToLeave_49 : decode cX11_firstToLeave 49 = .ok (.invokestatic 198, 3) := by decide +kernel
theorem dX11_firstToLeave_52 : decode cX11_firstToLeave 52 = .ok (.ireturn, 1) := by decide +kernel
theorem dX11_firstToLeave_53 : decode cX11_firstToLeave 53 = .ok (.iinc 1 1, 3) := by decide +kernel
theorem dX11_firstToLeave_56 : decode cX11_firstToLeave 56 = .ok (.goto (-43), 3) := by decide +kernel
theorem dX11_firstToLeave_59 : decode cX11_firstToLeave 59 = .ok (.bipush (-4), 2) := by decide +kernel
theorem dX11_firstToLeave_61 : decode cX11_firstToLeave 61 = .ok (.ireturn, 1) := by decide +kernel
theorem dX11_feed_0 : decode cX11_feed 0 = .ok (.iload_n 1, 1) := by decide +kernel
theorem dX11_feed_1 : decode cX11_feed 1 = .ok (.invokestatic 174, 3) := by decide +kernel
theorem dX11_feed_4 : decode cX11_feed 4 = .ok (.ifCond .eq 12, 3) := by decide +kernel
theorem dX11_feed_7 : decode cX11_feed 7 = .ok (.iload_n 2, 1) := by decide +kernel
theorem dX11_feed_8 : decode cX11_feed 8 = .ok (.ifCond .lt 8, 3) := by decide +kernel
theorem dX11_feed_11 : decode cX11_feed 11 = .ok (.iload_n 2, 1) := by decide +kernel
theorem dX11_feed_12 : decode cX11_feed 12 = .ok (.iconst 1, 1) := by decide +kernel
theorem dX11_feed_13 : decode cX11_feed 13 = .ok (.if_icmp .le 5, 3) := by decide +kernel
theorem dX11_feed_16 : decode cX11_feed 16 = .ok (.iconst (-1), 1) := by decide +kernel
theorem dX11_feed_17 : decode cX11_feed 17 = .ok (.ireturn, 1) := by decide +kernel
theorem dX11_feed_18 : decode cX11_feed 18 = .ok (.iconst 0, 1) := by decide +kernel
theorem dX11_feed_19 : decode cX11_feed 19 = .ok (.istore_n 3, 1) := by decide +kernel
theorem dX11_feed_20 : decode cX11_feed 20 = .ok (.iconst (-1), 1) := by decide +kernel
theorem dX11_feed_21 : decode cX11_feed 21 = .ok (.istore 4, 2) := by decide +kernel
theorem dX11_feed_23 : decode cX11_feed 23 = .ok (.iconst 0, 1) := by decide +kernel
theorem dX11_feed_24 : decode cX11_feed 24 = .ok (.istore 5, 2) := by decide +kernel
theorem dX11_feed_26 : decode cX11_feed 26 = .ok (.iload 5, 2) := by decide +kernel
theorem dX11_feed_28 : decode cX11_feed 28 = .ok (.bipush 9, 2) := by decide +kernel
theorem dX11_feed_30 : decode cX11_feed 30 = .ok (.if_icmp .gt 61, 3) := by decide +kernel
theorem dX11_feed_33 : decode cX11_feed 33 = .ok (.aload_n 0, 1) := by decide +kernel
theorem dX11_feed_34 : decode cX11_feed 34 = .ok (.getfield 16, 3) := by decide +kernel
theorem dX11_feed_37 : decode cX11_feed 37 = .ok (.aload_n 0, 1) := by decide +kernel
theorem dX11_feed_38 : decode cX11_feed 38 = .ok (.getfield 10, 3) := by decide +kernel
theorem dX11_feed_41 : decode cX11_feed 41 = .ok (.invokevirtual 70, 3) := by decide +kernel
theorem dX11_feed_44 : decode cX11_feed 44 = .ok (.aload_n 0, 1) := by decide +kernel
theorem dX11_feed_45 : decode cX11_feed 45 = .ok (.getfield 16, 3) := by decide +kernel
theorem dX11_feed_48 : decode cX11_feed 48 = .ok (.iload 5, 2) := by decide +kernel
theorem dX11_feed_50 : decode cX11_feed 50 = .ok (.putfield 159, 3) := by decide +kernel
theorem dX11_feed_53 : decode cX11_feed 53 = .ok (.aload_n 0, 1) := by decide +kernel
theorem dX11_feed_54 : decode cX11_feed 54 = .ok (.getfield 16, 3) := by decide +kernel
theorem dX11_feed_57 : decode cX11_feed 57 = .ok (.iload_n 1, 1) := by decide +kernel
theorem dX11_feed_58 : decode cX11_feed 58 = .ok (.invokevirtual 168, 3) := by decide +kernel
theorem dX11_feed_61 : decode cX11_feed 61 = .ok (.aload_n 0, 1) := by decide +kernel
theorem dX11_feed_62 : decode cX11_feed 62 = .ok (.getfield 16, 3) := by decide +kernel
theorem dX11_feed_65 : decode cX11_feed 65 = .ok (.getfield 171, 3) := by decide +kernel
theorem dX11_feed_68 : decode cX11_feed 68 = .ok (.iload 4, 2) := by decide +kernel
theorem dX11_feed_70 : decode cX11_feed 70 = .ok (.if_icmp .le 15, 3) := by decide +kernel
theorem dX11_feed_73 : decode cX11_feed 73 = .ok (.iload 5, 2) := by decide +kernel
theorem dX11_feed_75 : decode cX11_feed 75 = .ok (.istore_n 3, 1) := by decide +kernel
theorem dX11_feed_76 : decode cX11_feed 76 = .ok (.aload_n 0, 1) := by decide +kernel
theorem dX11_feed_77 : decode cX11_feed 77 = .ok (.getfield 16, 3) := by decide +kernel
theorem dX11_feed_80 : decode cX11_feed 80 = .ok (.getfield 171, 3) := by decide +kernel
theorem dX11_feed_83 : decode cX11_feed 83 = .ok (.istore 4, 2) := by decide +kernel
theorem dX11_feed_85 : decode cX11_feed 85 = .ok (.iinc 5 1, 3) := by decide +kernel
theorem dX11_feed_88 : decode cX11_feed 88 = .ok (.goto (-62), 3) := by decide +kernel
theorem dX11_feed_91 : decode cX11_feed 91 = .ok (.iload_n 2, 1) := by decide +kernel
theorem dX11_feed_92 : decode cX11_feed 92 = .ok (.ifCond .ne 7, 3) := by decide +kernel
theorem dX11_feed_95 : decode cX11_feed 95 = .ok (.iload_n 3, 1) := by decide +kernel
theorem dX11_feed_96 : decode cX11_feed 96 = .ok (.goto 5, 3) := by decide +kernel
theorem dX11_feed_99 : decode cX11_feed 99 = .ok (.iload 4, 2) := by decide +kernel
theorem dX11_feed_101 : decode cX11_feed 101 = .ok (.ireturn, 1) := by decide +kernel
theorem dX11_empty_0 : decode cX11_empty 0 = .ok (.iload_n 1, 1) := by decide +kernel
theorem dX11_empty_1 : decode cX11_empty 1 = .ok (.invokestatic 174, 3) := by decide +kernel
theorem dX11_empty_4 : decode cX11_empty 4 = .ok (.ifCond .ne 5, 3) := by decide +kernel
theorem dX11_empty_7 : decode cX11_empty 7 = .ok (.iconst (-1), 1) := by decide +kernel
theorem dX11_empty_8 : decode cX11_empty 8 = .ok (.ireturn, 1) := by decide +kernel
theorem dX11_empty_9 : decode cX11_empty 9 = .ok (.iconst 0, 1) := by decide +kernel
theorem dX11_empty_10 : decode cX11_empty 10 = .ok (.istore_n 2, 1) := by decide +kernel
theorem dX11_empty_11 : decode cX11_empty 11 = .ok (.iload_n 2, 1) := by decide +kernel
theorem dX11_empty_12 : decode cX11_empty 12 = .ok (.bipush 9, 2) := by decide +kernel
theorem dX11_empty_14 : decode cX11_empty 14 = .ok (.if_icmp .gt 48, 3) := by decide +kernel
theorem dX11_empty_17 : decode cX11_empty 17 = .ok (.aload_n 0, 1) := by decide +kernel
theorem dX11_empty_18 : decode cX11_empty 18 = .ok (.getfield 16, 3) := by decide +kernel
theorem dX11_empty_21 : decode cX11_empty 21 = .ok (.aload_n 0, 1) := by decide +kernel
theorem dX11_empty_22 : decode cX11_empty 22 = .ok (.getfield 10, 3) := by decide +kernel
theorem dX11_empty_25 : decode cX11_empty 25 = .ok (.invokevirtual 70, 3) := by decide +kernel
theorem dX11_empty_28 : decode cX11_empty 28 = .ok (.aload_n 0, 1) := by decide +kernel
theorem dX11_empty_29 : decode cX11_empty 29 = .ok (.getfield 16, 3) := by decide +kernel
theorem dX11_empty_32 : decode cX11_empty 32 = .ok (.iload_n 2, 1) := by decide +kernel
theorem dX11_empty_33 : decode cX11_empty 33 = .ok (.putfield 162, 3) := by decide +kernel
theorem dX11_empty_36 : decode cX11_empty 36 = .ok (.aload_n 0, 1) := by decide +kernel
theorem dX11_empty_37 : decode cX11_empty 37 = .ok (.getfield 16, 3) := by decide +kernel
theorem dX11_empty_40 : decode cX11_empty 40 = .ok (.iload_n 1, 1) := by decide +kernel
theorem dX11_empty_41 : decode cX11_empty 41 = .ok (.invokevirtual 168, 3) := by decide +kernel
theorem dX11_empty_44 : decode cX11_empty 44 = .ok (.aload_n 0, 1) := by decide +kernel
theorem dX11_empty_45 : decode cX11_empty 45 = .ok (.getfield 16, 3) := by decide +kernel
theorem dX11_empty_48 : decode cX11_empty 48 = .ok (.getfield 177, 3) := by decide +kernel
theorem dX11_empty_51 : decode cX11_empty 51 = .ok (.ifCond .ne 5, 3) := by decide +kernel
theorem dX11_empty_54 : decode cX11_empty 54 = .ok (.iload_n 2, 1) := by decide +kernel
theorem dX11_empty_55 : decode cX11_empty 55 = .ok (.ireturn, 1) := by decide +kernel
theorem dX11_empty_56 : decode cX11_empty 56 = .ok (.iinc 2 1, 3) := by decide +kernel
theorem dX11_empty_59 : decode cX11_empty 59 = .ok (.goto (-48), 3) := by decide +kernel
theorem dX11_empty_62 : decode cX11_empty 62 = .ok (.bipush (-4), 2) := by decide +kernel
theorem dX11_empty_64 : decode cX11_empty 64 = .ok (.ireturn, 1) := by decide +kernel
theorem dX11_tell_0 : decode cX11_tell 0 = .ok (.aload_n 0, 1) := by decide +kernel
theorem dX11_tell_1 : decode cX11_tell 1 = .ok (.getfield 10, 3) := by decide +kernel
theorem dX11_tell_4 : decode cX11_tell 4 = .ok (.iload_n 1, 1) := by decide +kernel
theorem dX11_tell_5 : decode cX11_tell 5 = .ok (.invokevirtual 84, 3) := by decide +kernel
theorem dX11_tell_8 : decode cX11_tell 8 = .ok (.ifCond .ne 5, 3) := by decide +kernel
theorem dX11_tell_11 : decode cX11_tell 11 = .ok (.iconst (-1), 1) := by decide +kernel
theorem dX11_tell_12 : decode cX11_tell 12 = .ok (.ireturn, 1) := by decide +kernel
theorem dX11_tell_13 : decode cX11_tell 13 = .ok (.aload_n 0, 1) := by decide +kernel
theorem dX11_tell_14 : decode cX11_tell 14 = .ok (.getfield 10, 3) := by decide +kernel
theorem dX11_tell_17 : decode cX11_tell 17 = .ok (.iload_n 1, 1) := by decide +kernel
theorem dX11_tell_18 : decode cX11_tell 18 = .ok (.invokevirtual 107, 3) := by decide +kernel
theorem dX11_tell_21 : decode cX11_tell 21 = .ok (.ifCond .ne 6, 3) := by decide +kernel
theorem dX11_tell_24 : decode cX11_tell 24 = .ok (.bipush (-3), 2) := by decide +kernel
theorem dX11_tell_26 : decode cX11_tell 26 = .ok (.ireturn, 1) := by decide +kernel
theorem dX11_tell_27 : decode cX11_tell 27 = .ok (.iconst 0, 1) := by decide +kernel
theorem dX11_tell_28 : decode cX11_tell 28 = .ok (.istore_n 2, 1) := by decide +kernel
theorem dX11_tell_29 : decode cX11_tell 29 = .ok (.iload_n 2, 1) := by decide +kernel
theorem dX11_tell_30 : decode cX11_tell 30 = .ok (.aload_n 0, 1) := by decide +kernel
theorem dX11_tell_31 : decode cX11_tell 31 = .ok (.getfield 10, 3) := by decide +kernel
theorem dX11_tell_34 : decode cX11_tell 34 = .ok (.getfield 101, 3) := by decide +kernel
theorem dX11_tell_37 : decode cX11_tell 37 = .ok (.iload_n 1, 1) := by decide +kernel
theorem dX11_tell_38 : decode cX11_tell 38 = .ok (.iaload, 1) := by decide +kernel
theorem dX11_tell_39 : decode cX11_tell 39 = .ok (.if_icmp .gt 51, 3) := by decide +kernel
theorem dX11_tell_42 : decode cX11_tell 42 = .ok (.aload_n 0, 1) := by decide +kernel
theorem dX11_tell_43 : decode cX11_tell 43 = .ok (.getfield 16, 3) := by decide +kernel
theorem dX11_tell_46 : decode cX11_tell 46 = .ok (.aload_n 0, 1) := by decide +kernel
theorem dX11_tell_47 : decode cX11_tell 47 = .ok (.getfield 10, 3) := by decide +kernel
theorem dX11_tell_50 : decode cX11_tell 50 = .ok (.invokevirtual 70, 3) := by decide +kernel
theorem dX11_tell_53 : decode cX11_tell 53 = .ok (.iconst 0, 1) := by decide +kernel
theorem dX11_tell_54 : decode cX11_tell 54 = .ok (.istore_n 3, 1) := by decide +kernel
theorem dX11_tell_55 : decode cX11_tell 55 = .ok (.iload_n 3, 1) := by decide +kernel
theorem dX11_tell_56 : decode cX11_tell 56 = .ok (.iload_n 2, 1) := by decide +kernel
theorem dX11_tell_57 : decode cX11_tell 57 = .ok (.if_icmp .ge 17, 3) := by decide +kernel
theorem dX11_tell_60 : decode cX11_tell 60 = .ok (.aload_n 0, 1) := by decide +kernel
theorem dX11_tell_61 : decode cX11_tell 61 = .ok (.getfield 16, 3) := by decide +kernel
theorem dX11_tell_64 : decode cX11_tell 64 = .ok (.iload_n 1, 1) := by decide +kernel
theorem dX11_tell_65 : decode cX11_tell 65 = .ok (.invokevirtual 140, 3) := by decide +kernel
theorem dX11_tell_68 : decode cX11_tell 68 = .ok (.iinc 3 1, 3) := by decide +kernel
theorem dX11_tell_71 : decode cX11_tell 71 = .ok (.goto (-16), 3) := by decide +kernel
theorem dX11_tell_74 : decode cX11_tell 74 = .ok (.aload_n 0, 1) := by decide +kernel
theorem dX11_tell_75 : decode cX11_tell 75 = .ok (.iload_n 1, 1) := by decide +kernel
theorem dX11_tell_76 : decode cX11_tell 76 = .ok (.invokevirtual 201, 3) := by decide +kernel
theorem dX11_tell_79 : decode cX11_tell 79 = .ok (.ifCond .eq 5, 3) := by decide +kernel
theorem dX11_tell_82 : decode cX11_tell 82 = .ok (.iload_n 2, 1) := by decide +kernel
theorem dX11_tell_83 : decode cX11_tell 83 = .ok (.ireturn, 1) := by decide +kernel
theorem dX11_tell_84 : decode cX11_tell 84 = .ok (.iinc 2 1, 3) := by decide +kernel
theorem dX11_tell_87 : decode cX11_tell 87 = .ok (.goto (-58), 3) := by decide +kernel
theorem dX11_tell_90 : decode cX11_tell 90 = .ok (.bipush (-4), 2) := by decide +kernel
theorem dX11_tell_92 : decode cX11_tell 92 = .ok (.ireturn, 1) := by decide +kernel
theorem dX11_loan_0 : decode cX11_loan 0 = .ok (.aload_n 0, 1) := by decide +kernel
theorem dX11_loan_1 : decode cX11_loan 1 = .ok (.iload_n 1, 1) := by decide +kernel
theorem dX11_loan_2 : decode cX11_loan 2 = .ok (.iload_n 2, 1) := by decide +kernel
theorem dX11_loan_3 : decode cX11_loan 3 = .ok (.invokevirtual 144, 3) := by decide +kernel
theorem dX11_loan_6 : decode cX11_loan 6 = .ok (.ifCond .ne 5, 3) := by decide +kernel
theorem dX11_loan_9 : decode cX11_loan 9 = .ok (.iconst (-1), 1) := by decide +kernel
theorem dX11_loan_10 : decode cX11_loan 10 = .ok (.ireturn, 1) := by decide +kernel
theorem dX11_loan_11 : decode cX11_loan 11 = .ok (.aload_n 0, 1) := by decide +kernel
theorem dX11_loan_12 : decode cX11_loan 12 = .ok (.getfield 10, 3) := by decide +kernel
theorem dX11_loan_15 : decode cX11_loan 15 = .ok (.iload_n 1, 1) := by decide +kernel
theorem dX11_loan_16 : decode cX11_loan 16 = .ok (.invokevirtual 107, 3) := by decide +kernel
theorem dX11_loan_19 : decode cX11_loan 19 = .ok (.ifCond .eq 14, 3) := by decide +kernel
theorem dX11_loan_22 : decode cX11_loan 22 = .ok (.aload_n 0, 1) := by decide +kernel
theorem dX11_loan_23 : decode cX11_loan 23 = .ok (.getfield 10, 3) := by decide +kernel
theorem dX11_loan_26 : decode cX11_loan 26 = .ok (.iload_n 2, 1) := by decide +kernel
theorem dX11_loan_27 : decode cX11_loan 27 = .ok (.invokevirtual 107, 3) := by decide +kernel
theorem dX11_loan_30 : decode cX11_loan 30 = .ok (.ifCond .ne 6, 3) := by decide +kernel
theorem dX11_loan_33 : decode cX11_loan 33 = .ok (.bipush (-3), 2) := by decide +kernel
theorem dX11_loan_35 : decode cX11_loan 35 = .ok (.ireturn, 1) := by decide +kernel
theorem dX11_loan_36 : decode cX11_loan 36 = .ok (.aload_n 0, 1) := by decide +kernel
theorem dX11_loan_37 : decode cX11_loan 37 = .ok (.getfield 16, 3) := by decide +kernel
theorem dX11_loan_40 : decode cX11_loan 40 = .ok (.aload_n 0, 1) := by decide +kernel
theorem dX11_loan_41 : decode cX11_loan 41 = .ok (.getfield 10, 3) := by decide +kernel
theorem dX11_loan_44 : decode cX11_loan 44 = .ok (.invokevirtual 70, 3) := by decide +kernel
theorem dX11_loan_47 : decode cX11_loan 47 = .ok (.aload_n 0, 1) := by decide +kernel
theorem dX11_loan_48 : decode cX11_loan 48 = .ok (.iload_n 1, 1) := by decide +kernel
theorem dX11_loan_49 : decode cX11_loan 49 = .ok (.invokevirtual 201, 3) := by decide +kernel
theorem dX11_loan_52 : decode cX11_loan 52 = .ok (.ifCond .eq 5, 3) := by decide +kernel
theorem dX11_loan_55 : decode cX11_loan 55 = .ok (.iconst 0, 1) := by decide +kernel
theorem dX11_loan_56 : decode cX11_loan 56 = .ok (.ireturn, 1) := by decide +kernel
theorem dX11_loan_57 : decode cX11_loan 57 = .ok (.iconst 1, 1) := by decide +kernel
theorem dX11_loan_58 : decode cX11_loan 58 = .ok (.istore_n 3, 1) := by decide +kernel
theorem dX11_loan_59 : decode cX11_loan 59 = .ok (.iload_n 3, 1) := by decide +kernel
theorem dX11_loan_60 : decode cX11_loan 60 = .ok (.bipush 20, 2) := by decide +kernel
theorem dX11_loan_62 : decode cX11_loan 62 = .ok (.if_icmp .gt 53, 3) := by decide +kernel
theorem dX11_loan_65 : decode cX11_loan 65 = .ok (.aload_n 0, 1) := by decide +kernel
theorem dX11_loan_66 : decode cX11_loan 66 = .ok (.getfield 10, 3) := by decide +kernel
theorem dX11_loan_69 : decode cX11_loan 69 = .ok (.iload_n 1, 1) := by decide +kernel
theorem dX11_loan_70 : decode cX11_loan 70 = .ok (.iload_n 2, 1) := by decide +kernel
theorem dX11_loan_71 : decode cX11_loan 71 = .ok (.iload_n 3, 1) := by decide +kernel
theorem dX11_loan_72 : decode cX11_loan 72 = .ok (.invokevirtual 148, 3) := by decide +kernel
theorem dX11_loan_75 : decode cX11_loan 75 = .ok (.ifCond .eq 40, 3) := by decide +kernel
theorem dX11_loan_78 : decode cX11_loan 78 = .ok (.aload_n 0, 1) := by decide +kernel
theorem dX11_loan_79 : decode cX11_loan 79 = .ok (.getfield 16, 3) := by decide +kernel
theorem dX11_loan_82 : decode cX11_loan 82 = .ok (.aload_n 0, 1) := by decide +kernel
theorem dX11_loan_83 : decode cX11_loan 83 = .ok (.getfield 10, 3) := by decide +kernel
theorem dX11_loan_86 : decode cX11_loan 86 = .ok (.invokevirtual 70, 3) := by decide +kernel
theorem dX11_loan_89 : decode cX11_loan 89 = .ok (.aload_n 0, 1) := by decide +kernel
theorem dX11_loan_90 : decode cX11_loan 90 = .ok (.getfield 16, 3) := by decide +kernel
theorem dX11_loan_93 : decode cX11_loan 93 = .ok (.iload_n 1, 1) := by decide +kernel
theorem dX11_loan_94 : decode cX11_loan 94 = .ok (.iload_n 2, 1) := by decide +kernel
theorem dX11_loan_95 : decode cX11_loan 95 = .ok (.iload_n 3, 1) := by decide +kernel
theorem dX11_loan_96 : decode cX11_loan 96 = .ok (.invokevirtual 152, 3) := by decide +kernel
theorem dX11_loan_99 : decode cX11_loan 99 = .ok (.aload_n 0, 1) := by decide +kernel
theorem dX11_loan_100 : decode cX11_loan 100 = .ok (.iload_n 1, 1) := by decide +kernel
theorem dX11_loan_101 : decode cX11_loan 101 = .ok (.invokevirtual 201, 3) := by decide +kernel
theorem dX11_loan_104 : decode cX11_loan 104 = .ok (.ifCond .eq 5, 3) := by decide +kernel
theorem dX11_loan_107 : decode cX11_loan 107 = .ok (.iload_n 3, 1) := by decide +kernel
theorem dX11_loan_108 : decode cX11_loan 108 = .ok (.ireturn, 1) := by decide +kernel
theorem dX11_loan_109 : decode cX11_loan 109 = .ok (.iinc 3 1, 3) := by decide +kernel
theorem dX11_loan_112 : decode cX11_loan 112 = .ok (.goto (-53), 3) := by decide +kernel
theorem dX11_loan_115 : decode cX11_loan 115 = .ok (.bipush (-4), 2) := by decide +kernel
theorem dX11_loan_117 : decode cX11_loan 117 = .ok (.ireturn, 1) := by decide +kernel
theorem dX11_waits_0 : decode cX11_waits 0 = .ok (.iload_n 1, 1) := by decide +kernel
theorem dX11_waits_1 : decode cX11_waits 1 = .ok (.invokestatic 174, 3) := by decide +kernel
theorem dX11_waits_4 : decode cX11_waits 4 = .ok (.ifCond .ne 5, 3) := by decide +kernel
theorem dX11_waits_7 : decode cX11_waits 7 = .ok (.iconst (-1), 1) := by decide +kernel
theorem dX11_waits_8 : decode cX11_waits 8 = .ok (.ireturn, 1) := by decide +kernel
theorem dX11_waits_9 : decode cX11_waits 9 = .ok (.aload_n 0, 1) := by decide +kernel
theorem dX11_waits_10 : decode cX11_waits 10 = .ok (.getfield 16, 3) := by decide +kernel
theorem dX11_waits_13 : decode cX11_waits 13 = .ok (.aload_n 0, 1) := by decide +kernel
theorem dX11_waits_14 : decode cX11_waits 14 = .ok (.getfield 10, 3) := by decide +kernel
theorem dX11_waits_17 : decode cX11_waits 17 = .ok (.invokevirtual 70, 3) := by decide +kernel
theorem dX11_waits_20 : decode cX11_waits 20 = .ok (.aload_n 0, 1) := by decide +kernel
theorem dX11_waits_21 : decode cX11_waits 21 = .ok (.getfield 16, 3) := by decide +kernel
theorem dX11_waits_24 : decode cX11_waits 24 = .ok (.iload_n 1, 1) := by decide +kernel
theorem dX11_waits_25 : decode cX11_waits 25 = .ok (.invokevirtual 168, 3) := by decide +kernel
theorem dX11_waits_28 : decode cX11_waits 28 = .ok (.aload_n 0, 1) := by decide +kernel
theorem dX11_waits_29 : decode cX11_waits 29 = .ok (.getfield 16, 3) := by decide +kernel
theorem dX11_waits_32 : decode cX11_waits 32 = .ok (.getfield 171, 3) := by decide +kernel
theorem dX11_waits_35 : decode cX11_waits 35 = .ok (.istore_n 2, 1) := by decide +kernel
theorem dX11_waits_36 : decode cX11_waits 36 = .ok (.bipush (-4), 2) := by decide +kernel
theorem dX11_waits_38 : decode cX11_waits 38 = .ok (.istore_n 3, 1) := by decide +kernel
theorem dX11_waits_39 : decode cX11_waits 39 = .ok (.iconst 0, 1) := by decide +kernel
theorem dX11_waits_40 : decode cX11_waits 40 = .ok (.istore 4, 2) := by decide +kernel
theorem dX11_waits_42 : decode cX11_waits 42 = .ok (.iload 4, 2) := by decide +kernel
theorem dX11_waits_44 : decode cX11_waits 44 = .ok (.aload_n 0, 1) := by decide +kernel
theorem dX11_waits_45 : decode cX11_waits 45 = .ok (.getfield 10, 3) := by decide +kernel
theorem dX11_waits_48 : decode cX11_waits 48 = .ok (.getfield 134, 3) := by decide +kernel
theorem dX11_waits_51 : decode cX11_waits 51 = .ok (.if_icmp .ge 79, 3) := by decide +kernel
theorem dX11_waits_54 : decode cX11_waits 54 = .ok (.aload_n 0, 1) := by decide +kernel
theorem dX11_waits_55 : decode cX11_waits 55 = .ok (.getfield 10, 3) := by decide +kernel
theorem dX11_waits_58 : decode cX11_waits 58 = .ok (.iload 4, 2) := by decide +kernel
theorem dX11_waits_60 : decode cX11_waits 60 = .ok (.invokevirtual 107, 3) := by decide +kernel
theorem dX11_waits_63 : decode cX11_waits 63 = .ok (.ifCond .ne 6, 3) := by decide +kernel
theorem dX11_waits_66 : decode cX11_waits 66 = .ok (.goto 58, 3) := by decide +kernel
theorem dX11_waits_69 : decode cX11_waits 69 = .ok (.aload_n 0, 1) := by decide +kernel
theorem dX11_waits_70 : decode cX11_waits 70 = .ok (.getfield 16, 3) := by decide +kernel
theorem dX11_waits_73 : decode cX11_waits 73 = .ok (.aload_n 0, 1) := by decide +kernel
theorem dX11_waits_74 : decode cX11_waits 74 = .ok (.getfield 10, 3) := by decide +kernel
theorem dX11_waits_77 : decode cX11_waits 77 = .ok (.invokevirtual 70, 3) := by decide +kernel
theorem dX11_waits_80 : decode cX11_waits 80 = .ok (.aload_n 0, 1) := by decide +kernel
theorem dX11_waits_81 : decode cX11_waits 81 = .ok (.getfield 16, 3) := by decide +kernel
theorem dX11_waits_84 : decode cX11_waits 84 = .ok (.getfield 104, 3) := by decide +kernel
theorem dX11_waits_87 : decode cX11_waits 87 = .ok (.iload 4, 2) := by decide +kernel
theorem dX11_waits_89 : decode cX11_waits 89 = .ok (.dup2, 1) := by decide +kernel
theorem dX11_waits_90 : decode cX11_waits 90 = .ok (.iaload, 1) := by decide +kernel
theorem dX11_waits_91 : decode cX11_waits 91 = .ok (.iconst 5, 1) := by decide +kernel
theorem dX11_waits_92 : decode cX11_waits 92 = .ok (.iadd, 1) := by decide +kernel
theorem dX11_waits_93 : decode cX11_waits 93 = .ok (.iastore, 1) := by decide +kernel
theorem dX11_waits_94 : decode cX11_waits 94 = .ok (.aload_n 0, 1) := by decide +kernel
theorem dX11_waits_95 : decode cX11_waits 95 = .ok (.getfield 16, 3) := by decide +kernel
theorem dX11_waits_98 : decode cX11_waits 98 = .ok (.iload_n 1, 1) := by decide +kernel
theorem dX11_waits_99 : decode cX11_waits 99 = .ok (.invokevirtual 168, 3) := by decide +kernel
theorem dX11_waits_102 : decode cX11_waits 102 = .ok (.aload_n 0, 1) := by decide +kernel
theorem dX11_waits_103 : decode cX11_waits 103 = .ok (.getfield 16, 3) := by decide +kernel
theorem dX11_waits_106 : decode cX11_waits 106 = .ok (.getfield 171, 3) := by decide +kernel
theorem dX11_waits_109 : decode cX11_waits 109 = .ok (.iload_n 2, 1) := by decide +kernel
theorem dX11_waits_110 : decode cX11_waits 110 = .ok (.if_icmp .le 14, 3) := by decide +kernel
theorem dX11_waits_113 : decode cX11_waits 113 = .ok (.aload_n 0, 1) := by decide +kernel
theorem dX11_waits_114 : decode cX11_waits 114 = .ok (.getfield 16, 3) := by decide +kernel
theorem dX11_waits_117 : decode cX11_waits 117 = .ok (.getfield 171, 3) := by decide +kernel
theorem dX11_waits_120 : decode cX11_waits 120 = .ok (.istore_n 2, 1) := by decide +kernel
theorem dX11_waits_121 : decode cX11_waits 121 = .ok (.iload 4, 2) := by decide +kernel
theorem dX11_waits_123 : decode cX11_waits 123 = .ok (.istore_n 3, 1) := by decide +kernel
theorem dX11_waits_124 : decode cX11_waits 124 = .ok (.iinc 4 1, 3) := by decide +kernel
theorem dX11_waits_127 : decode cX11_waits 127 = .ok (.goto (-85), 3) := by decide +kernel
theorem dX11_waits_130 : decode cX11_waits 130 = .ok (.iload_n 3, 1) := by decide +kernel
theorem dX11_waits_131 : decode cX11_waits 131 = .ok (.ireturn, 1) := by decide +kernel
theorem dX11_pairs_0 : decode cX11_pairs 0 = .ok (.iload_n 1, 1) := by decide +kernel
theorem dX11_pairs_1 : decode cX11_pairs 1 = .ok (.iconst (-1), 1) := by decide +kernel
theorem dX11_pairs_2 : decode cX11_pairs 2 = .ok (.if_icmp .eq 16, 3) := by decide +kernel
theorem dX11_pairs_5 : decode cX11_pairs 5 = .ok (.aload_n 0, 1) := by decide +kernel
theorem dX11_pairs_6 : decode cX11_pairs 6 = .ok (.getfield 10, 3) := by decide +kernel
theorem dX11_pairs_9 : decode cX11_pairs 9 = .ok (.iload_n 1, 1) := by decide +kernel
theorem dX11_pairs_10 : decode cX11_pairs 10 = .ok (.invokevirtual 84, 3) := by decide +kernel
theorem dX11_pairs_13 : decode cX11_pairs 13 = .ok (.ifCond .ne 5, 3) := by decide +kernel
theorem dX11_pairs_16 : decode cX11_pairs 16 = .ok (.iconst (-1), 1) := by decide +kernel
theorem dX11_pairs_17 : decode cX11_pairs 17 = .ok (.ireturn, 1) := by decide +kernel
theorem dX11_pairs_18 : decode cX11_pairs 18 = .ok (.aload_n 0, 1) := by decide +kernel
theorem dX11_pairs_19 : decode cX11_pairs 19 = .ok (.invokevirtual 204, 3) := by decide +kernel
theorem dX11_pairs_22 : decode cX11_pairs 22 = .ok (.iload_n 1, 1) := by decide +kernel
theorem dX11_pairs_23 : decode cX11_pairs 23 = .ok (.iconst (-1), 1) := by decide +kernel
theorem dX11_pairs_24 : decode cX11_pairs 24 = .ok (.if_icmp .ne 18, 3) := by decide +kernel
theorem dX11_pairs_27 : decode cX11_pairs 27 = .ok (.aload_n 0, 1) := by decide +kernel
theorem dX11_pairs_28 : decode cX11_pairs 28 = .ok (.getfield 42, 3) := by decide +kernel
theorem dX11_pairs_31 : decode cX11_pairs 31 = .ok (.aload_n 0, 1) := by decide +kernel
theorem dX11_pairs_32 : decode cX11_pairs 32 = .ok (.getfield 10, 3) := by decide +kernel
theorem dX11_pairs_35 : decode cX11_pairs 35 = .ok (.getfield 177, 3) := by decide +kernel
theorem dX11_pairs_38 : decode cX11_pairs 38 = .ok (.iaload, 1) := by decide +kernel
theorem dX11_pairs_39 : decode cX11_pairs 39 = .ok (.goto 8, 3) := by decide +kernel
theorem dX11_pairs_42 : decode cX11_pairs 42 = .ok (.aload_n 0, 1) := by decide +kernel
theorem dX11_pairs_43 : decode cX11_pairs 43 = .ok (.iload_n 1, 1) := by decide +kernel
theorem dX11_pairs_44 : decode cX11_pairs 44 = .ok (.invokevirtual 207, 3) := by decide +kernel
theorem dX11_pairs_47 : decode cX11_pairs 47 = .ok (.ireturn, 1) := by decide +kernel
theorem dX11_ledger_0 : decode cX11_ledger 0 = .ok (.aload_n 0, 1) := by decide +kernel
theorem dX11_ledger_1 : decode cX11_ledger 1 = .ok (.getfield 10, 3) := by decide +kernel
theorem dX11_ledger_4 : decode cX11_ledger 4 = .ok (.invokevirtual 210, 3) := by decide +kernel
theorem dX11_ledger_7 : decode cX11_ledger 7 = .ok (.ireturn, 1) := by decide +kernel
theorem dX11_tears_0 : decode cX11_tears 0 = .ok (.iload_n 1, 1) := by decide +kernel
theorem dX11_tears_1 : decode cX11_tears 1 = .ok (.tableswitch 60 0 3 #[31, 39, 47, 52], 31) := by decide +kernel
theorem dX11_tears_32 : decode cX11_tears 32 = .ok (.aload_n 0, 1) := by decide +kernel
theorem dX11_tears_33 : decode cX11_tears 33 = .ok (.getfield 10, 3) := by decide +kernel
theorem dX11_tears_36 : decode cX11_tears 36 = .ok (.invokevirtual 213, 3) := by decide +kernel
theorem dX11_tears_39 : decode cX11_tears 39 = .ok (.ireturn, 1) := by decide +kernel
theorem dX11_tears_40 : decode cX11_tears 40 = .ok (.aload_n 0, 1) := by decide +kernel
theorem dX11_tears_41 : decode cX11_tears 41 = .ok (.getfield 10, 3) := by decide +kernel
theorem dX11_tears_44 : decode cX11_tears 44 = .ok (.invokevirtual 216, 3) := by decide +kernel
theorem dX11_tears_47 : decode cX11_tears 47 = .ok (.ireturn, 1) := by decide +kernel
theorem dX11_tears_48 : decode cX11_tears 48 = .ok (.aload_n 0, 1) := by decide +kernel
theorem dX11_tears_49 : decode cX11_tears 49 = .ok (.invokevirtual 219, 3) := by decide +kernel
theorem dX11_tears_52 : decode cX11_tears 52 = .ok (.ireturn, 1) := by decide +kernel
theorem dX11_tears_53 : decode cX11_tears 53 = .ok (.aload_n 0, 1) := by decide +kernel
theorem dX11_tears_54 : decode cX11_tears 54 = .ok (.getfield 10, 3) := by decide +kernel
theorem dX11_tears_57 : decode cX11_tears 57 = .ok (.invokevirtual 222, 3) := by decide +kernel
theorem dX11_tears_60 : decode cX11_tears 60 = .ok (.ireturn, 1) := by decide +kernel
theorem dX11_tears_61 : decode cX11_tears 61 = .ok (.iconst (-1), 1) := by decide +kernel
theorem dX11_tears_62 : decode cX11_tears 62 = .ok (.ireturn, 1) := by decide +kernel
theorem dX11_goesNextDay_0 : decode cX11_goesNextDay 0 = .ok (.aload_n 0, 1) := by decide +kernel
theorem dX11_goesNextDay_1 : decode cX11_goesNextDay 1 = .ok (.getfield 16, 3) := by decide +kernel
theorem dX11_goesNextDay_4 : decode cX11_goesNextDay 4 = .ok (.iload_n 1, 1) := by decide +kernel
theorem dX11_goesNextDay_5 : decode cX11_goesNextDay 5 = .ok (.invokevirtual 186, 3) := by decide +kernel
theorem dX11_goesNextDay_8 : decode cX11_goesNextDay 8 = .ok (.aload_n 0, 1) := by decide +kernel
theorem dX11_goesNextDay_9 : decode cX11_goesNextDay 9 = .ok (.getfield 16, 3) := by decide +kernel
theorem dX11_goesNextDay_12 : decode cX11_goesNextDay 12 = .ok (.iload_n 1, 1) := by decide +kernel
theorem dX11_goesNextDay_13 : decode cX11_goesNextDay 13 = .ok (.invokevirtual 107, 3) := by decide +kernel
theorem dX11_goesNextDay_16 : decode cX11_goesNextDay 16 = .ok (.ifCond .ne 7, 3) := by decide +kernel
theorem dX11_goesNextDay_19 : decode cX11_goesNextDay 19 = .ok (.iconst 1, 1) := by decide +kernel
theorem dX11_goesNextDay_20 : decode cX11_goesNextDay 20 = .ok (.goto 4, 3) := by decide +kernel
theorem dX11_goesNextDay_23 : decode cX11_goesNextDay 23 = .ok (.iconst 0, 1) := by decide +kernel
theorem dX11_goesNextDay_24 : decode cX11_goesNextDay 24 = .ok (.ireturn, 1) := by decide +kernel
theorem dX11_goneNextDay_0 : decode cX11_goneNextDay 0 = .ok (.aload_n 0, 1) := by decide +kernel
theorem dX11_goneNextDay_1 : decode cX11_goneNextDay 1 = .ok (.getfield 16, 3) := by decide +kernel
theorem dX11_goneNextDay_4 : decode cX11_goneNextDay 4 = .ok (.aload_n 0, 1) := by decide +kernel
theorem dX11_goneNextDay_5 : decode cX11_goneNextDay 5 = .ok (.getfield 10, 3) := by decide +kernel
theorem dX11_goneNextDay_8 : decode cX11_goneNextDay 8 = .ok (.invokevirtual 70, 3) := by decide +kernel
theorem dX11_goneNextDay_11 : decode cX11_goneNextDay 11 = .ok (.aload_n 0, 1) := by decide +kernel
theorem dX11_goneNextDay_12 : decode cX11_goneNextDay 12 = .ok (.getfield 16, 3) := by decide +kernel
theorem dX11_goneNextDay_15 : decode cX11_goneNextDay 15 = .ok (.invokevirtual 195, 3) := by decide +kernel
theorem dX11_goneNextDay_18 : decode cX11_goneNextDay 18 = .ok (.aload_n 0, 1) := by decide +kernel
theorem dX11_goneNextDay_19 : decode cX11_goneNextDay 19 = .ok (.getfield 10, 3) := by decide +kernel
theorem dX11_goneNextDay_22 : decode cX11_goneNextDay 22 = .ok (.getfield 177, 3) := by decide +kernel
theorem dX11_goneNextDay_25 : decode cX11_goneNextDay 25 = .ok (.aload_n 0, 1) := by decide +kernel
theorem dX11_goneNextDay_26 : decode cX11_goneNextDay 26 = .ok (.getfield 16, 3) := by decide +kernel
theorem dX11_goneNextDay_29 : decode cX11_goneNextDay 29 = .ok (.getfield 177, 3) := by decide +kernel
theorem dX11_goneNextDay_32 : decode cX11_goneNextDay 32 = .ok (.iconst (-1), 1) := by decide +kernel
theorem dX11_goneNextDay_33 : decode cX11_goneNextDay 33 = .ok (.ixor, 1) := by decide +kernel
theorem dX11_goneNextDay_34 : decode cX11_goneNextDay 34 = .ok (.iand, 1) := by decide +kernel
theorem dX11_goneNextDay_35 : decode cX11_goneNextDay 35 = .ok (.ireturn, 1) := by decide +kernel
theorem dX11_planPairs_0 : decode cX11_planPairs 0 = .ok (.aload_n 0, 1) := by decide +kernel
theorem dX11_planPairs_1 : decode cX11_planPairs 1 = .ok (.invokevirtual 219, 3) := by decide +kernel
theorem dX11_planPairs_4 : decode cX11_planPairs 4 = .ok (.istore_n 1, 1) := by decide +kernel
theorem dX11_planPairs_5 : decode cX11_planPairs 5 = .ok (.iconst 0, 1) := by decide +kernel
theorem dX11_planPairs_6 : decode cX11_planPairs 6 = .ok (.istore_n 2, 1) := by decide +kernel
theorem dX11_planPairs_7 : decode cX11_planPairs 7 = .ok (.iload_n 2, 1) := by decide +kernel
theorem dX11_planPairs_8 : decode cX11_planPairs 8 = .ok (.aload_n 0, 1) := by decide +kernel
theorem dX11_planPairs_9 : decode cX11_planPairs 9 = .ok (.getfield 10, 3) := by decide +kernel
theorem dX11_planPairs_12 : decode cX11_planPairs 12 = .ok (.getfield 134, 3) := by decide +kernel
theorem dX11_planPairs_15 : decode cX11_planPairs 15 = .ok (.if_icmp .ge 72, 3) := by decide +kernel
theorem dX11_planPairs_18 : decode cX11_planPairs 18 = .ok (.aload_n 0, 1) := by decide +kernel
theorem dX11_planPairs_19 : decode cX11_planPairs 19 = .ok (.getfield 38, 3) := by decide +kernel
theorem dX11_planPairs_22 : decode cX11_planPairs 22 = .ok (.iload_n 2, 1) := by decide +kernel
theorem dX11_planPairs_23 : decode cX11_planPairs 23 = .ok (.bipush 7, 2) := by decide +kernel
theorem dX11_planPairs_25 : decode cX11_planPairs 25 = .ok (.imul, 1) := by decide +kernel
theorem dX11_planPairs_26 : decode cX11_planPairs 26 = .ok (.iload_n 2, 1) := by decide +kernel
theorem dX11_planPairs_27 : decode cX11_planPairs 27 = .ok (.iadd, 1) := by decide +kernel
theorem dX11_planPairs_28 : decode cX11_planPairs 28 = .ok (.iload_n 1, 1) := by decide +kernel
theorem dX11_planPairs_29 : decode cX11_planPairs 29 = .ok (.iload_n 2, 1) := by decide +kernel
theorem dX11_planPairs_30 : decode cX11_planPairs 30 = .ok (.ishr, 1) := by decide +kernel
theorem dX11_planPairs_31 : decode cX11_planPairs 31 = .ok (.iconst 1, 1) := by decide +kernel
theorem dX11_planPairs_32 : decode cX11_planPairs 32 = .ok (.iand, 1) := by decide +kernel
theorem dX11_planPairs_33 : decode cX11_planPairs 33 = .ok (.iastore, 1) := by decide +kernel
theorem dX11_planPairs_34 : decode cX11_planPairs 34 = .ok (.iload_n 2, 1) := by decide +kernel
theorem dX11_planPairs_35 : decode cX11_planPairs 35 = .ok (.iconst 1, 1) := by decide +kernel
theorem dX11_planPairs_36 : decode cX11_planPairs 36 = .ok (.iadd, 1) := by decide +kernel
theorem dX11_planPairs_37 : decode cX11_planPairs 37 = .ok (.istore_n 3, 1) := by decide +kernel
theorem dX11_planPairs_38 : decode cX11_planPairs 38 = .ok (.iload_n 3, 1) := by decide +kernel
theorem dX11_planPairs_39 : decode cX11_planPairs 39 = .ok (.aload_n 0, 1) := by decide +kernel
theorem dX11_planPairs_40 : decode cX11_planPairs 40 = .ok (.getfield 10, 3) := by decide +kernel
theorem dX11_planPairs_43 : decode cX11_planPairs 43 = .ok (.getfield 134, 3) := by decide +kernel
theorem dX11_planPairs_46 : decode cX11_planPairs 46 = .ok (.if_icmp .ge 35, 3) := by decide +kernel
theorem dX11_planPairs_49 : decode cX11_planPairs 49 = .ok (.aload_n 0, 1) := by decide +kernel
theorem dX11_planPairs_50 : decode cX11_planPairs 50 = .ok (.getfield 38, 3) := by decide +kernel
theorem dX11_planPairs_53 : decode cX11_planPairs 53 = .ok (.iload_n 2, 1) := by decide +kernel
theorem dX11_planPairs_54 : decode cX11_planPairs 54 = .ok (.bipush 7, 2) := by decide +kernel
theorem dX11_planPairs_56 : decode cX11_planPairs 56 = .ok (.imul, 1) := by decide +kernel
theorem dX11_planPairs_57 : decode cX11_planPairs 57 = .ok (.iload_n 3, 1) := by decide +kernel
theorem dX11_planPairs_58 : decode cX11_planPairs 58 = .ok (.iadd, 1) := by decide +kernel
theorem dX11_planPairs_59 : decode cX11_planPairs 59 = .ok (.aload_n 0, 1) := by decide +kernel
theorem dX11_planPairs_60 : decode cX11_planPairs 60 = .ok (.iload_n 2, 1) := by decide +kernel
theorem dX11_planPairs_61 : decode cX11_planPairs 61 = .ok (.iload_n 3, 1) := by decide +kernel
theorem dX11_planPairs_62 : decode cX11_planPairs 62 = .ok (.invokevirtual 225, 3) := by decide +kernel
theorem dX11_planPairs_65 : decode cX11_planPairs 65 = .ok (.aload_n 0, 1) := by decide +kernel
theorem dX11_planPairs_66 : decode cX11_planPairs 66 = .ok (.iload_n 3, 1) := by decide +kernel
theorem dX11_planPairs_67 : decode cX11_planPairs 67 = .ok (.iload_n 2, 1) := by decide +kernel
theorem dX11_planPairs_68 : decode cX11_planPairs 68 = .ok (.invokevirtual 225, 3) := by decide +kernel
theorem dX11_planPairs_71 : decode cX11_planPairs 71 = .ok (.invokestatic 229, 3) := by decide +kernel
theorem dX11_planPairs_74 : decode cX11_planPairs 74 = .ok (.iastore, 1) := by decide +kernel
theorem dX11_planPairs_75 : decode cX11_planPairs 75 = .ok (.iinc 3 1, 3) := by decide +kernel
theorem dX11_planPairs_78 : decode cX11_planPairs 78 = .ok (.goto (-40), 3) := by decide +kernel
theorem dX11_planPairs_81 : decode cX11_planPairs 81 = .ok (.iinc 2 1, 3) := by decide +kernel
theorem dX11_planPairs_84 : decode cX11_planPairs 84 = .ok (.goto (-77), 3) := by decide +kernel
theorem dX11_planPairs_87 : decode cX11_planPairs 87 = .ok (.aload_n 0, 1) := by decide +kernel
theorem dX11_planPairs_88 : decode cX11_planPairs 88 = .ok (.getfield 42, 3) := by decide +kernel
theorem dX11_planPairs_91 : decode cX11_planPairs 91 = .ok (.iconst 0, 1) := by decide +kernel
theorem dX11_planPairs_92 : decode cX11_planPairs 92 = .ok (.iconst 0, 1) := by decide +kernel
theorem dX11_planPairs_93 : decode cX11_planPairs 93 = .ok (.iastore, 1) := by decide +kernel
theorem dX11_planPairs_94 : decode cX11_planPairs 94 = .ok (.iconst 1, 1) := by decide +kernel
theorem dX11_planPairs_95 : decode cX11_planPairs 95 = .ok (.istore_n 2, 1) := by decide +kernel
theorem dX11_planPairs_96 : decode cX11_planPairs 96 = .ok (.iload_n 2, 1) := by decide +kernel
theorem dX11_planPairs_97 : decode cX11_planPairs 97 = .ok (.aload_n 0, 1) := by decide +kernel
theorem dX11_planPairs_98 : decode cX11_planPairs 98 = .ok (.getfield 10, 3) := by decide +kernel
theorem dX11_planPairs_101 : decode cX11_planPairs 101 = .ok (.getfield 177, 3) := by decide +kernel
theorem dX11_planPairs_104 : decode cX11_planPairs 104 = .ok (.if_icmp .gt 34, 3) := by decide +kernel
theorem dX11_planPairs_107 : decode cX11_planPairs 107 = .ok (.iload_n 2, 1) := by decide +kernel
theorem dX11_planPairs_108 : decode cX11_planPairs 108 = .ok (.aload_n 0, 1) := by decide +kernel
theorem dX11_planPairs_109 : decode cX11_planPairs 109 = .ok (.getfield 10, 3) := by decide +kernel
theorem dX11_planPairs_112 : decode cX11_planPairs 112 = .ok (.getfield 177, 3) := by decide +kernel
theorem dX11_planPairs_115 : decode cX11_planPairs 115 = .ok (.iconst (-1), 1) := by decide +kernel
theorem dX11_planPairs_116 : decode cX11_planPairs 116 = .ok (.ixor, 1) := by decide +kernel
theorem dX11_planPairs_117 : decode cX11_planPairs 117 = .ok (.iand, 1) := by decide +kernel
theorem dX11_planPairs_118 : decode cX11_planPairs 118 = .ok (.ifCond .ne 14, 3) := by decide +kernel
theorem dX11_planPairs_121 : decode cX11_planPairs 121 = .ok (.aload_n 0, 1) := by decide +kernel
theorem dX11_planPairs_122 : decode cX11_planPairs 122 = .ok (.getfield 42, 3) := by decide +kernel
theorem dX11_planPairs_125 : decode cX11_planPairs 125 = .ok (.iload_n 2, 1) := by decide +kernel
theorem dX11_planPairs_126 : decode cX11_planPairs 126 = .ok (.aload_n 0, 1) := by decide +kernel
theorem dX11_planPairs_127 : decode cX11_planPairs 127 = .ok (.iload_n 2, 1) := by decide +kernel
theorem dX11_planPairs_128 : decode cX11_planPairs 128 = .ok (.invokevirtual 234, 3) := by decide +kernel
theorem dX11_planPairs_131 : decode cX11_planPairs 131 = .ok (.iastore, 1) := by decide +kernel
theorem dX11_planPairs_132 : decode cX11_planPairs 132 = .ok (.iinc 2 1, 3) := by decide +kernel
theorem dX11_planPairs_135 : decode cX11_planPairs 135 = .ok (.goto (-39), 3) := by decide +kernel
theorem dX11_planPairs_138 : decode cX11_planPairs 138 = .ok (.return_, 1) := by decide +kernel
theorem dX11_goneIfLent_0 : decode cX11_goneIfLent 0 = .ok (.aload_n 0, 1) := by decide +kernel
theorem dX11_goneIfLent_1 : decode cX11_goneIfLent 1 = .ok (.getfield 10, 3) := by decide +kernel
theorem dX11_goneIfLent_4 : decode cX11_goneIfLent 4 = .ok (.iload_n 1, 1) := by decide +kernel
theorem dX11_goneIfLent_5 : decode cX11_goneIfLent 5 = .ok (.iload_n 2, 1) := by decide +kernel
theorem dX11_goneIfLent_6 : decode cX11_goneIfLent 6 = .ok (.iconst 5, 1) := by decide +kernel
theorem dX11_goneIfLent_7 : decode cX11_goneIfLent 7 = .ok (.invokevirtual 148, 3) := by decide +kernel
theorem dX11_goneIfLent_10 : decode cX11_goneIfLent 10 = .ok (.ifCond .ne 5, 3) := by decide +kernel
theorem dX11_goneIfLent_13 : decode cX11_goneIfLent 13 = .ok (.iconst (-1), 1) := by decide +kernel
theorem dX11_goneIfLent_14 : decode cX11_goneIfLent 14 = .ok (.ireturn, 1) := by decide +kernel
theorem dX11_goneIfLent_15 : decode cX11_goneIfLent 15 = .ok (.aload_n 0, 1) := by decide +kernel
theorem dX11_goneIfLent_16 : decode cX11_goneIfLent 16 = .ok (.getfield 16, 3) := by decide +kernel
theorem dX11_goneIfLent_19 : decode cX11_goneIfLent 19 = .ok (.aload_n 0, 1) := by decide +kernel
theorem dX11_goneIfLent_20 : decode cX11_goneIfLent 20 = .ok (.getfield 10, 3) := by decide +kernel
theorem dX11_goneIfLent_23 : decode cX11_goneIfLent 23 = .ok (.invokevirtual 70, 3) := by decide +kernel
theorem dX11_goneIfLent_26 : decode cX11_goneIfLent 26 = .ok (.aload_n 0, 1) := by decide +kernel
theorem dX11_goneIfLent_27 : decode cX11_goneIfLent 27 = .ok (.getfield 16, 3) := by decide +kernel
theorem dX11_goneIfLent_30 : decode cX11_goneIfLent 30 = .ok (.iload_n 1, 1) := by decide +kernel
theorem dX11_goneIfLent_31 : decode cX11_goneIfLent 31 = .ok (.iload_n 2, 1) := by decide +kernel
theorem dX11_goneIfLent_32 : decode cX11_goneIfLent 32 = .ok (.iconst 5, 1) := by decide +kernel
theorem dX11_goneIfLent_33 : decode cX11_goneIfLent 33 = .ok (.invokevirtual 152, 3) := by decide +kernel
theorem dX11_goneIfLent_36 : decode cX11_goneIfLent 36 = .ok (.aload_n 0, 1) := by decide +kernel
theorem dX11_goneIfLent_37 : decode cX11_goneIfLent 37 = .ok (.getfield 16, 3) := by decide +kernel
theorem dX11_goneIfLent_40 : decode cX11_goneIfLent 40 = .ok (.invokevirtual 195, 3) := by decide +kernel
theorem dX11_goneIfLent_43 : decode cX11_goneIfLent 43 = .ok (.aload_n 0, 1) := by decide +kernel
theorem dX11_goneIfLent_44 : decode cX11_goneIfLent 44 = .ok (.getfield 16, 3) := by decide +kernel
theorem dX11_goneIfLent_47 : decode cX11_goneIfLent 47 = .ok (.iload_n 1, 1) := by decide +kernel
theorem dX11_goneIfLent_48 : decode cX11_goneIfLent 48 = .ok (.invokevirtual 107, 3) := by decide +kernel
theorem dX11_goneIfLent_51 : decode cX11_goneIfLent 51 = .ok (.ifCond .eq 7, 3) := by decide +kernel
theorem dX11_goneIfLent_54 : decode cX11_goneIfLent 54 = .ok (.iconst 0, 1) := by decide +kernel
theorem dX11_goneIfLent_55 : decode cX11_goneIfLent 55 = .ok (.goto 4, 3) := by decide +kernel
theorem dX11_goneIfLent_58 : decode cX11_goneIfLent 58 = .ok (.iconst 1, 1) := by decide +kernel
theorem dX11_goneIfLent_59 : decode cX11_goneIfLent 59 = .ok (.aload_n 0, 1) := by decide +kernel
theorem dX11_goneIfLent_60 : decode cX11_goneIfLent 60 = .ok (.getfield 16, 3) := by decide +kernel
theorem dX11_goneIfLent_63 : decode cX11_goneIfLent 63 = .ok (.iload_n 2, 1) := by decide +kernel
theorem dX11_goneIfLent_64 : decode cX11_goneIfLent 64 = .ok (.invokevirtual 107, 3) := by decide +kernel
theorem dX11_goneIfLent_67 : decode cX11_goneIfLent 67 = .ok (.ifCond .eq 7, 3) := by decide +kernel
theorem dX11_goneIfLent_70 : decode cX11_goneIfLent 70 = .ok (.iconst 0, 1) := by decide +kernel
theorem dX11_goneIfLent_71 : decode cX11_goneIfLent 71 = .ok (.goto 4, 3) := by decide +kernel
theorem dX11_goneIfLent_74 : decode cX11_goneIfLent 74 = .ok (.iconst 1, 1) := by decide +kernel
theorem dX11_goneIfLent_75 : decode cX11_goneIfLent 75 = .ok (.iadd, 1) := by decide +kernel
theorem dX11_goneIfLent_76 : decode cX11_goneIfLent 76 = .ok (.ireturn, 1) := by decide +kernel
theorem dX11_mostGoneOf_0 : decode cX11_mostGoneOf 0 = .ok (.iload_n 1, 1) := by decide +kernel
theorem dX11_mostGoneOf_1 : decode cX11_mostGoneOf 1 = .ok (.invokestatic 198, 3) := by decide +kernel
theorem dX11_mostGoneOf_4 : decode cX11_mostGoneOf 4 = .ok (.istore_n 2, 1) := by decide +kernel
theorem dX11_mostGoneOf_5 : decode cX11_mostGoneOf 5 = .ok (.iload_n 1, 1) := by decide +kernel
theorem dX11_mostGoneOf_6 : decode cX11_mostGoneOf 6 = .ok (.iconst 1, 1) := by decide +kernel
theorem dX11_mostGoneOf_7 : decode cX11_mostGoneOf 7 = .ok (.iload_n 2, 1) := by decide +kernel
theorem dX11_mostGoneOf_8 : decode cX11_mostGoneOf 8 = .ok (.ishl, 1) := by decide +kernel
theorem dX11_mostGoneOf_9 : decode cX11_mostGoneOf 9 = .ok (.iconst (-1), 1) := by decide +kernel
theorem dX11_mostGoneOf_10 : decode cX11_mostGoneOf 10 = .ok (.ixor, 1) := by decide +kernel
theorem dX11_mostGoneOf_11 : decode cX11_mostGoneOf 11 = .ok (.iand, 1) := by decide +kernel
theorem dX11_mostGoneOf_12 : decode cX11_mostGoneOf 12 = .ok (.istore_n 3, 1) := by decide +kernel
theorem dX11_mostGoneOf_13 : decode cX11_mostGoneOf 13 = .ok (.aload_n 0, 1) := by decide +kernel
theorem dX11_mostGoneOf_14 : decode cX11_mostGoneOf 14 = .ok (.getfield 38, 3) := by decide +kernel
theorem dX11_mostGoneOf_17 : decode cX11_mostGoneOf 17 = .ok (.iload_n 2, 1) := by decide +kernel
theorem dX11_mostGoneOf_18 : decode cX11_mostGoneOf 18 = .ok (.bipush 7, 2) := by decide +kernel
theorem dX11_mostGoneOf_20 : decode cX11_mostGoneOf 20 = .ok (.imul, 1) := by decide +kernel
theorem dX11_mostGoneOf_21 : decode cX11_mostGoneOf 21 = .ok (.iload_n 2, 1) := by decide +kernel
theorem dX11_mostGoneOf_22 : decode cX11_mostGoneOf 22 = .ok (.iadd, 1) := by decide +kernel
theorem dX11_mostGoneOf_23 : decode cX11_mostGoneOf 23 = .ok (.iaload, 1) := by decide +kernel
theorem dX11_mostGoneOf_24 : decode cX11_mostGoneOf 24 = .ok (.aload_n 0, 1) := by decide +kernel
theorem dX11_mostGoneOf_25 : decode cX11_mostGoneOf 25 = .ok (.getfield 42, 3) := by decide +kernel
theorem dX11_mostGoneOf_28 : decode cX11_mostGoneOf 28 = .ok (.iload_n 3, 1) := by decide +kernel
theorem dX11_mostGoneOf_29 : decode cX11_mostGoneOf 29 = .ok (.iaload, 1) := by decide +kernel
theorem dX11_mostGoneOf_30 : decode cX11_mostGoneOf 30 = .ok (.iadd, 1) := by decide +kernel
theorem dX11_mostGoneOf_31 : decode cX11_mostGoneOf 31 = .ok (.istore 4, 2) := by decide +kernel
theorem dX11_mostGoneOf_33 : decode cX11_mostGoneOf 33 = .ok (.iload_n 2, 1) := by decide +kernel
theorem dX11_mostGoneOf_34 : decode cX11_mostGoneOf 34 = .ok (.iconst 1, 1) := by decide +kernel
theorem dX11_mostGoneOf_35 : decode cX11_mostGoneOf 35 = .ok (.iadd, 1) := by decide +kernel
theorem dX11_mostGoneOf_36 : decode cX11_mostGoneOf 36 = .ok (.istore 5, 2) := by decide +kernel
theorem dX11_mostGoneOf_38 : decode cX11_mostGoneOf 38 = .ok (.iload 5, 2) := by decide +kernel
theorem dX11_mostGoneOf_40 : decode cX11_mostGoneOf 40 = .ok (.bipush 7, 2) := by decide +kernel
theorem dX11_mostGoneOf_42 : decode cX11_mostGoneOf 42 = .ok (.if_icmp .ge 35, 3) := by decide +kernel
theorem dX11_mostGoneOf_45 : decode cX11_mostGoneOf 45 = .ok (.aload_n 0, 1) := by decide +kernel
theorem dX11_mostGoneOf_46 : decode cX11_mostGoneOf 46 = .ok (.iload_n 2, 1) := by decide +kernel
theorem dX11_mostGoneOf_47 : decode cX11_mostGoneOf 47 = .ok (.iload 5, 2) := by decide +kernel
theorem dX11_mostGoneOf_49 : decode cX11_mostGoneOf 49 = .ok (.iload_n 3, 1) := by decide +kernel
theorem dX11_mostGoneOf_50 : decode cX11_mostGoneOf 50 = .ok (.invokevirtual 237, 3) := by decide +kernel
theorem dX11_mostGoneOf_53 : decode cX11_mostGoneOf 53 = .ok (.ifCond .eq 18, 3) := by decide +kernel
theorem dX11_mostGoneOf_56 : decode cX11_mostGoneOf 56 = .ok (.iload 4, 2) := by decide +kernel
theorem dX11_mostGoneOf_58 : decode cX11_mostGoneOf 58 = .ok (.aload_n 0, 1) := by decide +kernel
theorem dX11_mostGoneOf_59 : decode cX11_mostGoneOf 59 = .ok (.iload_n 2, 1) := by decide +kernel
theorem dX11_mostGoneOf_60 : decode cX11_mostGoneOf 60 = .ok (.iload 5, 2) := by decide +kernel
theorem dX11_mostGoneOf_62 : decode cX11_mostGoneOf 62 = .ok (.iload_n 3, 1) := by decide +kernel
theorem dX11_mostGoneOf_63 : decode cX11_mostGoneOf 63 = .ok (.invokevirtual 240, 3) := by decide +kernel
theorem dX11_mostGoneOf_66 : decode cX11_mostGoneOf 66 = .ok (.invokestatic 229, 3) := by decide +kernel
theorem dX11_mostGoneOf_69 : decode cX11_mostGoneOf 69 = .ok (.istore 4, 2) := by decide +kernel
theorem dX11_mostGoneOf_71 : decode cX11_mostGoneOf 71 = .ok (.iinc 5 1, 3) := by decide +kernel
theorem dX11_mostGoneOf_74 : decode cX11_mostGoneOf 74 = .ok (.goto (-36), 3) := by decide +kernel
theorem dX11_mostGoneOf_77 : decode cX11_mostGoneOf 77 = .ok (.iload 4, 2) := by decide +kernel
theorem dX11_mostGoneOf_79 : decode cX11_mostGoneOf 79 = .ok (.ireturn, 1) := by decide +kernel
theorem dX11_canPair_0 : decode cX11_canPair 0 = .ok (.iload_n 3, 1) := by decide +kernel
theorem dX11_canPair_1 : decode cX11_canPair 1 = .ok (.iload_n 2, 1) := by decide +kernel
theorem dX11_canPair_2 : decode cX11_canPair 2 = .ok (.ishr, 1) := by decide +kernel
theorem dX11_canPair_3 : decode cX11_canPair 3 = .ok (.iconst 1, 1) := by decide +kernel
theorem dX11_canPair_4 : decode cX11_canPair 4 = .ok (.iand, 1) := by decide +kernel
theorem dX11_canPair_5 : decode cX11_canPair 5 = .ok (.iconst 1, 1) := by decide +kernel
theorem dX11_canPair_6 : decode cX11_canPair 6 = .ok (.if_icmp .ne 21, 3) := by decide +kernel
theorem dX11_canPair_9 : decode cX11_canPair 9 = .ok (.aload_n 0, 1) := by decide +kernel
theorem dX11_canPair_10 : decode cX11_canPair 10 = .ok (.getfield 38, 3) := by decide +kernel
theorem dX11_canPair_13 : decode cX11_canPair 13 = .ok (.iload_n 1, 1) := by decide +kernel
theorem dX11_canPair_14 : decode cX11_canPair 14 = .ok (.bipush 7, 2) := by decide +kernel
theorem dX11_canPair_16 : decode cX11_canPair 16 = .ok (.imul, 1) := by decide +kernel
theorem dX11_canPair_17 : decode cX11_canPair 17 = .ok (.iload_n 2, 1) := by decide +kernel
theorem dX11_canPair_18 : decode cX11_canPair 18 = .ok (.iadd, 1) := by decide +kernel
theorem dX11_canPair_19 : decode cX11_canPair 19 = .ok (.iaload, 1) := by decide +kernel
theorem dX11_canPair_20 : decode cX11_canPair 20 = .ok (.ifCond .lt 7, 3) := by decide +kernel
theorem dX11_canPair_23 : decode cX11_canPair 23 = .ok (.iconst 1, 1) := by decide +kernel
theorem dX11_canPair_24 : decode cX11_canPair 24 = .ok (.goto 4, 3) := by decide +kernel
theorem dX11_canPair_27 : decode cX11_canPair 27 = .ok (.iconst 0, 1) := by decide +kernel
theorem dX11_canPair_28 : decode cX11_canPair 28 = .ok (.ireturn, 1) := by decide +kernel
theorem dX11_goneWithPair_0 : decode cX11_goneWithPair 0 = .ok (.aload_n 0, 1) := by decide +kernel
theorem dX11_goneWithPair_1 : decode cX11_goneWithPair 1 = .ok (.getfield 38, 3) := by decide +kernel
theorem dX11_goneWithPair_4 : decode cX11_goneWithPair 4 = .ok (.iload_n 1, 1) := by decide +kernel
theorem dX11_goneWithPair_5 : decode cX11_goneWithPair 5 = .ok (.bipush 7, 2) := by decide +kernel
theorem dX11_goneWithPair_7 : decode cX11_goneWithPair 7 = .ok (.imul, 1) := by decide +kernel
theorem dX11_goneWithPair_8 : decode cX11_goneWithPair 8 = .ok (.iload_n 2, 1) := by decide +kernel
theorem dX11_goneWithPair_9 : decode cX11_goneWithPair 9 = .ok (.iadd, 1) := by decide +kernel
theorem dX11_goneWithPair_10 : decode cX11_goneWithPair 10 = .ok (.iaload, 1) := by decide +kernel
theorem dX11_goneWithPair_11 : decode cX11_goneWithPair 11 = .ok (.aload_n 0, 1) := by decide +kernel
theorem dX11_goneWithPair_12 : decode cX11_goneWithPair 12 = .ok (.getfield 42, 3) := by decide +kernel
theorem dX11_goneWithPair_15 : decode cX11_goneWithPair 15 = .ok (.iload_n 3, 1) := by decide +kernel
theorem dX11_goneWithPair_16 : decode cX11_goneWithPair 16 = .ok (.iconst 1, 1) := by decide +kernel
theorem dX11_goneWithPair_17 : decode cX11_goneWithPair 17 = .ok (.iload_n 2, 1) := by decide +kernel
theorem dX11_goneWithPair_18 : decode cX11_goneWithPair 18 = .ok (.ishl, 1) := by decide +kernel
theorem dX11_goneWithPair_19 : decode cX11_goneWithPair 19 = .ok (.iconst (-1), 1) := by decide +kernel
theorem dX11_goneWithPair_20 : decode cX11_goneWithPair 20 = .ok (.ixor, 1) := by decide +kernel
theorem dX11_goneWithPair_21 : decode cX11_goneWithPair 21 = .ok (.iand, 1) := by decide +kernel
theorem dX11_goneWithPair_22 : decode cX11_goneWithPair 22 = .ok (.iaload, 1) := by decide +kernel
theorem dX11_goneWithPair_23 : decode cX11_goneWithPair 23 = .ok (.iadd, 1) := by decide +kernel
theorem dX11_goneWithPair_24 : decode cX11_goneWithPair 24 = .ok (.ireturn, 1) := by decide +kernel
theorem dX11_partnerOf_0 : decode cX11_partnerOf 0 = .ok (.aload_n 0, 1) := by decide +kernel
theorem dX11_partnerOf_1 : decode cX11_partnerOf 1 = .ok (.getfield 10, 3) := by decide +kernel
theorem dX11_partnerOf_4 : decode cX11_partnerOf 4 = .ok (.getfield 177, 3) := by decide +kernel
theorem dX11_partnerOf_7 : decode cX11_partnerOf 7 = .ok (.istore_n 2, 1) := by decide +kernel
theorem dX11_partnerOf_8 : decode cX11_partnerOf 8 = .ok (.iconst 0, 1) := by decide +kernel
theorem dX11_partnerOf_9 : decode cX11_partnerOf 9 = .ok (.istore_n 3, 1) := by decide +kernel
theorem dX11_partnerOf_10 : decode cX11_partnerOf 10 = .ok (.iload_n 3, 1) := by decide +kernel
theorem dX11_partnerOf_11 : decode cX11_partnerOf 11 = .ok (.bipush 7, 2) := by decide +kernel
theorem dX11_partnerOf_13 : decode cX11_partnerOf 13 = .ok (.if_icmp .ge 67, 3) := by decide +kernel
theorem dX11_partnerOf_16 : decode cX11_partnerOf 16 = .ok (.iload_n 2, 1) := by decide +kernel
theorem dX11_partnerOf_17 : decode cX11_partnerOf 17 = .ok (.ifCond .eq 63, 3) := by decide +kernel
theorem dX11_partnerOf_20 : decode cX11_partnerOf 20 = .ok (.iload_n 2, 1) := by decide +kernel
theorem dX11_partnerOf_21 : decode cX11_partnerOf 21 = .ok (.invokestatic 198, 3) := by decide +kernel
theorem dX11_partnerOf_24 : decode cX11_partnerOf 24 = .ok (.istore 4, 2) := by decide +kernel
theorem dX11_partnerOf_26 : decode cX11_partnerOf 26 = .ok (.aload_n 0, 1) := by decide +kernel
theorem dX11_partnerOf_27 : decode cX11_partnerOf 27 = .ok (.iload_n 2, 1) := by decide +kernel
theorem dX11_partnerOf_28 : decode cX11_partnerOf 28 = .ok (.invokevirtual 244, 3) := by decide +kernel
theorem dX11_partnerOf_31 : decode cX11_partnerOf 31 = .ok (.istore 5, 2) := by decide +kernel
theorem dX11_partnerOf_33 : decode cX11_partnerOf 33 = .ok (.iload 4, 2) := by decide +kernel
theorem dX11_partnerOf_35 : decode cX11_partnerOf 35 = .ok (.iload_n 1, 1) := by decide +kernel
theorem dX11_partnerOf_36 : decode cX11_partnerOf 36 = .ok (.if_icmp .ne 6, 3) := by decide +kernel
theorem dX11_partnerOf_39 : decode cX11_partnerOf 39 = .ok (.iload 5, 2) := by decide +kernel
theorem dX11_partnerOf_41 : decode cX11_partnerOf 41 = .ok (.ireturn, 1) := by decide +kernel
theorem dX11_partnerOf_42 : decode cX11_partnerOf 42 = .ok (.iload 5, 2) := by decide +kernel
theorem dX11_partnerOf_44 : decode cX11_partnerOf 44 = .ok (.iload_n 1, 1) := by decide +kernel
theorem dX11_partnerOf_45 : decode cX11_partnerOf 45 = .ok (.if_icmp .ne 6, 3) := by decide +kernel
theorem dX11_partnerOf_48 : decode cX11_partnerOf 48 = .ok (.iload 4, 2) := by decide +kernel
theorem dX11_partnerOf_50 : decode cX11_partnerOf 50 = .ok (.ireturn, 1) := by decide +kernel
theorem dX11_partnerOf_51 : decode cX11_partnerOf 51 = .ok (.iload_n 2, 1) := by decide +kernel
theorem dX11_partnerOf_52 : decode cX11_partnerOf 52 = .ok (.iconst 1, 1) := by decide +kernel
theorem dX11_partnerOf_53 : decode cX11_partnerOf 53 = .ok (.iload 4, 2) := by decide +kernel
theorem dX11_partnerOf_55 : decode cX11_partnerOf 55 = .ok (.ishl, 1) := by decide +kernel
theorem dX11_partnerOf_56 : decode cX11_partnerOf 56 = .ok (.iconst (-1), 1) := by decide +kernel
theorem dX11_partnerOf_57 : decode cX11_partnerOf 57 = .ok (.ixor, 1) := by decide +kernel
theorem dX11_partnerOf_58 : decode cX11_partnerOf 58 = .ok (.iand, 1) := by decide +kernel
theorem dX11_partnerOf_59 : decode cX11_partnerOf 59 = .ok (.istore_n 2, 1) := by decide +kernel
theorem dX11_partnerOf_60 : decode cX11_partnerOf 60 = .ok (.iload 5, 2) := by decide +kernel
theorem dX11_partnerOf_62 : decode cX11_partnerOf 62 = .ok (.ifCond .lt 12, 3) := by decide +kernel
theorem dX11_partnerOf_65 : decode cX11_partnerOf 65 = .ok (.iload_n 2, 1) := by decide +kernel
theorem dX11_partnerOf_66 : decode cX11_partnerOf 66 = .ok (.iconst 1, 1) := by decide +kernel
theorem dX11_partnerOf_67 : decode cX11_partnerOf 67 = .ok (.iload 5, 2) := by decide +kernel
theorem dX11_partnerOf_69 : decode cX11_partnerOf 69 = .ok (.ishl, 1) := by decide +kernel
theorem dX11_partnerOf_70 : decode cX11_partnerOf 70 = .ok (.iconst (-1), 1) := by decide +kernel
theorem dX11_partnerOf_71 : decode cX11_partnerOf 71 = .ok (.ixor, 1) := by decide +kernel
theorem dX11_partnerOf_72 : decode cX11_partnerOf 72 = .ok (.iand, 1) := by decide +kernel
theorem dX11_partnerOf_73 : decode cX11_partnerOf 73 = .ok (.istore_n 2, 1) := by decide +kernel
theorem dX11_partnerOf_74 : decode cX11_partnerOf 74 = .ok (.iinc 3 1, 3) := by decide +kernel
theorem dX11_partnerOf_77 : decode cX11_partnerOf 77 = .ok (.goto (-67), 3) := by decide +kernel
theorem dX11_partnerOf_80 : decode cX11_partnerOf 80 = .ok (.bipush (-4), 2) := by decide +kernel
theorem dX11_partnerOf_82 : decode cX11_partnerOf 82 = .ok (.ireturn, 1) := by decide +kernel
theorem dX11_partnerOfLowest_0 : decode cX11_partnerOfLowest 0 = .ok (.iload_n 1, 1) := by decide +kernel
theorem dX11_partnerOfLowest_1 : decode cX11_partnerOfLowest 1 = .ok (.invokestatic 198, 3) := by decide +kernel
theorem dX11_partnerOfLowest_4 : decode cX11_partnerOfLowest 4 = .ok (.istore_n 2, 1) := by decide +kernel
theorem dX11_partnerOfLowest_5 : decode cX11_partnerOfLowest 5 = .ok (.iload_n 1, 1) := by decide +kernel
theorem dX11_partnerOfLowest_6 : decode cX11_partnerOfLowest 6 = .ok (.iconst 1, 1) := by decide +kernel
theorem dX11_partnerOfLowest_7 : decode cX11_partnerOfLowest 7 = .ok (.iload_n 2, 1) := by decide +kernel
theorem dX11_partnerOfLowest_8 : decode cX11_partnerOfLowest 8 = .ok (.ishl, 1) := by decide +kernel
theorem dX11_partnerOfLowest_9 : decode cX11_partnerOfLowest 9 = .ok (.iconst (-1), 1) := by decide +kernel
theorem dX11_partnerOfLowest_10 : decode cX11_partnerOfLowest 10 = .ok (.ixor, 1) := by decide +kernel
theorem dX11_partnerOfLowest_11 : decode cX11_partnerOfLowest 11 = .ok (.iand, 1) := by decide +kernel
theorem dX11_partnerOfLowest_12 : decode cX11_partnerOfLowest 12 = .ok (.istore_n 3, 1) := by decide +kernel
theorem dX11_partnerOfLowest_13 : decode cX11_partnerOfLowest 13 = .ok (.iload_n 2, 1) := by decide +kernel
theorem dX11_partnerOfLowest_14 : decode cX11_partnerOfLowest 14 = .ok (.iconst 1, 1) := by decide +kernel
theorem dX11_partnerOfLowest_15 : decode cX11_partnerOfLowest 15 = .ok (.iadd, 1) := by decide +kernel
theorem dX11_partnerOfLowest_16 : decode cX11_partnerOfLowest 16 = .ok (.istore 4, 2) := by decide +kernel
theorem dX11_partnerOfLowest_18 : decode cX11_partnerOfLowest 18 = .ok (.iload 4, 2) := by decide +kernel
theorem dX11_partnerOfLowest_20 : decode cX11_partnerOfLowest 20 = .ok (.bipush 7, 2) := by decide +kernel
theorem dX11_partnerOfLowest_22 : decode cX11_partnerOfLowest 22 = .ok (.if_icmp .ge 40, 3) := by decide +kernel
theorem dX11_partnerOfLowest_25 : decode cX11_partnerOfLowest 25 = .ok (.aload_n 0, 1) := by decide +kernel
theorem dX11_partnerOfLowest_26 : decode cX11_partnerOfLowest 26 = .ok (.iload_n 2, 1) := by decide +kernel
theorem dX11_partnerOfLowest_27 : decode cX11_partnerOfLowest 27 = .ok (.iload 4, 2) := by decide +kernel
theorem dX11_partnerOfLowest_29 : decode cX11_partnerOfLowest 29 = .ok (.iload_n 3, 1) := by decide +kernel
theorem dX11_partnerOfLowest_30 : decode cX11_partnerOfLowest 30 = .ok (.invokevirtual 237, 3) := by decide +kernel
theorem dX11_partnerOfLowest_33 : decode cX11_partnerOfLowest 33 = .ok (.ifCond .eq 23, 3) := by decide +kernel
theorem dX11_partnerOfLowest_36 : decode cX11_partnerOfLowest 36 = .ok (.aload_n 0, 1) := by decide +kernel
theorem dX11_partnerOfLowest_37 : decode cX11_partnerOfLowest 37 = .ok (.iload_n 2, 1) := by decide +kernel
theorem dX11_partnerOfLowest_38 : decode cX11_partnerOfLowest 38 = .ok (.iload 4, 2) := by decide +kernel
theorem dX11_partnerOfLowest_40 : decode cX11_partnerOfLowest 40 = .ok (.iload_n 3, 1) := by decide +kernel
theorem dX11_partnerOfLowest_41 : decode cX11_partnerOfLowest 41 = .ok (.invokevirtual 240, 3) := by decide +kernel
theorem dX11_partnerOfLowest_44 : decode cX11_partnerOfLowest 44 = .ok (.aload_n 0, 1) := by decide +kernel
theorem dX11_partnerOfLowest_45 : decode cX11_partnerOfLowest 45 = .ok (.getfield 42, 3) := by decide +kernel
theorem dX11_partnerOfLowest_48 : decode cX11_partnerOfLowest 48 = .ok (.iload_n 1, 1) := by decide +kernel
theorem dX11_partnerOfLowest_49 : decode cX11_partnerOfLowest 49 = .ok (.iaload, 1) := by decide +kernel
theorem dX11_partnerOfLowest_50 : decode cX11_partnerOfLowest 50 = .ok (.if_icmp .ne 6, 3) := by decide +kernel
theorem dX11_partnerOfLowest_53 : decode cX11_partnerOfLowest 53 = .ok (.iload 4, 2) := by decide +kernel
theorem dX11_partnerOfLowest_55 : decode cX11_partnerOfLowest 55 = .ok (.ireturn, 1) := by decide +kernel
theorem dX11_partnerOfLowest_56 : decode cX11_partnerOfLowest 56 = .ok (.iinc 4 1, 3) := by decide +kernel
theorem dX11_partnerOfLowest_59 : decode cX11_partnerOfLowest 59 = .ok (.goto (-41), 3) := by decide +kernel
theorem dX11_partnerOfLowest_62 : decode cX11_partnerOfLowest 62 = .ok (.bipush (-4), 2) := by decide +kernel
theorem dX11_partnerOfLowest_64 : decode cX11_partnerOfLowest 64 = .ok (.ireturn, 1) := by decide +kernel
theorem dX11_whatIs_0 : decode cX11_whatIs 0 = .ok (.iload_n 1, 1) := by decide +kernel
theorem dX11_whatIs_1 : decode cX11_whatIs 1 = .ok (.invokestatic 45, 3) := by decide +kernel
theorem dX11_whatIs_4 : decode cX11_whatIs 4 = .ok (.ifCond .eq 23, 3) := by decide +kernel
theorem dX11_whatIs_7 : decode cX11_whatIs 7 = .ok (.aload_n 0, 1) := by decide +kernel
theorem dX11_whatIs_8 : decode cX11_whatIs 8 = .ok (.getfield 10, 3) := by decide +kernel
theorem dX11_whatIs_11 : decode cX11_whatIs 11 = .ok (.iload_n 2, 1) := by decide +kernel
theorem dX11_whatIs_12 : decode cX11_whatIs 12 = .ok (.invokevirtual 84, 3) := by decide +kernel
theorem dX11_whatIs_15 : decode cX11_whatIs 15 = .ok (.ifCond .eq 12, 3) := by decide +kernel
theorem dX11_whatIs_18 : decode cX11_whatIs 18 = .ok (.iload_n 3, 1) := by decide +kernel
theorem dX11_whatIs_19 : decode cX11_whatIs 19 = .ok (.ifCond .lt 8, 3) := by decide +kernel
theorem dX11_whatIs_22 : decode cX11_whatIs 22 = .ok (.iload_n 3, 1) := by decide +kernel
theorem dX11_whatIs_23 : decode cX11_whatIs 23 = .ok (.iconst 1, 1) := by decide +kernel
theorem dX11_whatIs_24 : decode cX11_whatIs 24 = .ok (.if_icmp .le 5, 3) := by decide +kernel
theorem dX11_whatIs_27 : decode cX11_whatIs 27 = .ok (.iconst (-1), 1) := by decide +kernel
theorem dX11_whatIs_28 : decode cX11_whatIs 28 = .ok (.ireturn, 1) := by decide +kernel
theorem dX11_whatIs_29 : decode cX11_whatIs 29 = .ok (.aload_n 0, 1) := by decide +kernel
theorem dX11_whatIs_30 : decode cX11_whatIs 30 = .ok (.iload_n 1, 1) := by decide +kernel
theorem dX11_whatIs_31 : decode cX11_whatIs 31 = .ok (.invokevirtual 49, 3) := by decide +kernel
theorem dX11_whatIs_34 : decode cX11_whatIs 34 = .ok (.astore 4, 2) := by decide +kernel
theorem dX11_whatIs_36 : decode cX11_whatIs 36 = .ok (.aload 4, 2) := by decide +kernel
theorem dX11_whatIs_38 : decode cX11_whatIs 38 = .ok (.ifnonnull 9, 3) := by decide +kernel
theorem dX11_whatIs_41 : decode cX11_whatIs 41 = .ok (.aload_n 0, 1) := by decide +kernel
theorem dX11_whatIs_42 : decode cX11_whatIs 42 = .ok (.iload_n 1, 1) := by decide +kernel
theorem dX11_whatIs_43 : decode cX11_whatIs 43 = .ok (.invokevirtual 53, 3) := by decide +kernel
theorem dX11_whatIs_46 : decode cX11_whatIs 46 = .ok (.ireturn, 1) := by decide +kernel
theorem dX11_whatIs_47 : decode cX11_whatIs 47 = .ok (.iload_n 3, 1) := by decide +kernel
theorem dX11_whatIs_48 : decode cX11_whatIs 48 = .ok (.ifCond .ne 13, 3) := by decide +kernel
theorem dX11_whatIs_51 : decode cX11_whatIs 51 = .ok (.aload_n 0, 1) := by decide +kernel
theorem dX11_whatIs_52 : decode cX11_whatIs 52 = .ok (.aload 4, 2) := by decide +kernel
theorem dX11_whatIs_54 : decode cX11_whatIs 54 = .ok (.iload_n 2, 1) := by decide +kernel
theorem dX11_whatIs_55 : decode cX11_whatIs 55 = .ok (.invokevirtual 247, 3) := by decide +kernel
theorem dX11_whatIs_58 : decode cX11_whatIs 58 = .ok (.goto 10, 3) := by decide +kernel
theorem dX11_whatIs_61 : decode cX11_whatIs 61 = .ok (.aload_n 0, 1) := by decide +kernel
theorem dX11_whatIs_62 : decode cX11_whatIs 62 = .ok (.aload 4, 2) := by decide +kernel
theorem dX11_whatIs_64 : decode cX11_whatIs 64 = .ok (.iload_n 2, 1) := by decide +kernel
theorem dX11_whatIs_65 : decode cX11_whatIs 65 = .ok (.invokevirtual 251, 3) := by decide +kernel
theorem dX11_whatIs_68 : decode cX11_whatIs 68 = .ok (.ireturn, 1) := by decide +kernel
theorem dX11_cameWith_0 : decode cX11_cameWith 0 = .ok (.iload_n 1, 1) := by decide +kernel
theorem dX11_cameWith_1 : decode cX11_cameWith 1 = .ok (.invokestatic 45, 3) := by decide +kernel
theorem dX11_cameWith_4 : decode cX11_cameWith 4 = .ok (.ifCond .eq 23, 3) := by decide +kernel
theorem dX11_cameWith_7 : decode cX11_cameWith 7 = .ok (.aload_n 0, 1) := by decide +kernel
theorem dX11_cameWith_8 : decode cX11_cameWith 8 = .ok (.getfield 10, 3) := by decide +kernel
theorem dX11_cameWith_11 : decode cX11_cameWith 11 = .ok (.iload_n 2, 1) := by decide +kernel
theorem dX11_cameWith_12 : decode cX11_cameWith 12 = .ok (.invokevirtual 84, 3) := by decide +kernel
theorem dX11_cameWith_15 : decode cX11_cameWith 15 = .ok (.ifCond .eq 12, 3) := by decide +kernel
theorem dX11_cameWith_18 : decode cX11_cameWith 18 = .ok (.iload_n 3, 1) := by decide +kernel
theorem dX11_cameWith_19 : decode cX11_cameWith 19 = .ok (.ifCond .lt 8, 3) := by decide +kernel
theorem dX11_cameWith_22 : decode cX11_cameWith 22 = .ok (.iload_n 3, 1) := by decide +kernel
theorem dX11_cameWith_23 : decode cX11_cameWith 23 = .ok (.iconst 2, 1) := by decide +kernel
theorem dX11_cameWith_24 : decode cX11_cameWith 24 = .ok (.if_icmp .le 5, 3) := by decide +kernel
theorem dX11_cameWith_27 : decode cX11_cameWith 27 = .ok (.iconst (-1), 1) := by decide +kernel
theorem dX11_cameWith_28 : decode cX11_cameWith 28 = .ok (.ireturn, 1) := by decide +kernel
theorem dX11_cameWith_29 : decode cX11_cameWith 29 = .ok (.aload_n 0, 1) := by decide +kernel
theorem dX11_cameWith_30 : decode cX11_cameWith 30 = .ok (.iload_n 1, 1) := by decide +kernel
theorem dX11_cameWith_31 : decode cX11_cameWith 31 = .ok (.invokevirtual 49, 3) := by decide +kernel
theorem dX11_cameWith_34 : decode cX11_cameWith 34 = .ok (.astore 4, 2) := by decide +kernel
theorem dX11_cameWith_36 : decode cX11_cameWith 36 = .ok (.aload 4, 2) := by decide +kernel
theorem dX11_cameWith_38 : decode cX11_cameWith 38 = .ok (.ifnonnull 9, 3) := by decide +kernel
theorem dX11_cameWith_41 : decode cX11_cameWith 41 = .ok (.aload_n 0, 1) := by decide +kernel
theorem dX11_cameWith_42 : decode cX11_cameWith 42 = .ok (.iload_n 1, 1) := by decide +kernel
theorem dX11_cameWith_43 : decode cX11_cameWith 43 = .ok (.invokevirtual 53, 3) := by decide +kernel
theorem dX11_cameWith_46 : decode cX11_cameWith 46 = .ok (.ireturn, 1) := by decide +kernel
theorem dX11_cameWith_47 : decode cX11_cameWith 47 = .ok (.aload_n 0, 1) := by decide +kernel
theorem dX11_cameWith_48 : decode cX11_cameWith 48 = .ok (.aload 4, 2) := by decide +kernel
theorem dX11_cameWith_50 : decode cX11_cameWith 50 = .ok (.iload_n 2, 1) := by decide +kernel
theorem dX11_cameWith_51 : decode cX11_cameWith 51 = .ok (.iload_n 3, 1) := by decide +kernel
theorem dX11_cameWith_52 : decode cX11_cameWith 52 = .ok (.invokevirtual 254, 3) := by decide +kernel
theorem dX11_cameWith_55 : decode cX11_cameWith 55 = .ok (.ireturn, 1) := by decide +kernel
theorem dX11_two_0 : decode cX11_two 0 = .ok (.aload_n 0, 1) := by decide +kernel
theorem dX11_two_1 : decode cX11_two 1 = .ok (.iload_n 1, 1) := by decide +kernel
theorem dX11_two_2 : decode cX11_two 2 = .ok (.iload_n 2, 1) := by decide +kernel
theorem dX11_two_3 : decode cX11_two 3 = .ok (.invokevirtual 144, 3) := by decide +kernel
theorem dX11_two_6 : decode cX11_two 6 = .ok (.ifCond .eq 14, 3) := by decide +kernel
theorem dX11_two_9 : decode cX11_two 9 = .ok (.iload_n 3, 1) := by decide +kernel
theorem dX11_two_10 : decode cX11_two 10 = .ok (.iconst 1, 1) := by decide +kernel
theorem dX11_two_11 : decode cX11_two 11 = .ok (.if_icmp .lt 9, 3) := by decide +kernel
theorem dX11_two_14 : decode cX11_two 14 = .ok (.iload_n 3, 1) := by decide +kernel
theorem dX11_two_15 : decode cX11_two 15 = .ok (.bipush 30, 2) := by decide +kernel
theorem dX11_two_17 : decode cX11_two 17 = .ok (.if_icmp .le 5, 3) := by decide +kernel
theorem dX11_two_20 : decode cX11_two 20 = .ok (.iconst (-1), 1) := by decide +kernel
theorem dX11_two_21 : decode cX11_two 21 = .ok (.ireturn, 1) := by decide +kernel
theorem dX11_two_22 : decode cX11_two 22 = .ok (.aload_n 0, 1) := by decide +kernel
theorem dX11_two_23 : decode cX11_two 23 = .ok (.getfield 10, 3) := by decide +kernel
theorem dX11_two_26 : decode cX11_two 26 = .ok (.iload_n 1, 1) := by decide +kernel
theorem dX11_two_27 : decode cX11_two 27 = .ok (.invokevirtual 107, 3) := by decide +kernel
theorem dX11_two_30 : decode cX11_two 30 = .ok (.ifCond .eq 14, 3) := by decide +kernel
theorem dX11_two_33 : decode cX11_two 33 = .ok (.aload_n 0, 1) := by decide +kernel
theorem dX11_two_34 : decode cX11_two 34 = .ok (.getfield 10, 3) := by decide +kernel
theorem dX11_two_37 : decode cX11_two 37 = .ok (.iload_n 2, 1) := by decide +kernel
theorem dX11_two_38 : decode cX11_two 38 = .ok (.invokevirtual 107, 3) := by decide +kernel
theorem dX11_two_41 : decode cX11_two 41 = .ok (.ifCond .ne 6, 3) := by decide +kernel
theorem dX11_two_44 : decode cX11_two 44 = .ok (.bipush (-3), 2) := by decide +kernel
theorem dX11_two_46 : decode cX11_two 46 = .ok (.ireturn, 1) := by decide +kernel
theorem dX11_two_47 : decode cX11_two 47 = .ok (.aload_n 0, 1) := by decide +kernel
theorem dX11_two_48 : decode cX11_two 48 = .ok (.iload_n 1, 1) := by decide +kernel
theorem dX11_two_49 : decode cX11_two 49 = .ok (.iconst 0, 1) := by decide +kernel
theorem dX11_two_50 : decode cX11_two 50 = .ok (.iload_n 3, 1) := by decide +kernel
theorem dX11_two_51 : decode cX11_two 51 = .ok (.invokevirtual 258, 3) := by decide +kernel
theorem dX11_two_54 : decode cX11_two 54 = .ok (.istore 4, 2) := by decide +kernel
theorem dX11_two_56 : decode cX11_two 56 = .ok (.aload_n 0, 1) := by decide +kernel
theorem dX11_two_57 : decode cX11_two 57 = .ok (.iload_n 1, 1) := by decide +kernel
theorem dX11_two_58 : decode cX11_two 58 = .ok (.iconst 1, 1) := by decide +kernel
theorem dX11_two_59 : decode cX11_two 59 = .ok (.iload_n 3, 1) := by decide +kernel
theorem dX11_two_60 : decode cX11_two 60 = .ok (.invokevirtual 258, 3) := by decide +kernel
theorem dX11_two_63 : decode cX11_two 63 = .ok (.istore 5, 2) := by decide +kernel
theorem dX11_two_65 : decode cX11_two 65 = .ok (.aload_n 0, 1) := by decide +kernel
theorem dX11_two_66 : decode cX11_two 66 = .ok (.iload_n 2, 1) := by decide +kernel
theorem dX11_two_67 : decode cX11_two 67 = .ok (.iconst 0, 1) := by decide +kernel
theorem dX11_two_68 : decode cX11_two 68 = .ok (.iload_n 3, 1) := by decide +kernel
theorem dX11_two_69 : decode cX11_two 69 = .ok (.invokevirtual 258, 3) := by decide +kernel
theorem dX11_two_72 : decode cX11_two 72 = .ok (.istore 6, 2) := by decide +kernel
theorem dX11_two_74 : decode cX11_two 74 = .ok (.aload_n 0, 1) := by decide +kernel
theorem dX11_two_75 : decode cX11_two 75 = .ok (.iload_n 2, 1) := by decide +kernel
theorem dX11_two_76 : decode cX11_two 76 = .ok (.iconst 1, 1) := by decide +kernel
theorem dX11_two_77 : decode cX11_two 77 = .ok (.iload_n 3, 1) := by decide +kernel
theorem dX11_two_78 : decode cX11_two 78 = .ok (.invokevirtual 258, 3) := by decide +kernel
theorem dX11_two_81 : decode cX11_two 81 = .ok (.istore 7, 2) := by decide +kernel
theorem dX11_two_83 : decode cX11_two 83 = .ok (.iload 4, 2) := by decide +kernel
theorem dX11_two_85 : decode cX11_two 85 = .ok (.iload 5, 2) := by decide +kernel
theorem dX11_two_87 : decode cX11_two 87 = .ok (.if_icmp .lt 7, 3) := by decide +kernel
theorem dX11_two_90 : decode cX11_two 90 = .ok (.iconst 0, 1) := by decide +kernel
theorem dX11_two_91 : decode cX11_two 91 = .ok (.goto 4, 3) := by decide +kernel
theorem dX11_two_94 : decode cX11_two 94 = .ok (.iconst 1, 1) := by decide +kernel
theorem dX11_two_95 : decode cX11_two 95 = .ok (.istore 8, 2) := by decide +kernel
theorem dX11_two_97 : decode cX11_two 97 = .ok (.iload 6, 2) := by decide +kernel
theorem dX11_two_99 : decode cX11_two 99 = .ok (.iload 7, 2) := by decide +kernel
theorem dX11_two_101 : decode cX11_two 101 = .ok (.if_icmp .lt 7, 3) := by decide +kernel
theorem dX11_two_104 : decode cX11_two 104 = .ok (.iconst 0, 1) := by decide +kernel
theorem dX11_two_105 : decode cX11_two 105 = .ok (.goto 4, 3) := by decide +kernel
theorem dX11_two_108 : decode cX11_two 108 = .ok (.iconst 1, 1) := by decide +kernel
theorem dX11_two_109 : decode cX11_two 109 = .ok (.istore 9, 2) := by decide +kernel
theorem dX11_two_111 : decode cX11_two 111 = .ok (.bipush 10, 2) := by decide +kernel
theorem dX11_two_113 : decode cX11_two 113 = .ok (.iload 8, 2) := by decide +kernel
theorem dX11_two_115 : decode cX11_two 115 = .ok (.imul, 1) := by decide +kernel
theorem dX11_two_116 : decode cX11_two 116 = .ok (.iload 9, 2) := by decide +kernel
theorem dX11_two_118 : decode cX11_two 118 = .ok (.iadd, 1) := by decide +kernel
theorem dX11_two_119 : decode cX11_two 119 = .ok (.ireturn, 1) := by decide +kernel
theorem dX11_feasts_0 : decode cX11_feasts 0 = .ok (.aload_n 0, 1) := by decide +kernel
theorem dX11_feasts_1 : decode cX11_feasts 1 = .ok (.getfield 10, 3) := by decide +kernel
theorem dX11_feasts_4 : decode cX11_feasts 4 = .ok (.iload_n 1, 1) := by decide +kernel
theorem dX11_feasts_5 : decode cX11_feasts 5 = .ok (.invokevirtual 84, 3) := by decide +kernel
theorem dX11_feasts_8 : decode cX11_feasts 8 = .ok (.ifCond .eq 32, 3) := by decide +kernel
theorem dX11_feasts_11 : decode cX11_feasts 11 = .ok (.iload_n 2, 1) := by decide +kernel
theorem dX11_feasts_12 : decode cX11_feasts 12 = .ok (.ifCond .lt 28, 3) := by decide +kernel
theorem dX11_feasts_15 : decode cX11_feasts 15 = .ok (.iload_n 2, 1) := by decide +kernel
theorem dX11_feasts_16 : decode cX11_feasts 16 = .ok (.bipush 7, 2) := by decide +kernel
theorem dX11_feasts_18 : decode cX11_feasts 18 = .ok (.if_icmp .gt 22, 3) := by decide +kernel
theorem dX11_feasts_21 : decode cX11_feasts 21 = .ok (.iload_n 3, 1) := by decide +kernel
theorem dX11_feasts_22 : decode cX11_feasts 22 = .ok (.iconst 2, 1) := by decide +kernel
theorem dX11_feasts_23 : decode cX11_feasts 23 = .ok (.if_icmp .lt 17, 3) := by decide +kernel
theorem dX11_feasts_26 : decode cX11_feasts 26 = .ok (.iload_n 3, 1) := by decide +kernel
theorem dX11_feasts_27 : decode cX11_feasts 27 = .ok (.bipush 20, 2) := by decide +kernel
theorem dX11_feasts_29 : decode cX11_feasts 29 = .ok (.if_icmp .gt 11, 3) := by decide +kernel
theorem dX11_feasts_32 : decode cX11_feasts 32 = .ok (.iload 4, 2) := by decide +kernel
theorem dX11_feasts_34 : decode cX11_feasts 34 = .ok (.invokestatic 261, 3) := by decide +kernel
theorem dX11_feasts_37 : decode cX11_feasts 37 = .ok (.ifCond .ne 7, 3) := by decide +kernel
theorem dX11_feasts_40 : decode cX11_feasts 40 = .ok (.ldc2_w 264, 3) := by decide +kernel
theorem dX11_feasts_43 : decode cX11_feasts 43 = .ok (.lreturn, 1) := by decide +kernel
theorem dX11_feasts_44 : decode cX11_feasts 44 = .ok (.lconst 0, 1) := by decide +kernel
theorem dX11_feasts_45 : decode cX11_feasts 45 = .ok (.lstore 5, 2) := by decide +kernel
theorem dX11_feasts_47 : decode cX11_feasts 47 = .ok (.iconst 0, 1) := by decide +kernel
theorem dX11_feasts_48 : decode cX11_feasts 48 = .ok (.istore 7, 2) := by decide +kernel
theorem dX11_feasts_50 : decode cX11_feasts 50 = .ok (.iload 7, 2) := by decide +kernel
theorem dX11_feasts_52 : decode cX11_feasts 52 = .ok (.iconst 1, 1) := by decide +kernel
theorem dX11_feasts_53 : decode cX11_feasts 53 = .ok (.iload_n 2, 1) := by decide +kernel
theorem dX11_feasts_54 : decode cX11_feasts 54 = .ok (.ishl, 1) := by decide +kernel
theorem dX11_feasts_55 : decode cX11_feasts 55 = .ok (.if_icmp .ge 38, 3) := by decide +kernel
theorem dX11_feasts_58 : decode cX11_feasts 58 = .ok (.aload_n 0, 1) := by decide +kernel
theorem dX11_feasts_59 : decode cX11_feasts 59 = .ok (.iload_n 1, 1) := by decide +kernel
theorem dX11_feasts_60 : decode cX11_feasts 60 = .ok (.iload_n 2, 1) := by decide +kernel
theorem dX11_feasts_61 : decode cX11_feasts 61 = .ok (.iload 7, 2) := by decide +kernel
theorem dX11_feasts_63 : decode cX11_feasts 63 = .ok (.invokevirtual 266, 3) := by decide +kernel
theorem dX11_feasts_66 : decode cX11_feasts 66 = .ok (.ifCond .eq 21, 3) := by decide +kernel
theorem dX11_feasts_69 : decode cX11_feasts 69 = .ok (.lload 5, 2) := by decide +kernel
theorem dX11_feasts_71 : decode cX11_feasts 71 = .ok (.iload_n 3, 1) := by decide +kernel
theorem dX11_feasts_72 : decode cX11_feasts 72 = .ok (.iconst 1, 1) := by decide +kernel
theorem dX11_feasts_73 : decode cX11_feasts 73 = .ok (.isub, 1) := by decide +kernel
theorem dX11_feasts_74 : decode cX11_feasts 74 = .ok (.iload_n 2, 1) := by decide +kernel
theorem dX11_feasts_75 : decode cX11_feasts 75 = .ok (.iload 7, 2) := by decide +kernel
theorem dX11_feasts_77 : decode cX11_feasts 77 = .ok (.invokestatic 269, 3) := by decide +kernel
theorem dX11_feasts_80 : decode cX11_feasts 80 = .ok (.isub, 1) := by decide +kernel
theorem dX11_feasts_81 : decode cX11_feasts 81 = .ok (.invokestatic 274, 3) := by decide +kernel
theorem dX11_feasts_84 : decode cX11_feasts 84 = .ok (.ladd, 1) := by decide +kernel
theorem dX11_feasts_85 : decode cX11_feasts 85 = .ok (.lstore 5, 2) := by decide +kernel
theorem dX11_feasts_87 : decode cX11_feasts 87 = .ok (.iinc 7 1, 3) := by decide +kernel
theorem dX11_feasts_90 : decode cX11_feasts 90 = .ok (.goto (-40), 3) := by decide +kernel
theorem dX11_feasts_93 : decode cX11_feasts 93 = .ok (.lload 5, 2) := by decide +kernel
theorem dX11_feasts_95 : decode cX11_feasts 95 = .ok (.iload_n 3, 1) := by decide +kernel
theorem dX11_feasts_96 : decode cX11_feasts 96 = .ok (.iload_n 2, 1) := by decide +kernel
theorem dX11_feasts_97 : decode cX11_feasts 97 = .ok (.invokestatic 274, 3) := by decide +kernel
theorem dX11_feasts_100 : decode cX11_feasts 100 = .ok (.iload 4, 2) := by decide +kernel
theorem dX11_feasts_102 : decode cX11_feasts 102 = .ok (.invokestatic 278, 3) := by decide +kernel
theorem dX11_feasts_105 : decode cX11_feasts 105 = .ok (.lreturn, 1) := by decide +kernel
theorem dX11_mean_0 : decode cX11_mean 0 = .ok (.iload_n 1, 1) := by decide +kernel
theorem dX11_mean_1 : decode cX11_mean 1 = .ok (.invokestatic 261, 3) := by decide +kernel
theorem dX11_mean_4 : decode cX11_mean 4 = .ok (.ifCond .ne 7, 3) := by decide +kernel
theorem dX11_mean_7 : decode cX11_mean 7 = .ok (.ldc2_w 264, 3) := by decide +kernel
theorem dX11_mean_10 : decode cX11_mean 10 = .ok (.lreturn, 1) := by decide +kernel
theorem dX11_mean_11 : decode cX11_mean 11 = .ok (.iconst 0, 1) := by decide +kernel
theorem dX11_mean_12 : decode cX11_mean 12 = .ok (.istore_n 2, 1) := by decide +kernel
theorem dX11_mean_13 : decode cX11_mean 13 = .ok (.iconst 0, 1) := by decide +kernel
theorem dX11_mean_14 : decode cX11_mean 14 = .ok (.istore_n 3, 1) := by decide +kernel
theorem dX11_mean_15 : decode cX11_mean 15 = .ok (.iconst 0, 1) := by decide +kernel
theorem dX11_mean_16 : decode cX11_mean 16 = .ok (.istore 4, 2) := by decide +kernel
theorem dX11_mean_18 : decode cX11_mean 18 = .ok (.iload 4, 2) := by decide +kernel
theorem dX11_mean_20 : decode cX11_mean 20 = .ok (.aload_n 0, 1) := by decide +kernel
theorem dX11_mean_21 : decode cX11_mean 21 = .ok (.getfield 10, 3) := by decide +kernel
theorem dX11_mean_24 : decode cX11_mean 24 = .ok (.getfield 134, 3) := by decide +kernel
theorem dX11_mean_27 : decode cX11_mean 27 = .ok (.if_icmp .ge 48, 3) := by decide +kernel
theorem dX11_mean_30 : decode cX11_mean 30 = .ok (.aload_n 0, 1) := by decide +kernel
theorem dX11_mean_31 : decode cX11_mean 31 = .ok (.getfield 10, 3) := by decide +kernel
theorem dX11_mean_34 : decode cX11_mean 34 = .ok (.iload 4, 2) := by decide +kernel
theorem dX11_mean_36 : decode cX11_mean 36 = .ok (.invokevirtual 107, 3) := by decide +kernel
theorem dX11_mean_39 : decode cX11_mean 39 = .ok (.ifCond .ne 30, 3) := by decide +kernel
theorem dX11_mean_42 : decode cX11_mean 42 = .ok (.iinc 2 1, 3) := by decide +kernel
theorem dX11_mean_45 : decode cX11_mean 45 = .ok (.iload_n 3, 1) := by decide +kernel
theorem dX11_mean_46 : decode cX11_mean 46 = .ok (.aload_n 0, 1) := by decide +kernel
theorem dX11_mean_47 : decode cX11_mean 47 = .ok (.getfield 10, 3) := by decide +kernel
theorem dX11_mean_50 : decode cX11_mean 50 = .ok (.getfield 98, 3) := by decide +kernel
theorem dX11_mean_53 : decode cX11_mean 53 = .ok (.iload 4, 2) := by decide +kernel
theorem dX11_mean_55 : decode cX11_mean 55 = .ok (.iaload, 1) := by decide +kernel
theorem dX11_mean_56 : decode cX11_mean 56 = .ok (.aload_n 0, 1) := by decide +kernel
theorem dX11_mean_57 : decode cX11_mean 57 = .ok (.getfield 10, 3) := by decide +kernel
theorem dX11_mean_60 : decode cX11_mean 60 = .ok (.getfield 95, 3) := by decide +kernel
theorem dX11_mean_63 : decode cX11_mean 63 = .ok (.iload 4, 2) := by decide +kernel
theorem dX11_mean_65 : decode cX11_mean 65 = .ok (.iaload, 1) := by decide +kernel
theorem dX11_mean_66 : decode cX11_mean 66 = .ok (.isub, 1) := by decide +kernel
theorem dX11_mean_67 : decode cX11_mean 67 = .ok (.iadd, 1) := by decide +kernel
theorem dX11_mean_68 : decode cX11_mean 68 = .ok (.istore_n 3, 1) := by decide +kernel
theorem dX11_mean_69 : decode cX11_mean 69 = .ok (.iinc 4 1, 3) := by decide +kernel
theorem dX11_mean_72 : decode cX11_mean 72 = .ok (.goto (-54), 3) := by decide +kernel
theorem dX11_mean_75 : decode cX11_mean 75 = .ok (.iload_n 3, 1) := by decide +kernel
theorem dX11_mean_76 : decode cX11_mean 76 = .ok (.i2l, 1) := by decide +kernel
theorem dX11_mean_77 : decode cX11_mean 77 = .ok (.iload_n 2, 1) := by decide +kernel
theorem dX11_mean_78 : decode cX11_mean 78 = .ok (.iconst 1, 1) := by decide +kernel
theorem dX11_mean_79 : decode cX11_mean 79 = .ok (.invokestatic 229, 3) := by decide +kernel
theorem dX11_mean_82 : decode cX11_mean 82 = .ok (.i2l, 1) := by decide +kernel
theorem dX11_mean_83 : decode cX11_mean 83 = .ok (.iload_n 1, 1) := by decide +kernel
theorem dX11_mean_84 : decode cX11_mean 84 = .ok (.invokestatic 278, 3) := by decide +kernel
theorem dX11_mean_87 : decode cX11_mean 87 = .ok (.lreturn, 1) := by decide +kernel
theorem dX11_kindsBy_0 : decode cX11_kindsBy 0 = .ok (.iconst 0, 1) := by decide +kernel
theorem dX11_kindsBy_1 : decode cX11_kindsBy 1 = .ok (.istore_n 3, 1) := by decide +kernel
theorem dX11_kindsBy_2 : decode cX11_kindsBy 2 = .ok (.iconst 0, 1) := by decide +kernel
theorem dX11_kindsBy_3 : decode cX11_kindsBy 3 = .ok (.istore 4, 2) := by decide +kernel
theorem dX11_kindsBy_5 : decode cX11_kindsBy 5 = .ok (.iload 4, 2) := by decide +kernel
theorem dX11_kindsBy_7 : decode cX11_kindsBy 7 = .ok (.bipush 8, 2) := by decide +kernel
theorem dX11_kindsBy_9 : decode cX11_kindsBy 9 = .ok (.if_icmp .ge 42, 3) := by decide +kernel
theorem dX11_kindsBy_12 : decode cX11_kindsBy 12 = .ok (.aload_n 0, 1) := by decide +kernel
theorem dX11_kindsBy_13 : decode cX11_kindsBy 13 = .ok (.iload 4, 2) := by decide +kernel
theorem dX11_kindsBy_15 : decode cX11_kindsBy 15 = .ok (.aload_n 0, 1) := by decide +kernel
theorem dX11_kindsBy_16 : decode cX11_kindsBy 16 = .ok (.getfield 10, 3) := by decide +kernel
theorem dX11_kindsBy_19 : decode cX11_kindsBy 19 = .ok (.getfield 87, 3) := by decide +kernel
theorem dX11_kindsBy_22 : decode cX11_kindsBy 22 = .ok (.iload_n 2, 1) := by decide +kernel
theorem dX11_kindsBy_23 : decode cX11_kindsBy 23 = .ok (.aaload, 1) := by decide +kernel
theorem dX11_kindsBy_24 : decode cX11_kindsBy 24 = .ok (.getfield 92, 3) := by decide +kernel
theorem dX11_kindsBy_27 : decode cX11_kindsBy 27 = .ok (.invokestatic 282, 3) := by decide +kernel
theorem dX11_kindsBy_30 : decode cX11_kindsBy 30 = .ok (.aload_n 1, 1) := by decide +kernel
theorem dX11_kindsBy_31 : decode cX11_kindsBy 31 = .ok (.iload_n 2, 1) := by decide +kernel
theorem dX11_kindsBy_32 : decode cX11_kindsBy 32 = .ok (.invokevirtual 286, 3) := by decide +kernel
theorem dX11_kindsBy_35 : decode cX11_kindsBy 35 = .ok (.ifCond .eq 10, 3) := by decide +kernel
theorem dX11_kindsBy_38 : decode cX11_kindsBy 38 = .ok (.iload_n 3, 1) := by decide +kernel
theorem dX11_kindsBy_39 : decode cX11_kindsBy 39 = .ok (.iconst 1, 1) := by decide +kernel
theorem dX11_kindsBy_40 : decode cX11_kindsBy 40 = .ok (.iload 4, 2) := by decide +kernel
theorem dX11_kindsBy_42 : decode cX11_kindsBy 42 = .ok (.ishl, 1) := by decide +kernel
theorem dX11_kindsBy_43 : decode cX11_kindsBy 43 = .ok (.ior, 1) := by decide +kernel
theorem dX11_kindsBy_44 : decode cX11_kindsBy 44 = .ok (.istore_n 3, 1) := by decide +kernel
theorem dX11_kindsBy_45 : decode cX11_kindsBy 45 = .ok (.iinc 4 1, 3) := by decide +kernel
theorem dX11_kindsBy_48 : decode cX11_kindsBy 48 = .ok (.goto (-43), 3) := by decide +kernel
theorem dX11_kindsBy_51 : decode cX11_kindsBy 51 = .ok (.iload_n 3, 1) := by decide +kernel
theorem dX11_kindsBy_52 : decode cX11_kindsBy 52 = .ok (.ireturn, 1) := by decide +kernel
theorem dX11_figuresBy_0 : decode cX11_figuresBy 0 = .ok (.iconst 0, 1) := by decide +kernel
theorem dX11_figuresBy_1 : decode cX11_figuresBy 1 = .ok (.istore_n 3, 1) := by decide +kernel
theorem dX11_figuresBy_2 : decode cX11_figuresBy 2 = .ok (.iconst 0, 1) := by decide +kernel
theorem dX11_figuresBy_3 : decode cX11_figuresBy 3 = .ok (.istore 4, 2) := by decide +kernel
theorem dX11_figuresBy_5 : decode cX11_figuresBy 5 = .ok (.iload 4, 2) := by decide +kernel
theorem dX11_figuresBy_7 : decode cX11_figuresBy 7 = .ok (.bipush 10, 2) := by decide +kernel
theorem dX11_figuresBy_9 : decode cX11_figuresBy 9 = .ok (.if_icmp .ge 42, 3) := by decide +kernel
theorem dX11_figuresBy_12 : decode cX11_figuresBy 12 = .ok (.aload_n 0, 1) := by decide +kernel
theorem dX11_figuresBy_13 : decode cX11_figuresBy 13 = .ok (.aload_n 0, 1) := by decide +kernel
theorem dX11_figuresBy_14 : decode cX11_figuresBy 14 = .ok (.getfield 10, 3) := by decide +kernel
theorem dX11_figuresBy_17 : decode cX11_figuresBy 17 = .ok (.getfield 87, 3) := by decide +kernel
theorem dX11_figuresBy_20 : decode cX11_figuresBy 20 = .ok (.iload_n 2, 1) := by decide +kernel
theorem dX11_figuresBy_21 : decode cX11_figuresBy 21 = .ok (.aaload, 1) := by decide +kernel
theorem dX11_figuresBy_22 : decode cX11_figuresBy 22 = .ok (.getfield 90, 3) := by decide +kernel
theorem dX11_figuresBy_25 : decode cX11_figuresBy 25 = .ok (.iload 4, 2) := by decide +kernel
theorem dX11_figuresBy_27 : decode cX11_figuresBy 27 = .ok (.invokestatic 282, 3) := by decide +kernel
theorem dX11_figuresBy_30 : decode cX11_figuresBy 30 = .ok (.aload_n 1, 1) := by decide +kernel
theorem dX11_figuresBy_31 : decode cX11_figuresBy 31 = .ok (.iload_n 2, 1) := by decide +kernel
theorem dX11_figuresBy_32 : decode cX11_figuresBy 32 = .ok (.invokevirtual 286, 3) := by decide +kernel
theorem dX11_figuresBy_35 : decode cX11_figuresBy 35 = .ok (.ifCond .eq 10, 3) := by decide +kernel
theorem dX11_figuresBy_38 : decode cX11_figuresBy 38 = .ok (.iload_n 3, 1) := by decide +kernel
theorem dX11_figuresBy_39 : decode cX11_figuresBy 39 = .ok (.iconst 1, 1) := by decide +kernel
theorem dX11_figuresBy_40 : decode cX11_figuresBy 40 = .ok (.iload 4, 2) := by decide +kernel
theorem dX11_figuresBy_42 : decode cX11_figuresBy 42 = .ok (.ishl, 1) := by decide +kernel
theorem dX11_figuresBy_43 : decode cX11_figuresBy 43 = .ok (.ior, 1) := by decide +kernel
theorem dX11_figuresBy_44 : decode cX11_figuresBy 44 = .ok (.istore_n 3, 1) := by decide +kernel
theorem dX11_figuresBy_45 : decode cX11_figuresBy 45 = .ok (.iinc 4 1, 3) := by decide +kernel
theorem dX11_figuresBy_48 : decode cX11_figuresBy 48 = .ok (.goto (-43), 3) := by decide +kernel
theorem dX11_figuresBy_51 : decode cX11_figuresBy 51 = .ok (.iload_n 3, 1) := by decide +kernel
theorem dX11_figuresBy_52 : decode cX11_figuresBy 52 = .ok (.ireturn, 1) := by decide +kernel
theorem dX11_weighedSoAs_0 : decode cX11_weighedSoAs 0 = .ok (.aload_n 0, 1) := by decide +kernel
theorem dX11_weighedSoAs_1 : decode cX11_weighedSoAs 1 = .ok (.getfield 16, 3) := by decide +kernel
theorem dX11_weighedSoAs_4 : decode cX11_weighedSoAs 4 = .ok (.aload_n 0, 1) := by decide +kernel
theorem dX11_weighedSoAs_5 : decode cX11_weighedSoAs 5 = .ok (.getfield 10, 3) := by decide +kernel
theorem dX11_weighedSoAs_8 : decode cX11_weighedSoAs 8 = .ok (.invokevirtual 70, 3) := by decide +kernel
theorem dX11_weighedSoAs_11 : decode cX11_weighedSoAs 11 = .ok (.aload_n 0, 1) := by decide +kernel
theorem dX11_weighedSoAs_12 : decode cX11_weighedSoAs 12 = .ok (.getfield 16, 3) := by decide +kernel
theorem dX11_weighedSoAs_15 : decode cX11_weighedSoAs 15 = .ok (.getfield 87, 3) := by decide +kernel
theorem dX11_weighedSoAs_18 : decode cX11_weighedSoAs 18 = .ok (.iload_n 3, 1) := by decide +kernel
theorem dX11_weighedSoAs_19 : decode cX11_weighedSoAs 19 = .ok (.aload_n 1, 1) := by decide +kernel
theorem dX11_weighedSoAs_20 : decode cX11_weighedSoAs 20 = .ok (.aastore, 1) := by decide +kernel
theorem dX11_weighedSoAs_21 : decode cX11_weighedSoAs 21 = .ok (.iconst 0, 1) := by decide +kernel
theorem dX11_weighedSoAs_22 : decode cX11_weighedSoAs 22 = .ok (.istore 4, 2) := by decide +kernel
theorem dX11_weighedSoAs_24 : decode cX11_weighedSoAs 24 = .ok (.iload 4, 2) := by decide +kernel
theorem dX11_weighedSoAs_26 : decode cX11_weighedSoAs 26 = .ok (.aload_n 2, 1) := by decide +kernel
theorem dX11_weighedSoAs_27 : decode cX11_weighedSoAs 27 = .ok (.invokevirtual 74, 3) := by decide +kernel
theorem dX11_weighedSoAs_30 : decode cX11_weighedSoAs 30 = .ok (.if_icmp .ge 46, 3) := by decide +kernel
theorem dX11_weighedSoAs_33 : decode cX11_weighedSoAs 33 = .ok (.aload_n 2, 1) := by decide +kernel
theorem dX11_weighedSoAs_34 : decode cX11_weighedSoAs 34 = .ok (.iload 4, 2) := by decide +kernel
theorem dX11_weighedSoAs_36 : decode cX11_weighedSoAs 36 = .ok (.invokevirtual 290, 3) := by decide +kernel
theorem dX11_weighedSoAs_39 : decode cX11_weighedSoAs 39 = .ok (.ifCond .ne 23, 3) := by decide +kernel
theorem dX11_weighedSoAs_42 : decode cX11_weighedSoAs 42 = .ok (.aload_n 2, 1) := by decide +kernel
theorem dX11_weighedSoAs_43 : decode cX11_weighedSoAs 43 = .ok (.iload 4, 2) := by decide +kernel
theorem dX11_weighedSoAs_45 : decode cX11_weighedSoAs 45 = .ok (.invokevirtual 293, 3) := by decide +kernel
theorem dX11_weighedSoAs_48 : decode cX11_weighedSoAs 48 = .ok (.aload_n 0, 1) := by decide +kernel
theorem dX11_weighedSoAs_49 : decode cX11_weighedSoAs 49 = .ok (.getfield 16, 3) := by decide +kernel
theorem dX11_weighedSoAs_52 : decode cX11_weighedSoAs 52 = .ok (.getfield 95, 3) := by decide +kernel
theorem dX11_weighedSoAs_55 : decode cX11_weighedSoAs 55 = .ok (.iload_n 3, 1) := by decide +kernel
theorem dX11_weighedSoAs_56 : decode cX11_weighedSoAs 56 = .ok (.iaload, 1) := by decide +kernel
theorem dX11_weighedSoAs_57 : decode cX11_weighedSoAs 57 = .ok (.if_icmp .eq 5, 3) := by decide +kernel
theorem dX11_weighedSoAs_60 : decode cX11_weighedSoAs 60 = .ok (.iconst 0, 1) := by decide +kernel
theorem dX11_weighedSoAs_61 : decode cX11_weighedSoAs 61 = .ok (.ireturn, 1) := by decide +kernel
theorem dX11_weighedSoAs_62 : decode cX11_weighedSoAs 62 = .ok (.aload_n 0, 1) := by decide +kernel
theorem dX11_weighedSoAs_63 : decode cX11_weighedSoAs 63 = .ok (.getfield 16, 3) := by decide +kernel
theorem dX11_weighedSoAs_66 : decode cX11_weighedSoAs 66 = .ok (.iload_n 3, 1) := by decide +kernel
theorem dX11_weighedSoAs_67 : decode cX11_weighedSoAs 67 = .ok (.invokevirtual 186, 3) := by decide +kernel
theorem dX11_weighedSoAs_70 : decode cX11_weighedSoAs 70 = .ok (.iinc 4 1, 3) := by decide +kernel
theorem dX11_weighedSoAs_73 : decode cX11_weighedSoAs 73 = .ok (.goto (-49), 3) := by decide +kernel
theorem dX11_weighedSoAs_76 : decode cX11_weighedSoAs 76 = .ok (.iconst 1, 1) := by decide +kernel
theorem dX11_weighedSoAs_77 : decode cX11_weighedSoAs 77 = .ok (.ireturn, 1) := by decide +kernel
theorem dX11_enteredBy_0 : decode cX11_enteredBy 0 = .ok (.iconst 0, 1) := by decide +kernel
theorem dX11_enteredBy_1 : decode cX11_enteredBy 1 = .ok (.istore 4, 2) := by decide +kernel
theorem dX11_enteredBy_3 : decode cX11_enteredBy 3 = .ok (.bipush 120, 2) := by decide +kernel
theorem dX11_enteredBy_5 : decode cX11_enteredBy 5 = .ok (.istore 5, 2) := by decide +kernel
theorem dX11_enteredBy_7 : decode cX11_enteredBy 7 = .ok (.aload_n 0, 1) := by decide +kernel
theorem dX11_enteredBy_8 : decode cX11_enteredBy 8 = .ok (.getfield 10, 3) := by decide +kernel
theorem dX11_enteredBy_11 : decode cX11_enteredBy 11 = .ok (.iload_n 2, 1) := by decide +kernel
theorem dX11_enteredBy_12 : decode cX11_enteredBy 12 = .ok (.invokevirtual 107, 3) := by decide +kernel
theorem dX11_enteredBy_15 : decode cX11_enteredBy 15 = .ok (.ifCond .eq 8, 3) := by decide +kernel
theorem dX11_enteredBy_18 : decode cX11_enteredBy 18 = .ok (.bipush 120, 2) := by decide +kernel
theorem dX11_enteredBy_20 : decode cX11_enteredBy 20 = .ok (.goto 4, 3) := by decide +kernel
theorem dX11_enteredBy_23 : decode cX11_enteredBy 23 = .ok (.iconst (-1), 1) := by decide +kernel
theorem dX11_enteredBy_24 : decode cX11_enteredBy 24 = .ok (.istore 6, 2) := by decide +kernel
theorem dX11_enteredBy_26 : decode cX11_enteredBy 26 = .ok (.aload_n 0, 1) := by decide +kernel
theorem dX11_enteredBy_27 : decode cX11_enteredBy 27 = .ok (.getfield 16, 3) := by decide +kernel
theorem dX11_enteredBy_30 : decode cX11_enteredBy 30 = .ok (.aload_n 0, 1) := by decide +kernel
theorem dX11_enteredBy_31 : decode cX11_enteredBy 31 = .ok (.getfield 10, 3) := by decide +kernel
theorem dX11_enteredBy_34 : decode cX11_enteredBy 34 = .ok (.invokevirtual 70, 3) := by decide +kernel
theorem dX11_enteredBy_37 : decode cX11_enteredBy 37 = .ok (.aload_n 0, 1) := by decide +kernel
theorem dX11_enteredBy_38 : decode cX11_enteredBy 38 = .ok (.getfield 16, 3) := by decide +kernel
theorem dX11_enteredBy_41 : decode cX11_enteredBy 41 = .ok (.getfield 98, 3) := by decide +kernel
theorem dX11_enteredBy_44 : decode cX11_enteredBy 44 = .ok (.iload_n 2, 1) := by decide +kernel
theorem dX11_enteredBy_45 : decode cX11_enteredBy 45 = .ok (.iconst 0, 1) := by decide +kernel
theorem dX11_enteredBy_46 : decode cX11_enteredBy 46 = .ok (.iastore, 1) := by decide +kernel
theorem dX11_enteredBy_47 : decode cX11_enteredBy 47 = .ok (.iconst 0, 1) := by decide +kernel
theorem dX11_enteredBy_48 : decode cX11_enteredBy 48 = .ok (.istore 7, 2) := by decide +kernel
theorem dX11_enteredBy_50 : decode cX11_enteredBy 50 = .ok (.iload 7, 2) := by decide +kernel
theorem dX11_enteredBy_52 : decode cX11_enteredBy 52 = .ok (.aload_n 1, 1) := by decide +kernel
theorem dX11_enteredBy_53 : decode cX11_enteredBy 53 = .ok (.invokevirtual 74, 3) := by decide +kernel
theorem dX11_enteredBy_56 : decode cX11_enteredBy 56 = .ok (.if_icmp .ge 99, 3) := by decide +kernel
theorem dX11_enteredBy_59 : decode cX11_enteredBy 59 = .ok (.aload_n 1, 1) := by decide +kernel
theorem dX11_enteredBy_60 : decode cX11_enteredBy 60 = .ok (.iload 7, 2) := by decide +kernel
theorem dX11_enteredBy_62 : decode cX11_enteredBy 62 = .ok (.invokevirtual 290, 3) := by decide +kernel
theorem dX11_enteredBy_65 : decode cX11_enteredBy 65 = .ok (.ifCond .ne 49, 3) := by decide +kernel
theorem dX11_enteredBy_68 : decode cX11_enteredBy 68 = .ok (.aload_n 1, 1) := by decide +kernel
theorem dX11_enteredBy_69 : decode cX11_enteredBy 69 = .ok (.iload 7, 2) := by decide +kernel
theorem dX11_enteredBy_71 : decode cX11_enteredBy 71 = .ok (.invokevirtual 293, 3) := by decide +kernel
theorem dX11_enteredBy_74 : decode cX11_enteredBy 74 = .ok (.ifCond .ne 17, 3) := by decide +kernel
theorem dX11_enteredBy_77 : decode cX11_enteredBy 77 = .ok (.iload 4, 2) := by decide +kernel
theorem dX11_enteredBy_79 : decode cX11_enteredBy 79 = .ok (.iload 6, 2) := by decide +kernel
theorem dX11_enteredBy_81 : decode cX11_enteredBy 81 = .ok (.iconst 1, 1) := by decide +kernel
theorem dX11_enteredBy_82 : decode cX11_enteredBy 82 = .ok (.iadd, 1) := by decide +kernel
theorem dX11_enteredBy_83 : decode cX11_enteredBy 83 = .ok (.invokestatic 229, 3) := by decide +kernel
theorem dX11_enteredBy_86 : decode cX11_enteredBy 86 = .ok (.istore 4, 2) := by decide +kernel
theorem dX11_enteredBy_88 : decode cX11_enteredBy 88 = .ok (.goto 26, 3) := by decide +kernel
theorem dX11_enteredBy_91 : decode cX11_enteredBy 91 = .ok (.iload 5, 2) := by decide +kernel
theorem dX11_enteredBy_93 : decode cX11_enteredBy 93 = .ok (.aload_n 1, 1) := by decide +kernel
theorem dX11_enteredBy_94 : decode cX11_enteredBy 94 = .ok (.iload 7, 2) := by decide +kernel
theorem dX11_enteredBy_96 : decode cX11_enteredBy 96 = .ok (.invokevirtual 293, 3) := by decide +kernel
theorem dX11_enteredBy_99 : decode cX11_enteredBy 99 = .ok (.iconst 1, 1) := by decide +kernel
theorem dX11_enteredBy_100 : decode cX11_enteredBy 100 = .ok (.if_icmp .ne 8, 3) := by decide +kernel
theorem dX11_enteredBy_103 : decode cX11_enteredBy 103 = .ok (.iload 6, 2) := by decide +kernel
theorem dX11_enteredBy_105 : decode cX11_enteredBy 105 = .ok (.goto 4, 3) := by decide +kernel
theorem dX11_enteredBy_108 : decode cX11_enteredBy 108 = .ok (.iconst (-1), 1) := by decide +kernel
theorem dX11_enteredBy_109 : decode cX11_enteredBy 109 = .ok (.invokestatic 296, 3) := by decide +kernel
theorem dX11_enteredBy_112 : decode cX11_enteredBy 112 = .ok (.istore 5, 2) := by decide +kernel
theorem dX11_enteredBy_114 : decode cX11_enteredBy 114 = .ok (.aload_n 0, 1) := by decide +kernel
theorem dX11_enteredBy_115 : decode cX11_enteredBy 115 = .ok (.getfield 16, 3) := by decide +kernel
theorem dX11_enteredBy_118 : decode cX11_enteredBy 118 = .ok (.iload_n 2, 1) := by decide +kernel
theorem dX11_enteredBy_119 : decode cX11_enteredBy 119 = .ok (.invokevirtual 186, 3) := by decide +kernel
theorem dX11_enteredBy_122 : decode cX11_enteredBy 122 = .ok (.aload_n 0, 1) := by decide +kernel
theorem dX11_enteredBy_123 : decode cX11_enteredBy 123 = .ok (.getfield 16, 3) := by decide +kernel
theorem dX11_enteredBy_126 : decode cX11_enteredBy 126 = .ok (.iload_n 2, 1) := by decide +kernel
theorem dX11_enteredBy_127 : decode cX11_enteredBy 127 = .ok (.invokevirtual 299, 3) := by decide +kernel
theorem dX11_enteredBy_130 : decode cX11_enteredBy 130 = .ok (.ifCond .eq 19, 3) := by decide +kernel
theorem dX11_enteredBy_133 : decode cX11_enteredBy 133 = .ok (.iload 6, 2) := by decide +kernel
theorem dX11_enteredBy_135 : decode cX11_enteredBy 135 = .ok (.aload_n 0, 1) := by decide +kernel
theorem dX11_enteredBy_136 : decode cX11_enteredBy 136 = .ok (.getfield 16, 3) := by decide +kernel
theorem dX11_enteredBy_139 : decode cX11_enteredBy 139 = .ok (.getfield 95, 3) := by decide +kernel
theorem dX11_enteredBy_142 : decode cX11_enteredBy 142 = .ok (.iload_n 2, 1) := by decide +kernel
theorem dX11_enteredBy_143 : decode cX11_enteredBy 143 = .ok (.iaload, 1) := by decide +kernel
theorem dX11_enteredBy_144 : decode cX11_enteredBy 144 = .ok (.invokestatic 296, 3) := by decide +kernel
theorem dX11_enteredBy_147 : decode cX11_enteredBy 147 = .ok (.istore 6, 2) := by decide +kernel
theorem dX11_enteredBy_149 : decode cX11_enteredBy 149 = .ok (.iinc 7 1, 3) := by decide +kernel
theorem dX11_enteredBy_152 : decode cX11_enteredBy 152 = .ok (.goto (-102), 3) := by decide +kernel
theorem dX11_enteredBy_155 : decode cX11_enteredBy 155 = .ok (.iload_n 3, 1) := by decide +kernel
theorem dX11_enteredBy_156 : decode cX11_enteredBy 156 = .ok (.ifCond .ne 15, 3) := by decide +kernel
theorem dX11_enteredBy_159 : decode cX11_enteredBy 159 = .ok (.iconst 0, 1) := by decide +kernel
theorem dX11_enteredBy_160 : decode cX11_enteredBy 160 = .ok (.iload 5, 2) := by decide +kernel
theorem dX11_enteredBy_162 : decode cX11_enteredBy 162 = .ok (.iload 4, 2) := by decide +kernel
theorem dX11_enteredBy_164 : decode cX11_enteredBy 164 = .ok (.isub, 1) := by decide +kernel
theorem dX11_enteredBy_165 : decode cX11_enteredBy 165 = .ok (.iconst 1, 1) := by decide +kernel
theorem dX11_enteredBy_166 : decode cX11_enteredBy 166 = .ok (.iadd, 1) := by decide +kernel
theorem dX11_enteredBy_167 : decode cX11_enteredBy 167 = .ok (.invokestatic 229, 3) := by decide +kernel
theorem dX11_enteredBy_170 : decode cX11_enteredBy 170 = .ok (.ireturn, 1) := by decide +kernel
theorem dX11_enteredBy_171 : decode cX11_enteredBy 171 = .ok (.iload 4, 2) := by decide +kernel
theorem dX11_enteredBy_173 : decode cX11_enteredBy 173 = .ok (.iload 5, 2) := by decide +kernel
theorem dX11_enteredBy_175 : decode cX11_enteredBy 175 = .ok (.if_icmp .le 6, 3) := by decide +kernel
theorem dX11_enteredBy_178 : decode cX11_enteredBy 178 = .ok (.bipush (-4), 2) := by decide +kernel
theorem dX11_enteredBy_180 : decode cX11_enteredBy 180 = .ok (.ireturn, 1) := by decide +kernel
theorem dX11_enteredBy_181 : decode cX11_enteredBy 181 = .ok (.iload_n 3, 1) := by decide +kernel
theorem dX11_enteredBy_182 : decode cX11_enteredBy 182 = .ok (.iconst 1, 1) := by decide +kernel
theorem dX11_enteredBy_183 : decode cX11_enteredBy 183 = .ok (.if_icmp .ne 8, 3) := by decide +kernel
theorem dX11_enteredBy_186 : decode cX11_enteredBy 186 = .ok (.iload 4, 2) := by decide +kernel
theorem dX11_enteredBy_188 : decode cX11_enteredBy 188 = .ok (.goto 5, 3) := by decide +kernel
theorem dX11_enteredBy_191 : decode cX11_enteredBy 191 = .ok (.iload 5, 2) := by decide +kernel
theorem dX11_enteredBy_193 : decode cX11_enteredBy 193 = .ok (.ireturn, 1) := by decide +kernel
theorem dX11_worthOfChoice_0 : decode cX11_worthOfChoice 0 = .ok (.aload_n 0, 1) := by decide +kernel
theorem dX11_worthOfChoice_1 : decode cX11_worthOfChoice 1 = .ok (.getfield 16, 3) := by decide +kernel
theorem dX11_worthOfChoice_4 : decode cX11_worthOfChoice 4 = .ok (.aload_n 0, 1) := by decide +kernel
theorem dX11_worthOfChoice_5 : decode cX11_worthOfChoice 5 = .ok (.getfield 10, 3) := by decide +kernel
theorem dX11_worthOfChoice_8 : decode cX11_worthOfChoice 8 = .ok (.invokevirtual 70, 3) := by decide +kernel
theorem dX11_worthOfChoice_11 : decode cX11_worthOfChoice 11 = .ok (.aload_n 0, 1) := by decide +kernel
theorem dX11_worthOfChoice_12 : decode cX11_worthOfChoice 12 = .ok (.getfield 16, 3) := by decide +kernel
theorem dX11_worthOfChoice_15 : decode cX11_worthOfChoice 15 = .ok (.iload_n 1, 1) := by decide +kernel
theorem dX11_worthOfChoice_16 : decode cX11_worthOfChoice 16 = .ok (.iload_n 2, 1) := by decide +kernel
theorem dX11_worthOfChoice_17 : decode cX11_worthOfChoice 17 = .ok (.iconst 1, 1) := by decide +kernel
theorem dX11_worthOfChoice_18 : decode cX11_worthOfChoice 18 = .ok (.if_icmp .ne 7, 3) := by decide +kernel
theorem dX11_worthOfChoice_21 : decode cX11_worthOfChoice 21 = .ok (.iconst 0, 1) := by decide +kernel
theorem dX11_worthOfChoice_22 : decode cX11_worthOfChoice 22 = .ok (.goto 11, 3) := by decide +kernel
theorem dX11_worthOfChoice_25 : decode cX11_worthOfChoice 25 = .ok (.aload_n 0, 1) := by decide +kernel
theorem dX11_worthOfChoice_26 : decode cX11_worthOfChoice 26 = .ok (.getfield 16, 3) := by decide +kernel
theorem dX11_worthOfChoice_29 : decode cX11_worthOfChoice 29 = .ok (.iload_n 1, 1) := by decide +kernel
theorem dX11_worthOfChoice_30 : decode cX11_worthOfChoice 30 = .ok (.invokevirtual 302, 3) := by decide +kernel
theorem dX11_worthOfChoice_33 : decode cX11_worthOfChoice 33 = .ok (.invokevirtual 305, 3) := by decide +kernel
theorem dX11_worthOfChoice_36 : decode cX11_worthOfChoice 36 = .ok (.iconst 1, 1) := by decide +kernel
theorem dX11_worthOfChoice_37 : decode cX11_worthOfChoice 37 = .ok (.istore 4, 2) := by decide +kernel
theorem dX11_worthOfChoice_39 : decode cX11_worthOfChoice 39 = .ok (.iload 4, 2) := by decide +kernel
theorem dX11_worthOfChoice_41 : decode cX11_worthOfChoice 41 = .ok (.iload_n 3, 1) := by decide +kernel
theorem dX11_worthOfChoice_42 : decode cX11_worthOfChoice 42 = .ok (.if_icmp .ge 17, 3) := by decide +kernel
theorem dX11_worthOfChoice_45 : decode cX11_worthOfChoice 45 = .ok (.aload_n 0, 1) := by decide +kernel
theorem dX11_worthOfChoice_46 : decode cX11_worthOfChoice 46 = .ok (.getfield 16, 3) := by decide +kernel
theorem dX11_worthOfChoice_49 : decode cX11_worthOfChoice 49 = .ok (.iload_n 1, 1) := by decide +kernel
theorem dX11_worthOfChoice_50 : decode cX11_worthOfChoice 50 = .ok (.invokevirtual 186, 3) := by decide +kernel
theorem dX11_worthOfChoice_53 : decode cX11_worthOfChoice 53 = .ok (.iinc 4 1, 3) := by decide +kernel
theorem dX11_worthOfChoice_56 : decode cX11_worthOfChoice 56 = .ok (.goto (-17), 3) := by decide +kernel
theorem dX11_worthOfChoice_59 : decode cX11_worthOfChoice 59 = .ok (.aload_n 0, 1) := by decide +kernel
theorem dX11_worthOfChoice_60 : decode cX11_worthOfChoice 60 = .ok (.getfield 16, 3) := by decide +kernel
theorem dX11_worthOfChoice_63 : decode cX11_worthOfChoice 63 = .ok (.iload_n 1, 1) := by decide +kernel
theorem dX11_worthOfChoice_64 : decode cX11_worthOfChoice 64 = .ok (.invokevirtual 107, 3) := by decide +kernel
theorem dX11_worthOfChoice_67 : decode cX11_worthOfChoice 67 = .ok (.ifCond .eq 18, 3) := by decide +kernel
theorem dX11_worthOfChoice_70 : decode cX11_worthOfChoice 70 = .ok (.aload_n 0, 1) := by decide +kernel
theorem dX11_worthOfChoice_71 : decode cX11_worthOfChoice 71 = .ok (.getfield 16, 3) := by decide +kernel
theorem dX11_worthOfChoice_74 : decode cX11_worthOfChoice 74 = .ok (.getfield 95, 3) := by decide +kernel
theorem dX11_worthOfChoice_77 : decode cX11_worthOfChoice 77 = .ok (.iload_n 1, 1) := by decide +kernel
theorem dX11_worthOfChoice_78 : decode cX11_worthOfChoice 78 = .ok (.iaload, 1) := by decide +kernel
theorem dX11_worthOfChoice_79 : decode cX11_worthOfChoice 79 = .ok (.bipush 20, 2) := by decide +kernel
theorem dX11_worthOfChoice_81 : decode cX11_worthOfChoice 81 = .ok (.idiv, 1) := by decide +kernel
theorem dX11_worthOfChoice_82 : decode cX11_worthOfChoice 82 = .ok (.goto 5, 3) := by decide +kernel
theorem dX11_worthOfChoice_85 : decode cX11_worthOfChoice 85 = .ok (.bipush 6, 2) := by decide +kernel
theorem dX11_worthOfChoice_87 : decode cX11_worthOfChoice 87 = .ok (.iload_n 2, 1) := by decide +kernel
theorem dX11_worthOfChoice_88 : decode cX11_worthOfChoice 88 = .ok (.isub, 1) := by decide +kernel
theorem dX11_worthOfChoice_89 : decode cX11_worthOfChoice 89 = .ok (.ireturn, 1) := by decide +kernel
theorem dX11_hasLeftBehindFeasts_0 : decode cX11_hasLeftBehindFeasts 0 = .ok (.aload_n 0, 1) := by decide +kernel
theorem dX11_hasLeftBehindFeasts_1 : decode cX11_hasLeftBehindFeasts 1 = .ok (.getfield 16, 3) := by decide +kernel
theorem dX11_hasLeftBehindFeasts_4 : decode cX11_hasLeftBehindFeasts 4 = .ok (.aload_n 0, 1) := by decide +kernel
theorem dX11_hasLeftBehindFeasts_5 : decode cX11_hasLeftBehindFeasts 5 = .ok (.getfield 10, 3) := by decide +kernel
theorem dX11_hasLeftBehindFeasts_8 : decode cX11_hasLeftBehindFeasts 8 = .ok (.invokevirtual 70, 3) := by decide +kernel
theorem dX11_hasLeftBehindFeasts_11 : decode cX11_hasLeftBehindFeasts 11 = .ok (.iconst 0, 1) := by decide +kernel
theorem dX11_hasLeftBehindFeasts_12 : decode cX11_hasLeftBehindFeasts 12 = .ok (.istore 4, 2) := by decide +kernel
theorem dX11_hasLeftBehindFeasts_14 : decode cX11_hasLeftBehindFeasts 14 = .ok (.iload 4, 2) := by decide +kernel
theorem dX11_hasLeftBehindFeasts_16 : decode cX11_hasLeftBehindFeasts 16 = .ok (.iload_n 2, 1) := by decide +kernel
theorem dX11_hasLeftBehindFeasts_17 : decode cX11_hasLeftBehindFeasts 17 = .ok (.if_icmp .ge 70, 3) := by decide +kernel
theorem dX11_hasLeftBehindFeasts_20 : decode cX11_hasLeftBehindFeasts 20 = .ok (.iload_n 3, 1) := by decide +kernel
theorem dX11_hasLeftBehindFeasts_21 : decode cX11_hasLeftBehindFeasts 21 = .ok (.iload 4, 2) := by decide +kernel
theorem dX11_hasLeftBehindFeasts_23 : decode cX11_hasLeftBehindFeasts 23 = .ok (.ishr, 1) := by decide +kernel
theorem dX11_hasLeftBehindFeasts_24 : decode cX11_hasLeftBehindFeasts 24 = .ok (.iconst 1, 1) := by decide +kernel
theorem dX11_hasLeftBehindFeasts_25 : decode cX11_hasLeftBehindFeasts 25 = .ok (.iand, 1) := by decide +kernel
theorem dX11_hasLeftBehindFeasts_26 : decode cX11_hasLeftBehindFeasts 26 = .ok (.iconst 1, 1) := by decide +kernel
theorem dX11_hasLeftBehindFeasts_27 : decode cX11_hasLeftBehindFeasts 27 = .ok (.if_icmp .ne 7, 3) := by decide +kernel
theorem dX11_hasLeftBehindFeasts_30 : decode cX11_hasLeftBehindFeasts 30 = .ok (.iconst 1, 1) := by decide +kernel
theorem dX11_hasLeftBehindFeasts_31 : decode cX11_hasLeftBehindFeasts 31 = .ok (.goto 4, 3) := by decide +kernel
theorem dX11_hasLeftBehindFeasts_34 : decode cX11_hasLeftBehindFeasts 34 = .ok (.iconst 0, 1) := by decide +kernel
theorem dX11_hasLeftBehindFeasts_35 : decode cX11_hasLeftBehindFeasts 35 = .ok (.istore 5, 2) := by decide +kernel
theorem dX11_hasLeftBehindFeasts_37 : decode cX11_hasLeftBehindFeasts 37 = .ok (.aload_n 0, 1) := by decide +kernel
theorem dX11_hasLeftBehindFeasts_38 : decode cX11_hasLeftBehindFeasts 38 = .ok (.getfield 16, 3) := by decide +kernel
theorem dX11_hasLeftBehindFeasts_41 : decode cX11_hasLeftBehindFeasts 41 = .ok (.iload 5, 2) := by decide +kernel
theorem dX11_hasLeftBehindFeasts_43 : decode cX11_hasLeftBehindFeasts 43 = .ok (.ifCond .eq 20, 3) := by decide +kernel
theorem dX11_hasLeftBehindFeasts_46 : decode cX11_hasLeftBehindFeasts 46 = .ok (.bipush 9, 2) := by decide +kernel
theorem dX11_hasLeftBehindFeasts_48 : decode cX11_hasLeftBehindFeasts 48 = .ok (.aload_n 0, 1) := by decide +kernel
theorem dX11_hasLeftBehindFeasts_49 : decode cX11_hasLeftBehindFeasts 49 = .ok (.getfield 10, 3) := by decide +kernel
theorem dX11_hasLeftBehindFeasts_52 : decode cX11_hasLeftBehindFeasts 52 = .ok (.getfield 159, 3) := by decide +kernel
theorem dX11_hasLeftBehindFeasts_55 : decode cX11_hasLeftBehindFeasts 55 = .ok (.iconst 3, 1) := by decide +kernel
theorem dX11_hasLeftBehindFeasts_56 : decode cX11_hasLeftBehindFeasts 56 = .ok (.iadd, 1) := by decide +kernel
theorem dX11_hasLeftBehindFeasts_57 : decode cX11_hasLeftBehindFeasts 57 = .ok (.invokestatic 296, 3) := by decide +kernel
theorem dX11_hasLeftBehindFeasts_60 : decode cX11_hasLeftBehindFeasts 60 = .ok (.goto 10, 3) := by decide +kernel
theorem dX11_hasLeftBehindFeasts_63 : decode cX11_hasLeftBehindFeasts 63 = .ok (.aload_n 0, 1) := by decide +kernel
theorem dX11_hasLeftBehindFeasts_64 : decode cX11_hasLeftBehindFeasts 64 = .ok (.getfield 10, 3) := by decide +kernel
theorem dX11_hasLeftBehindFeasts_67 : decode cX11_hasLeftBehindFeasts 67 = .ok (.getfield 159, 3) := by decide +kernel
theorem dX11_hasLeftBehindFeasts_70 : decode cX11_hasLeftBehindFeasts 70 = .ok (.putfield 159, 3) := by decide +kernel
theorem dX11_hasLeftBehindFeasts_73 : decode cX11_hasLeftBehindFeasts 73 = .ok (.aload_n 0, 1) := by decide +kernel
theorem dX11_hasLeftBehindFeasts_74 : decode cX11_hasLeftBehindFeasts 74 = .ok (.getfield 16, 3) := by decide +kernel
theorem dX11_hasLeftBehindFeasts_77 : decode cX11_hasLeftBehindFeasts 77 = .ok (.iload_n 1, 1) := by decide +kernel
theorem dX11_hasLeftBehindFeasts_78 : decode cX11_hasLeftBehindFeasts 78 = .ok (.invokevirtual 186, 3) := by decide +kernel
theorem dX11_hasLeftBehindFeasts_81 : decode cX11_hasLeftBehindFeasts 81 = .ok (.iinc 4 1, 3) := by decide +kernel
theorem dX11_hasLeftBehindFeasts_84 : decode cX11_hasLeftBehindFeasts 84 = .ok (.goto (-70), 3) := by decide +kernel
theorem dX11_hasLeftBehindFeasts_87 : decode cX11_hasLeftBehindFeasts 87 = .ok (.aload_n 0, 1) := by decide +kernel
theorem dX11_hasLeftBehindFeasts_88 : decode cX11_hasLeftBehindFeasts 88 = .ok (.getfield 16, 3) := by decide +kernel
theorem dX11_hasLeftBehindFeasts_91 : decode cX11_hasLeftBehindFeasts 91 = .ok (.iload_n 1, 1) := by decide +kernel
theorem dX11_hasLeftBehindFeasts_92 : decode cX11_hasLeftBehindFeasts 92 = .ok (.invokevirtual 107, 3) := by decide +kernel
theorem dX11_hasLeftBehindFeasts_95 : decode cX11_hasLeftBehindFeasts 95 = .ok (.ifCond .ne 7, 3) := by decide +kernel
theorem dX11_hasLeftBehindFeasts_98 : decode cX11_hasLeftBehindFeasts 98 = .ok (.iconst 1, 1) := by decide +kernel
theorem dX11_hasLeftBehindFeasts_99 : decode cX11_hasLeftBehindFeasts 99 = .ok (.goto 4, 3) := by decide +kernel
theorem dX11_hasLeftBehindFeasts_102 : decode cX11_hasLeftBehindFeasts 102 = .ok (.iconst 0, 1) := by decide +kernel
theorem dX11_hasLeftBehindFeasts_103 : decode cX11_hasLeftBehindFeasts 103 = .ok (.ireturn, 1) := by decide +kernel
theorem dX11_forged_0 : decode cX11_forged 0 = .ok (.iload_n 1, 1) := by decide +kernel
theorem dX11_forged_1 : decode cX11_forged 1 = .ok (.invokestatic 45, 3) := by decide +kernel
theorem dX11_forged_4 : decode cX11_forged 4 = .ok (.ifCond .ne 5, 3) := by decide +kernel
theorem dX11_forged_7 : decode cX11_forged 7 = .ok (.iconst (-1), 1) := by decide +kernel
theorem dX11_forged_8 : decode cX11_forged 8 = .ok (.ireturn, 1) := by decide +kernel
theorem dX11_forged_9 : decode cX11_forged 9 = .ok (.aload_n 0, 1) := by decide +kernel
theorem dX11_forged_10 : decode cX11_forged 10 = .ok (.iload_n 1, 1) := by decide +kernel
theorem dX11_forged_11 : decode cX11_forged 11 = .ok (.invokevirtual 49, 3) := by decide +kernel
theorem dX11_forged_14 : decode cX11_forged 14 = .ok (.astore_n 2, 1) := by decide +kernel
theorem dX11_forged_15 : decode cX11_forged 15 = .ok (.aload_n 2, 1) := by decide +kernel
theorem dX11_forged_16 : decode cX11_forged 16 = .ok (.ifnonnull 9, 3) := by decide +kernel
theorem dX11_forged_19 : decode cX11_forged 19 = .ok (.aload_n 0, 1) := by decide +kernel
theorem dX11_forged_20 : decode cX11_forged 20 = .ok (.iload_n 1, 1) := by decide +kernel
theorem dX11_forged_21 : decode cX11_forged 21 = .ok (.invokevirtual 53, 3) := by decide +kernel
theorem dX11_forged_24 : decode cX11_forged 24 = .ok (.ireturn, 1) := by decide +kernel
theorem dX11_forged_25 : decode cX11_forged 25 = .ok (.iconst 0, 1) := by decide +kernel
theorem dX11_forged_26 : decode cX11_forged 26 = .ok (.istore_n 3, 1) := by decide +kernel
theorem dX11_forged_27 : decode cX11_forged 27 = .ok (.iload_n 3, 1) := by decide +kernel
theorem dX11_forged_28 : decode cX11_forged 28 = .ok (.aload_n 2, 1) := by decide +kernel
theorem dX11_forged_29 : decode cX11_forged 29 = .ok (.invokevirtual 74, 3) := by decide +kernel
theorem dX11_forged_32 : decode cX11_forged 32 = .ok (.if_icmp .ge 39, 3) := by decide +kernel
theorem dX11_forged_35 : decode cX11_forged 35 = .ok (.aload_n 0, 1) := by decide +kernel
theorem dX11_forged_36 : decode cX11_forged 36 = .ok (.getfield 10, 3) := by decide +kernel
theorem dX11_forged_39 : decode cX11_forged 39 = .ok (.iload_n 3, 1) := by decide +kernel
theorem dX11_forged_40 : decode cX11_forged 40 = .ok (.invokevirtual 84, 3) := by decide +kernel
theorem dX11_forged_43 : decode cX11_forged 43 = .ok (.ifCond .eq 20, 3) := by decide +kernel
theorem dX11_forged_46 : decode cX11_forged 46 = .ok (.aload_n 2, 1) := by decide +kernel
theorem dX11_forged_47 : decode cX11_forged 47 = .ok (.iload_n 3, 1) := by decide +kernel
theorem dX11_forged_48 : decode cX11_forged 48 = .ok (.invokevirtual 293, 3) := by decide +kernel
theorem dX11_forged_51 : decode cX11_forged 51 = .ok (.aload_n 0, 1) := by decide +kernel
theorem dX11_forged_52 : decode cX11_forged 52 = .ok (.getfield 10, 3) := by decide +kernel
theorem dX11_forged_55 : decode cX11_forged 55 = .ok (.getfield 98, 3) := by decide +kernel
theorem dX11_forged_58 : decode cX11_forged 58 = .ok (.iload_n 3, 1) := by decide +kernel
theorem dX11_forged_59 : decode cX11_forged 59 = .ok (.iaload, 1) := by decide +kernel
theorem dX11_forged_60 : decode cX11_forged 60 = .ok (.if_icmp .eq 5, 3) := by decide +kernel
theorem dX11_forged_63 : decode cX11_forged 63 = .ok (.iload_n 3, 1) := by decide +kernel
theorem dX11_forged_64 : decode cX11_forged 64 = .ok (.ireturn, 1) := by decide +kernel
theorem dX11_forged_65 : decode cX11_forged 65 = .ok (.iinc 3 1, 3) := by decide +kernel
theorem dX11_forged_68 : decode cX11_forged 68 = .ok (.goto (-41), 3) := by decide +kernel
theorem dX11_forged_71 : decode cX11_forged 71 = .ok (.bipush (-4), 2) := by decide +kernel
theorem dX11_forged_73 : decode cX11_forged 73 = .ok (.ireturn, 1) := by decide +kernel
theorem dX11_judge_0 : decode cX11_judge 0 = .ok (.iload_n 1, 1) := by decide +kernel
theorem dX11_judge_1 : decode cX11_judge 1 = .ok (.invokestatic 45, 3) := by decide +kernel
theorem dX11_judge_4 : decode cX11_judge 4 = .ok (.ifCond .ne 5, 3) := by decide +kernel
theorem dX11_judge_7 : decode cX11_judge 7 = .ok (.iconst (-1), 1) := by decide +kernel
theorem dX11_judge_8 : decode cX11_judge 8 = .ok (.ireturn, 1) := by decide +kernel
theorem dX11_judge_9 : decode cX11_judge 9 = .ok (.aload_n 0, 1) := by decide +kernel
theorem dX11_judge_10 : decode cX11_judge 10 = .ok (.iload_n 1, 1) := by decide +kernel
theorem dX11_judge_11 : decode cX11_judge 11 = .ok (.invokevirtual 49, 3) := by decide +kernel
theorem dX11_judge_14 : decode cX11_judge 14 = .ok (.astore_n 2, 1) := by decide +kernel
theorem dX11_judge_15 : decode cX11_judge 15 = .ok (.aload_n 2, 1) := by decide +kernel
theorem dX11_judge_16 : decode cX11_judge 16 = .ok (.ifnonnull 9, 3) := by decide +kernel
theorem dX11_judge_19 : decode cX11_judge 19 = .ok (.aload_n 0, 1) := by decide +kernel
theorem dX11_judge_20 : decode cX11_judge 20 = .ok (.iload_n 1, 1) := by decide +kernel
theorem dX11_judge_21 : decode cX11_judge 21 = .ok (.invokevirtual 53, 3) := by decide +kernel
theorem dX11_judge_24 : decode cX11_judge 24 = .ok (.ireturn, 1) := by decide +kernel
theorem dX11_judge_25 : decode cX11_judge 25 = .ok (.aload_n 0, 1) := by decide +kernel
theorem dX11_judge_26 : decode cX11_judge 26 = .ok (.getfield 16, 3) := by decide +kernel
theorem dX11_judge_29 : decode cX11_judge 29 = .ok (.aload_n 0, 1) := by decide +kernel
theorem dX11_judge_30 : decode cX11_judge 30 = .ok (.getfield 10, 3) := by decide +kernel
theorem dX11_judge_33 : decode cX11_judge 33 = .ok (.invokevirtual 70, 3) := by decide +kernel
theorem dX11_judge_36 : decode cX11_judge 36 = .ok (.iconst 0, 1) := by decide +kernel
theorem dX11_judge_37 : decode cX11_judge 37 = .ok (.istore_n 3, 1) := by decide +kernel
theorem dX11_judge_38 : decode cX11_judge 38 = .ok (.iload_n 3, 1) := by decide +kernel
theorem dX11_judge_39 : decode cX11_judge 39 = .ok (.aload_n 2, 1) := by decide +kernel
theorem dX11_judge_40 : decode cX11_judge 40 = .ok (.invokevirtual 74, 3) := by decide +kernel
theorem dX11_judge_43 : decode cX11_judge 43 = .ok (.if_icmp .ge 41, 3) := by decide +kernel
theorem dX11_judge_46 : decode cX11_judge 46 = .ok (.aload_n 2, 1) := by decide +kernel
theorem dX11_judge_47 : decode cX11_judge 47 = .ok (.iload_n 3, 1) := by decide +kernel
theorem dX11_judge_48 : decode cX11_judge 48 = .ok (.invokevirtual 290, 3) := by decide +kernel
theorem dX11_judge_51 : decode cX11_judge 51 = .ok (.ifCond .ne 20, 3) := by decide +kernel
theorem dX11_judge_54 : decode cX11_judge 54 = .ok (.aload_n 2, 1) := by decide +kernel
theorem dX11_judge_55 : decode cX11_judge 55 = .ok (.iload_n 3, 1) := by decide +kernel
theorem dX11_judge_56 : decode cX11_judge 56 = .ok (.invokevirtual 293, 3) := by decide +kernel
theorem dX11_judge_59 : decode cX11_judge 59 = .ok (.aload_n 0, 1) := by decide +kernel
theorem dX11_judge_60 : decode cX11_judge 60 = .ok (.getfield 16, 3) := by decide +kernel
theorem dX11_judge_63 : decode cX11_judge 63 = .ok (.invokevirtual 180, 3) := by decide +kernel
theorem dX11_judge_66 : decode cX11_judge 66 = .ok (.if_icmp .eq 5, 3) := by decide +kernel
theorem dX11_judge_69 : decode cX11_judge 69 = .ok (.iload_n 3, 1) := by decide +kernel
theorem dX11_judge_70 : decode cX11_judge 70 = .ok (.ireturn, 1) := by decide +kernel
theorem dX11_judge_71 : decode cX11_judge 71 = .ok (.aload_n 0, 1) := by decide +kernel
theorem dX11_judge_72 : decode cX11_judge 72 = .ok (.getfield 16, 3) := by decide +kernel
theorem dX11_judge_75 : decode cX11_judge 75 = .ok (.invokevirtual 195, 3) := by decide +kernel
theorem dX11_judge_78 : decode cX11_judge 78 = .ok (.iinc 3 1, 3) := by decide +kernel
theorem dX11_judge_81 : decode cX11_judge 81 = .ok (.goto (-43), 3) := by decide +kernel
theorem dX11_judge_84 : decode cX11_judge 84 = .ok (.bipush (-4), 2) := by decide +kernel
theorem dX11_judge_86 : decode cX11_judge 86 = .ok (.ireturn, 1) := by decide +kernel
theorem dX11_seasons_0 : decode cX11_seasons 0 = .ok (.iload_n 1, 1) := by decide +kernel
theorem dX11_seasons_1 : decode cX11_seasons 1 = .ok (.iconst 1, 1) := by decide +kernel
theorem dX11_seasons_2 : decode cX11_seasons 2 = .ok (.if_icmp .lt 18, 3) := by decide +kernel
theorem dX11_seasons_5 : decode cX11_seasons 5 = .ok (.iload_n 1, 1) := by decide +kernel
theorem dX11_seasons_6 : decode cX11_seasons 6 = .ok (.bipush 20, 2) := by decide +kernel
theorem dX11_seasons_8 : decode cX11_seasons 8 = .ok (.if_icmp .gt 12, 3) := by decide +kernel
theorem dX11_seasons_11 : decode cX11_seasons 11 = .ok (.iload_n 3, 1) := by decide +kernel
theorem dX11_seasons_12 : decode cX11_seasons 12 = .ok (.ifCond .lt 8, 3) := by decide +kernel
theorem dX11_seasons_15 : decode cX11_seasons 15 = .ok (.iload_n 3, 1) := by decide +kernel
theorem dX11_seasons_16 : decode cX11_seasons 16 = .ok (.iconst 1, 1) := by decide +kernel
theorem dX11_seasons_17 : decode cX11_seasons 17 = .ok (.if_icmp .le 5, 3) := by decide +kernel
theorem dX11_seasons_20 : decode cX11_seasons 20 = .ok (.iconst (-1), 1) := by decide +kernel
theorem dX11_seasons_21 : decode cX11_seasons 21 = .ok (.ireturn, 1) := by decide +kernel
theorem dX11_seasons_22 : decode cX11_seasons 22 = .ok (.iload_n 2, 1) := by decide +kernel
theorem dX11_seasons_23 : decode cX11_seasons 23 = .ok (.istore 4, 2) := by decide +kernel
theorem dX11_seasons_25 : decode cX11_seasons 25 = .ok (.iconst 0, 1) := by decide +kernel
theorem dX11_seasons_26 : decode cX11_seasons 26 = .ok (.istore 5, 2) := by decide +kernel
theorem dX11_seasons_28 : decode cX11_seasons 28 = .ok (.iconst 0, 1) := by decide +kernel
theorem dX11_seasons_29 : decode cX11_seasons 29 = .ok (.istore 6, 2) := by decide +kernel
theorem dX11_seasons_31 : decode cX11_seasons 31 = .ok (.iconst 0, 1) := by decide +kernel
theorem dX11_seasons_32 : decode cX11_seasons 32 = .ok (.istore 7, 2) := by decide +kernel
theorem dX11_seasons_34 : decode cX11_seasons 34 = .ok (.iload 7, 2) := by decide +kernel
theorem dX11_seasons_36 : decode cX11_seasons 36 = .ok (.iload_n 1, 1) := by decide +kernel
theorem dX11_seasons_37 : decode cX11_seasons 37 = .ok (.if_icmp .ge 121, 3) := by decide +kernel
theorem dX11_seasons_40 : decode cX11_seasons 40 = .ok (.aload_n 0, 1) := by decide +kernel
theorem dX11_seasons_41 : decode cX11_seasons 41 = .ok (.getfield 16, 3) := by decide +kernel
theorem dX11_seasons_44 : decode cX11_seasons 44 = .ok (.aload_n 0, 1) := by decide +kernel
theorem dX11_seasons_45 : decode cX11_seasons 45 = .ok (.getfield 10, 3) := by decide +kernel
theorem dX11_seasons_48 : decode cX11_seasons 48 = .ok (.invokevirtual 70, 3) := by decide +kernel
theorem dX11_seasons_51 : decode cX11_seasons 51 = .ok (.iconst 0, 1) := by decide +kernel
theorem dX11_seasons_52 : decode cX11_seasons 52 = .ok (.istore 8, 2) := by decide +kernel
theorem dX11_seasons_54 : decode cX11_seasons 54 = .ok (.iload 8, 2) := by decide +kernel
theorem dX11_seasons_56 : decode cX11_seasons 56 = .ok (.aload_n 0, 1) := by decide +kernel
theorem dX11_seasons_57 : decode cX11_seasons 57 = .ok (.getfield 10, 3) := by decide +kernel
theorem dX11_seasons_60 : decode cX11_seasons 60 = .ok (.getfield 134, 3) := by decide +kernel
theorem dX11_seasons_63 : decode cX11_seasons 63 = .ok (.if_icmp .ge 45, 3) := by decide +kernel
theorem dX11_seasons_66 : decode cX11_seasons 66 = .ok (.aload_n 0, 1) := by decide +kernel
theorem dX11_seasons_67 : decode cX11_seasons 67 = .ok (.getfield 10, 3) := by decide +kernel
theorem dX11_seasons_70 : decode cX11_seasons 70 = .ok (.iload 8, 2) := by decide +kernel
theorem dX11_seasons_72 : decode cX11_seasons 72 = .ok (.invokevirtual 107, 3) := by decide +kernel
theorem dX11_seasons_75 : decode cX11_seasons 75 = .ok (.ifCond .eq 27, 3) := by decide +kernel
theorem dX11_seasons_78 : decode cX11_seasons 78 = .ok (.iload 4, 2) := by decide +kernel
theorem dX11_seasons_80 : decode cX11_seasons 80 = .ok (.invokestatic 309, 3) := by decide +kernel
theorem dX11_seasons_83 : decode cX11_seasons 83 = .ok (.istore 4, 2) := by decide +kernel
theorem dX11_seasons_85 : decode cX11_seasons 85 = .ok (.aload_n 0, 1) := by decide +kernel
theorem dX11_seasons_86 : decode cX11_seasons 86 = .ok (.getfield 16, 3) := by decide +kernel
theorem dX11_seasons_89 : decode cX11_seasons 89 = .ok (.getfield 95, 3) := by decide +kernel
theorem dX11_seasons_92 : decode cX11_seasons 92 = .ok (.iload 8, 2) := by decide +kernel
theorem dX11_seasons_94 : decode cX11_seasons 94 = .ok (.bipush 100, 2) := by decide +kernel
theorem dX11_seasons_96 : decode cX11_seasons 96 = .ok (.iload 4, 2) := by decide +kernel
theorem dX11_seasons_98 : decode cX11_seasons 98 = .ok (.invokestatic 312, 3) := by decide +kernel
theorem dX11_seasons_101 : decode cX11_seasons 101 = .ok (.iastore, 1) := by decide +kernel
theorem dX11_seasons_102 : decode cX11_seasons 102 = .ok (.iinc 8 1, 3) := by decide +kernel
theorem dX11_seasons_105 : decode cX11_seasons 105 = .ok (.goto (-51), 3) := by decide +kernel
theorem dX11_seasons_108 : decode cX11_seasons 108 = .ok (.aload_n 0, 1) := by decide +kernel
theorem dX11_seasons_109 : decode cX11_seasons 109 = .ok (.getfield 16, 3) := by decide +kernel
theorem dX11_seasons_112 : decode cX11_seasons 112 = .ok (.bipush 9, 2) := by decide +kernel
theorem dX11_seasons_114 : decode cX11_seasons 114 = .ok (.invokevirtual 168, 3) := by decide +kernel
theorem dX11_seasons_117 : decode cX11_seasons 117 = .ok (.iload 5, 2) := by decide +kernel
theorem dX11_seasons_119 : decode cX11_seasons 119 = .ok (.aload_n 0, 1) := by decide +kernel
theorem dX11_seasons_120 : decode cX11_seasons 120 = .ok (.getfield 16, 3) := by decide +kernel
theorem dX11_seasons_123 : decode cX11_seasons 123 = .ok (.getfield 171, 3) := by decide +kernel
theorem dX11_seasons_126 : decode cX11_seasons 126 = .ok (.aload_n 0, 1) := by decide +kernel
theorem dX11_seasons_127 : decode cX11_seasons 127 = .ok (.getfield 10, 3) := by decide +kernel
theorem dX11_seasons_130 : decode cX11_seasons 130 = .ok (.getfield 171, 3) := by decide +kernel
theorem dX11_seasons_133 : decode cX11_seasons 133 = .ok (.isub, 1) := by decide +kernel
theorem dX11_seasons_134 : decode cX11_seasons 134 = .ok (.iadd, 1) := by decide +kernel
theorem dX11_seasons_135 : decode cX11_seasons 135 = .ok (.istore 5, 2) := by decide +kernel
theorem dX11_seasons_137 : decode cX11_seasons 137 = .ok (.iload 6, 2) := by decide +kernel
theorem dX11_seasons_139 : decode cX11_seasons 139 = .ok (.aload_n 0, 1) := by decide +kernel
theorem dX11_seasons_140 : decode cX11_seasons 140 = .ok (.getfield 16, 3) := by decide +kernel
theorem dX11_seasons_143 : decode cX11_seasons 143 = .ok (.getfield 177, 3) := by decide +kernel
theorem dX11_seasons_146 : decode cX11_seasons 146 = .ok (.invokestatic 269, 3) := by decide +kernel
theorem dX11_seasons_149 : decode cX11_seasons 149 = .ok (.iadd, 1) := by decide +kernel
theorem dX11_seasons_150 : decode cX11_seasons 150 = .ok (.istore 6, 2) := by decide +kernel
theorem dX11_seasons_152 : decode cX11_seasons 152 = .ok (.iinc 7 1, 3) := by decide +kernel
theorem dX11_seasons_155 : decode cX11_seasons 155 = .ok (.goto (-121), 3) := by decide +kernel
theorem dX11_seasons_158 : decode cX11_seasons 158 = .ok (.iload_n 3, 1) := by decide +kernel
theorem dX11_seasons_159 : decode cX11_seasons 159 = .ok (.ifCond .ne 8, 3) := by decide +kernel
theorem dX11_seasons_162 : decode cX11_seasons 162 = .ok (.iload 5, 2) := by decide +kernel
theorem dX11_seasons_164 : decode cX11_seasons 164 = .ok (.goto 5, 3) := by decide +kernel
theorem dX11_seasons_167 : decode cX11_seasons 167 = .ok (.iload 6, 2) := by decide +kernel
theorem dX11_seasons_169 : decode cX11_seasons 169 = .ok (.ireturn, 1) := by decide +kernel
theorem dX11_nextSeed_0 : decode cX11_nextSeed 0 = .ok (.iload_n 0, 1) := by decide +kernel
theorem dX11_nextSeed_1 : decode cX11_nextSeed 1 = .ok (.ldc_w 315, 3) := by decide +kernel
theorem dX11_nextSeed_4 : decode cX11_nextSeed 4 = .ok (.imul, 1) := by decide +kernel
theorem dX11_nextSeed_5 : decode cX11_nextSeed 5 = .ok (.sipush 12345, 3) := by decide +kernel
theorem dX11_nextSeed_8 : decode cX11_nextSeed 8 = .ok (.iadd, 1) := by decide +kernel
theorem dX11_nextSeed_9 : decode cX11_nextSeed 9 = .ok (.ireturn, 1) := by decide +kernel
theorem dX11_drawBelow_0 : decode cX11_drawBelow 0 = .ok (.iload_n 1, 1) := by decide +kernel
theorem dX11_drawBelow_1 : decode cX11_drawBelow 1 = .ok (.ldc_w 316, 3) := by decide +kernel
theorem dX11_drawBelow_4 : decode cX11_drawBelow 4 = .ok (.iand, 1) := by decide +kernel
theorem dX11_drawBelow_5 : decode cX11_drawBelow 5 = .ok (.ldc_w 317, 3) := by decide +kernel
theorem dX11_drawBelow_8 : decode cX11_drawBelow 8 = .ok (.idiv, 1) := by decide +kernel
theorem dX11_drawBelow_9 : decode cX11_drawBelow 9 = .ok (.istore_n 2, 1) := by decide +kernel
theorem dX11_drawBelow_10 : decode cX11_drawBelow 10 = .ok (.iload_n 0, 1) := by decide +kernel
theorem dX11_drawBelow_11 : decode cX11_drawBelow 11 = .ok (.ifCond .le 9, 3) := by decide +kernel
theorem dX11_drawBelow_14 : decode cX11_drawBelow 14 = .ok (.iload_n 2, 1) := by decide +kernel
theorem dX11_drawBelow_15 : decode cX11_drawBelow 15 = .ok (.iload_n 0, 1) := by decide +kernel
theorem dX11_drawBelow_16 : decode cX11_drawBelow 16 = .ok (.irem, 1) := by decide +kernel
theorem dX11_drawBelow_17 : decode cX11_drawBelow 17 = .ok (.goto 4, 3) := by decide +kernel
theorem dX11_drawBelow_20 : decode cX11_drawBelow 20 = .ok (.iconst 0, 1) := by decide +kernel
theorem dX11_drawBelow_21 : decode cX11_drawBelow 21 = .ok (.ireturn, 1) := by decide +kernel
theorem dX11_image_0 : decode cX11_image 0 = .ok (.aload_n 0, 1) := by decide +kernel
theorem dX11_image_1 : decode cX11_image 1 = .ok (.getfield 19, 3) := by decide +kernel
theorem dX11_image_4 : decode cX11_image 4 = .ok (.aload_n 0, 1) := by decide +kernel
theorem dX11_image_5 : decode cX11_image 5 = .ok (.getfield 10, 3) := by decide +kernel
theorem dX11_image_8 : decode cX11_image 8 = .ok (.invokevirtual 70, 3) := by decide +kernel
theorem dX11_image_11 : decode cX11_image 11 = .ok (.aload_n 0, 1) := by decide +kernel
theorem dX11_image_12 : decode cX11_image 12 = .ok (.iconst 1, 1) := by decide +kernel
theorem dX11_image_13 : decode cX11_image 13 = .ok (.putfield 22, 3) := by decide +kernel
theorem dX11_image_16 : decode cX11_image 16 = .ok (.aload_n 0, 1) := by decide +kernel
theorem dX11_image_17 : decode cX11_image 17 = .ok (.getfield 10, 3) := by decide +kernel
theorem dX11_image_20 : decode cX11_image 20 = .ok (.getfield 165, 3) := by decide +kernel
theorem dX11_image_23 : decode cX11_image 23 = .ok (.ireturn, 1) := by decide +kernel
theorem dX11_restore_0 : decode cX11_restore 0 = .ok (.aload_n 0, 1) := by decide +kernel
theorem dX11_restore_1 : decode cX11_restore 1 = .ok (.getfield 22, 3) := by decide +kernel
theorem dX11_restore_4 : decode cX11_restore 4 = .ok (.ifCond .ne 6, 3) := by decide +kernel
theorem dX11_restore_7 : decode cX11_restore 7 = .ok (.bipush (-3), 2) := by decide +kernel
theorem dX11_restore_9 : decode cX11_restore 9 = .ok (.ireturn, 1) := by decide +kernel
theorem dX11_restore_10 : decode cX11_restore 10 = .ok (.aload_n 0, 1) := by decide +kernel
theorem dX11_restore_11 : decode cX11_restore 11 = .ok (.getfield 10, 3) := by decide +kernel
theorem dX11_restore_14 : decode cX11_restore 14 = .ok (.aload_n 0, 1) := by decide +kernel
theorem dX11_restore_15 : decode cX11_restore 15 = .ok (.getfield 19, 3) := by decide +kernel
theorem dX11_restore_18 : decode cX11_restore 18 = .ok (.invokevirtual 70, 3) := by decide +kernel
theorem dX11_restore_21 : decode cX11_restore 21 = .ok (.aload_n 0, 1) := by decide +kernel
theorem dX11_restore_22 : decode cX11_restore 22 = .ok (.getfield 10, 3) := by decide +kernel
theorem dX11_restore_25 : decode cX11_restore 25 = .ok (.getfield 165, 3) := by decide +kernel
theorem dX11_restore_28 : decode cX11_restore 28 = .ok (.ireturn, 1) := by decide +kernel
theorem dX11_count_0 : decode cX11_count 0 = .ok (.iload_n 1, 1) := by decide +kernel
theorem dX11_count_1 : decode cX11_count 1 = .ok (.tableswitch 99 0 6 #[43, 51, 59, 67, 75, 83, 91], 43) := by decide +kernel
theorem dX11_count_44 : decode cX11_count 44 = .ok (.aload_n 0, 1) := by decide +kernel
theorem dX11_count_45 : decode cX11_count 45 = .ok (.getfield 10, 3) := by decide +kernel
theorem dX11_count_48 : decode cX11_count 48 = .ok (.getfield 134, 3) := by decide +kernel
theorem dX11_count_51 : decode cX11_count 51 = .ok (.ireturn, 1) := by decide +kernel
theorem dX11_count_52 : decode cX11_count 52 = .ok (.aload_n 0, 1) := by decide +kernel
theorem dX11_count_53 : decode cX11_count 53 = .ok (.getfield 10, 3) := by decide +kernel
theorem dX11_count_56 : decode cX11_count 56 = .ok (.getfield 165, 3) := by decide +kernel
theorem dX11_count_59 : decode cX11_count 59 = .ok (.ireturn, 1) := by decide +kernel
theorem dX11_count_60 : decode cX11_count 60 = .ok (.aload_n 0, 1) := by decide +kernel
theorem dX11_count_61 : decode cX11_count 61 = .ok (.getfield 10, 3) := by decide +kernel
theorem dX11_count_64 : decode cX11_count 64 = .ok (.getfield 171, 3) := by decide +kernel
theorem dX11_count_67 : decode cX11_count 67 = .ok (.ireturn, 1) := by decide +kernel
theorem dX11_count_68 : decode cX11_count 68 = .ok (.aload_n 0, 1) := by decide +kernel
theorem dX11_count_69 : decode cX11_count 69 = .ok (.getfield 10, 3) := by decide +kernel
theorem dX11_count_72 : decode cX11_count 72 = .ok (.getfield 159, 3) := by decide +kernel
theorem dX11_count_75 : decode cX11_count 75 = .ok (.ireturn, 1) := by decide +kernel
theorem dX11_count_76 : decode cX11_count 76 = .ok (.aload_n 0, 1) := by decide +kernel
theorem dX11_count_77 : decode cX11_count 77 = .ok (.getfield 10, 3) := by decide +kernel
theorem dX11_count_80 : decode cX11_count 80 = .ok (.getfield 162, 3) := by decide +kernel
theorem dX11_count_83 : decode cX11_count 83 = .ok (.ireturn, 1) := by decide +kernel
theorem dX11_count_84 : decode cX11_count 84 = .ok (.aload_n 0, 1) := by decide +kernel
theorem dX11_count_85 : decode cX11_count 85 = .ok (.getfield 10, 3) := by decide +kernel
theorem dX11_count_88 : decode cX11_count 88 = .ok (.getfield 177, 3) := by decide +kernel
theorem dX11_count_91 : decode cX11_count 91 = .ok (.ireturn, 1) := by decide +kernel
theorem dX11_count_92 : decode cX11_count 92 = .ok (.aload_n 0, 1) := by decide +kernel
theorem dX11_count_93 : decode cX11_count 93 = .ok (.getfield 10, 3) := by decide +kernel
theorem dX11_count_96 : decode cX11_count 96 = .ok (.invokevirtual 180, 3) := by decide +kernel
theorem dX11_count_99 : decode cX11_count 99 = .ok (.ireturn, 1) := by decide +kernel
theorem dX11_count_100 : decode cX11_count 100 = .ok (.iconst (-1), 1) := by decide +kernel
theorem dX11_count_101 : decode cX11_count 101 = .ok (.ireturn, 1) := by decide +kernel
theorem dX11_keep_0 : decode cX11_keep 0 = .ok (.iload_n 1, 1) := by decide +kernel
theorem dX11_keep_1 : decode cX11_keep 1 = .ok (.invokestatic 45, 3) := by decide +kernel
theorem dX11_keep_4 : decode cX11_keep 4 = .ok (.ifCond .eq 12, 3) := by decide +kernel
theorem dX11_keep_7 : decode cX11_keep 7 = .ok (.iload_n 2, 1) := by decide +kernel
theorem dX11_keep_8 : decode cX11_keep 8 = .ok (.ifCond .lt 8, 3) := by decide +kernel
theorem dX11_keep_11 : decode cX11_keep 11 = .ok (.iload_n 2, 1) := by decide +kernel
theorem dX11_keep_12 : decode cX11_keep 12 = .ok (.iconst 1, 1) := by decide +kernel
theorem dX11_keep_13 : decode cX11_keep 13 = .ok (.if_icmp .le 5, 3) := by decide +kernel
theorem dX11_keep_16 : decode cX11_keep 16 = .ok (.iconst (-1), 1) := by decide +kernel
theorem dX11_keep_17 : decode cX11_keep 17 = .ok (.ireturn, 1) := by decide +kernel
theorem dX11_keep_18 : decode cX11_keep 18 = .ok (.iload_n 2, 1) := by decide +kernel
theorem dX11_keep_19 : decode cX11_keep 19 = .ok (.iconst 1, 1) := by decide +kernel
theorem dX11_keep_20 : decode cX11_keep 20 = .ok (.if_icmp .ne 23, 3) := by decide +kernel
theorem dX11_keep_23 : decode cX11_keep 23 = .ok (.iload_n 3, 1) := by decide +kernel
theorem dX11_keep_24 : decode cX11_keep 24 = .ok (.ifCond .lt 17, 3) := by decide +kernel
theorem dX11_keep_27 : decode cX11_keep 27 = .ok (.iload_n 3, 1) := by decide +kernel
theorem dX11_keep_28 : decode cX11_keep 28 = .ok (.bipush 8, 2) := by decide +kernel
theorem dX11_keep_30 : decode cX11_keep 30 = .ok (.if_icmp .ge 11, 3) := by decide +kernel
theorem dX11_keep_33 : decode cX11_keep 33 = .ok (.iload 4, 2) := by decide +kernel
theorem dX11_keep_35 : decode cX11_keep 35 = .ok (.invokestatic 156, 3) := by decide +kernel
theorem dX11_keep_38 : decode cX11_keep 38 = .ok (.ifCond .ne 5, 3) := by decide +kernel
theorem dX11_keep_41 : decode cX11_keep 41 = .ok (.iconst (-1), 1) := by decide +kernel
theorem dX11_keep_42 : decode cX11_keep 42 = .ok (.ireturn, 1) := by decide +kernel
theorem dX11_keep_43 : decode cX11_keep 43 = .ok (.aload_n 0, 1) := by decide +kernel
theorem dX11_keep_44 : decode cX11_keep 44 = .ok (.getfield 28, 3) := by decide +kernel
theorem dX11_keep_47 : decode cX11_keep 47 = .ok (.iload_n 1, 1) := by decide +kernel
theorem dX11_keep_48 : decode cX11_keep 48 = .ok (.iload_n 2, 1) := by decide +kernel
theorem dX11_keep_49 : decode cX11_keep 49 = .ok (.iconst 1, 1) := by decide +kernel
theorem dX11_keep_50 : decode cX11_keep 50 = .ok (.if_icmp .ne 12, 3) := by decide +kernel
theorem dX11_keep_53 : decode cX11_keep 53 = .ok (.iload_n 3, 1) := by decide +kernel
theorem dX11_keep_54 : decode cX11_keep 54 = .ok (.iload 4, 2) := by decide +kernel
theorem dX11_keep_56 : decode cX11_keep 56 = .ok (.invokestatic 282, 3) := by decide +kernel
theorem dX11_keep_59 : decode cX11_keep 59 = .ok (.goto 4, 3) := by decide +kernel
theorem dX11_keep_62 : decode cX11_keep 62 = .ok (.aconst_null, 1) := by decide +kernel
theorem dX11_keep_63 : decode cX11_keep 63 = .ok (.aastore, 1) := by decide +kernel
theorem dX11_keep_64 : decode cX11_keep 64 = .ok (.aload_n 0, 1) := by decide +kernel
theorem dX11_keep_65 : decode cX11_keep 65 = .ok (.getfield 34, 3) := by decide +kernel
theorem dX11_keep_68 : decode cX11_keep 68 = .ok (.iload_n 1, 1) := by decide +kernel
theorem dX11_keep_69 : decode cX11_keep 69 = .ok (.aconst_null, 1) := by decide +kernel
theorem dX11_keep_70 : decode cX11_keep 70 = .ok (.aastore, 1) := by decide +kernel
theorem dX11_keep_71 : decode cX11_keep 71 = .ok (.iconst 0, 1) := by decide +kernel
theorem dX11_keep_72 : decode cX11_keep 72 = .ok (.ireturn, 1) := by decide +kernel
theorem dX11_row_0 : decode cX11_row 0 = .ok (.iload_n 1, 1) := by decide +kernel
theorem dX11_row_1 : decode cX11_row 1 = .ok (.invokestatic 45, 3) := by decide +kernel
theorem dX11_row_4 : decode cX11_row 4 = .ok (.ifCond .eq 18, 3) := by decide +kernel
theorem dX11_row_7 : decode cX11_row 7 = .ok (.iload_n 2, 1) := by decide +kernel
theorem dX11_row_8 : decode cX11_row 8 = .ok (.ifCond .lt 14, 3) := by decide +kernel
theorem dX11_row_11 : decode cX11_row 11 = .ok (.iload_n 2, 1) := by decide +kernel
theorem dX11_row_12 : decode cX11_row 12 = .ok (.iconst 2, 1) := by decide +kernel
theorem dX11_row_13 : decode cX11_row 13 = .ok (.if_icmp .gt 9, 3) := by decide +kernel
theorem dX11_row_16 : decode cX11_row 16 = .ok (.iload_n 3, 1) := by decide +kernel
theorem dX11_row_17 : decode cX11_row 17 = .ok (.bipush 100, 2) := by decide +kernel
theorem dX11_row_19 : decode cX11_row 19 = .ok (.if_icmp .le 5, 3) := by decide +kernel
theorem dX11_row_22 : decode cX11_row 22 = .ok (.iconst (-1), 1) := by decide +kernel
theorem dX11_row_23 : decode cX11_row 23 = .ok (.ireturn, 1) := by decide +kernel
theorem dX11_row_24 : decode cX11_row 24 = .ok (.iload_n 3, 1) := by decide +kernel
theorem dX11_row_25 : decode cX11_row 25 = .ok (.ifCond .ge 6, 3) := by decide +kernel
theorem dX11_row_28 : decode cX11_row 28 = .ok (.bipush (-14), 2) := by decide +kernel
theorem dX11_row_30 : decode cX11_row 30 = .ok (.ireturn, 1) := by decide +kernel
theorem dX11_row_31 : decode cX11_row 31 = .ok (.aload_n 0, 1) := by decide +kernel
theorem dX11_row_32 : decode cX11_row 32 = .ok (.getfield 28, 3) := by decide +kernel
theorem dX11_row_35 : decode cX11_row 35 = .ok (.iload_n 1, 1) := by decide +kernel
theorem dX11_row_36 : decode cX11_row 36 = .ok (.aconst_null, 1) := by decide +kernel
theorem dX11_row_37 : decode cX11_row 37 = .ok (.aastore, 1) := by decide +kernel
theorem dX11_row_38 : decode cX11_row 38 = .ok (.aload_n 0, 1) := by decide +kernel
theorem dX11_row_39 : decode cX11_row 39 = .ok (.getfield 34, 3) := by decide +kernel
theorem dX11_row_42 : decode cX11_row 42 = .ok (.iload_n 1, 1) := by decide +kernel
theorem dX11_row_43 : decode cX11_row 43 = .ok (.new 32, 3) := by decide +kernel
theorem dX11_row_46 : decode cX11_row 46 = .ok (.dup, 1) := by decide +kernel
theorem dX11_row_47 : decode cX11_row 47 = .ok (.iload_n 2, 1) := by decide +kernel
theorem dX11_row_48 : decode cX11_row 48 = .ok (.iload_n 3, 1) := by decide +kernel
theorem dX11_row_49 : decode cX11_row 49 = .ok (.invokespecial 318, 3) := by decide +kernel
theorem dX11_row_52 : decode cX11_row 52 = .ok (.aastore, 1) := by decide +kernel
theorem dX11_row_53 : decode cX11_row 53 = .ok (.iconst 0, 1) := by decide +kernel
theorem dX11_row_54 : decode cX11_row 54 = .ok (.ireturn, 1) := by decide +kernel
theorem dX11_put_0 : decode cX11_put 0 = .ok (.aload_n 0, 1) := by decide +kernel
theorem dX11_put_1 : decode cX11_put 1 = .ok (.iload_n 1, 1) := by decide +kernel
theorem dX11_put_2 : decode cX11_put 2 = .ok (.invokevirtual 49, 3) := by decide +kernel
theorem dX11_put_5 : decode cX11_put 5 = .ok (.astore 4, 2) := by decide +kernel
theorem dX11_put_7 : decode cX11_put 7 = .ok (.aload 4, 2) := by decide +kernel
theorem dX11_put_9 : decode cX11_put 9 = .ok (.ifnonnull 9, 3) := by decide +kernel
theorem dX11_put_12 : decode cX11_put 12 = .ok (.aload_n 0, 1) := by decide +kernel
theorem dX11_put_13 : decode cX11_put 13 = .ok (.iload_n 1, 1) := by decide +kernel
theorem dX11_put_14 : decode cX11_put 14 = .ok (.invokevirtual 53, 3) := by decide +kernel
theorem dX11_put_17 : decode cX11_put 17 = .ok (.ireturn, 1) := by decide +kernel
theorem dX11_put_18 : decode cX11_put 18 = .ok (.aload 4, 2) := by decide +kernel
theorem dX11_put_20 : decode cX11_put 20 = .ok (.iload_n 2, 1) := by decide +kernel
theorem dX11_put_21 : decode cX11_put 21 = .ok (.invokevirtual 320, 3) := by decide +kernel
theorem dX11_put_24 : decode cX11_put 24 = .ok (.ifCond .ne 6, 3) := by decide +kernel
theorem dX11_put_27 : decode cX11_put 27 = .ok (.bipush (-13), 2) := by decide +kernel
theorem dX11_put_29 : decode cX11_put 29 = .ok (.ireturn, 1) := by decide +kernel
theorem dX11_put_30 : decode cX11_put 30 = .ok (.aload 4, 2) := by decide +kernel
theorem dX11_put_32 : decode cX11_put 32 = .ok (.iload_n 2, 1) := by decide +kernel
theorem dX11_put_33 : decode cX11_put 33 = .ok (.iload_n 3, 1) := by decide +kernel
theorem dX11_put_34 : decode cX11_put 34 = .ok (.invokevirtual 323, 3) := by decide +kernel
theorem dX11_put_37 : decode cX11_put 37 = .ok (.iconst 0, 1) := by decide +kernel
theorem dX11_put_38 : decode cX11_put 38 = .ok (.ireturn, 1) := by decide +kernel
theorem dX11_element_0 : decode cX11_element 0 = .ok (.iload_n 1, 1) := by decide +kernel
theorem dX11_element_1 : decode cX11_element 1 = .ok (.invokestatic 45, 3) := by decide +kernel
theorem dX11_element_4 : decode cX11_element 4 = .ok (.ifCond .ne 14, 3) := by decide +kernel
theorem dX11_element_7 : decode cX11_element 7 = .ok (.new 326, 3) := by decide +kernel
theorem dX11_element_10 : decode cX11_element 10 = .ok (.dup, 1) := by decide +kernel
theorem dX11_element_11 : decode cX11_element 11 = .ok (.ldc_w 328, 3) := by decide +kernel
theorem dX11_element_14 : decode cX11_element 14 = .ok (.invokespecial 330, 3) := by decide +kernel
theorem dX11_element_17 : decode cX11_element 17 = .ok (.athrow, 1) := by decide +kernel
theorem dX11_element_18 : decode cX11_element 18 = .ok (.aload_n 0, 1) := by decide +kernel
theorem dX11_element_19 : decode cX11_element 19 = .ok (.iload_n 1, 1) := by decide +kernel
theorem dX11_element_20 : decode cX11_element 20 = .ok (.invokevirtual 49, 3) := by decide +kernel
theorem dX11_element_23 : decode cX11_element 23 = .ok (.astore_n 3, 1) := by decide +kernel
theorem dX11_element_24 : decode cX11_element 24 = .ok (.aload_n 3, 1) := by decide +kernel
theorem dX11_element_25 : decode cX11_element 25 = .ok (.ifnonnull 14, 3) := by decide +kernel
theorem dX11_element_28 : decode cX11_element 28 = .ok (.new 333, 3) := by decide +kernel
theorem dX11_element_31 : decode cX11_element 31 = .ok (.dup, 1) := by decide +kernel
theorem dX11_element_32 : decode cX11_element 32 = .ok (.ldc_w 335, 3) := by decide +kernel
theorem dX11_element_35 : decode cX11_element 35 = .ok (.invokespecial 337, 3) := by decide +kernel
theorem dX11_element_38 : decode cX11_element 38 = .ok (.athrow, 1) := by decide +kernel
theorem dX11_element_39 : decode cX11_element 39 = .ok (.aload_n 3, 1) := by decide +kernel
theorem dX11_element_40 : decode cX11_element 40 = .ok (.iload_n 2, 1) := by decide +kernel
theorem dX11_element_41 : decode cX11_element 41 = .ok (.invokevirtual 320, 3) := by decide +kernel
theorem dX11_element_44 : decode cX11_element 44 = .ok (.ifCond .ne 14, 3) := by decide +kernel
theorem dX11_element_47 : decode cX11_element 47 = .ok (.new 333, 3) := by decide +kernel
theorem dX11_element_50 : decode cX11_element 50 = .ok (.dup, 1) := by decide +kernel
theorem dX11_element_51 : decode cX11_element 51 = .ok (.ldc_w 338, 3) := by decide +kernel
theorem dX11_element_54 : decode cX11_element 54 = .ok (.invokespecial 337, 3) := by decide +kernel
theorem dX11_element_57 : decode cX11_element 57 = .ok (.athrow, 1) := by decide +kernel
theorem dX11_element_58 : decode cX11_element 58 = .ok (.aload_n 3, 1) := by decide +kernel
theorem dX11_element_59 : decode cX11_element 59 = .ok (.iload_n 2, 1) := by decide +kernel
theorem dX11_element_60 : decode cX11_element 60 = .ok (.invokevirtual 293, 3) := by decide +kernel
theorem dX11_element_63 : decode cX11_element 63 = .ok (.i2l, 1) := by decide +kernel
theorem dX11_element_64 : decode cX11_element 64 = .ok (.lreturn, 1) := by decide +kernel
theorem dX11_copy_0 : decode cX11_copy 0 = .ok (.iload_n 1, 1) := by decide +kernel
theorem dX11_copy_1 : decode cX11_copy 1 = .ok (.invokestatic 45, 3) := by decide +kernel
theorem dX11_copy_4 : decode cX11_copy 4 = .ok (.ifCond .eq 10, 3) := by decide +kernel
theorem dX11_copy_7 : decode cX11_copy 7 = .ok (.iload_n 3, 1) := by decide +kernel
theorem dX11_copy_8 : decode cX11_copy 8 = .ok (.invokestatic 45, 3) := by decide +kernel
theorem dX11_copy_11 : decode cX11_copy 11 = .ok (.ifCond .ne 5, 3) := by decide +kernel
theorem dX11_copy_14 : decode cX11_copy 14 = .ok (.iconst (-1), 1) := by decide +kernel
theorem dX11_copy_15 : decode cX11_copy 15 = .ok (.ireturn, 1) := by decide +kernel
theorem dX11_copy_16 : decode cX11_copy 16 = .ok (.aload_n 0, 1) := by decide +kernel
theorem dX11_copy_17 : decode cX11_copy 17 = .ok (.iload_n 1, 1) := by decide +kernel
theorem dX11_copy_18 : decode cX11_copy 18 = .ok (.invokevirtual 340, 3) := by decide +kernel
theorem dX11_copy_21 : decode cX11_copy 21 = .ok (.ifCond .ne 11, 3) := by decide +kernel
theorem dX11_copy_24 : decode cX11_copy 24 = .ok (.aload_n 0, 1) := by decide +kernel
theorem dX11_copy_25 : decode cX11_copy 25 = .ok (.iload_n 3, 1) := by decide +kernel
theorem dX11_copy_26 : decode cX11_copy 26 = .ok (.invokevirtual 340, 3) := by decide +kernel
theorem dX11_copy_29 : decode cX11_copy 29 = .ok (.ifCond .eq 6, 3) := by decide +kernel
theorem dX11_copy_32 : decode cX11_copy 32 = .ok (.bipush (-11), 2) := by decide +kernel
theorem dX11_copy_34 : decode cX11_copy 34 = .ok (.ireturn, 1) := by decide +kernel
theorem dX11_copy_35 : decode cX11_copy 35 = .ok (.aload_n 0, 1) := by decide +kernel
theorem dX11_copy_36 : decode cX11_copy 36 = .ok (.iload_n 1, 1) := by decide +kernel
theorem dX11_copy_37 : decode cX11_copy 37 = .ok (.invokevirtual 49, 3) := by decide +kernel
theorem dX11_copy_40 : decode cX11_copy 40 = .ok (.astore 6, 2) := by decide +kernel
theorem dX11_copy_42 : decode cX11_copy 42 = .ok (.aload_n 0, 1) := by decide +kernel
theorem dX11_copy_43 : decode cX11_copy 43 = .ok (.iload_n 3, 1) := by decide +kernel
theorem dX11_copy_44 : decode cX11_copy 44 = .ok (.invokevirtual 49, 3) := by decide +kernel
theorem dX11_copy_47 : decode cX11_copy 47 = .ok (.astore 7, 2) := by decide +kernel
theorem dX11_copy_49 : decode cX11_copy 49 = .ok (.aload 6, 2) := by decide +kernel
theorem dX11_copy_51 : decode cX11_copy 51 = .ok (.ifnull 21, 3) := by decide +kernel
theorem dX11_copy_54 : decode cX11_copy 54 = .ok (.aload 7, 2) := by decide +kernel
theorem dX11_copy_56 : decode cX11_copy 56 = .ok (.ifnull 16, 3) := by decide +kernel
theorem dX11_copy_59 : decode cX11_copy 59 = .ok (.aload 6, 2) := by decide +kernel
theorem dX11_copy_61 : decode cX11_copy 61 = .ok (.getfield 57, 3) := by decide +kernel
theorem dX11_copy_64 : decode cX11_copy 64 = .ok (.aload 7, 2) := by decide +kernel
theorem dX11_copy_66 : decode cX11_copy 66 = .ok (.getfield 57, 3) := by decide +kernel
theorem dX11_copy_69 : decode cX11_copy 69 = .ok (.if_icmp .eq 6, 3) := by decide +kernel
theorem dX11_copy_72 : decode cX11_copy 72 = .ok (.bipush (-12), 2) := by decide +kernel
theorem dX11_copy_74 : decode cX11_copy 74 = .ok (.ireturn, 1) := by decide +kernel
theorem dX11_copy_75 : decode cX11_copy 75 = .ok (.aload 6, 2) := by decide +kernel
theorem dX11_copy_77 : decode cX11_copy 77 = .ok (.iload_n 2, 1) := by decide +kernel
theorem dX11_copy_78 : decode cX11_copy 78 = .ok (.iload 5, 2) := by decide +kernel
theorem dX11_copy_80 : decode cX11_copy 80 = .ok (.invokevirtual 343, 3) := by decide +kernel
theorem dX11_copy_83 : decode cX11_copy 83 = .ok (.ifCond .eq 15, 3) := by decide +kernel
theorem dX11_copy_86 : decode cX11_copy 86 = .ok (.aload 7, 2) := by decide +kernel
theorem dX11_copy_88 : decode cX11_copy 88 = .ok (.iload 4, 2) := by decide +kernel
theorem dX11_copy_90 : decode cX11_copy 90 = .ok (.iload 5, 2) := by decide +kernel
theorem dX11_copy_92 : decode cX11_copy 92 = .ok (.invokevirtual 343, 3) := by decide +kernel
theorem dX11_copy_95 : decode cX11_copy 95 = .ok (.ifCond .ne 6, 3) := by decide +kernel
theorem dX11_copy_98 : decode cX11_copy 98 = .ok (.bipush (-13), 2) := by decide +kernel
theorem dX11_copy_100 : decode cX11_copy 100 = .ok (.ireturn, 1) := by decide +kernel
theorem dX11_copy_101 : decode cX11_copy 101 = .ok (.aload 7, 2) := by decide +kernel
theorem dX11_copy_103 : decode cX11_copy 103 = .ok (.iload 4, 2) := by decide +kernel
theorem dX11_copy_105 : decode cX11_copy 105 = .ok (.aload 6, 2) := by decide +kernel
theorem dX11_copy_107 : decode cX11_copy 107 = .ok (.iload_n 2, 1) := by decide +kernel
theorem dX11_copy_108 : decode cX11_copy 108 = .ok (.iload 5, 2) := by decide +kernel
theorem dX11_copy_110 : decode cX11_copy 110 = .ok (.invokevirtual 346, 3) := by decide +kernel
theorem dX11_copy_113 : decode cX11_copy 113 = .ok (.iload 5, 2) := by decide +kernel
theorem dX11_copy_115 : decode cX11_copy 115 = .ok (.ireturn, 1) := by decide +kernel
theorem dX11_cost_0 : decode cX11_cost 0 = .ok (.aload_n 0, 1) := by decide +kernel
theorem dX11_cost_1 : decode cX11_cost 1 = .ok (.iload_n 1, 1) := by decide +kernel
theorem dX11_cost_2 : decode cX11_cost 2 = .ok (.invokevirtual 119, 3) := by decide +kernel
theorem dX11_cost_5 : decode cX11_cost 5 = .ok (.astore_n 2, 1) := by decide +kernel
theorem dX11_cost_6 : decode cX11_cost 6 = .ok (.aload_n 2, 1) := by decide +kernel
theorem dX11_cost_7 : decode cX11_cost 7 = .ok (.ifnonnull 11, 3) := by decide +kernel
theorem dX11_cost_10 : decode cX11_cost 10 = .ok (.aload_n 0, 1) := by decide +kernel
theorem dX11_cost_11 : decode cX11_cost 11 = .ok (.iload_n 1, 1) := by decide +kernel
theorem dX11_cost_12 : decode cX11_cost 12 = .ok (.invokevirtual 123, 3) := by decide +kernel
theorem dX11_cost_15 : decode cX11_cost 15 = .ok (.goto 7, 3) := by decide +kernel
theorem dX11_cost_18 : decode cX11_cost 18 = .ok (.aload_n 2, 1) := by decide +kernel
theorem dX11_cost_19 : decode cX11_cost 19 = .ok (.invokevirtual 350, 3) := by decide +kernel
theorem dX11_cost_22 : decode cX11_cost 22 = .ok (.ireturn, 1) := by decide +kernel
theorem dX11_toss_0 : decode cX11_toss 0 = .ok (.aload_n 0, 1) := by decide +kernel
theorem dX11_toss_1 : decode cX11_toss 1 = .ok (.iload_n 1, 1) := by decide +kernel
theorem dX11_toss_2 : decode cX11_toss 2 = .ok (.invokevirtual 119, 3) := by decide +kernel
theorem dX11_toss_5 : decode cX11_toss 5 = .ok (.astore_n 2, 1) := by decide +kernel
theorem dX11_toss_6 : decode cX11_toss 6 = .ok (.aload_n 2, 1) := by decide +kernel
theorem dX11_toss_7 : decode cX11_toss 7 = .ok (.ifnonnull 11, 3) := by decide +kernel
theorem dX11_toss_10 : decode cX11_toss 10 = .ok (.aload_n 0, 1) := by decide +kernel
theorem dX11_toss_11 : decode cX11_toss 11 = .ok (.iload_n 1, 1) := by decide +kernel
theorem dX11_toss_12 : decode cX11_toss 12 = .ok (.invokevirtual 123, 3) := by decide +kernel
theorem dX11_toss_15 : decode cX11_toss 15 = .ok (.goto 7, 3) := by decide +kernel
theorem dX11_toss_18 : decode cX11_toss 18 = .ok (.aload_n 2, 1) := by decide +kernel
theorem dX11_toss_19 : decode cX11_toss 19 = .ok (.invokestatic 353, 3) := by decide +kernel
theorem dX11_toss_22 : decode cX11_toss 22 = .ok (.ireturn, 1) := by decide +kernel
theorem dX11_failureOf_0 : decode cX11_failureOf 0 = .ok (.aload_n 0, 1) := by decide +kernel
theorem dX11_failureOf_1 : decode cX11_failureOf 1 = .ok (.invokevirtual 357, 3) := by decide +kernel
theorem dX11_failureOf_4 : decode cX11_failureOf 4 = .ok (.goto 28, 3) := by decide +kernel
theorem dX11_failureOf_7 : decode cX11_failureOf 7 = .ok (.astore_n 1, 1) := by decide +kernel
theorem dX11_failureOf_8 : decode cX11_failureOf 8 = .ok (.sipush 200, 3) := by decide +kernel
theorem dX11_failureOf_11 : decode cX11_failureOf 11 = .ok (.aload_n 0, 1) := by decide +kernel
theorem dX11_failureOf_12 : decode cX11_failureOf 12 = .ok (.invokevirtual 350, 3) := by decide +kernel
theorem dX11_failureOf_15 : decode cX11_failureOf 15 = .ok (.iadd, 1) := by decide +kernel
theorem dX11_failureOf_16 : decode cX11_failureOf 16 = .ok (.ireturn, 1) := by decide +kernel
theorem dX11_failureOf_17 : decode cX11_failureOf 17 = .ok (.astore_n 1, 1) := by decide +kernel
theorem dX11_failureOf_18 : decode cX11_failureOf 18 = .ok (.bipush 100, 2) := by decide +kernel
theorem dX11_failureOf_20 : decode cX11_failureOf 20 = .ok (.aload_n 0, 1) := by decide +kernel
theorem dX11_failureOf_21 : decode cX11_failureOf 21 = .ok (.getfield 92, 3) := by decide +kernel
theorem dX11_failureOf_24 : decode cX11_failureOf 24 = .ok (.iadd, 1) := by decide +kernel
theorem dX11_failureOf_25 : decode cX11_failureOf 25 = .ok (.ireturn, 1) := by decide +kernel
theorem dX11_failureOf_26 : decode cX11_failureOf 26 = .ok (.astore_n 1, 1) := by decide +kernel
theorem dX11_failureOf_27 : decode cX11_failureOf 27 = .ok (.aload_n 0, 1) := by decide +kernel
theorem dX11_failureOf_28 : decode cX11_failureOf 28 = .ok (.getfield 92, 3) := by decide +kernel
theorem dX11_failureOf_31 : decode cX11_failureOf 31 = .ok (.ireturn, 1) := by decide +kernel
theorem dX11_failureOf_32 : decode cX11_failureOf 32 = .ok (.bipush (-15), 2) := by decide +kernel
theorem dX11_failureOf_34 : decode cX11_failureOf 34 = .ok (.ireturn, 1) := by decide +kernel
theorem dX11_isShelf_0 : decode cX11_isShelf 0 = .ok (.iload_n 0, 1) := by decide +kernel
theorem dX11_isShelf_1 : decode cX11_isShelf 1 = .ok (.ifCond .lt 13, 3) := by decide +kernel
theorem dX11_isShelf_4 : decode cX11_isShelf 4 = .ok (.iload_n 0, 1) := by decide +kernel
theorem dX11_isShelf_5 : decode cX11_isShelf 5 = .ok (.bipush 8, 2) := by decide +kernel
theorem dX11_isShelf_7 : decode cX11_isShelf 7 = .ok (.if_icmp .ge 7, 3) := by decide +kernel
theorem dX11_isShelf_10 : decode cX11_isShelf 10 = .ok (.iconst 1, 1) := by decide +kernel
theorem dX11_isShelf_11 : decode cX11_isShelf 11 = .ok (.goto 4, 3) := by decide +kernel
theorem dX11_isShelf_14 : decode cX11_isShelf 14 = .ok (.iconst 0, 1) := by decide +kernel
theorem dX11_isShelf_15 : decode cX11_isShelf 15 = .ok (.ireturn, 1) := by decide +kernel
theorem dX11_holdsNothing_0 : decode cX11_holdsNothing 0 = .ok (.aload_n 0, 1) := by decide +kernel
theorem dX11_holdsNothing_1 : decode cX11_holdsNothing 1 = .ok (.iload_n 1, 1) := by decide +kernel
theorem dX11_holdsNothing_2 : decode cX11_holdsNothing 2 = .ok (.invokevirtual 119, 3) := by decide +kernel
theorem dX11_holdsNothing_5 : decode cX11_holdsNothing 5 = .ok (.ifnonnull 15, 3) := by decide +kernel
theorem dX11_holdsNothing_8 : decode cX11_holdsNothing 8 = .ok (.aload_n 0, 1) := by decide +kernel
theorem dX11_holdsNothing_9 : decode cX11_holdsNothing 9 = .ok (.iload_n 1, 1) := by decide +kernel
theorem dX11_holdsNothing_10 : decode cX11_holdsNothing 10 = .ok (.invokevirtual 49, 3) := by decide +kernel
theorem dX11_holdsNothing_13 : decode cX11_holdsNothing 13 = .ok (.ifnonnull 7, 3) := by decide +kernel
theorem dX11_holdsNothing_16 : decode cX11_holdsNothing 16 = .ok (.iconst 1, 1) := by decide +kernel
theorem dX11_holdsNothing_17 : decode cX11_holdsNothing 17 = .ok (.goto 4, 3) := by decide +kernel
theorem dX11_holdsNothing_20 : decode cX11_holdsNothing 20 = .ok (.iconst 0, 1) := by decide +kernel
theorem dX11_holdsNothing_21 : decode cX11_holdsNothing 21 = .ok (.ireturn, 1) := by decide +kernel
theorem dX11_kindOn_0 : decode cX11_kindOn 0 = .ok (.iload_n 1, 1) := by decide +kernel
theorem dX11_kindOn_1 : decode cX11_kindOn 1 = .ok (.invokestatic 45, 3) := by decide +kernel
theorem dX11_kindOn_4 : decode cX11_kindOn 4 = .ok (.ifCond .eq 12, 3) := by decide +kernel
theorem dX11_kindOn_7 : decode cX11_kindOn 7 = .ok (.aload_n 0, 1) := by decide +kernel
theorem dX11_kindOn_8 : decode cX11_kindOn 8 = .ok (.getfield 28, 3) := by decide +kernel
theorem dX11_kindOn_11 : decode cX11_kindOn 11 = .ok (.iload_n 1, 1) := by decide +kernel
theorem dX11_kindOn_12 : decode cX11_kindOn 12 = .ok (.aaload, 1) := by decide +kernel
theorem dX11_kindOn_13 : decode cX11_kindOn 13 = .ok (.goto 4, 3) := by decide +kernel
theorem dX11_kindOn_16 : decode cX11_kindOn 16 = .ok (.aconst_null, 1) := by decide +kernel
theorem dX11_kindOn_17 : decode cX11_kindOn 17 = .ok (.areturn, 1) := by decide +kernel
theorem dX11_rowOn_0 : decode cX11_rowOn 0 = .ok (.iload_n 1, 1) := by decide +kernel
theorem dX11_rowOn_1 : decode cX11_rowOn 1 = .ok (.invokestatic 45, 3) := by decide +kernel
theorem dX11_rowOn_4 : decode cX11_rowOn 4 = .ok (.ifCond .eq 12, 3) := by decide +kernel
theorem dX11_rowOn_7 : decode cX11_rowOn 7 = .ok (.aload_n 0, 1) := by decide +kernel
theorem dX11_rowOn_8 : decode cX11_rowOn 8 = .ok (.getfield 34, 3) := by decide +kernel
theorem dX11_rowOn_11 : decode cX11_rowOn 11 = .ok (.iload_n 1, 1) := by decide +kernel
theorem dX11_rowOn_12 : decode cX11_rowOn 12 = .ok (.aaload, 1) := by decide +kernel
theorem dX11_rowOn_13 : decode cX11_rowOn 13 = .ok (.goto 4, 3) := by decide +kernel
theorem dX11_rowOn_16 : decode cX11_rowOn 16 = .ok (.aconst_null, 1) := by decide +kernel
theorem dX11_rowOn_17 : decode cX11_rowOn 17 = .ok (.areturn, 1) := by decide +kernel
theorem dX11_whyNoKind_0 : decode cX11_whyNoKind 0 = .ok (.iload_n 1, 1) := by decide +kernel
theorem dX11_whyNoKind_1 : decode cX11_whyNoKind 1 = .ok (.invokestatic 45, 3) := by decide +kernel
theorem dX11_whyNoKind_4 : decode cX11_whyNoKind 4 = .ok (.ifCond .ne 5, 3) := by decide +kernel
theorem dX11_whyNoKind_7 : decode cX11_whyNoKind 7 = .ok (.iconst (-1), 1) := by decide +kernel
theorem dX11_whyNoKind_8 : decode cX11_whyNoKind 8 = .ok (.ireturn, 1) := by decide +kernel
theorem dX11_whyNoKind_9 : decode cX11_whyNoKind 9 = .ok (.aload_n 0, 1) := by decide +kernel
theorem dX11_whyNoKind_10 : decode cX11_whyNoKind 10 = .ok (.iload_n 1, 1) := by decide +kernel
theorem dX11_whyNoKind_11 : decode cX11_whyNoKind 11 = .ok (.invokevirtual 49, 3) := by decide +kernel
theorem dX11_whyNoKind_14 : decode cX11_whyNoKind 14 = .ok (.ifnonnull 8, 3) := by decide +kernel
theorem dX11_whyNoKind_17 : decode cX11_whyNoKind 17 = .ok (.bipush (-11), 2) := by decide +kernel
theorem dX11_whyNoKind_19 : decode cX11_whyNoKind 19 = .ok (.goto 5, 3) := by decide +kernel
theorem dX11_whyNoKind_22 : decode cX11_whyNoKind 22 = .ok (.bipush (-12), 2) := by decide +kernel
theorem dX11_whyNoKind_24 : decode cX11_whyNoKind 24 = .ok (.ireturn, 1) := by decide +kernel
theorem dX11_whyNoRow_0 : decode cX11_whyNoRow 0 = .ok (.iload_n 1, 1) := by decide +kernel
theorem dX11_whyNoRow_1 : decode cX11_whyNoRow 1 = .ok (.invokestatic 45, 3) := by decide +kernel
theorem dX11_whyNoRow_4 : decode cX11_whyNoRow 4 = .ok (.ifCond .ne 5, 3) := by decide +kernel
theorem dX11_whyNoRow_7 : decode cX11_whyNoRow 7 = .ok (.iconst (-1), 1) := by decide +kernel
theorem dX11_whyNoRow_8 : decode cX11_whyNoRow 8 = .ok (.ireturn, 1) := by decide +kernel
theorem dX11_whyNoRow_9 : decode cX11_whyNoRow 9 = .ok (.aload_n 0, 1) := by decide +kernel
theorem dX11_whyNoRow_10 : decode cX11_whyNoRow 10 = .ok (.iload_n 1, 1) := by decide +kernel
theorem dX11_whyNoRow_11 : decode cX11_whyNoRow 11 = .ok (.invokevirtual 119, 3) := by decide +kernel
theorem dX11_whyNoRow_14 : decode cX11_whyNoRow 14 = .ok (.ifnonnull 8, 3) := by decide +kernel
theorem dX11_whyNoRow_17 : decode cX11_whyNoRow 17 = .ok (.bipush (-11), 2) := by decide +kernel
theorem dX11_whyNoRow_19 : decode cX11_whyNoRow 19 = .ok (.goto 5, 3) := by decide +kernel
theorem dX11_whyNoRow_22 : decode cX11_whyNoRow 22 = .ok (.bipush (-12), 2) := by decide +kernel
theorem dX11_whyNoRow_24 : decode cX11_whyNoRow 24 = .ok (.ireturn, 1) := by decide +kernel
theorem dX11_areTwo_0 : decode cX11_areTwo 0 = .ok (.aload_n 0, 1) := by decide +kernel
theorem dX11_areTwo_1 : decode cX11_areTwo 1 = .ok (.getfield 10, 3) := by decide +kernel
theorem dX11_areTwo_4 : decode cX11_areTwo 4 = .ok (.iload_n 1, 1) := by decide +kernel
theorem dX11_areTwo_5 : decode cX11_areTwo 5 = .ok (.invokevirtual 84, 3) := by decide +kernel
theorem dX11_areTwo_8 : decode cX11_areTwo 8 = .ok (.ifCond .eq 23, 3) := by decide +kernel
theorem dX11_areTwo_11 : decode cX11_areTwo 11 = .ok (.aload_n 0, 1) := by decide +kernel
theorem dX11_areTwo_12 : decode cX11_areTwo 12 = .ok (.getfield 10, 3) := by decide +kernel
theorem dX11_areTwo_15 : decode cX11_areTwo 15 = .ok (.iload_n 2, 1) := by decide +kernel
theorem dX11_areTwo_16 : decode cX11_areTwo 16 = .ok (.invokevirtual 84, 3) := by decide +kernel
theorem dX11_areTwo_19 : decode cX11_areTwo 19 = .ok (.ifCond .eq 12, 3) := by decide +kernel
theorem dX11_areTwo_22 : decode cX11_areTwo 22 = .ok (.iload_n 1, 1) := by decide +kernel
theorem dX11_areTwo_23 : decode cX11_areTwo 23 = .ok (.iload_n 2, 1) := by decide +kernel
theorem dX11_areTwo_24 : decode cX11_areTwo 24 = .ok (.if_icmp .eq 7, 3) := by decide +kernel
theorem dX11_areTwo_27 : decode cX11_areTwo 27 = .ok (.iconst 1, 1) := by decide +kernel
theorem dX11_areTwo_28 : decode cX11_areTwo 28 = .ok (.goto 4, 3) := by decide +kernel
theorem dX11_areTwo_31 : decode cX11_areTwo 31 = .ok (.iconst 0, 1) := by decide +kernel
theorem dX11_areTwo_32 : decode cX11_areTwo 32 = .ok (.ireturn, 1) := by decide +kernel
theorem dX11_isWeight_0 : decode cX11_isWeight 0 = .ok (.iload_n 0, 1) := by decide +kernel
theorem dX11_isWeight_1 : decode cX11_isWeight 1 = .ok (.ifCond .lt 13, 3) := by decide +kernel
theorem dX11_isWeight_4 : decode cX11_isWeight 4 = .ok (.iload_n 0, 1) := by decide +kernel
theorem dX11_isWeight_5 : decode cX11_isWeight 5 = .ok (.bipush 99, 2) := by decide +kernel
theorem dX11_isWeight_7 : decode cX11_isWeight 7 = .ok (.if_icmp .gt 7, 3) := by decide +kernel
theorem dX11_isWeight_10 : decode cX11_isWeight 10 = .ok (.iconst 1, 1) := by decide +kernel
theorem dX11_isWeight_11 : decode cX11_isWeight 11 = .ok (.goto 4, 3) := by decide +kernel
theorem dX11_isWeight_14 : decode cX11_isWeight 14 = .ok (.iconst 0, 1) := by decide +kernel
theorem dX11_isWeight_15 : decode cX11_isWeight 15 = .ok (.ireturn, 1) := by decide +kernel
theorem dX11_isDigit_0 : decode cX11_isDigit 0 = .ok (.iload_n 0, 1) := by decide +kernel
theorem dX11_isDigit_1 : decode cX11_isDigit 1 = .ok (.ifCond .lt 13, 3) := by decide +kernel
theorem dX11_isDigit_4 : decode cX11_isDigit 4 = .ok (.iload_n 0, 1) := by decide +kernel
theorem dX11_isDigit_5 : decode cX11_isDigit 5 = .ok (.bipush 9, 2) := by decide +kernel
theorem dX11_isDigit_7 : decode cX11_isDigit 7 = .ok (.if_icmp .gt 7, 3) := by decide +kernel
theorem dX11_isDigit_10 : decode cX11_isDigit 10 = .ok (.iconst 1, 1) := by decide +kernel
theorem dX11_isDigit_11 : decode cX11_isDigit 11 = .ok (.goto 4, 3) := by decide +kernel
theorem dX11_isDigit_14 : decode cX11_isDigit 14 = .ok (.iconst 0, 1) := by decide +kernel
theorem dX11_isDigit_15 : decode cX11_isDigit 15 = .ok (.ireturn, 1) := by decide +kernel
theorem dX11_isDaysOn_0 : decode cX11_isDaysOn 0 = .ok (.iload_n 0, 1) := by decide +kernel
theorem dX11_isDaysOn_1 : decode cX11_isDaysOn 1 = .ok (.ifCond .lt 13, 3) := by decide +kernel
theorem dX11_isDaysOn_4 : decode cX11_isDaysOn 4 = .ok (.iload_n 0, 1) := by decide +kernel
theorem dX11_isDaysOn_5 : decode cX11_isDaysOn 5 = .ok (.bipush 60, 2) := by decide +kernel
theorem dX11_isDaysOn_7 : decode cX11_isDaysOn 7 = .ok (.if_icmp .gt 7, 3) := by decide +kernel
theorem dX11_isDaysOn_10 : decode cX11_isDaysOn 10 = .ok (.iconst 1, 1) := by decide +kernel
theorem dX11_isDaysOn_11 : decode cX11_isDaysOn 11 = .ok (.goto 4, 3) := by decide +kernel
theorem dX11_isDaysOn_14 : decode cX11_isDaysOn 14 = .ok (.iconst 0, 1) := by decide +kernel
theorem dX11_isDaysOn_15 : decode cX11_isDaysOn 15 = .ok (.ireturn, 1) := by decide +kernel
theorem dX11_isPart_0 : decode cX11_isPart 0 = .ok (.iload_n 0, 1) := by decide +kernel
theorem dX11_isPart_1 : decode cX11_isPart 1 = .ok (.ifCond .eq 8, 3) := by decide +kernel
theorem dX11_isPart_4 : decode cX11_isPart 4 = .ok (.iload_n 0, 1) := by decide +kernel
theorem dX11_isPart_5 : decode cX11_isPart 5 = .ok (.iconst 1, 1) := by decide +kernel
theorem dX11_isPart_6 : decode cX11_isPart 6 = .ok (.if_icmp .ne 7, 3) := by decide +kernel
theorem dX11_isPart_9 : decode cX11_isPart 9 = .ok (.iconst 1, 1) := by decide +kernel
theorem dX11_isPart_10 : decode cX11_isPart 10 = .ok (.goto 4, 3) := by decide +kernel
theorem dX11_isPart_13 : decode cX11_isPart 13 = .ok (.iconst 0, 1) := by decide +kernel
theorem dX11_isPart_14 : decode cX11_isPart 14 = .ok (.ireturn, 1) := by decide +kernel
theorem dX11_lowestOf_0 : decode cX11_lowestOf 0 = .ok (.iconst 0, 1) := by decide +kernel
theorem dX11_lowestOf_1 : decode cX11_lowestOf 1 = .ok (.istore_n 1, 1) := by decide +kernel
theorem dX11_lowestOf_2 : decode cX11_lowestOf 2 = .ok (.iload_n 1, 1) := by decide +kernel
theorem dX11_lowestOf_3 : decode cX11_lowestOf 3 = .ok (.bipush 6, 2) := by decide +kernel
theorem dX11_lowestOf_5 : decode cX11_lowestOf 5 = .ok (.if_icmp .ge 17, 3) := by decide +kernel
theorem dX11_lowestOf_8 : decode cX11_lowestOf 8 = .ok (.iload_n 0, 1) := by decide +kernel
theorem dX11_lowestOf_9 : decode cX11_lowestOf 9 = .ok (.iload_n 1, 1) := by decide +kernel
theorem dX11_lowestOf_10 : decode cX11_lowestOf 10 = .ok (.ishr, 1) := by decide +kernel
theorem dX11_lowestOf_11 : decode cX11_lowestOf 11 = .ok (.iconst 1, 1) := by decide +kernel
theorem dX11_lowestOf_12 : decode cX11_lowestOf 12 = .ok (.iand, 1) := by decide +kernel
theorem dX11_lowestOf_13 : decode cX11_lowestOf 13 = .ok (.ifCond .ne 9, 3) := by decide +kernel
theorem dX11_lowestOf_16 : decode cX11_lowestOf 16 = .ok (.iinc 1 1, 3) := by decide +kernel
theorem dX11_lowestOf_19 : decode cX11_lowestOf 19 = .ok (.goto (-17), 3) := by decide +kernel
theorem dX11_lowestOf_22 : decode cX11_lowestOf 22 = .ok (.iload_n 1, 1) := by decide +kernel
theorem dX11_lowestOf_23 : decode cX11_lowestOf 23 = .ok (.ireturn, 1) := by decide +kernel
theorem dX11_power_0 : decode cX11_power 0 = .ok (.lconst 1, 1) := by decide +kernel
theorem dX11_power_1 : decode cX11_power 1 = .ok (.lstore_n 2, 1) := by decide +kernel
theorem dX11_power_2 : decode cX11_power 2 = .ok (.iconst 0, 1) := by decide +kernel
theorem dX11_power_3 : decode cX11_power 3 = .ok (.istore 4, 2) := by decide +kernel
theorem dX11_power_5 : decode cX11_power 5 = .ok (.iload 4, 2) := by decide +kernel
theorem dX11_power_7 : decode cX11_power 7 = .ok (.iload_n 1, 1) := by decide +kernel
theorem dX11_power_8 : decode cX11_power 8 = .ok (.if_icmp .ge 14, 3) := by decide +kernel
theorem dX11_power_11 : decode cX11_power 11 = .ok (.lload_n 2, 1) := by decide +kernel
theorem dX11_power_12 : decode cX11_power 12 = .ok (.iload_n 0, 1) := by decide +kernel
theorem dX11_power_13 : decode cX11_power 13 = .ok (.i2l, 1) := by decide +kernel
theorem dX11_power_14 : decode cX11_power 14 = .ok (.lmul, 1) := by decide +kernel
theorem dX11_power_15 : decode cX11_power 15 = .ok (.lstore_n 2, 1) := by decide +kernel
theorem dX11_power_16 : decode cX11_power 16 = .ok (.iinc 4 1, 3) := by decide +kernel
theorem dX11_power_19 : decode cX11_power 19 = .ok (.goto (-14), 3) := by decide +kernel
theorem dX11_power_22 : decode cX11_power 22 = .ok (.lload_n 2, 1) := by decide +kernel
theorem dX11_power_23 : decode cX11_power 23 = .ok (.lreturn, 1) := by decide +kernel
theorem dX11_leastTerms_0 : decode cX11_leastTerms 0 = .ok (.lload_n 2, 1) := by decide +kernel
theorem dX11_leastTerms_1 : decode cX11_leastTerms 1 = .ok (.lstore 5, 2) := by decide +kernel
theorem dX11_leastTerms_3 : decode cX11_leastTerms 3 = .ok (.lload_n 0, 1) := by decide +kernel
theorem dX11_leastTerms_4 : decode cX11_leastTerms 4 = .ok (.lstore 7, 2) := by decide +kernel
theorem dX11_leastTerms_6 : decode cX11_leastTerms 6 = .ok (.iconst 0, 1) := by decide +kernel
theorem dX11_leastTerms_7 : decode cX11_leastTerms 7 = .ok (.istore 9, 2) := by decide +kernel
theorem dX11_leastTerms_9 : decode cX11_leastTerms 9 = .ok (.iload 9, 2) := by decide +kernel
theorem dX11_leastTerms_11 : decode cX11_leastTerms 11 = .ok (.sipush 128, 3) := by decide +kernel
theorem dX11_leastTerms_14 : decode cX11_leastTerms 14 = .ok (.if_icmp .ge 31, 3) := by decide +kernel
theorem dX11_leastTerms_17 : decode cX11_leastTerms 17 = .ok (.lload 7, 2) := by decide +kernel
theorem dX11_leastTerms_19 : decode cX11_leastTerms 19 = .ok (.lconst 0, 1) := by decide +kernel
theorem dX11_leastTerms_20 : decode cX11_leastTerms 20 = .ok (.lcmp, 1) := by decide +kernel
theorem dX11_leastTerms_21 : decode cX11_leastTerms 21 = .ok (.ifCond .eq 24, 3) := by decide +kernel
theorem dX11_leastTerms_24 : decode cX11_leastTerms 24 = .ok (.lload 5, 2) := by decide +kernel
theorem dX11_leastTerms_26 : decode cX11_leastTerms 26 = .ok (.lload 7, 2) := by decide +kernel
theorem dX11_leastTerms_28 : decode cX11_leastTerms 28 = .ok (.lrem, 1) := by decide +kernel
theorem dX11_leastTerms_29 : decode cX11_leastTerms 29 = .ok (.lstore 10, 2) := by decide +kernel
theorem dX11_leastTerms_31 : decode cX11_leastTerms 31 = .ok (.lload 7, 2) := by decide +kernel
theorem dX11_leastTerms_33 : decode cX11_leastTerms 33 = .ok (.lstore 5, 2) := by decide +kernel
theorem dX11_leastTerms_35 : decode cX11_leastTerms 35 = .ok (.lload 10, 2) := by decide +kernel
theorem dX11_leastTerms_37 : decode cX11_leastTerms 37 = .ok (.lstore 7, 2) := by decide +kernel
theorem dX11_leastTerms_39 : decode cX11_leastTerms 39 = .ok (.iinc 9 1, 3) := by decide +kernel
theorem dX11_leastTerms_42 : decode cX11_leastTerms 42 = .ok (.goto (-33), 3) := by decide +kernel
theorem dX11_leastTerms_45 : decode cX11_leastTerms 45 = .ok (.lload 5, 2) := by decide +kernel
theorem dX11_leastTerms_47 : decode cX11_leastTerms 47 = .ok (.lconst 0, 1) := by decide +kernel
theorem dX11_leastTerms_48 : decode cX11_leastTerms 48 = .ok (.lcmp, 1) := by decide +kernel
theorem dX11_leastTerms_49 : decode cX11_leastTerms 49 = .ok (.ifCond .ne 5, 3) := by decide +kernel
theorem dX11_leastTerms_52 : decode cX11_leastTerms 52 = .ok (.lconst 0, 1) := by decide +kernel
theorem dX11_leastTerms_53 : decode cX11_leastTerms 53 = .ok (.lreturn, 1) := by decide +kernel
theorem dX11_leastTerms_54 : decode cX11_leastTerms 54 = .ok (.iload 4, 2) := by decide +kernel
theorem dX11_leastTerms_56 : decode cX11_leastTerms 56 = .ok (.ifCond .ne 10, 3) := by decide +kernel
theorem dX11_leastTerms_59 : decode cX11_leastTerms 59 = .ok (.lload_n 0, 1) := by decide +kernel
theorem dX11_leastTerms_60 : decode cX11_leastTerms 60 = .ok (.lload 5, 2) := by decide +kernel
theorem dX11_leastTerms_62 : decode cX11_leastTerms 62 = .ok (.ldiv, 1) := by decide +kernel
theorem dX11_leastTerms_63 : decode cX11_leastTerms 63 = .ok (.goto 7, 3) := by decide +kernel
theorem dX11_leastTerms_66 : decode cX11_leastTerms 66 = .ok (.lload_n 2, 1) := by decide +kernel
theorem dX11_leastTerms_67 : decode cX11_leastTerms 67 = .ok (.lload 5, 2) := by decide +kernel
theorem dX11_leastTerms_69 : decode cX11_leastTerms 69 = .ok (.ldiv, 1) := by decide +kernel
theorem dX11_leastTerms_70 : decode cX11_leastTerms 70 = .ok (.lreturn, 1) := by decide +kernel
theorem dX11_kindOf_0 : decode cX11_kindOf 0 = .ok (.iload_n 0, 1) := by decide +kernel
theorem dX11_kindOf_1 : decode cX11_kindOf 1 = .ok (.tableswitch 113 1 7 #[43, 53, 63, 73, 83, 93, 103], 43) := by decide +kernel
theorem dX11_kindOf_44 : decode cX11_kindOf 44 = .ok (.new 362, 3) := by decide +kernel
theorem dX11_kindOf_47 : decode cX11_kindOf 47 = .ok (.dup, 1) := by decide +kernel
theorem dX11_kindOf_48 : decode cX11_kindOf 48 = .ok (.iload_n 0, 1) := by decide +kernel
theorem dX11_kindOf_49 : decode cX11_kindOf 49 = .ok (.iload_n 1, 1) := by decide +kernel
theorem dX11_kindOf_50 : decode cX11_kindOf 50 = .ok (.invokespecial 364, 3) := by decide +kernel
theorem dX11_kindOf_53 : decode cX11_kindOf 53 = .ok (.areturn, 1) := by decide +kernel
theorem dX11_kindOf_54 : decode cX11_kindOf 54 = .ok (.new 365, 3) := by decide +kernel
theorem dX11_kindOf_57 : decode cX11_kindOf 57 = .ok (.dup, 1) := by decide +kernel
theorem dX11_kindOf_58 : decode cX11_kindOf 58 = .ok (.iload_n 0, 1) := by decide +kernel
theorem dX11_kindOf_59 : decode cX11_kindOf 59 = .ok (.iload_n 1, 1) := by decide +kernel
theorem dX11_kindOf_60 : decode cX11_kindOf 60 = .ok (.invokespecial 367, 3) := by decide +kernel
theorem dX11_kindOf_63 : decode cX11_kindOf 63 = .ok (.areturn, 1) := by decide +kernel
theorem dX11_kindOf_64 : decode cX11_kindOf 64 = .ok (.new 368, 3) := by decide +kernel
theorem dX11_kindOf_67 : decode cX11_kindOf 67 = .ok (.dup, 1) := by decide +kernel
theorem dX11_kindOf_68 : decode cX11_kindOf 68 = .ok (.iload_n 0, 1) := by decide +kernel
theorem dX11_kindOf_69 : decode cX11_kindOf 69 = .ok (.iload_n 1, 1) := by decide +kernel
theorem dX11_kindOf_70 : decode cX11_kindOf 70 = .ok (.invokespecial 370, 3) := by decide +kernel
theorem dX11_kindOf_73 : decode cX11_kindOf 73 = .ok (.areturn, 1) := by decide +kernel
theorem dX11_kindOf_74 : decode cX11_kindOf 74 = .ok (.new 371, 3) := by decide +kernel
theorem dX11_kindOf_77 : decode cX11_kindOf 77 = .ok (.dup, 1) := by decide +kernel
theorem dX11_kindOf_78 : decode cX11_kindOf 78 = .ok (.iload_n 0, 1) := by decide +kernel
theorem dX11_kindOf_79 : decode cX11_kindOf 79 = .ok (.iload_n 1, 1) := by decide +kernel
theorem dX11_kindOf_80 : decode cX11_kindOf 80 = .ok (.invokespecial 373, 3) := by decide +kernel
theorem dX11_kindOf_83 : decode cX11_kindOf 83 = .ok (.areturn, 1) := by decide +kernel
theorem dX11_kindOf_84 : decode cX11_kindOf 84 = .ok (.new 374, 3) := by decide +kernel
theorem dX11_kindOf_87 : decode cX11_kindOf 87 = .ok (.dup, 1) := by decide +kernel
theorem dX11_kindOf_88 : decode cX11_kindOf 88 = .ok (.iload_n 0, 1) := by decide +kernel
theorem dX11_kindOf_89 : decode cX11_kindOf 89 = .ok (.iload_n 1, 1) := by decide +kernel
theorem dX11_kindOf_90 : decode cX11_kindOf 90 = .ok (.invokespecial 376, 3) := by decide +kernel
theorem dX11_kindOf_93 : decode cX11_kindOf 93 = .ok (.areturn, 1) := by decide +kernel
theorem dX11_kindOf_94 : decode cX11_kindOf 94 = .ok (.new 377, 3) := by decide +kernel
theorem dX11_kindOf_97 : decode cX11_kindOf 97 = .ok (.dup, 1) := by decide +kernel
theorem dX11_kindOf_98 : decode cX11_kindOf 98 = .ok (.iload_n 0, 1) := by decide +kernel
theorem dX11_kindOf_99 : decode cX11_kindOf 99 = .ok (.iload_n 1, 1) := by decide +kernel
theorem dX11_kindOf_100 : decode cX11_kindOf 100 = .ok (.invokespecial 379, 3) := by decide +kernel
theorem dX11_kindOf_103 : decode cX11_kindOf 103 = .ok (.areturn, 1) := by decide +kernel
theorem dX11_kindOf_104 : decode cX11_kindOf 104 = .ok (.new 380, 3) := by decide +kernel
theorem dX11_kindOf_107 : decode cX11_kindOf 107 = .ok (.dup, 1) := by decide +kernel
theorem dX11_kindOf_108 : decode cX11_kindOf 108 = .ok (.iload_n 0, 1) := by decide +kernel
theorem dX11_kindOf_109 : decode cX11_kindOf 109 = .ok (.iload_n 1, 1) := by decide +kernel
theorem dX11_kindOf_110 : decode cX11_kindOf 110 = .ok (.invokespecial 382, 3) := by decide +kernel
theorem dX11_kindOf_113 : decode cX11_kindOf 113 = .ok (.areturn, 1) := by decide +kernel
theorem dX11_kindOf_114 : decode cX11_kindOf 114 = .ok (.new 26, 3) := by decide +kernel
theorem dX11_kindOf_117 : decode cX11_kindOf 117 = .ok (.dup, 1) := by decide +kernel
theorem dX11_kindOf_118 : decode cX11_kindOf 118 = .ok (.iconst 0, 1) := by decide +kernel
theorem dX11_kindOf_119 : decode cX11_kindOf 119 = .ok (.iload_n 1, 1) := by decide +kernel
theorem dX11_kindOf_120 : decode cX11_kindOf 120 = .ok (.invokespecial 383, 3) := by decide +kernel
theorem dX11_kindOf_123 : decode cX11_kindOf 123 = .ok (.areturn, 1) := by decide +kernel
