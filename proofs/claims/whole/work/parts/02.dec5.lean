theorem dX12_most_84 : decode cX12_most 84 = .ok (.invokestatic 185, 3) := by decide +kernel
theorem dX12_most_87 : decode cX12_most 87 = .ok (.ifCond .eq 7, 3) := by decide +kernel
theorem dX12_most_90 : decode cX12_most 90 = .ok (.iconst 1, 1) := by decide +kernel
theorem dX12_most_91 : decode cX12_most 91 = .ok (.goto 4, 3) := by decide +kernel
theorem dX12_most_94 : decode cX12_most 94 = .ok (.iconst 0, 1) := by decide +kernel
theorem dX12_most_95 : decode cX12_most 95 = .ok (.iadd, 1) := by decide +kernel
theorem dX12_most_96 : decode cX12_most 96 = .ok (.iastore, 1) := by decide +kernel
theorem dX12_most_97 : decode cX12_most 97 = .ok (.iinc 3 1, 3) := by decide +kernel
theorem dX12_most_100 : decode cX12_most 100 = .ok (.goto (-36), 3) := by decide +kernel
theorem dX12_most_103 : decode cX12_most 103 = .ok (.iinc 2 1, 3) := by decide +kernel
theorem dX12_most_106 : decode cX12_most 106 = .ok (.goto (-59), 3) := by decide +kernel
theorem dX12_most_109 : decode cX12_most 109 = .ok (.iconst 0, 1) := by decide +kernel
theorem dX12_most_110 : decode cX12_most 110 = .ok (.istore_n 2, 1) := by decide +kernel
theorem dX12_most_111 : decode cX12_most 111 = .ok (.iconst 1, 1) := by decide +kernel
theorem dX12_most_112 : decode cX12_most 112 = .ok (.istore_n 3, 1) := by decide +kernel
theorem dX12_most_113 : decode cX12_most 113 = .ok (.iload_n 3, 1) := by decide +kernel
theorem dX12_most_114 : decode cX12_most 114 = .ok (.aload_n 0, 1) := by decide +kernel
theorem dX12_most_115 : decode cX12_most 115 = .ok (.getfield 17, 3) := by decide +kernel
theorem dX12_most_118 : decode cX12_most 118 = .ok (.if_icmp .ge 30, 3) := by decide +kernel
theorem dX12_most_121 : decode cX12_most 121 = .ok (.aload_n 0, 1) := by decide +kernel
theorem dX12_most_122 : decode cX12_most 122 = .ok (.getfield 77, 3) := by decide +kernel
theorem dX12_most_125 : decode cX12_most 125 = .ok (.iload_n 3, 1) := by decide +kernel
theorem dX12_most_126 : decode cX12_most 126 = .ok (.iaload, 1) := by decide +kernel
theorem dX12_most_127 : decode cX12_most 127 = .ok (.aload_n 0, 1) := by decide +kernel
theorem dX12_most_128 : decode cX12_most 128 = .ok (.getfield 77, 3) := by decide +kernel
theorem dX12_most_131 : decode cX12_most 131 = .ok (.iload_n 2, 1) := by decide +kernel
theorem dX12_most_132 : decode cX12_most 132 = .ok (.iaload, 1) := by decide +kernel
theorem dX12_most_133 : decode cX12_most 133 = .ok (.if_icmp .le 7, 3) := by decide +kernel
theorem dX12_most_136 : decode cX12_most 136 = .ok (.iload_n 3, 1) := by decide +kernel
theorem dX12_most_137 : decode cX12_most 137 = .ok (.goto 4, 3) := by decide +kernel
theorem dX12_most_140 : decode cX12_most 140 = .ok (.iload_n 2, 1) := by decide +kernel
theorem dX12_most_141 : decode cX12_most 141 = .ok (.istore_n 2, 1) := by decide +kernel
theorem dX12_most_142 : decode cX12_most 142 = .ok (.iinc 3 1, 3) := by decide +kernel
theorem dX12_most_145 : decode cX12_most 145 = .ok (.goto (-32), 3) := by decide +kernel
theorem dX12_most_148 : decode cX12_most 148 = .ok (.iload_n 1, 1) := by decide +kernel
theorem dX12_most_149 : decode cX12_most 149 = .ok (.ifCond .ne 7, 3) := by decide +kernel
theorem dX12_most_152 : decode cX12_most 152 = .ok (.iload_n 2, 1) := by decide +kernel
theorem dX12_most_153 : decode cX12_most 153 = .ok (.goto 9, 3) := by decide +kernel
theorem dX12_most_156 : decode cX12_most 156 = .ok (.aload_n 0, 1) := by decide +kernel
theorem dX12_most_157 : decode cX12_most 157 = .ok (.getfield 77, 3) := by decide +kernel
theorem dX12_most_160 : decode cX12_most 160 = .ok (.iload_n 2, 1) := by decide +kernel
theorem dX12_most_161 : decode cX12_most 161 = .ok (.iaload, 1) := by decide +kernel
theorem dX12_most_162 : decode cX12_most 162 = .ok (.ireturn, 1) := by decide +kernel
theorem dX12_patches_0 : decode cX12_patches 0 = .ok (.iload_n 1, 1) := by decide +kernel
theorem dX12_patches_1 : decode cX12_patches 1 = .ok (.invokestatic 206, 3) := by decide +kernel
theorem dX12_patches_4 : decode cX12_patches 4 = .ok (.ifCond .ne 5, 3) := by decide +kernel
theorem dX12_patches_7 : decode cX12_patches 7 = .ok (.iconst (-1), 1) := by decide +kernel
theorem dX12_patches_8 : decode cX12_patches 8 = .ok (.ireturn, 1) := by decide +kernel
theorem dX12_patches_9 : decode cX12_patches 9 = .ok (.aload_n 0, 1) := by decide +kernel
theorem dX12_patches_10 : decode cX12_patches 10 = .ok (.iload_n 1, 1) := by decide +kernel
theorem dX12_patches_11 : decode cX12_patches 11 = .ok (.invokevirtual 209, 3) := by decide +kernel
theorem dX12_patches_14 : decode cX12_patches 14 = .ok (.iconst 0, 1) := by decide +kernel
theorem dX12_patches_15 : decode cX12_patches 15 = .ok (.istore_n 2, 1) := by decide +kernel
theorem dX12_patches_16 : decode cX12_patches 16 = .ok (.iconst 0, 1) := by decide +kernel
theorem dX12_patches_17 : decode cX12_patches 17 = .ok (.istore_n 3, 1) := by decide +kernel
theorem dX12_patches_18 : decode cX12_patches 18 = .ok (.iload_n 3, 1) := by decide +kernel
theorem dX12_patches_19 : decode cX12_patches 19 = .ok (.aload_n 0, 1) := by decide +kernel
theorem dX12_patches_20 : decode cX12_patches 20 = .ok (.getfield 7, 3) := by decide +kernel
theorem dX12_patches_23 : decode cX12_patches 23 = .ok (.if_icmp .ge 36, 3) := by decide +kernel
theorem dX12_patches_26 : decode cX12_patches 26 = .ok (.iload_n 2, 1) := by decide +kernel
theorem dX12_patches_27 : decode cX12_patches 27 = .ok (.aload_n 0, 1) := by decide +kernel
theorem dX12_patches_28 : decode cX12_patches 28 = .ok (.getfield 62, 3) := by decide +kernel
theorem dX12_patches_31 : decode cX12_patches 31 = .ok (.iload_n 3, 1) := by decide +kernel
theorem dX12_patches_32 : decode cX12_patches 32 = .ok (.iaload, 1) := by decide +kernel
theorem dX12_patches_33 : decode cX12_patches 33 = .ok (.aload_n 0, 1) := by decide +kernel
theorem dX12_patches_34 : decode cX12_patches 34 = .ok (.getfield 13, 3) := by decide +kernel
theorem dX12_patches_37 : decode cX12_patches 37 = .ok (.iconst 4, 1) := by decide +kernel
theorem dX12_patches_38 : decode cX12_patches 38 = .ok (.iload_n 3, 1) := by decide +kernel
theorem dX12_patches_39 : decode cX12_patches 39 = .ok (.imul, 1) := by decide +kernel
theorem dX12_patches_40 : decode cX12_patches 40 = .ok (.iconst 3, 1) := by decide +kernel
theorem dX12_patches_41 : decode cX12_patches 41 = .ok (.iadd, 1) := by decide +kernel
theorem dX12_patches_42 : decode cX12_patches 42 = .ok (.iaload, 1) := by decide +kernel
theorem dX12_patches_43 : decode cX12_patches 43 = .ok (.if_icmp .ne 7, 3) := by decide +kernel
theorem dX12_patches_46 : decode cX12_patches 46 = .ok (.iconst 1, 1) := by decide +kernel
theorem dX12_patches_47 : decode cX12_patches 47 = .ok (.goto 4, 3) := by decide +kernel
theorem dX12_patches_50 : decode cX12_patches 50 = .ok (.iconst 0, 1) := by decide +kernel
theorem dX12_patches_51 : decode cX12_patches 51 = .ok (.iadd, 1) := by decide +kernel
theorem dX12_patches_52 : decode cX12_patches 52 = .ok (.istore_n 2, 1) := by decide +kernel
theorem dX12_patches_53 : decode cX12_patches 53 = .ok (.iinc 3 1, 3) := by decide +kernel
theorem dX12_patches_56 : decode cX12_patches 56 = .ok (.goto (-38), 3) := by decide +kernel
theorem dX12_patches_59 : decode cX12_patches 59 = .ok (.iload_n 2, 1) := by decide +kernel
theorem dX12_patches_60 : decode cX12_patches 60 = .ok (.ireturn, 1) := by decide +kernel
theorem dX12_night_0 : decode cX12_night 0 = .ok (.iload_n 1, 1) := by decide +kernel
theorem dX12_night_1 : decode cX12_night 1 = .ok (.iconst 0, 1) := by decide +kernel
theorem dX12_night_2 : decode cX12_night 2 = .ok (.sipush 9999, 3) := by decide +kernel
theorem dX12_night_5 : decode cX12_night 5 = .ok (.invokestatic 87, 3) := by decide +kernel
theorem dX12_night_8 : decode cX12_night 8 = .ok (.ifCond .eq 12, 3) := by decide +kernel
theorem dX12_night_11 : decode cX12_night 11 = .ok (.iload_n 2, 1) := by decide +kernel
theorem dX12_night_12 : decode cX12_night 12 = .ok (.iconst 0, 1) := by decide +kernel
theorem dX12_night_13 : decode cX12_night 13 = .ok (.iconst 1, 1) := by decide +kernel
theorem dX12_night_14 : decode cX12_night 14 = .ok (.invokestatic 87, 3) := by decide +kernel
theorem dX12_night_17 : decode cX12_night 17 = .ok (.ifCond .ne 5, 3) := by decide +kernel
theorem dX12_night_20 : decode cX12_night 20 = .ok (.iconst (-1), 1) := by decide +kernel
theorem dX12_night_21 : decode cX12_night 21 = .ok (.ireturn, 1) := by decide +kernel
theorem dX12_night_22 : decode cX12_night 22 = .ok (.iconst 0, 1) := by decide +kernel
theorem dX12_night_23 : decode cX12_night 23 = .ok (.istore_n 3, 1) := by decide +kernel
theorem dX12_night_24 : decode cX12_night 24 = .ok (.aload_n 0, 1) := by decide +kernel
theorem dX12_night_25 : decode cX12_night 25 = .ok (.invokevirtual 196, 3) := by decide +kernel
theorem dX12_night_28 : decode cX12_night 28 = .ok (.iconst 0, 1) := by decide +kernel
theorem dX12_night_29 : decode cX12_night 29 = .ok (.istore 4, 2) := by decide +kernel
theorem dX12_night_31 : decode cX12_night 31 = .ok (.iload 4, 2) := by decide +kernel
theorem dX12_night_33 : decode cX12_night 33 = .ok (.bipush 30, 2) := by decide +kernel
theorem dX12_night_35 : decode cX12_night 35 = .ok (.if_icmp .gt 79, 3) := by decide +kernel
theorem dX12_night_38 : decode cX12_night 38 = .ok (.ldc2_w 239, 3) := by decide +kernel
theorem dX12_night_41 : decode cX12_night 41 = .ok (.iload_n 1, 1) := by decide +kernel
theorem dX12_night_42 : decode cX12_night 42 = .ok (.i2l, 1) := by decide +kernel
theorem dX12_night_43 : decode cX12_night 43 = .ok (.lmul, 1) := by decide +kernel
theorem dX12_night_44 : decode cX12_night 44 = .ok (.ldc2_w 241, 3) := by decide +kernel
theorem dX12_night_47 : decode cX12_night 47 = .ok (.iload 4, 2) := by decide +kernel
theorem dX12_night_49 : decode cX12_night 49 = .ok (.i2l, 1) := by decide +kernel
theorem dX12_night_50 : decode cX12_night 50 = .ok (.lmul, 1) := by decide +kernel
theorem dX12_night_51 : decode cX12_night 51 = .ok (.ladd, 1) := by decide +kernel
theorem dX12_night_52 : decode cX12_night 52 = .ok (.lconst 1, 1) := by decide +kernel
theorem dX12_night_53 : decode cX12_night 53 = .ok (.ladd, 1) := by decide +kernel
theorem dX12_night_54 : decode cX12_night 54 = .ok (.lstore 5, 2) := by decide +kernel
theorem dX12_night_56 : decode cX12_night 56 = .ok (.lload 5, 2) := by decide +kernel
theorem dX12_night_58 : decode cX12_night 58 = .ok (.lload 5, 2) := by decide +kernel
theorem dX12_night_60 : decode cX12_night 60 = .ok (.lmul, 1) := by decide +kernel
theorem dX12_night_61 : decode cX12_night 61 = .ok (.ldc2_w 243, 3) := by decide +kernel
theorem dX12_night_64 : decode cX12_night 64 = .ok (.lrem, 1) := by decide +kernel
theorem dX12_night_65 : decode cX12_night 65 = .ok (.l2i, 1) := by decide +kernel
theorem dX12_night_66 : decode cX12_night 66 = .ok (.istore 7, 2) := by decide +kernel
theorem dX12_night_68 : decode cX12_night 68 = .ok (.aload_n 0, 1) := by decide +kernel
theorem dX12_night_69 : decode cX12_night 69 = .ok (.invokevirtual 175, 3) := by decide +kernel
theorem dX12_night_72 : decode cX12_night 72 = .ok (.aload_n 0, 1) := by decide +kernel
theorem dX12_night_73 : decode cX12_night 73 = .ok (.iload 7, 2) := by decide +kernel
theorem dX12_night_75 : decode cX12_night 75 = .ok (.aload_n 0, 1) := by decide +kernel
theorem dX12_night_76 : decode cX12_night 76 = .ok (.getfield 7, 3) := by decide +kernel
theorem dX12_night_79 : decode cX12_night 79 = .ok (.irem, 1) := by decide +kernel
theorem dX12_night_80 : decode cX12_night 80 = .ok (.iload 7, 2) := by decide +kernel
theorem dX12_night_82 : decode cX12_night 82 = .ok (.bipush 8, 2) := by decide +kernel
theorem dX12_night_84 : decode cX12_night 84 = .ok (.idiv, 1) := by decide +kernel
theorem dX12_night_85 : decode cX12_night 85 = .ok (.bipush 41, 2) := by decide +kernel
theorem dX12_night_87 : decode cX12_night 87 = .ok (.irem, 1) := by decide +kernel
theorem dX12_night_88 : decode cX12_night 88 = .ok (.bipush 20, 2) := by decide +kernel
theorem dX12_night_90 : decode cX12_night 90 = .ok (.isub, 1) := by decide +kernel
theorem dX12_night_91 : decode cX12_night 91 = .ok (.invokevirtual 178, 3) := by decide +kernel
theorem dX12_night_94 : decode cX12_night 94 = .ok (.aload_n 0, 1) := by decide +kernel
theorem dX12_night_95 : decode cX12_night 95 = .ok (.invokevirtual 203, 3) := by decide +kernel
theorem dX12_night_98 : decode cX12_night 98 = .ok (.iload_n 3, 1) := by decide +kernel
theorem dX12_night_99 : decode cX12_night 99 = .ok (.aload_n 0, 1) := by decide +kernel
theorem dX12_night_100 : decode cX12_night 100 = .ok (.getfield 182, 3) := by decide +kernel
theorem dX12_night_103 : decode cX12_night 103 = .ok (.invokestatic 212, 3) := by decide +kernel
theorem dX12_night_106 : decode cX12_night 106 = .ok (.iadd, 1) := by decide +kernel
theorem dX12_night_107 : decode cX12_night 107 = .ok (.istore_n 3, 1) := by decide +kernel
theorem dX12_night_108 : decode cX12_night 108 = .ok (.iinc 4 1, 3) := by decide +kernel
theorem dX12_night_111 : decode cX12_night 111 = .ok (.goto (-80), 3) := by decide +kernel
theorem dX12_night_114 : decode cX12_night 114 = .ok (.iload_n 2, 1) := by decide +kernel
theorem dX12_night_115 : decode cX12_night 115 = .ok (.ifCond .ne 7, 3) := by decide +kernel
theorem dX12_night_118 : decode cX12_night 118 = .ok (.iload_n 3, 1) := by decide +kernel
theorem dX12_night_119 : decode cX12_night 119 = .ok (.goto 12, 3) := by decide +kernel
theorem dX12_night_122 : decode cX12_night 122 = .ok (.aload_n 0, 1) := by decide +kernel
theorem dX12_night_123 : decode cX12_night 123 = .ok (.getfield 62, 3) := by decide +kernel
theorem dX12_night_126 : decode cX12_night 126 = .ok (.iconst 0, 1) := by decide +kernel
theorem dX12_night_127 : decode cX12_night 127 = .ok (.iaload, 1) := by decide +kernel
theorem dX12_night_128 : decode cX12_night 128 = .ok (.bipush 40, 2) := by decide +kernel
theorem dX12_night_130 : decode cX12_night 130 = .ok (.iadd, 1) := by decide +kernel
theorem dX12_night_131 : decode cX12_night 131 = .ok (.ireturn, 1) := by decide +kernel
theorem dX12_keep_0 : decode cX12_keep 0 = .ok (.aload_n 0, 1) := by decide +kernel
theorem dX12_keep_1 : decode cX12_keep 1 = .ok (.getfield 153, 3) := by decide +kernel
theorem dX12_keep_4 : decode cX12_keep 4 = .ok (.iconst 2, 1) := by decide +kernel
theorem dX12_keep_5 : decode cX12_keep 5 = .ok (.if_icmp .ne 6, 3) := by decide +kernel
theorem dX12_keep_8 : decode cX12_keep 8 = .ok (.bipush (-3), 2) := by decide +kernel
theorem dX12_keep_10 : decode cX12_keep 10 = .ok (.ireturn, 1) := by decide +kernel
theorem dX12_keep_11 : decode cX12_keep 11 = .ok (.iconst 0, 1) := by decide +kernel
theorem dX12_keep_12 : decode cX12_keep 12 = .ok (.istore_n 1, 1) := by decide +kernel
theorem dX12_keep_13 : decode cX12_keep 13 = .ok (.iload_n 1, 1) := by decide +kernel
theorem dX12_keep_14 : decode cX12_keep 14 = .ok (.bipush 25, 2) := by decide +kernel
theorem dX12_keep_16 : decode cX12_keep 16 = .ok (.if_icmp .ge 29, 3) := by decide +kernel
theorem dX12_keep_19 : decode cX12_keep 19 = .ok (.aload_n 0, 1) := by decide +kernel
theorem dX12_keep_20 : decode cX12_keep 20 = .ok (.getfield 38, 3) := by decide +kernel
theorem dX12_keep_23 : decode cX12_keep 23 = .ok (.bipush 25, 2) := by decide +kernel
theorem dX12_keep_25 : decode cX12_keep 25 = .ok (.aload_n 0, 1) := by decide +kernel
theorem dX12_keep_26 : decode cX12_keep 26 = .ok (.getfield 153, 3) := by decide +kernel
theorem dX12_keep_29 : decode cX12_keep 29 = .ok (.imul, 1) := by decide +kernel
theorem dX12_keep_30 : decode cX12_keep 30 = .ok (.iload_n 1, 1) := by decide +kernel
theorem dX12_keep_31 : decode cX12_keep 31 = .ok (.iadd, 1) := by decide +kernel
theorem dX12_keep_32 : decode cX12_keep 32 = .ok (.aload_n 0, 1) := by decide +kernel
theorem dX12_keep_33 : decode cX12_keep 33 = .ok (.getfield 32, 3) := by decide +kernel
theorem dX12_keep_36 : decode cX12_keep 36 = .ok (.iload_n 1, 1) := by decide +kernel
theorem dX12_keep_37 : decode cX12_keep 37 = .ok (.iaload, 1) := by decide +kernel
theorem dX12_keep_38 : decode cX12_keep 38 = .ok (.iastore, 1) := by decide +kernel
theorem dX12_keep_39 : decode cX12_keep 39 = .ok (.iinc 1 1, 3) := by decide +kernel
theorem dX12_keep_42 : decode cX12_keep 42 = .ok (.goto (-29), 3) := by decide +kernel
theorem dX12_keep_45 : decode cX12_keep 45 = .ok (.aload_n 0, 1) := by decide +kernel
theorem dX12_keep_46 : decode cX12_keep 46 = .ok (.dup, 1) := by decide +kernel
theorem dX12_keep_47 : decode cX12_keep 47 = .ok (.getfield 153, 3) := by decide +kernel
theorem dX12_keep_50 : decode cX12_keep 50 = .ok (.iconst 1, 1) := by decide +kernel
theorem dX12_keep_51 : decode cX12_keep 51 = .ok (.iadd, 1) := by decide +kernel
theorem dX12_keep_52 : decode cX12_keep 52 = .ok (.putfield 153, 3) := by decide +kernel
theorem dX12_keep_55 : decode cX12_keep 55 = .ok (.aload_n 0, 1) := by decide +kernel
theorem dX12_keep_56 : decode cX12_keep 56 = .ok (.getfield 153, 3) := by decide +kernel
theorem dX12_keep_59 : decode cX12_keep 59 = .ok (.ireturn, 1) := by decide +kernel
theorem dX12_back_0 : decode cX12_back 0 = .ok (.aload_n 0, 1) := by decide +kernel
theorem dX12_back_1 : decode cX12_back 1 = .ok (.getfield 153, 3) := by decide +kernel
theorem dX12_back_4 : decode cX12_back 4 = .ok (.ifCond .ne 6, 3) := by decide +kernel
theorem dX12_back_7 : decode cX12_back 7 = .ok (.bipush (-2), 2) := by decide +kernel
theorem dX12_back_9 : decode cX12_back 9 = .ok (.ireturn, 1) := by decide +kernel
theorem dX12_back_10 : decode cX12_back 10 = .ok (.aload_n 0, 1) := by decide +kernel
theorem dX12_back_11 : decode cX12_back 11 = .ok (.dup, 1) := by decide +kernel
theorem dX12_back_12 : decode cX12_back 12 = .ok (.getfield 153, 3) := by decide +kernel
theorem dX12_back_15 : decode cX12_back 15 = .ok (.iconst 1, 1) := by decide +kernel
theorem dX12_back_16 : decode cX12_back 16 = .ok (.isub, 1) := by decide +kernel
theorem dX12_back_17 : decode cX12_back 17 = .ok (.putfield 153, 3) := by decide +kernel
theorem dX12_back_20 : decode cX12_back 20 = .ok (.iconst 0, 1) := by decide +kernel
theorem dX12_back_21 : decode cX12_back 21 = .ok (.istore_n 1, 1) := by decide +kernel
theorem dX12_back_22 : decode cX12_back 22 = .ok (.iload_n 1, 1) := by decide +kernel
theorem dX12_back_23 : decode cX12_back 23 = .ok (.bipush 25, 2) := by decide +kernel
theorem dX12_back_25 : decode cX12_back 25 = .ok (.if_icmp .ge 29, 3) := by decide +kernel
theorem dX12_back_28 : decode cX12_back 28 = .ok (.aload_n 0, 1) := by decide +kernel
theorem dX12_back_29 : decode cX12_back 29 = .ok (.getfield 32, 3) := by decide +kernel
theorem dX12_back_32 : decode cX12_back 32 = .ok (.iload_n 1, 1) := by decide +kernel
theorem dX12_back_33 : decode cX12_back 33 = .ok (.aload_n 0, 1) := by decide +kernel
theorem dX12_back_34 : decode cX12_back 34 = .ok (.getfield 38, 3) := by decide +kernel
theorem dX12_back_37 : decode cX12_back 37 = .ok (.bipush 25, 2) := by decide +kernel
theorem dX12_back_39 : decode cX12_back 39 = .ok (.aload_n 0, 1) := by decide +kernel
theorem dX12_back_40 : decode cX12_back 40 = .ok (.getfield 153, 3) := by decide +kernel
theorem dX12_back_43 : decode cX12_back 43 = .ok (.imul, 1) := by decide +kernel
theorem dX12_back_44 : decode cX12_back 44 = .ok (.iload_n 1, 1) := by decide +kernel
theorem dX12_back_45 : decode cX12_back 45 = .ok (.iadd, 1) := by decide +kernel
theorem dX12_back_46 : decode cX12_back 46 = .ok (.iaload, 1) := by decide +kernel
theorem dX12_back_47 : decode cX12_back 47 = .ok (.iastore, 1) := by decide +kernel
theorem dX12_back_48 : decode cX12_back 48 = .ok (.iinc 1 1, 3) := by decide +kernel
theorem dX12_back_51 : decode cX12_back 51 = .ok (.goto (-29), 3) := by decide +kernel
theorem dX12_back_54 : decode cX12_back 54 = .ok (.aload_n 0, 1) := by decide +kernel
theorem dX12_back_55 : decode cX12_back 55 = .ok (.iconst 0, 1) := by decide +kernel
theorem dX12_back_56 : decode cX12_back 56 = .ok (.putfield 150, 3) := by decide +kernel
theorem dX12_back_59 : decode cX12_back 59 = .ok (.aload_n 0, 1) := by decide +kernel
theorem dX12_back_60 : decode cX12_back 60 = .ok (.getfield 153, 3) := by decide +kernel
theorem dX12_back_63 : decode cX12_back 63 = .ok (.ireturn, 1) := by decide +kernel
theorem dX12_count_0 : decode cX12_count 0 = .ok (.iload_n 1, 1) := by decide +kernel
theorem dX12_count_1 : decode cX12_count 1 = .ok (.tableswitch 89 0 7 #[47, 52, 57, 62, 69, 74, 79, 84], 47) := by decide +kernel
theorem dX12_count_48 : decode cX12_count 48 = .ok (.aload_n 0, 1) := by decide +kernel
theorem dX12_count_49 : decode cX12_count 49 = .ok (.getfield 7, 3) := by decide +kernel
theorem dX12_count_52 : decode cX12_count 52 = .ok (.ireturn, 1) := by decide +kernel
theorem dX12_count_53 : decode cX12_count 53 = .ok (.aload_n 0, 1) := by decide +kernel
theorem dX12_count_54 : decode cX12_count 54 = .ok (.getfield 17, 3) := by decide +kernel
theorem dX12_count_57 : decode cX12_count 57 = .ok (.ireturn, 1) := by decide +kernel
theorem dX12_count_58 : decode cX12_count 58 = .ok (.aload_n 0, 1) := by decide +kernel
theorem dX12_count_59 : decode cX12_count 59 = .ok (.getfield 23, 3) := by decide +kernel
theorem dX12_count_62 : decode cX12_count 62 = .ok (.ireturn, 1) := by decide +kernel
theorem dX12_count_63 : decode cX12_count 63 = .ok (.aload_n 0, 1) := by decide +kernel
theorem dX12_count_64 : decode cX12_count 64 = .ok (.getfield 32, 3) := by decide +kernel
theorem dX12_count_67 : decode cX12_count 67 = .ok (.iconst 0, 1) := by decide +kernel
theorem dX12_count_68 : decode cX12_count 68 = .ok (.iaload, 1) := by decide +kernel
theorem dX12_count_69 : decode cX12_count 69 = .ok (.ireturn, 1) := by decide +kernel
theorem dX12_count_70 : decode cX12_count 70 = .ok (.aload_n 0, 1) := by decide +kernel
theorem dX12_count_71 : decode cX12_count 71 = .ok (.getfield 156, 3) := by decide +kernel
theorem dX12_count_74 : decode cX12_count 74 = .ok (.ireturn, 1) := by decide +kernel
theorem dX12_count_75 : decode cX12_count 75 = .ok (.aload_n 0, 1) := by decide +kernel
theorem dX12_count_76 : decode cX12_count 76 = .ok (.getfield 150, 3) := by decide +kernel
theorem dX12_count_79 : decode cX12_count 79 = .ok (.ireturn, 1) := by decide +kernel
theorem dX12_count_80 : decode cX12_count 80 = .ok (.aload_n 0, 1) := by decide +kernel
theorem dX12_count_81 : decode cX12_count 81 = .ok (.getfield 153, 3) := by decide +kernel
theorem dX12_count_84 : decode cX12_count 84 = .ok (.ireturn, 1) := by decide +kernel
theorem dX12_count_85 : decode cX12_count 85 = .ok (.aload_n 0, 1) := by decide +kernel
theorem dX12_count_86 : decode cX12_count 86 = .ok (.getfield 91, 3) := by decide +kernel
theorem dX12_count_89 : decode cX12_count 89 = .ok (.ireturn, 1) := by decide +kernel
theorem dX12_count_90 : decode cX12_count 90 = .ok (.iconst (-1), 1) := by decide +kernel
theorem dX12_count_91 : decode cX12_count 91 = .ok (.ireturn, 1) := by decide +kernel
theorem dJ6_bitCount_0f7a4_0 : decode cJ6_bitCount_0f7a4 0 = .ok (.iload_n 0, 1) := by decide +kernel
theorem dJ6_bitCount_0f7a4_1 : decode cJ6_bitCount_0f7a4 1 = .ok (.iload_n 0, 1) := by decide +kernel
theorem dJ6_bitCount_0f7a4_2 : decode cJ6_bitCount_0f7a4 2 = .ok (.iconst 1, 1) := by decide +kernel
theorem dJ6_bitCount_0f7a4_3 : decode cJ6_bitCount_0f7a4 3 = .ok (.iushr, 1) := by decide +kernel
theorem dJ6_bitCount_0f7a4_4 : decode cJ6_bitCount_0f7a4 4 = .ok (.ldc_w 265, 3) := by decide +kernel
theorem dJ6_bitCount_0f7a4_7 : decode cJ6_bitCount_0f7a4 7 = .ok (.iand, 1) := by decide +kernel
theorem dJ6_bitCount_0f7a4_8 : decode cJ6_bitCount_0f7a4 8 = .ok (.isub, 1) := by decide +kernel
theorem dJ6_bitCount_0f7a4_9 : decode cJ6_bitCount_0f7a4 9 = .ok (.istore_n 0, 1) := by decide +kernel
theorem dJ6_bitCount_0f7a4_10 : decode cJ6_bitCount_0f7a4 10 = .ok (.iload_n 0, 1) := by decide +kernel
theorem dJ6_bitCount_0f7a4_11 : decode cJ6_bitCount_0f7a4 11 = .ok (.ldc_w 266, 3) := by decide +kernel
theorem dJ6_bitCount_0f7a4_14 : decode cJ6_bitCount_0f7a4 14 = .ok (.iand, 1) := by decide +kernel
theorem dJ6_bitCount_0f7a4_15 : decode cJ6_bitCount_0f7a4 15 = .ok (.iload_n 0, 1) := by decide +kernel
theorem dJ6_bitCount_0f7a4_16 : decode cJ6_bitCount_0f7a4 16 = .ok (.iconst 2, 1) := by decide +kernel
theorem dJ6_bitCount_0f7a4_17 : decode cJ6_bitCount_0f7a4 17 = .ok (.iushr, 1) := by decide +kernel
theorem dJ6_bitCount_0f7a4_18 : decode cJ6_bitCount_0f7a4 18 = .ok (.ldc_w 266, 3) := by decide +kernel
theorem dJ6_bitCount_0f7a4_21 : decode cJ6_bitCount_0f7a4 21 = .ok (.iand, 1) := by decide +kernel
theorem dJ6_bitCount_0f7a4_22 : decode cJ6_bitCount_0f7a4 22 = .ok (.iadd, 1) := by decide +kernel
theorem dJ6_bitCount_0f7a4_23 : decode cJ6_bitCount_0f7a4 23 = .ok (.istore_n 0, 1) := by decide +kernel
theorem dJ6_bitCount_0f7a4_24 : decode cJ6_bitCount_0f7a4 24 = .ok (.iload_n 0, 1) := by decide +kernel
theorem dJ6_bitCount_0f7a4_25 : decode cJ6_bitCount_0f7a4 25 = .ok (.iload_n 0, 1) := by decide +kernel
theorem dJ6_bitCount_0f7a4_26 : decode cJ6_bitCount_0f7a4 26 = .ok (.iconst 4, 1) := by decide +kernel
theorem dJ6_bitCount_0f7a4_27 : decode cJ6_bitCount_0f7a4 27 = .ok (.iushr, 1) := by decide +kernel
theorem dJ6_bitCount_0f7a4_28 : decode cJ6_bitCount_0f7a4 28 = .ok (.iadd, 1) := by decide +kernel
theorem dJ6_bitCount_0f7a4_29 : decode cJ6_bitCount_0f7a4 29 = .ok (.ldc_w 267, 3) := by decide +kernel
theorem dJ6_bitCount_0f7a4_32 : decode cJ6_bitCount_0f7a4 32 = .ok (.iand, 1) := by decide +kernel
theorem dJ6_bitCount_0f7a4_33 : decode cJ6_bitCount_0f7a4 33 = .ok (.istore_n 0, 1) := by decide +kernel
theorem dJ6_bitCount_0f7a4_34 : decode cJ6_bitCount_0f7a4 34 = .ok (.iload_n 0, 1) := by decide +kernel
theorem dJ6_bitCount_0f7a4_35 : decode cJ6_bitCount_0f7a4 35 = .ok (.iload_n 0, 1) := by decide +kernel
theorem dJ6_bitCount_0f7a4_36 : decode cJ6_bitCount_0f7a4 36 = .ok (.bipush 8, 2) := by decide +kernel
theorem dJ6_bitCount_0f7a4_38 : decode cJ6_bitCount_0f7a4 38 = .ok (.iushr, 1) := by decide +kernel
theorem dJ6_bitCount_0f7a4_39 : decode cJ6_bitCount_0f7a4 39 = .ok (.iadd, 1) := by decide +kernel
theorem dJ6_bitCount_0f7a4_40 : decode cJ6_bitCount_0f7a4 40 = .ok (.istore_n 0, 1) := by decide +kernel
theorem dJ6_bitCount_0f7a4_41 : decode cJ6_bitCount_0f7a4 41 = .ok (.iload_n 0, 1) := by decide +kernel
theorem dJ6_bitCount_0f7a4_42 : decode cJ6_bitCount_0f7a4 42 = .ok (.iload_n 0, 1) := by decide +kernel
theorem dJ6_bitCount_0f7a4_43 : decode cJ6_bitCount_0f7a4 43 = .ok (.bipush 16, 2) := by decide +kernel
theorem dJ6_bitCount_0f7a4_45 : decode cJ6_bitCount_0f7a4 45 = .ok (.iushr, 1) := by decide +kernel
theorem dJ6_bitCount_0f7a4_46 : decode cJ6_bitCount_0f7a4 46 = .ok (.iadd, 1) := by decide +kernel
theorem dJ6_bitCount_0f7a4_47 : decode cJ6_bitCount_0f7a4 47 = .ok (.istore_n 0, 1) := by decide +kernel
theorem dJ6_bitCount_0f7a4_48 : decode cJ6_bitCount_0f7a4 48 = .ok (.iload_n 0, 1) := by decide +kernel
theorem dJ6_bitCount_0f7a4_49 : decode cJ6_bitCount_0f7a4 49 = .ok (.bipush 63, 2) := by decide +kernel
theorem dJ6_bitCount_0f7a4_51 : decode cJ6_bitCount_0f7a4 51 = .ok (.iand, 1) := by decide +kernel
theorem dJ6_bitCount_0f7a4_52 : decode cJ6_bitCount_0f7a4 52 = .ok (.ireturn, 1) := by decide +kernel
theorem dJ9_abs_0f7a4_0 : decode cJ9_abs_0f7a4 0 = .ok (.iload_n 0, 1) := by decide +kernel
theorem dJ9_abs_0f7a4_1 : decode cJ9_abs_0f7a4 1 = .ok (.ifCond .ge 8, 3) := by decide +kernel
theorem dJ9_abs_0f7a4_4 : decode cJ9_abs_0f7a4 4 = .ok (.iload_n 0, 1) := by decide +kernel
theorem dJ9_abs_0f7a4_5 : decode cJ9_abs_0f7a4 5 = .ok (.ineg, 1) := by decide +kernel
theorem dJ9_abs_0f7a4_6 : decode cJ9_abs_0f7a4 6 = .ok (.goto 4, 3) := by decide +kernel
theorem dJ9_abs_0f7a4_9 : decode cJ9_abs_0f7a4 9 = .ok (.iload_n 0, 1) := by decide +kernel
theorem dJ9_abs_0f7a4_10 : decode cJ9_abs_0f7a4 10 = .ok (.ireturn, 1) := by decide +kernel
theorem dJ9_max_7cf53_0 : decode cJ9_max_7cf53 0 = .ok (.iload_n 0, 1) := by decide +kernel
theorem dJ9_max_7cf53_1 : decode cJ9_max_7cf53 1 = .ok (.iload_n 1, 1) := by decide +kernel
theorem dJ9_max_7cf53_2 : decode cJ9_max_7cf53 2 = .ok (.if_icmp .lt 7, 3) := by decide +kernel
theorem dJ9_max_7cf53_5 : decode cJ9_max_7cf53 5 = .ok (.iload_n 0, 1) := by decide +kernel
theorem dJ9_max_7cf53_6 : decode cJ9_max_7cf53 6 = .ok (.goto 4, 3) := by decide +kernel
theorem dJ9_max_7cf53_9 : decode cJ9_max_7cf53 9 = .ok (.iload_n 1, 1) := by decide +kernel
theorem dJ9_max_7cf53_10 : decode cJ9_max_7cf53 10 = .ok (.ireturn, 1) := by decide +kernel
theorem dJ9_min_7cf53_0 : decode cJ9_min_7cf53 0 = .ok (.iload_n 0, 1) := by decide +kernel
theorem dJ9_min_7cf53_1 : decode cJ9_min_7cf53 1 = .ok (.iload_n 1, 1) := by decide +kernel
theorem dJ9_min_7cf53_2 : decode cJ9_min_7cf53 2 = .ok (.if_icmp .gt 7, 3) := by decide +kernel
theorem dJ9_min_7cf53_5 : decode cJ9_min_7cf53 5 = .ok (.iload_n 0, 1) := by decide +kernel
theorem dJ9_min_7cf53_6 : decode cJ9_min_7cf53 6 = .ok (.goto 4, 3) := by decide +kernel
theorem dJ9_min_7cf53_9 : decode cJ9_min_7cf53 9 = .ok (.iload_n 1, 1) := by decide +kernel
theorem dJ9_min_7cf53_10 : decode cJ9_min_7cf53 10 = .ok (.ireturn, 1) := by decide +kernel
theorem dJ0_length_8abf5_0 : decode cJ0_length_8abf5 0 = .ok (.aload_n 0, 1) := by decide +kernel
theorem dJ0_length_8abf5_1 : decode cJ0_length_8abf5 1 = .ok (.getfield 9, 3) := by decide +kernel
theorem dJ0_length_8abf5_4 : decode cJ0_length_8abf5 4 = .ok (.arraylength, 1) := by decide +kernel
theorem dJ0_length_8abf5_5 : decode cJ0_length_8abf5 5 = .ok (.aload_n 0, 1) := by decide +kernel
theorem dJ0_length_8abf5_6 : decode cJ0_length_8abf5 6 = .ok (.invokevirtual 335, 3) := by decide +kernel
theorem dJ0_length_8abf5_9 : decode cJ0_length_8abf5 9 = .ok (.ishr, 1) := by decide +kernel
theorem dJ0_length_8abf5_10 : decode cJ0_length_8abf5 10 = .ok (.ireturn, 1) := by decide +kernel
theorem dJ0_charAt_5068e_0 : decode cJ0_charAt_5068e 0 = .ok (.aload_n 0, 1) := by decide +kernel
theorem dJ0_charAt_5068e_1 : decode cJ0_charAt_5068e 1 = .ok (.invokevirtual 492, 3) := by decide +kernel
theorem dJ0_charAt_5068e_4 : decode cJ0_charAt_5068e 4 = .ok (.ifCond .eq 12, 3) := by decide +kernel
theorem dJ0_charAt_5068e_7 : decode cJ0_charAt_5068e 7 = .ok (.aload_n 0, 1) := by decide +kernel
theorem dJ0_charAt_5068e_8 : decode cJ0_charAt_5068e 8 = .ok (.getfield 9, 3) := by decide +kernel
theorem dJ0_charAt_5068e_11 : decode cJ0_charAt_5068e 11 = .ok (.iload_n 1, 1) := by decide +kernel
theorem dJ0_charAt_5068e_12 : decode cJ0_charAt_5068e 12 = .ok (.invokestatic 495, 3) := by decide +kernel
theorem dJ0_charAt_5068e_15 : decode cJ0_charAt_5068e 15 = .ok (.ireturn, 1) := by decide +kernel
theorem dJ0_charAt_5068e_16 : decode cJ0_charAt_5068e 16 = .ok (.aload_n 0, 1) := by decide +kernel
theorem dJ0_charAt_5068e_17 : decode cJ0_charAt_5068e 17 = .ok (.getfield 9, 3) := by decide +kernel
theorem dJ0_charAt_5068e_20 : decode cJ0_charAt_5068e 20 = .ok (.iload_n 1, 1) := by decide +kernel
theorem dJ0_charAt_5068e_21 : decode cJ0_charAt_5068e 21 = .ok (.invokestatic 498, 3) := by decide +kernel
theorem dJ0_charAt_5068e_24 : decode cJ0_charAt_5068e 24 = .ok (.ireturn, 1) := by decide +kernel
theorem dJ0_coder_7d493_0 : decode cJ0_coder_7d493 0 = .ok (.getstatic 38, 3) := by decide +kernel
theorem dJ0_coder_7d493_3 : decode cJ0_coder_7d493 3 = .ok (.ifCond .eq 10, 3) := by decide +kernel
theorem dJ0_coder_7d493_6 : decode cJ0_coder_7d493 6 = .ok (.aload_n 0, 1) := by decide +kernel
theorem dJ0_coder_7d493_7 : decode cJ0_coder_7d493 7 = .ok (.getfield 15, 3) := by decide +kernel
theorem dJ0_coder_7d493_10 : decode cJ0_coder_7d493 10 = .ok (.goto 4, 3) := by decide +kernel
theorem dJ0_coder_7d493_13 : decode cJ0_coder_7d493 13 = .ok (.iconst 1, 1) := by decide +kernel
theorem dJ0_coder_7d493_14 : decode cJ0_coder_7d493 14 = .ok (.ireturn, 1) := by decide +kernel
theorem dJ0_isLatin1_aae02_0 : decode cJ0_isLatin1_aae02 0 = .ok (.getstatic 38, 3) := by decide +kernel
theorem dJ0_isLatin1_aae02_3 : decode cJ0_isLatin1_aae02 3 = .ok (.ifCond .eq 14, 3) := by decide +kernel
theorem dJ0_isLatin1_aae02_6 : decode cJ0_isLatin1_aae02 6 = .ok (.aload_n 0, 1) := by decide +kernel
theorem dJ0_isLatin1_aae02_7 : decode cJ0_isLatin1_aae02 7 = .ok (.getfield 15, 3) := by decide +kernel
theorem dJ0_isLatin1_aae02_10 : decode cJ0_isLatin1_aae02 10 = .ok (.ifCond .ne 7, 3) := by decide +kernel
theorem dJ0_isLatin1_aae02_13 : decode cJ0_isLatin1_aae02 13 = .ok (.iconst 1, 1) := by decide +kernel
theorem dJ0_isLatin1_aae02_14 : decode cJ0_isLatin1_aae02 14 = .ok (.goto 4, 3) := by decide +kernel
theorem dJ0_isLatin1_aae02_17 : decode cJ0_isLatin1_aae02 17 = .ok (.iconst 0, 1) := by decide +kernel
theorem dJ0_isLatin1_aae02_18 : decode cJ0_isLatin1_aae02 18 = .ok (.ireturn, 1) := by decide +kernel
theorem dJ0_checkIndex_df160_0 : decode cJ0_checkIndex_df160 0 = .ok (.iload_n 0, 1) := by decide +kernel
theorem dJ0_checkIndex_df160_1 : decode cJ0_checkIndex_df160 1 = .ok (.iload_n 1, 1) := by decide +kernel
theorem dJ0_checkIndex_df160_2 : decode cJ0_checkIndex_df160 2 = .ok (.getstatic 1053, 3) := by decide +kernel
theorem dJ0_checkIndex_df160_5 : decode cJ0_checkIndex_df160 5 = .ok (.invokestatic 1059, 3) := by decide +kernel
theorem dJ0_checkIndex_df160_8 : decode cJ0_checkIndex_df160 8 = .ok (.pop, 1) := by decide +kernel
theorem dJ0_checkIndex_df160_9 : decode cJ0_checkIndex_df160 9 = .ok (.return_, 1) := by decide +kernel
theorem dJ1_charAt_3b067_0 : decode cJ1_charAt_3b067 0 = .ok (.iload_n 1, 1) := by decide +kernel
theorem dJ1_charAt_3b067_1 : decode cJ1_charAt_3b067 1 = .ok (.aload_n 0, 1) := by decide +kernel
theorem dJ1_charAt_3b067_2 : decode cJ1_charAt_3b067 2 = .ok (.arraylength, 1) := by decide +kernel
theorem dJ1_charAt_3b067_3 : decode cJ1_charAt_3b067 3 = .ok (.invokestatic 9, 3) := by decide +kernel
theorem dJ1_charAt_3b067_6 : decode cJ1_charAt_3b067 6 = .ok (.aload_n 0, 1) := by decide +kernel
theorem dJ1_charAt_3b067_7 : decode cJ1_charAt_3b067 7 = .ok (.iload_n 1, 1) := by decide +kernel
theorem dJ1_charAt_3b067_8 : decode cJ1_charAt_3b067 8 = .ok (.baload, 1) := by decide +kernel
theorem dJ1_charAt_3b067_9 : decode cJ1_charAt_3b067 9 = .ok (.sipush 255, 3) := by decide +kernel
theorem dJ1_charAt_3b067_12 : decode cJ1_charAt_3b067 12 = .ok (.iand, 1) := by decide +kernel
theorem dJ1_charAt_3b067_13 : decode cJ1_charAt_3b067 13 = .ok (.i2c, 1) := by decide +kernel
theorem dJ1_charAt_3b067_14 : decode cJ1_charAt_3b067 14 = .ok (.ireturn, 1) := by decide +kernel
theorem dJ2_getChar_3b067_0 : decode cJ2_getChar_3b067 0 = .ok (.getstatic 44, 3) := by decide +kernel
theorem dJ2_getChar_3b067_3 : decode cJ2_getChar_3b067 3 = .ok (.ifCond .ne 25, 3) := by decide +kernel
theorem dJ2_getChar_3b067_6 : decode cJ2_getChar_3b067 6 = .ok (.iload_n 1, 1) := by decide +kernel
theorem dJ2_getChar_3b067_7 : decode cJ2_getChar_3b067 7 = .ok (.ifCond .lt 11, 3) := by decide +kernel
theorem dJ2_getChar_3b067_10 : decode cJ2_getChar_3b067 10 = .ok (.iload_n 1, 1) := by decide +kernel
theorem dJ2_getChar_3b067_11 : decode cJ2_getChar_3b067 11 = .ok (.aload_n 0, 1) := by decide +kernel
theorem dJ2_getChar_3b067_12 : decode cJ2_getChar_3b067 12 = .ok (.invokestatic 48, 3) := by decide +kernel
theorem dJ2_getChar_3b067_15 : decode cJ2_getChar_3b067 15 = .ok (.if_icmp .lt 13, 3) := by decide +kernel
theorem dJ2_getChar_3b067_18 : decode cJ2_getChar_3b067 18 = .ok (.new 52, 3) := by decide +kernel
theorem dJ2_getChar_3b067_21 : decode cJ2_getChar_3b067 21 = .ok (.dup, 1) := by decide +kernel
theorem dJ2_getChar_3b067_22 : decode cJ2_getChar_3b067 22 = .ok (.ldc 54, 2) := by decide +kernel
theorem dJ2_getChar_3b067_24 : decode cJ2_getChar_3b067 24 = .ok (.invokespecial 56, 3) := by decide +kernel
theorem dJ2_getChar_3b067_27 : decode cJ2_getChar_3b067 27 = .ok (.athrow, 1) := by decide +kernel
theorem dJ2_getChar_3b067_28 : decode cJ2_getChar_3b067 28 = .ok (.iload_n 1, 1) := by decide +kernel
theorem dJ2_getChar_3b067_29 : decode cJ2_getChar_3b067 29 = .ok (.iconst 1, 1) := by decide +kernel
theorem dJ2_getChar_3b067_30 : decode cJ2_getChar_3b067 30 = .ok (.ishl, 1) := by decide +kernel
theorem dJ2_getChar_3b067_31 : decode cJ2_getChar_3b067 31 = .ok (.istore_n 1, 1) := by decide +kernel
theorem dJ2_getChar_3b067_32 : decode cJ2_getChar_3b067 32 = .ok (.aload_n 0, 1) := by decide +kernel
theorem dJ2_getChar_3b067_33 : decode cJ2_getChar_3b067 33 = .ok (.iload_n 1, 1) := by decide +kernel
theorem dJ2_getChar_3b067_34 : decode cJ2_getChar_3b067 34 = .ok (.iinc 1 1, 3) := by decide +kernel
theorem dJ2_getChar_3b067_37 : decode cJ2_getChar_3b067 37 = .ok (.baload, 1) := by decide +kernel
theorem dJ2_getChar_3b067_38 : decode cJ2_getChar_3b067 38 = .ok (.sipush 255, 3) := by decide +kernel
theorem dJ2_getChar_3b067_41 : decode cJ2_getChar_3b067 41 = .ok (.iand, 1) := by decide +kernel
theorem dJ2_getChar_3b067_42 : decode cJ2_getChar_3b067 42 = .ok (.getstatic 59, 3) := by decide +kernel
theorem dJ2_getChar_3b067_45 : decode cJ2_getChar_3b067 45 = .ok (.ishl, 1) := by decide +kernel
theorem dJ2_getChar_3b067_46 : decode cJ2_getChar_3b067 46 = .ok (.aload_n 0, 1) := by decide +kernel
theorem dJ2_getChar_3b067_47 : decode cJ2_getChar_3b067 47 = .ok (.iload_n 1, 1) := by decide +kernel
theorem dJ2_getChar_3b067_48 : decode cJ2_getChar_3b067 48 = .ok (.baload, 1) := by decide +kernel
theorem dJ2_getChar_3b067_49 : decode cJ2_getChar_3b067 49 = .ok (.sipush 255, 3) := by decide +kernel
theorem dJ2_getChar_3b067_52 : decode cJ2_getChar_3b067 52 = .ok (.iand, 1) := by decide +kernel
theorem dJ2_getChar_3b067_53 : decode cJ2_getChar_3b067 53 = .ok (.getstatic 63, 3) := by decide +kernel
theorem dJ2_getChar_3b067_56 : decode cJ2_getChar_3b067 56 = .ok (.ishl, 1) := by decide +kernel
theorem dJ2_getChar_3b067_57 : decode cJ2_getChar_3b067 57 = .ok (.ior, 1) := by decide +kernel
theorem dJ2_getChar_3b067_58 : decode cJ2_getChar_3b067 58 = .ok (.i2c, 1) := by decide +kernel
theorem dJ2_getChar_3b067_59 : decode cJ2_getChar_3b067 59 = .ok (.ireturn, 1) := by decide +kernel
theorem dJ2_length_9d52b_0 : decode cJ2_length_9d52b 0 = .ok (.aload_n 0, 1) := by decide +kernel
theorem dJ2_length_9d52b_1 : decode cJ2_length_9d52b 1 = .ok (.arraylength, 1) := by decide +kernel
theorem dJ2_length_9d52b_2 : decode cJ2_length_9d52b 2 = .ok (.iconst 1, 1) := by decide +kernel
theorem dJ2_length_9d52b_3 : decode cJ2_length_9d52b 3 = .ok (.ishr, 1) := by decide +kernel
theorem dJ2_length_9d52b_4 : decode cJ2_length_9d52b 4 = .ok (.ireturn, 1) := by decide +kernel
theorem dJ2_charAt_3b067_0 : decode cJ2_charAt_3b067 0 = .ok (.iload_n 1, 1) := by decide +kernel
theorem dJ2_charAt_3b067_1 : decode cJ2_charAt_3b067 1 = .ok (.aload_n 0, 1) := by decide +kernel
theorem dJ2_charAt_3b067_2 : decode cJ2_charAt_3b067 2 = .ok (.invokestatic 67, 3) := by decide +kernel
theorem dJ2_charAt_3b067_5 : decode cJ2_charAt_3b067 5 = .ok (.aload_n 0, 1) := by decide +kernel
theorem dJ2_charAt_3b067_6 : decode cJ2_charAt_3b067 6 = .ok (.iload_n 1, 1) := by decide +kernel
theorem dJ2_charAt_3b067_7 : decode cJ2_charAt_3b067 7 = .ok (.invokestatic 71, 3) := by decide +kernel
theorem dJ2_charAt_3b067_10 : decode cJ2_charAt_3b067 10 = .ok (.ireturn, 1) := by decide +kernel
theorem dJ2_checkIndex_2214a_0 : decode cJ2_checkIndex_2214a 0 = .ok (.iload_n 0, 1) := by decide +kernel
theorem dJ2_checkIndex_2214a_1 : decode cJ2_checkIndex_2214a 1 = .ok (.aload_n 1, 1) := by decide +kernel
theorem dJ2_checkIndex_2214a_2 : decode cJ2_checkIndex_2214a 2 = .ok (.invokestatic 48, 3) := by decide +kernel
theorem dJ2_checkIndex_2214a_5 : decode cJ2_checkIndex_2214a 5 = .ok (.invokestatic 414, 3) := by decide +kernel
theorem dJ2_checkIndex_2214a_8 : decode cJ2_checkIndex_2214a 8 = .ok (.return_, 1) := by decide +kernel
theorem dJ7_fill_53178_0 : decode cJ7_fill_53178 0 = .ok (.iconst 0, 1) := by decide +kernel
theorem dJ7_fill_53178_1 : decode cJ7_fill_53178 1 = .ok (.istore_n 2, 1) := by decide +kernel
theorem dJ7_fill_53178_2 : decode cJ7_fill_53178 2 = .ok (.aload_n 0, 1) := by decide +kernel
theorem dJ7_fill_53178_3 : decode cJ7_fill_53178 3 = .ok (.arraylength, 1) := by decide +kernel
theorem dJ7_fill_53178_4 : decode cJ7_fill_53178 4 = .ok (.istore_n 3, 1) := by decide +kernel
theorem dJ7_fill_53178_5 : decode cJ7_fill_53178 5 = .ok (.iload_n 2, 1) := by decide +kernel
theorem dJ7_fill_53178_6 : decode cJ7_fill_53178 6 = .ok (.iload_n 3, 1) := by decide +kernel
theorem dJ7_fill_53178_7 : decode cJ7_fill_53178 7 = .ok (.if_icmp .ge 13, 3) := by decide +kernel
theorem dJ7_fill_53178_10 : decode cJ7_fill_53178 10 = .ok (.aload_n 0, 1) := by decide +kernel
theorem dJ7_fill_53178_11 : decode cJ7_fill_53178 11 = .ok (.iload_n 2, 1) := by decide +kernel
theorem dJ7_fill_53178_12 : decode cJ7_fill_53178 12 = .ok (.iload_n 1, 1) := by decide +kernel
theorem dJ7_fill_53178_13 : decode cJ7_fill_53178 13 = .ok (.iastore, 1) := by decide +kernel
theorem dJ7_fill_53178_14 : decode cJ7_fill_53178 14 = .ok (.iinc 2 1, 3) := by decide +kernel
theorem dJ7_fill_53178_17 : decode cJ7_fill_53178 17 = .ok (.goto (-12), 3) := by decide +kernel
theorem dJ7_fill_53178_20 : decode cJ7_fill_53178 20 = .ok (.return_, 1) := by decide +kernel
theorem dJ3_checkIndex_8e157_0 : decode cJ3_checkIndex_8e157 0 = .ok (.iload_n 0, 1) := by decide +kernel
theorem dJ3_checkIndex_8e157_1 : decode cJ3_checkIndex_8e157 1 = .ok (.ifCond .lt 8, 3) := by decide +kernel
theorem dJ3_checkIndex_8e157_4 : decode cJ3_checkIndex_8e157 4 = .ok (.iload_n 0, 1) := by decide +kernel
theorem dJ3_checkIndex_8e157_5 : decode cJ3_checkIndex_8e157 5 = .ok (.iload_n 1, 1) := by decide +kernel
theorem dJ3_checkIndex_8e157_6 : decode cJ3_checkIndex_8e157 6 = .ok (.if_icmp .lt 10, 3) := by decide +kernel
theorem dJ3_checkIndex_8e157_9 : decode cJ3_checkIndex_8e157 9 = .ok (.aload_n 2, 1) := by decide +kernel
theorem dJ3_checkIndex_8e157_10 : decode cJ3_checkIndex_8e157 10 = .ok (.iload_n 0, 1) := by decide +kernel
theorem dJ3_checkIndex_8e157_11 : decode cJ3_checkIndex_8e157 11 = .ok (.iload_n 1, 1) := by decide +kernel
theorem dJ3_checkIndex_8e157_12 : decode cJ3_checkIndex_8e157 12 = .ok (.invokestatic 95, 3) := by decide +kernel
theorem dJ3_checkIndex_8e157_15 : decode cJ3_checkIndex_8e157 15 = .ok (.athrow, 1) := by decide +kernel
theorem dJ3_checkIndex_8e157_16 : decode cJ3_checkIndex_8e157 16 = .ok (.iload_n 0, 1) := by decide +kernel
theorem dJ3_checkIndex_8e157_17 : decode cJ3_checkIndex_8e157 17 = .ok (.ireturn, 1) := by decide +kernel
theorem dL_law_0 : decode cL_law 0 = .ok (.new 7, 3) := by decide +kernel
theorem dL_law_3 : decode cL_law 3 = .ok (.dup, 1) := by decide +kernel
theorem dL_law_4 : decode cL_law 4 = .ok (.invokespecial 9, 3) := by decide +kernel
theorem dL_law_7 : decode cL_law 7 = .ok (.astore_n 1, 1) := by decide +kernel
theorem dL_law_8 : decode cL_law 8 = .ok (.new 10, 3) := by decide +kernel
theorem dL_law_11 : decode cL_law 11 = .ok (.dup, 1) := by decide +kernel
theorem dL_law_12 : decode cL_law 12 = .ok (.invokespecial 12, 3) := by decide +kernel
theorem dL_law_15 : decode cL_law 15 = .ok (.astore_n 2, 1) := by decide +kernel
theorem dL_law_16 : decode cL_law 16 = .ok (.iconst 0, 1) := by decide +kernel
theorem dL_law_17 : decode cL_law 17 = .ok (.istore_n 3, 1) := by decide +kernel
theorem dL_law_18 : decode cL_law 18 = .ok (.iload_n 3, 1) := by decide +kernel
theorem dL_law_19 : decode cL_law 19 = .ok (.aload_n 0, 1) := by decide +kernel
theorem dL_law_20 : decode cL_law 20 = .ok (.arraylength, 1) := by decide +kernel
theorem dL_law_21 : decode cL_law 21 = .ok (.bipush 7, 2) := by decide +kernel
theorem dL_law_23 : decode cL_law 23 = .ok (.isub, 1) := by decide +kernel
theorem dL_law_24 : decode cL_law 24 = .ok (.if_icmp .gt 1016, 3) := by decide +kernel
theorem dL_law_27 : decode cL_law 27 = .ok (.aload_n 0, 1) := by decide +kernel
theorem dL_law_28 : decode cL_law 28 = .ok (.iload_n 3, 1) := by decide +kernel
theorem dL_law_29 : decode cL_law 29 = .ok (.iaload, 1) := by decide +kernel
theorem dL_law_30 : decode cL_law 30 = .ok (.bipush 31, 2) := by decide +kernel
theorem dL_law_32 : decode cL_law 32 = .ok (.iand, 1) := by decide +kernel
theorem dL_law_33 : decode cL_law 33 = .ok (.tableswitch 1001 0 31 #[143, 166, 179, 192, 205, 238, 271, 304, 327, 360, 373, 386, 419, 462, 485, 498, 531, 564, 587, 610, 643, 656, 679, 712, 745, 798, 873, 896, 919, 952, 965, 978], 143) := by decide +kernel
theorem dL_law_176 : decode cL_law 176 = .ok (.aload_n 1, 1) := by decide +kernel
theorem dL_law_177 : decode cL_law 177 = .ok (.aload_n 0, 1) := by decide +kernel
theorem dL_law_178 : decode cL_law 178 = .ok (.iload_n 3, 1) := by decide +kernel
theorem dL_law_179 : decode cL_law 179 = .ok (.iconst 1, 1) := by decide +kernel
theorem dL_law_180 : decode cL_law 180 = .ok (.iadd, 1) := by decide +kernel
theorem dL_law_181 : decode cL_law 181 = .ok (.iaload, 1) := by decide +kernel
theorem dL_law_182 : decode cL_law 182 = .ok (.invokevirtual 13, 3) := by decide +kernel
theorem dL_law_185 : decode cL_law 185 = .ok (.aload_n 2, 1) := by decide +kernel
theorem dL_law_186 : decode cL_law 186 = .ok (.aload_n 0, 1) := by decide +kernel
theorem dL_law_187 : decode cL_law 187 = .ok (.iload_n 3, 1) := by decide +kernel
theorem dL_law_188 : decode cL_law 188 = .ok (.iconst 1, 1) := by decide +kernel
theorem dL_law_189 : decode cL_law 189 = .ok (.iadd, 1) := by decide +kernel
theorem dL_law_190 : decode cL_law 190 = .ok (.iaload, 1) := by decide +kernel
theorem dL_law_191 : decode cL_law 191 = .ok (.invokevirtual 17, 3) := by decide +kernel
theorem dL_law_194 : decode cL_law 194 = .ok (.if_icmp .eq 840, 3) := by decide +kernel
theorem dL_law_197 : decode cL_law 197 = .ok (.iconst 0, 1) := by decide +kernel
theorem dL_law_198 : decode cL_law 198 = .ok (.ireturn, 1) := by decide +kernel
theorem dL_law_199 : decode cL_law 199 = .ok (.aload_n 1, 1) := by decide +kernel
theorem dL_law_200 : decode cL_law 200 = .ok (.invokevirtual 18, 3) := by decide +kernel
theorem dL_law_203 : decode cL_law 203 = .ok (.aload_n 2, 1) := by decide +kernel
theorem dL_law_204 : decode cL_law 204 = .ok (.invokevirtual 22, 3) := by decide +kernel
theorem dL_law_207 : decode cL_law 207 = .ok (.if_icmp .eq 827, 3) := by decide +kernel
theorem dL_law_210 : decode cL_law 210 = .ok (.iconst 0, 1) := by decide +kernel
theorem dL_law_211 : decode cL_law 211 = .ok (.ireturn, 1) := by decide +kernel
theorem dL_law_212 : decode cL_law 212 = .ok (.aload_n 1, 1) := by decide +kernel
theorem dL_law_213 : decode cL_law 213 = .ok (.invokevirtual 23, 3) := by decide +kernel
theorem dL_law_216 : decode cL_law 216 = .ok (.aload_n 2, 1) := by decide +kernel
theorem dL_law_217 : decode cL_law 217 = .ok (.invokevirtual 26, 3) := by decide +kernel
theorem dL_law_220 : decode cL_law 220 = .ok (.if_icmp .eq 814, 3) := by decide +kernel
theorem dL_law_223 : decode cL_law 223 = .ok (.iconst 0, 1) := by decide +kernel
theorem dL_law_224 : decode cL_law 224 = .ok (.ireturn, 1) := by decide +kernel
theorem dL_law_225 : decode cL_law 225 = .ok (.aload_n 1, 1) := by decide +kernel
theorem dL_law_226 : decode cL_law 226 = .ok (.invokevirtual 27, 3) := by decide +kernel
theorem dL_law_229 : decode cL_law 229 = .ok (.aload_n 2, 1) := by decide +kernel
theorem dL_law_230 : decode cL_law 230 = .ok (.invokevirtual 30, 3) := by decide +kernel
theorem dL_law_233 : decode cL_law 233 = .ok (.if_icmp .eq 801, 3) := by decide +kernel
theorem dL_law_236 : decode cL_law 236 = .ok (.iconst 0, 1) := by decide +kernel
theorem dL_law_237 : decode cL_law 237 = .ok (.ireturn, 1) := by decide +kernel
theorem dL_law_238 : decode cL_law 238 = .ok (.aload_n 1, 1) := by decide +kernel
theorem dL_law_239 : decode cL_law 239 = .ok (.aload_n 0, 1) := by decide +kernel
theorem dL_law_240 : decode cL_law 240 = .ok (.iload_n 3, 1) := by decide +kernel
theorem dL_law_241 : decode cL_law 241 = .ok (.iconst 1, 1) := by decide +kernel
theorem dL_law_242 : decode cL_law 242 = .ok (.iadd, 1) := by decide +kernel
theorem dL_law_243 : decode cL_law 243 = .ok (.iaload, 1) := by decide +kernel
theorem dL_law_244 : decode cL_law 244 = .ok (.aload_n 0, 1) := by decide +kernel
theorem dL_law_245 : decode cL_law 245 = .ok (.iload_n 3, 1) := by decide +kernel
theorem dL_law_246 : decode cL_law 246 = .ok (.iconst 2, 1) := by decide +kernel
theorem dL_law_247 : decode cL_law 247 = .ok (.iadd, 1) := by decide +kernel
theorem dL_law_248 : decode cL_law 248 = .ok (.iaload, 1) := by decide +kernel
theorem dL_law_249 : decode cL_law 249 = .ok (.invokevirtual 31, 3) := by decide +kernel
theorem dL_law_252 : decode cL_law 252 = .ok (.aload_n 2, 1) := by decide +kernel
theorem dL_law_253 : decode cL_law 253 = .ok (.aload_n 0, 1) := by decide +kernel
theorem dL_law_254 : decode cL_law 254 = .ok (.iload_n 3, 1) := by decide +kernel
theorem dL_law_255 : decode cL_law 255 = .ok (.iconst 1, 1) := by decide +kernel
theorem dL_law_256 : decode cL_law 256 = .ok (.iadd, 1) := by decide +kernel
theorem dL_law_257 : decode cL_law 257 = .ok (.iaload, 1) := by decide +kernel
theorem dL_law_258 : decode cL_law 258 = .ok (.aload_n 0, 1) := by decide +kernel
theorem dL_law_259 : decode cL_law 259 = .ok (.iload_n 3, 1) := by decide +kernel
theorem dL_law_260 : decode cL_law 260 = .ok (.iconst 2, 1) := by decide +kernel
theorem dL_law_261 : decode cL_law 261 = .ok (.iadd, 1) := by decide +kernel
theorem dL_law_262 : decode cL_law 262 = .ok (.iaload, 1) := by decide +kernel
theorem dL_law_263 : decode cL_law 263 = .ok (.invokevirtual 35, 3) := by decide +kernel
theorem dL_law_266 : decode cL_law 266 = .ok (.if_icmp .eq 768, 3) := by decide +kernel
theorem dL_law_269 : decode cL_law 269 = .ok (.iconst 0, 1) := by decide +kernel
theorem dL_law_270 : decode cL_law 270 = .ok (.ireturn, 1) := by decide +kernel
theorem dL_law_271 : decode cL_law 271 = .ok (.aload_n 1, 1) := by decide +kernel
theorem dL_law_272 : decode cL_law 272 = .ok (.aload_n 0, 1) := by decide +kernel
theorem dL_law_273 : decode cL_law 273 = .ok (.iload_n 3, 1) := by decide +kernel
theorem dL_law_274 : decode cL_law 274 = .ok (.iconst 1, 1) := by decide +kernel
theorem dL_law_275 : decode cL_law 275 = .ok (.iadd, 1) := by decide +kernel
theorem dL_law_276 : decode cL_law 276 = .ok (.iaload, 1) := by decide +kernel
theorem dL_law_277 : decode cL_law 277 = .ok (.aload_n 0, 1) := by decide +kernel
theorem dL_law_278 : decode cL_law 278 = .ok (.iload_n 3, 1) := by decide +kernel
theorem dL_law_279 : decode cL_law 279 = .ok (.iconst 2, 1) := by decide +kernel
theorem dL_law_280 : decode cL_law 280 = .ok (.iadd, 1) := by decide +kernel
theorem dL_law_281 : decode cL_law 281 = .ok (.iaload, 1) := by decide +kernel
theorem dL_law_282 : decode cL_law 282 = .ok (.invokevirtual 36, 3) := by decide +kernel
theorem dL_law_285 : decode cL_law 285 = .ok (.aload_n 2, 1) := by decide +kernel
theorem dL_law_286 : decode cL_law 286 = .ok (.aload_n 0, 1) := by decide +kernel
theorem dL_law_287 : decode cL_law 287 = .ok (.iload_n 3, 1) := by decide +kernel
theorem dL_law_288 : decode cL_law 288 = .ok (.iconst 1, 1) := by decide +kernel
theorem dL_law_289 : decode cL_law 289 = .ok (.iadd, 1) := by decide +kernel
theorem dL_law_290 : decode cL_law 290 = .ok (.iaload, 1) := by decide +kernel
theorem dL_law_291 : decode cL_law 291 = .ok (.aload_n 0, 1) := by decide +kernel
theorem dL_law_292 : decode cL_law 292 = .ok (.iload_n 3, 1) := by decide +kernel
theorem dL_law_293 : decode cL_law 293 = .ok (.iconst 2, 1) := by decide +kernel
theorem dL_law_294 : decode cL_law 294 = .ok (.iadd, 1) := by decide +kernel
theorem dL_law_295 : decode cL_law 295 = .ok (.iaload, 1) := by decide +kernel
theorem dL_law_296 : decode cL_law 296 = .ok (.invokevirtual 39, 3) := by decide +kernel
theorem dL_law_299 : decode cL_law 299 = .ok (.if_icmp .eq 735, 3) := by decide +kernel
theorem dL_law_302 : decode cL_law 302 = .ok (.iconst 0, 1) := by decide +kernel
theorem dL_law_303 : decode cL_law 303 = .ok (.ireturn, 1) := by decide +kernel
theorem dL_law_304 : decode cL_law 304 = .ok (.aload_n 1, 1) := by decide +kernel
theorem dL_law_305 : decode cL_law 305 = .ok (.aload_n 0, 1) := by decide +kernel
theorem dL_law_306 : decode cL_law 306 = .ok (.iload_n 3, 1) := by decide +kernel
theorem dL_law_307 : decode cL_law 307 = .ok (.iconst 1, 1) := by decide +kernel
theorem dL_law_308 : decode cL_law 308 = .ok (.iadd, 1) := by decide +kernel
theorem dL_law_309 : decode cL_law 309 = .ok (.iaload, 1) := by decide +kernel
theorem dL_law_310 : decode cL_law 310 = .ok (.aload_n 0, 1) := by decide +kernel
theorem dL_law_311 : decode cL_law 311 = .ok (.iload_n 3, 1) := by decide +kernel
theorem dL_law_312 : decode cL_law 312 = .ok (.iconst 2, 1) := by decide +kernel
theorem dL_law_313 : decode cL_law 313 = .ok (.iadd, 1) := by decide +kernel
theorem dL_law_314 : decode cL_law 314 = .ok (.iaload, 1) := by decide +kernel
theorem dL_law_315 : decode cL_law 315 = .ok (.invokevirtual 40, 3) := by decide +kernel
theorem dL_law_318 : decode cL_law 318 = .ok (.aload_n 2, 1) := by decide +kernel
theorem dL_law_319 : decode cL_law 319 = .ok (.aload_n 0, 1) := by decide +kernel
theorem dL_law_320 : decode cL_law 320 = .ok (.iload_n 3, 1) := by decide +kernel
theorem dL_law_321 : decode cL_law 321 = .ok (.iconst 1, 1) := by decide +kernel
theorem dL_law_322 : decode cL_law 322 = .ok (.iadd, 1) := by decide +kernel
theorem dL_law_323 : decode cL_law 323 = .ok (.iaload, 1) := by decide +kernel
theorem dL_law_324 : decode cL_law 324 = .ok (.aload_n 0, 1) := by decide +kernel
theorem dL_law_325 : decode cL_law 325 = .ok (.iload_n 3, 1) := by decide +kernel
theorem dL_law_326 : decode cL_law 326 = .ok (.iconst 2, 1) := by decide +kernel
theorem dL_law_327 : decode cL_law 327 = .ok (.iadd, 1) := by decide +kernel
theorem dL_law_328 : decode cL_law 328 = .ok (.iaload, 1) := by decide +kernel
theorem dL_law_329 : decode cL_law 329 = .ok (.invokevirtual 43, 3) := by decide +kernel
theorem dL_law_332 : decode cL_law 332 = .ok (.if_icmp .eq 702, 3) := by decide +kernel
theorem dL_law_335 : decode cL_law 335 = .ok (.iconst 0, 1) := by decide +kernel
theorem dL_law_336 : decode cL_law 336 = .ok (.ireturn, 1) := by decide +kernel
theorem dL_law_337 : decode cL_law 337 = .ok (.aload_n 1, 1) := by decide +kernel
theorem dL_law_338 : decode cL_law 338 = .ok (.aload_n 0, 1) := by decide +kernel
theorem dL_law_339 : decode cL_law 339 = .ok (.iload_n 3, 1) := by decide +kernel
theorem dL_law_340 : decode cL_law 340 = .ok (.iconst 1, 1) := by decide +kernel
theorem dL_law_341 : decode cL_law 341 = .ok (.iadd, 1) := by decide +kernel
theorem dL_law_342 : decode cL_law 342 = .ok (.iaload, 1) := by decide +kernel
theorem dL_law_343 : decode cL_law 343 = .ok (.invokevirtual 44, 3) := by decide +kernel
theorem dL_law_346 : decode cL_law 346 = .ok (.aload_n 2, 1) := by decide +kernel
theorem dL_law_347 : decode cL_law 347 = .ok (.aload_n 0, 1) := by decide +kernel
theorem dL_law_348 : decode cL_law 348 = .ok (.iload_n 3, 1) := by decide +kernel
theorem dL_law_349 : decode cL_law 349 = .ok (.iconst 1, 1) := by decide +kernel
theorem dL_law_350 : decode cL_law 350 = .ok (.iadd, 1) := by decide +kernel
theorem dL_law_351 : decode cL_law 351 = .ok (.iaload, 1) := by decide +kernel
theorem dL_law_352 : decode cL_law 352 = .ok (.invokevirtual 47, 3) := by decide +kernel
theorem dL_law_355 : decode cL_law 355 = .ok (.if_icmp .eq 679, 3) := by decide +kernel
theorem dL_law_358 : decode cL_law 358 = .ok (.iconst 0, 1) := by decide +kernel
theorem dL_law_359 : decode cL_law 359 = .ok (.ireturn, 1) := by decide +kernel
theorem dL_law_360 : decode cL_law 360 = .ok (.aload_n 1, 1) := by decide +kernel
theorem dL_law_361 : decode cL_law 361 = .ok (.aload_n 0, 1) := by decide +kernel
theorem dL_law_362 : decode cL_law 362 = .ok (.iload_n 3, 1) := by decide +kernel
theorem dL_law_363 : decode cL_law 363 = .ok (.iconst 1, 1) := by decide +kernel
theorem dL_law_364 : decode cL_law 364 = .ok (.iadd, 1) := by decide +kernel
theorem dL_law_365 : decode cL_law 365 = .ok (.iaload, 1) := by decide +kernel
theorem dL_law_366 : decode cL_law 366 = .ok (.aload_n 0, 1) := by decide +kernel
theorem dL_law_367 : decode cL_law 367 = .ok (.iload_n 3, 1) := by decide +kernel
theorem dL_law_368 : decode cL_law 368 = .ok (.iconst 2, 1) := by decide +kernel
theorem dL_law_369 : decode cL_law 369 = .ok (.iadd, 1) := by decide +kernel
theorem dL_law_370 : decode cL_law 370 = .ok (.iaload, 1) := by decide +kernel
theorem dL_law_371 : decode cL_law 371 = .ok (.invokevirtual 48, 3) := by decide +kernel
theorem dL_law_374 : decode cL_law 374 = .ok (.aload_n 2, 1) := by decide +kernel
theorem dL_law_375 : decode cL_law 375 = .ok (.aload_n 0, 1) := by decide +kernel
theorem dL_law_376 : decode cL_law 376 = .ok (.iload_n 3, 1) := by decide +kernel
theorem dL_law_377 : decode cL_law 377 = .ok (.iconst 1, 1) := by decide +kernel
theorem dL_law_378 : decode cL_law 378 = .ok (.iadd, 1) := by decide +kernel
theorem dL_law_379 : decode cL_law 379 = .ok (.iaload, 1) := by decide +kernel
theorem dL_law_380 : decode cL_law 380 = .ok (.aload_n 0, 1) := by decide +kernel
theorem dL_law_381 : decode cL_law 381 = .ok (.iload_n 3, 1) := by decide +kernel
theorem dL_law_382 : decode cL_law 382 = .ok (.iconst 2, 1) := by decide +kernel
theorem dL_law_383 : decode cL_law 383 = .ok (.iadd, 1) := by decide +kernel
theorem dL_law_384 : decode cL_law 384 = .ok (.iaload, 1) := by decide +kernel
theorem dL_law_385 : decode cL_law 385 = .ok (.invokevirtual 51, 3) := by decide +kernel
theorem dL_law_388 : decode cL_law 388 = .ok (.if_icmp .eq 646, 3) := by decide +kernel
theorem dL_law_391 : decode cL_law 391 = .ok (.iconst 0, 1) := by decide +kernel
theorem dL_law_392 : decode cL_law 392 = .ok (.ireturn, 1) := by decide +kernel
theorem dL_law_393 : decode cL_law 393 = .ok (.aload_n 1, 1) := by decide +kernel
theorem dL_law_394 : decode cL_law 394 = .ok (.invokevirtual 52, 3) := by decide +kernel
theorem dL_law_397 : decode cL_law 397 = .ok (.aload_n 2, 1) := by decide +kernel
theorem dL_law_398 : decode cL_law 398 = .ok (.invokevirtual 55, 3) := by decide +kernel
theorem dL_law_401 : decode cL_law 401 = .ok (.if_icmp .eq 633, 3) := by decide +kernel
theorem dL_law_404 : decode cL_law 404 = .ok (.iconst 0, 1) := by decide +kernel
theorem dL_law_405 : decode cL_law 405 = .ok (.ireturn, 1) := by decide +kernel
theorem dL_law_406 : decode cL_law 406 = .ok (.aload_n 1, 1) := by decide +kernel
theorem dL_law_407 : decode cL_law 407 = .ok (.invokevirtual 56, 3) := by decide +kernel
theorem dL_law_410 : decode cL_law 410 = .ok (.aload_n 2, 1) := by decide +kernel
theorem dL_law_411 : decode cL_law 411 = .ok (.invokevirtual 59, 3) := by decide +kernel
theorem dL_law_414 : decode cL_law 414 = .ok (.if_icmp .eq 620, 3) := by decide +kernel
theorem dL_law_417 : decode cL_law 417 = .ok (.iconst 0, 1) := by decide +kernel
theorem dL_law_418 : decode cL_law 418 = .ok (.ireturn, 1) := by decide +kernel
theorem dL_law_419 : decode cL_law 419 = .ok (.aload_n 1, 1) := by decide +kernel
theorem dL_law_420 : decode cL_law 420 = .ok (.aload_n 0, 1) := by decide +kernel
theorem dL_law_421 : decode cL_law 421 = .ok (.iload_n 3, 1) := by decide +kernel
theorem dL_law_422 : decode cL_law 422 = .ok (.iconst 1, 1) := by decide +kernel
theorem dL_law_423 : decode cL_law 423 = .ok (.iadd, 1) := by decide +kernel
theorem dL_law_424 : decode cL_law 424 = .ok (.iaload, 1) := by decide +kernel
theorem dL_law_425 : decode cL_law 425 = .ok (.aload_n 0, 1) := by decide +kernel
theorem dL_law_426 : decode cL_law 426 = .ok (.iload_n 3, 1) := by decide +kernel
theorem dL_law_427 : decode cL_law 427 = .ok (.iconst 2, 1) := by decide +kernel
theorem dL_law_428 : decode cL_law 428 = .ok (.iadd, 1) := by decide +kernel
theorem dL_law_429 : decode cL_law 429 = .ok (.iaload, 1) := by decide +kernel
theorem dL_law_430 : decode cL_law 430 = .ok (.invokevirtual 60, 3) := by decide +kernel
theorem dL_law_433 : decode cL_law 433 = .ok (.aload_n 2, 1) := by decide +kernel
theorem dL_law_434 : decode cL_law 434 = .ok (.aload_n 0, 1) := by decide +kernel
theorem dL_law_435 : decode cL_law 435 = .ok (.iload_n 3, 1) := by decide +kernel
theorem dL_law_436 : decode cL_law 436 = .ok (.iconst 1, 1) := by decide +kernel
theorem dL_law_437 : decode cL_law 437 = .ok (.iadd, 1) := by decide +kernel
theorem dL_law_438 : decode cL_law 438 = .ok (.iaload, 1) := by decide +kernel
theorem dL_law_439 : decode cL_law 439 = .ok (.aload_n 0, 1) := by decide +kernel
theorem dL_law_440 : decode cL_law 440 = .ok (.iload_n 3, 1) := by decide +kernel
theorem dL_law_441 : decode cL_law 441 = .ok (.iconst 2, 1) := by decide +kernel
theorem dL_law_442 : decode cL_law 442 = .ok (.iadd, 1) := by decide +kernel
theorem dL_law_443 : decode cL_law 443 = .ok (.iaload, 1) := by decide +kernel
theorem dL_law_444 : decode cL_law 444 = .ok (.invokevirtual 63, 3) := by decide +kernel
theorem dL_law_447 : decode cL_law 447 = .ok (.if_icmp .eq 587, 3) := by decide +kernel
theorem dL_law_450 : decode cL_law 450 = .ok (.iconst 0, 1) := by decide +kernel
theorem dL_law_451 : decode cL_law 451 = .ok (.ireturn, 1) := by decide +kernel
theorem dL_law_452 : decode cL_law 452 = .ok (.aload_n 1, 1) := by decide +kernel
theorem dL_law_453 : decode cL_law 453 = .ok (.aload_n 0, 1) := by decide +kernel
theorem dL_law_454 : decode cL_law 454 = .ok (.iload_n 3, 1) := by decide +kernel
theorem dL_law_455 : decode cL_law 455 = .ok (.iconst 1, 1) := by decide +kernel
theorem dL_law_456 : decode cL_law 456 = .ok (.iadd, 1) := by decide +kernel
theorem dL_law_457 : decode cL_law 457 = .ok (.iaload, 1) := by decide +kernel
theorem dL_law_458 : decode cL_law 458 = .ok (.aload_n 0, 1) := by decide +kernel
theorem dL_law_459 : decode cL_law 459 = .ok (.iload_n 3, 1) := by decide +kernel
theorem dL_law_460 : decode cL_law 460 = .ok (.iconst 2, 1) := by decide +kernel
theorem dL_law_461 : decode cL_law 461 = .ok (.iadd, 1) := by decide +kernel
theorem dL_law_462 : decode cL_law 462 = .ok (.iaload, 1) := by decide +kernel
theorem dL_law_463 : decode cL_law 463 = .ok (.aload_n 0, 1) := by decide +kernel
theorem dL_law_464 : decode cL_law 464 = .ok (.iload_n 3, 1) := by decide +kernel
theorem dL_law_465 : decode cL_law 465 = .ok (.iconst 3, 1) := by decide +kernel
theorem dL_law_466 : decode cL_law 466 = .ok (.iadd, 1) := by decide +kernel
theorem dL_law_467 : decode cL_law 467 = .ok (.iaload, 1) := by decide +kernel
theorem dL_law_468 : decode cL_law 468 = .ok (.invokevirtual 64, 3) := by decide +kernel
theorem dL_law_471 : decode cL_law 471 = .ok (.aload_n 2, 1) := by decide +kernel
theorem dL_law_472 : decode cL_law 472 = .ok (.aload_n 0, 1) := by decide +kernel
theorem dL_law_473 : decode cL_law 473 = .ok (.iload_n 3, 1) := by decide +kernel
theorem dL_law_474 : decode cL_law 474 = .ok (.iconst 1, 1) := by decide +kernel
theorem dL_law_475 : decode cL_law 475 = .ok (.iadd, 1) := by decide +kernel
theorem dL_law_476 : decode cL_law 476 = .ok (.iaload, 1) := by decide +kernel
theorem dL_law_477 : decode cL_law 477 = .ok (.aload_n 0, 1) := by decide +kernel
theorem dL_law_478 : decode cL_law 478 = .ok (.iload_n 3, 1) := by decide +kernel
theorem dL_law_479 : decode cL_law 479 = .ok (.iconst 2, 1) := by decide +kernel
theorem dL_law_480 : decode cL_law 480 = .ok (.iadd, 1) := by decide +kernel
theorem dL_law_481 : decode cL_law 481 = .ok (.iaload, 1) := by decide +kernel
theorem dL_law_482 : decode cL_law 482 = .ok (.aload_n 0, 1) := by decide +kernel
theorem dL_law_483 : decode cL_law 483 = .ok (.iload_n 3, 1) := by decide +kernel
theorem dL_law_484 : decode cL_law 484 = .ok (.iconst 3, 1) := by decide +kernel
theorem dL_law_485 : decode cL_law 485 = .ok (.iadd, 1) := by decide +kernel
theorem dL_law_486 : decode cL_law 486 = .ok (.iaload, 1) := by decide +kernel
theorem dL_law_487 : decode cL_law 487 = .ok (.invokevirtual 68, 3) := by decide +kernel
theorem dL_law_490 : decode cL_law 490 = .ok (.if_icmp .eq 544, 3) := by decide +kernel
theorem dL_law_493 : decode cL_law 493 = .ok (.iconst 0, 1) := by decide +kernel
theorem dL_law_494 : decode cL_law 494 = .ok (.ireturn, 1) := by decide +kernel
theorem dL_law_495 : decode cL_law 495 = .ok (.aload_n 1, 1) := by decide +kernel
theorem dL_law_496 : decode cL_law 496 = .ok (.aload_n 0, 1) := by decide +kernel
theorem dL_law_497 : decode cL_law 497 = .ok (.iload_n 3, 1) := by decide +kernel
theorem dL_law_498 : decode cL_law 498 = .ok (.iconst 1, 1) := by decide +kernel
theorem dL_law_499 : decode cL_law 499 = .ok (.iadd, 1) := by decide +kernel
theorem dL_law_500 : decode cL_law 500 = .ok (.iaload, 1) := by decide +kernel
theorem dL_law_501 : decode cL_law 501 = .ok (.invokevirtual 69, 3) := by decide +kernel
theorem dL_law_504 : decode cL_law 504 = .ok (.aload_n 2, 1) := by decide +kernel
theorem dL_law_505 : decode cL_law 505 = .ok (.aload_n 0, 1) := by decide +kernel
theorem dL_law_506 : decode cL_law 506 = .ok (.iload_n 3, 1) := by decide +kernel
theorem dL_law_507 : decode cL_law 507 = .ok (.iconst 1, 1) := by decide +kernel
theorem dL_law_508 : decode cL_law 508 = .ok (.iadd, 1) := by decide +kernel
theorem dL_law_509 : decode cL_law 509 = .ok (.iaload, 1) := by decide +kernel
theorem dL_law_510 : decode cL_law 510 = .ok (.invokevirtual 72, 3) := by decide +kernel
theorem dL_law_513 : decode cL_law 513 = .ok (.if_icmp .eq 521, 3) := by decide +kernel
theorem dL_law_516 : decode cL_law 516 = .ok (.iconst 0, 1) := by decide +kernel
theorem dL_law_517 : decode cL_law 517 = .ok (.ireturn, 1) := by decide +kernel
theorem dL_law_518 : decode cL_law 518 = .ok (.aload_n 1, 1) := by decide +kernel
theorem dL_law_519 : decode cL_law 519 = .ok (.invokevirtual 73, 3) := by decide +kernel
theorem dL_law_522 : decode cL_law 522 = .ok (.aload_n 2, 1) := by decide +kernel
theorem dL_law_523 : decode cL_law 523 = .ok (.invokevirtual 76, 3) := by decide +kernel
theorem dL_law_526 : decode cL_law 526 = .ok (.if_icmp .eq 508, 3) := by decide +kernel
theorem dL_law_529 : decode cL_law 529 = .ok (.iconst 0, 1) := by decide +kernel
theorem dL_law_530 : decode cL_law 530 = .ok (.ireturn, 1) := by decide +kernel
theorem dL_law_531 : decode cL_law 531 = .ok (.aload_n 1, 1) := by decide +kernel
theorem dL_law_532 : decode cL_law 532 = .ok (.aload_n 0, 1) := by decide +kernel
theorem dL_law_533 : decode cL_law 533 = .ok (.iload_n 3, 1) := by decide +kernel
theorem dL_law_534 : decode cL_law 534 = .ok (.iconst 1, 1) := by decide +kernel
theorem dL_law_535 : decode cL_law 535 = .ok (.iadd, 1) := by decide +kernel
theorem dL_law_536 : decode cL_law 536 = .ok (.iaload, 1) := by decide +kernel
theorem dL_law_537 : decode cL_law 537 = .ok (.aload_n 0, 1) := by decide +kernel
theorem dL_law_538 : decode cL_law 538 = .ok (.iload_n 3, 1) := by decide +kernel
theorem dL_law_539 : decode cL_law 539 = .ok (.iconst 2, 1) := by decide +kernel
theorem dL_law_540 : decode cL_law 540 = .ok (.iadd, 1) := by decide +kernel
theorem dL_law_541 : decode cL_law 541 = .ok (.iaload, 1) := by decide +kernel
theorem dL_law_542 : decode cL_law 542 = .ok (.invokevirtual 77, 3) := by decide +kernel
theorem dL_law_545 : decode cL_law 545 = .ok (.aload_n 2, 1) := by decide +kernel
theorem dL_law_546 : decode cL_law 546 = .ok (.aload_n 0, 1) := by decide +kernel
theorem dL_law_547 : decode cL_law 547 = .ok (.iload_n 3, 1) := by decide +kernel
theorem dL_law_548 : decode cL_law 548 = .ok (.iconst 1, 1) := by decide +kernel
theorem dL_law_549 : decode cL_law 549 = .ok (.iadd, 1) := by decide +kernel
theorem dL_law_550 : decode cL_law 550 = .ok (.iaload, 1) := by decide +kernel
theorem dL_law_551 : decode cL_law 551 = .ok (.aload_n 0, 1) := by decide +kernel
theorem dL_law_552 : decode cL_law 552 = .ok (.iload_n 3, 1) := by decide +kernel
theorem dL_law_553 : decode cL_law 553 = .ok (.iconst 2, 1) := by decide +kernel
theorem dL_law_554 : decode cL_law 554 = .ok (.iadd, 1) := by decide +kernel
theorem dL_law_555 : decode cL_law 555 = .ok (.iaload, 1) := by decide +kernel
theorem dL_law_556 : decode cL_law 556 = .ok (.invokevirtual 80, 3) := by decide +kernel
theorem dL_law_559 : decode cL_law 559 = .ok (.if_icmp .eq 475, 3) := by decide +kernel
theorem dL_law_562 : decode cL_law 562 = .ok (.iconst 0, 1) := by decide +kernel
theorem dL_law_563 : decode cL_law 563 = .ok (.ireturn, 1) := by decide +kernel
theorem dL_law_564 : decode cL_law 564 = .ok (.aload_n 1, 1) := by decide +kernel
theorem dL_law_565 : decode cL_law 565 = .ok (.aload_n 0, 1) := by decide +kernel
theorem dL_law_566 : decode cL_law 566 = .ok (.iload_n 3, 1) := by decide +kernel
theorem dL_law_567 : decode cL_law 567 = .ok (.iconst 1, 1) := by decide +kernel
theorem dL_law_568 : decode cL_law 568 = .ok (.iadd, 1) := by decide +kernel
theorem dL_law_569 : decode cL_law 569 = .ok (.iaload, 1) := by decide +kernel
theorem dL_law_570 : decode cL_law 570 = .ok (.aload_n 0, 1) := by decide +kernel
theorem dL_law_571 : decode cL_law 571 = .ok (.iload_n 3, 1) := by decide +kernel
theorem dL_law_572 : decode cL_law 572 = .ok (.iconst 2, 1) := by decide +kernel
theorem dL_law_573 : decode cL_law 573 = .ok (.iadd, 1) := by decide +kernel
theorem dL_law_574 : decode cL_law 574 = .ok (.iaload, 1) := by decide +kernel
theorem dL_law_575 : decode cL_law 575 = .ok (.invokevirtual 81, 3) := by decide +kernel
theorem dL_law_578 : decode cL_law 578 = .ok (.aload_n 2, 1) := by decide +kernel
theorem dL_law_579 : decode cL_law 579 = .ok (.aload_n 0, 1) := by decide +kernel
theorem dL_law_580 : decode cL_law 580 = .ok (.iload_n 3, 1) := by decide +kernel
theorem dL_law_581 : decode cL_law 581 = .ok (.iconst 1, 1) := by decide +kernel
theorem dL_law_582 : decode cL_law 582 = .ok (.iadd, 1) := by decide +kernel
theorem dL_law_583 : decode cL_law 583 = .ok (.iaload, 1) := by decide +kernel
theorem dL_law_584 : decode cL_law 584 = .ok (.aload_n 0, 1) := by decide +kernel
theorem dL_law_585 : decode cL_law 585 = .ok (.iload_n 3, 1) := by decide +kernel
theorem dL_law_586 : decode cL_law 586 = .ok (.iconst 2, 1) := by decide +kernel
theorem dL_law_587 : decode cL_law 587 = .ok (.iadd, 1) := by decide +kernel
theorem dL_law_588 : decode cL_law 588 = .ok (.iaload, 1) := by decide +kernel
theorem dL_law_589 : decode cL_law 589 = .ok (.invokevirtual 84, 3) := by decide +kernel
theorem dL_law_592 : decode cL_law 592 = .ok (.if_icmp .eq 442, 3) := by decide +kernel
theorem dL_law_595 : decode cL_law 595 = .ok (.iconst 0, 1) := by decide +kernel
theorem dL_law_596 : decode cL_law 596 = .ok (.ireturn, 1) := by decide +kernel
theorem dL_law_597 : decode cL_law 597 = .ok (.aload_n 1, 1) := by decide +kernel
theorem dL_law_598 : decode cL_law 598 = .ok (.aload_n 0, 1) := by decide +kernel
theorem dL_law_599 : decode cL_law 599 = .ok (.iload_n 3, 1) := by decide +kernel
theorem dL_law_600 : decode cL_law 600 = .ok (.iconst 1, 1) := by decide +kernel
theorem dL_law_601 : decode cL_law 601 = .ok (.iadd, 1) := by decide +kernel
theorem dL_law_602 : decode cL_law 602 = .ok (.iaload, 1) := by decide +kernel
theorem dL_law_603 : decode cL_law 603 = .ok (.invokevirtual 85, 3) := by decide +kernel
theorem dL_law_606 : decode cL_law 606 = .ok (.aload_n 2, 1) := by decide +kernel
theorem dL_law_607 : decode cL_law 607 = .ok (.aload_n 0, 1) := by decide +kernel
theorem dL_law_608 : decode cL_law 608 = .ok (.iload_n 3, 1) := by decide +kernel
theorem dL_law_609 : decode cL_law 609 = .ok (.iconst 1, 1) := by decide +kernel
theorem dL_law_610 : decode cL_law 610 = .ok (.iadd, 1) := by decide +kernel
theorem dL_law_611 : decode cL_law 611 = .ok (.iaload, 1) := by decide +kernel
theorem dL_law_612 : decode cL_law 612 = .ok (.invokevirtual 88, 3) := by decide +kernel
theorem dL_law_615 : decode cL_law 615 = .ok (.if_icmp .eq 419, 3) := by decide +kernel
theorem dL_law_618 : decode cL_law 618 = .ok (.iconst 0, 1) := by decide +kernel
theorem dL_law_619 : decode cL_law 619 = .ok (.ireturn, 1) := by decide +kernel
theorem dL_law_620 : decode cL_law 620 = .ok (.aload_n 1, 1) := by decide +kernel
theorem dL_law_621 : decode cL_law 621 = .ok (.aload_n 0, 1) := by decide +kernel
theorem dL_law_622 : decode cL_law 622 = .ok (.iload_n 3, 1) := by decide +kernel
theorem dL_law_623 : decode cL_law 623 = .ok (.iconst 1, 1) := by decide +kernel
theorem dL_law_624 : decode cL_law 624 = .ok (.iadd, 1) := by decide +kernel
theorem dL_law_625 : decode cL_law 625 = .ok (.iaload, 1) := by decide +kernel
theorem dL_law_626 : decode cL_law 626 = .ok (.invokevirtual 89, 3) := by decide +kernel
theorem dL_law_629 : decode cL_law 629 = .ok (.aload_n 2, 1) := by decide +kernel
theorem dL_law_630 : decode cL_law 630 = .ok (.aload_n 0, 1) := by decide +kernel
theorem dL_law_631 : decode cL_law 631 = .ok (.iload_n 3, 1) := by decide +kernel
theorem dL_law_632 : decode cL_law 632 = .ok (.iconst 1, 1) := by decide +kernel
theorem dL_law_633 : decode cL_law 633 = .ok (.iadd, 1) := by decide +kernel
theorem dL_law_634 : decode cL_law 634 = .ok (.iaload, 1) := by decide +kernel
theorem dL_law_635 : decode cL_law 635 = .ok (.invokevirtual 92, 3) := by decide +kernel
theorem dL_law_638 : decode cL_law 638 = .ok (.if_icmp .eq 396, 3) := by decide +kernel
theorem dL_law_641 : decode cL_law 641 = .ok (.iconst 0, 1) := by decide +kernel
theorem dL_law_642 : decode cL_law 642 = .ok (.ireturn, 1) := by decide +kernel
theorem dL_law_643 : decode cL_law 643 = .ok (.aload_n 1, 1) := by decide +kernel
theorem dL_law_644 : decode cL_law 644 = .ok (.aload_n 0, 1) := by decide +kernel
theorem dL_law_645 : decode cL_law 645 = .ok (.iload_n 3, 1) := by decide +kernel
theorem dL_law_646 : decode cL_law 646 = .ok (.iconst 1, 1) := by decide +kernel
theorem dL_law_647 : decode cL_law 647 = .ok (.iadd, 1) := by decide +kernel
theorem dL_law_648 : decode cL_law 648 = .ok (.iaload, 1) := by decide +kernel
theorem dL_law_649 : decode cL_law 649 = .ok (.aload_n 0, 1) := by decide +kernel
theorem dL_law_650 : decode cL_law 650 = .ok (.iload_n 3, 1) := by decide +kernel
theorem dL_law_651 : decode cL_law 651 = .ok (.iconst 2, 1) := by decide +kernel
theorem dL_law_652 : decode cL_law 652 = .ok (.iadd, 1) := by decide +kernel
theorem dL_law_653 : decode cL_law 653 = .ok (.iaload, 1) := by decide +kernel
theorem dL_law_654 : decode cL_law 654 = .ok (.invokevirtual 93, 3) := by decide +kernel
theorem dL_law_657 : decode cL_law 657 = .ok (.aload_n 2, 1) := by decide +kernel
theorem dL_law_658 : decode cL_law 658 = .ok (.aload_n 0, 1) := by decide +kernel
theorem dL_law_659 : decode cL_law 659 = .ok (.iload_n 3, 1) := by decide +kernel
theorem dL_law_660 : decode cL_law 660 = .ok (.iconst 1, 1) := by decide +kernel
theorem dL_law_661 : decode cL_law 661 = .ok (.iadd, 1) := by decide +kernel
theorem dL_law_662 : decode cL_law 662 = .ok (.iaload, 1) := by decide +kernel
theorem dL_law_663 : decode cL_law 663 = .ok (.aload_n 0, 1) := by decide +kernel
theorem dL_law_664 : decode cL_law 664 = .ok (.iload_n 3, 1) := by decide +kernel
theorem dL_law_665 : decode cL_law 665 = .ok (.iconst 2, 1) := by decide +kernel
theorem dL_law_666 : decode cL_law 666 = .ok (.iadd, 1) := by decide +kernel
theorem dL_law_667 : decode cL_law 667 = .ok (.iaload, 1) := by decide +kernel
theorem dL_law_668 : decode cL_law 668 = .ok (.invokevirtual 96, 3) := by decide +kernel
theorem dL_law_671 : decode cL_law 671 = .ok (.if_icmp .eq 363, 3) := by decide +kernel
theorem dL_law_674 : decode cL_law 674 = .ok (.iconst 0, 1) := by decide +kernel
theorem dL_law_675 : decode cL_law 675 = .ok (.ireturn, 1) := by decide +kernel
theorem dL_law_676 : decode cL_law 676 = .ok (.aload_n 1, 1) := by decide +kernel
theorem dL_law_677 : decode cL_law 677 = .ok (.invokevirtual 97, 3) := by decide +kernel
theorem dL_law_680 : decode cL_law 680 = .ok (.aload_n 2, 1) := by decide +kernel
theorem dL_law_681 : decode cL_law 681 = .ok (.invokevirtual 100, 3) := by decide +kernel
theorem dL_law_684 : decode cL_law 684 = .ok (.if_icmp .eq 350, 3) := by decide +kernel
theorem dL_law_687 : decode cL_law 687 = .ok (.iconst 0, 1) := by decide +kernel
theorem dL_law_688 : decode cL_law 688 = .ok (.ireturn, 1) := by decide +kernel
theorem dL_law_689 : decode cL_law 689 = .ok (.aload_n 1, 1) := by decide +kernel
theorem dL_law_690 : decode cL_law 690 = .ok (.aload_n 0, 1) := by decide +kernel
theorem dL_law_691 : decode cL_law 691 = .ok (.iload_n 3, 1) := by decide +kernel
theorem dL_law_692 : decode cL_law 692 = .ok (.iconst 1, 1) := by decide +kernel
theorem dL_law_693 : decode cL_law 693 = .ok (.iadd, 1) := by decide +kernel
theorem dL_law_694 : decode cL_law 694 = .ok (.iaload, 1) := by decide +kernel
theorem dL_law_695 : decode cL_law 695 = .ok (.invokevirtual 101, 3) := by decide +kernel
theorem dL_law_698 : decode cL_law 698 = .ok (.aload_n 2, 1) := by decide +kernel
theorem dL_law_699 : decode cL_law 699 = .ok (.aload_n 0, 1) := by decide +kernel
theorem dL_law_700 : decode cL_law 700 = .ok (.iload_n 3, 1) := by decide +kernel
theorem dL_law_701 : decode cL_law 701 = .ok (.iconst 1, 1) := by decide +kernel
theorem dL_law_702 : decode cL_law 702 = .ok (.iadd, 1) := by decide +kernel
theorem dL_law_703 : decode cL_law 703 = .ok (.iaload, 1) := by decide +kernel
theorem dL_law_704 : decode cL_law 704 = .ok (.invokevirtual 104, 3) := by decide +kernel
theorem dL_law_707 : decode cL_law 707 = .ok (.if_icmp .eq 327, 3) := by decide +kernel
theorem dL_law_710 : decode cL_law 710 = .ok (.iconst 0, 1) := by decide +kernel
theorem dL_law_711 : decode cL_law 711 = .ok (.ireturn, 1) := by decide +kernel
theorem dL_law_712 : decode cL_law 712 = .ok (.aload_n 1, 1) := by decide +kernel
theorem dL_law_713 : decode cL_law 713 = .ok (.aload_n 0, 1) := by decide +kernel
theorem dL_law_714 : decode cL_law 714 = .ok (.iload_n 3, 1) := by decide +kernel
theorem dL_law_715 : decode cL_law 715 = .ok (.iconst 1, 1) := by decide +kernel
theorem dL_law_716 : decode cL_law 716 = .ok (.iadd, 1) := by decide +kernel
theorem dL_law_717 : decode cL_law 717 = .ok (.iaload, 1) := by decide +kernel
theorem dL_law_718 : decode cL_law 718 = .ok (.aload_n 0, 1) := by decide +kernel
theorem dL_law_719 : decode cL_law 719 = .ok (.iload_n 3, 1) := by decide +kernel
theorem dL_law_720 : decode cL_law 720 = .ok (.iconst 2, 1) := by decide +kernel
theorem dL_law_721 : decode cL_law 721 = .ok (.iadd, 1) := by decide +kernel
theorem dL_law_722 : decode cL_law 722 = .ok (.iaload, 1) := by decide +kernel
theorem dL_law_723 : decode cL_law 723 = .ok (.invokevirtual 105, 3) := by decide +kernel
theorem dL_law_726 : decode cL_law 726 = .ok (.aload_n 2, 1) := by decide +kernel
theorem dL_law_727 : decode cL_law 727 = .ok (.aload_n 0, 1) := by decide +kernel
theorem dL_law_728 : decode cL_law 728 = .ok (.iload_n 3, 1) := by decide +kernel
theorem dL_law_729 : decode cL_law 729 = .ok (.iconst 1, 1) := by decide +kernel
theorem dL_law_730 : decode cL_law 730 = .ok (.iadd, 1) := by decide +kernel
theorem dL_law_731 : decode cL_law 731 = .ok (.iaload, 1) := by decide +kernel
theorem dL_law_732 : decode cL_law 732 = .ok (.aload_n 0, 1) := by decide +kernel
theorem dL_law_733 : decode cL_law 733 = .ok (.iload_n 3, 1) := by decide +kernel
theorem dL_law_734 : decode cL_law 734 = .ok (.iconst 2, 1) := by decide +kernel
theorem dL_law_735 : decode cL_law 735 = .ok (.iadd, 1) := by decide +kernel
theorem dL_law_736 : decode cL_law 736 = .ok (.iaload, 1) := by decide +kernel
theorem dL_law_737 : decode cL_law 737 = .ok (.invokevirtual 108, 3) := by decide +kernel
theorem dL_law_740 : decode cL_law 740 = .ok (.if_icmp .eq 294, 3) := by decide +kernel
theorem dL_law_743 : decode cL_law 743 = .ok (.iconst 0, 1) := by decide +kernel
theorem dL_law_744 : decode cL_law 744 = .ok (.ireturn, 1) := by decide +kernel
theorem dL_law_745 : decode cL_law 745 = .ok (.aload_n 1, 1) := by decide +kernel
theorem dL_law_746 : decode cL_law 746 = .ok (.aload_n 0, 1) := by decide +kernel
theorem dL_law_747 : decode cL_law 747 = .ok (.iload_n 3, 1) := by decide +kernel
theorem dL_law_748 : decode cL_law 748 = .ok (.iconst 1, 1) := by decide +kernel
theorem dL_law_749 : decode cL_law 749 = .ok (.iadd, 1) := by decide +kernel
theorem dL_law_750 : decode cL_law 750 = .ok (.iaload, 1) := by decide +kernel
theorem dL_law_751 : decode cL_law 751 = .ok (.aload_n 0, 1) := by decide +kernel
theorem dL_law_752 : decode cL_law 752 = .ok (.iload_n 3, 1) := by decide +kernel
theorem dL_law_753 : decode cL_law 753 = .ok (.iconst 2, 1) := by decide +kernel
theorem dL_law_754 : decode cL_law 754 = .ok (.iadd, 1) := by decide +kernel
theorem dL_law_755 : decode cL_law 755 = .ok (.iaload, 1) := by decide +kernel
theorem dL_law_756 : decode cL_law 756 = .ok (.invokevirtual 109, 3) := by decide +kernel
theorem dL_law_759 : decode cL_law 759 = .ok (.aload_n 2, 1) := by decide +kernel
theorem dL_law_760 : decode cL_law 760 = .ok (.aload_n 0, 1) := by decide +kernel
theorem dL_law_761 : decode cL_law 761 = .ok (.iload_n 3, 1) := by decide +kernel
theorem dL_law_762 : decode cL_law 762 = .ok (.iconst 1, 1) := by decide +kernel
theorem dL_law_763 : decode cL_law 763 = .ok (.iadd, 1) := by decide +kernel
theorem dL_law_764 : decode cL_law 764 = .ok (.iaload, 1) := by decide +kernel
theorem dL_law_765 : decode cL_law 765 = .ok (.aload_n 0, 1) := by decide +kernel
theorem dL_law_766 : decode cL_law 766 = .ok (.iload_n 3, 1) := by decide +kernel
theorem dL_law_767 : decode cL_law 767 = .ok (.iconst 2, 1) := by decide +kernel
theorem dL_law_768 : decode cL_law 768 = .ok (.iadd, 1) := by decide +kernel
theorem dL_law_769 : decode cL_law 769 = .ok (.iaload, 1) := by decide +kernel
theorem dL_law_770 : decode cL_law 770 = .ok (.invokevirtual 112, 3) := by decide +kernel
theorem dL_law_773 : decode cL_law 773 = .ok (.if_icmp .eq 261, 3) := by decide +kernel
theorem dL_law_776 : decode cL_law 776 = .ok (.iconst 0, 1) := by decide +kernel
theorem dL_law_777 : decode cL_law 777 = .ok (.ireturn, 1) := by decide +kernel
theorem dL_law_778 : decode cL_law 778 = .ok (.aload_n 1, 1) := by decide +kernel
theorem dL_law_779 : decode cL_law 779 = .ok (.aload_n 0, 1) := by decide +kernel
theorem dL_law_780 : decode cL_law 780 = .ok (.iload_n 3, 1) := by decide +kernel
theorem dL_law_781 : decode cL_law 781 = .ok (.iconst 1, 1) := by decide +kernel
theorem dL_law_782 : decode cL_law 782 = .ok (.iadd, 1) := by decide +kernel
theorem dL_law_783 : decode cL_law 783 = .ok (.iaload, 1) := by decide +kernel
theorem dL_law_784 : decode cL_law 784 = .ok (.aload_n 0, 1) := by decide +kernel
theorem dL_law_785 : decode cL_law 785 = .ok (.iload_n 3, 1) := by decide +kernel
theorem dL_law_786 : decode cL_law 786 = .ok (.iconst 2, 1) := by decide +kernel
theorem dL_law_787 : decode cL_law 787 = .ok (.iadd, 1) := by decide +kernel
theorem dL_law_788 : decode cL_law 788 = .ok (.iaload, 1) := by decide +kernel
theorem dL_law_789 : decode cL_law 789 = .ok (.aload_n 0, 1) := by decide +kernel
theorem dL_law_790 : decode cL_law 790 = .ok (.iload_n 3, 1) := by decide +kernel
theorem dL_law_791 : decode cL_law 791 = .ok (.iconst 3, 1) := by decide +kernel
theorem dL_law_792 : decode cL_law 792 = .ok (.iadd, 1) := by decide +kernel
theorem dL_law_793 : decode cL_law 793 = .ok (.iaload, 1) := by decide +kernel
theorem dL_law_794 : decode cL_law 794 = .ok (.aload_n 0, 1) := by decide +kernel
theorem dL_law_795 : decode cL_law 795 = .ok (.iload_n 3, 1) := by decide +kernel
theorem dL_law_796 : decode cL_law 796 = .ok (.iconst 4, 1) := by decide +kernel
theorem dL_law_797 : decode cL_law 797 = .ok (.iadd, 1) := by decide +kernel
theorem dL_law_798 : decode cL_law 798 = .ok (.iaload, 1) := by decide +kernel
theorem dL_law_799 : decode cL_law 799 = .ok (.invokevirtual 113, 3) := by decide +kernel
theorem dL_law_802 : decode cL_law 802 = .ok (.aload_n 2, 1) := by decide +kernel
theorem dL_law_803 : decode cL_law 803 = .ok (.aload_n 0, 1) := by decide +kernel
theorem dL_law_804 : decode cL_law 804 = .ok (.iload_n 3, 1) := by decide +kernel
theorem dL_law_805 : decode cL_law 805 = .ok (.iconst 1, 1) := by decide +kernel
theorem dL_law_806 : decode cL_law 806 = .ok (.iadd, 1) := by decide +kernel
theorem dL_law_807 : decode cL_law 807 = .ok (.iaload, 1) := by decide +kernel
theorem dL_law_808 : decode cL_law 808 = .ok (.aload_n 0, 1) := by decide +kernel
theorem dL_law_809 : decode cL_law 809 = .ok (.iload_n 3, 1) := by decide +kernel
theorem dL_law_810 : decode cL_law 810 = .ok (.iconst 2, 1) := by decide +kernel
theorem dL_law_811 : decode cL_law 811 = .ok (.iadd, 1) := by decide +kernel
theorem dL_law_812 : decode cL_law 812 = .ok (.iaload, 1) := by decide +kernel
theorem dL_law_813 : decode cL_law 813 = .ok (.aload_n 0, 1) := by decide +kernel
theorem dL_law_814 : decode cL_law 814 = .ok (.iload_n 3, 1) := by decide +kernel
theorem dL_law_815 : decode cL_law 815 = .ok (.iconst 3, 1) := by decide +kernel
theorem dL_law_816 : decode cL_law 816 = .ok (.iadd, 1) := by decide +kernel
theorem dL_law_817 : decode cL_law 817 = .ok (.iaload, 1) := by decide +kernel
theorem dL_law_818 : decode cL_law 818 = .ok (.aload_n 0, 1) := by decide +kernel
theorem dL_law_819 : decode cL_law 819 = .ok (.iload_n 3, 1) := by decide +kernel
theorem dL_law_820 : decode cL_law 820 = .ok (.iconst 4, 1) := by decide +kernel
theorem dL_law_821 : decode cL_law 821 = .ok (.iadd, 1) := by decide +kernel
theorem dL_law_822 : decode cL_law 822 = .ok (.iaload, 1) := by decide +kernel
theorem dL_law_823 : decode cL_law 823 = .ok (.invokevirtual 117, 3) := by decide +kernel
theorem dL_law_826 : decode cL_law 826 = .ok (.if_icmp .eq 208, 3) := by decide +kernel
theorem dL_law_829 : decode cL_law 829 = .ok (.iconst 0, 1) := by decide +kernel
theorem dL_law_830 : decode cL_law 830 = .ok (.ireturn, 1) := by decide +kernel
theorem dL_law_831 : decode cL_law 831 = .ok (.aload_n 1, 1) := by decide +kernel
theorem dL_law_832 : decode cL_law 832 = .ok (.aload_n 0, 1) := by decide +kernel
theorem dL_law_833 : decode cL_law 833 = .ok (.iload_n 3, 1) := by decide +kernel
theorem dL_law_834 : decode cL_law 834 = .ok (.iconst 1, 1) := by decide +kernel
theorem dL_law_835 : decode cL_law 835 = .ok (.iadd, 1) := by decide +kernel
theorem dL_law_836 : decode cL_law 836 = .ok (.iaload, 1) := by decide +kernel
theorem dL_law_837 : decode cL_law 837 = .ok (.aload_n 0, 1) := by decide +kernel
theorem dL_law_838 : decode cL_law 838 = .ok (.iload_n 3, 1) := by decide +kernel
theorem dL_law_839 : decode cL_law 839 = .ok (.iconst 2, 1) := by decide +kernel
theorem dL_law_840 : decode cL_law 840 = .ok (.iadd, 1) := by decide +kernel
theorem dL_law_841 : decode cL_law 841 = .ok (.iaload, 1) := by decide +kernel
theorem dL_law_842 : decode cL_law 842 = .ok (.aload_n 0, 1) := by decide +kernel
theorem dL_law_843 : decode cL_law 843 = .ok (.iload_n 3, 1) := by decide +kernel
theorem dL_law_844 : decode cL_law 844 = .ok (.iconst 3, 1) := by decide +kernel
theorem dL_law_845 : decode cL_law 845 = .ok (.iadd, 1) := by decide +kernel
theorem dL_law_846 : decode cL_law 846 = .ok (.iaload, 1) := by decide +kernel
theorem dL_law_847 : decode cL_law 847 = .ok (.aload_n 0, 1) := by decide +kernel
theorem dL_law_848 : decode cL_law 848 = .ok (.iload_n 3, 1) := by decide +kernel
theorem dL_law_849 : decode cL_law 849 = .ok (.iconst 4, 1) := by decide +kernel
theorem dL_law_850 : decode cL_law 850 = .ok (.iadd, 1) := by decide +kernel
theorem dL_law_851 : decode cL_law 851 = .ok (.iaload, 1) := by decide +kernel
theorem dL_law_852 : decode cL_law 852 = .ok (.aload_n 0, 1) := by decide +kernel
theorem dL_law_853 : decode cL_law 853 = .ok (.iload_n 3, 1) := by decide +kernel
theorem dL_law_854 : decode cL_law 854 = .ok (.iconst 5, 1) := by decide +kernel
theorem dL_law_855 : decode cL_law 855 = .ok (.iadd, 1) := by decide +kernel
theorem dL_law_856 : decode cL_law 856 = .ok (.iaload, 1) := by decide +kernel
theorem dL_law_857 : decode cL_law 857 = .ok (.aload_n 0, 1) := by decide +kernel
theorem dL_law_858 : decode cL_law 858 = .ok (.iload_n 3, 1) := by decide +kernel
theorem dL_law_859 : decode cL_law 859 = .ok (.bipush 6, 2) := by decide +kernel
theorem dL_law_861 : decode cL_law 861 = .ok (.iadd, 1) := by decide +kernel
theorem dL_law_862 : decode cL_law 862 = .ok (.iaload, 1) := by decide +kernel
theorem dL_law_863 : decode cL_law 863 = .ok (.invokevirtual 118, 3) := by decide +kernel
theorem dL_law_866 : decode cL_law 866 = .ok (.aload_n 2, 1) := by decide +kernel
theorem dL_law_867 : decode cL_law 867 = .ok (.aload_n 0, 1) := by decide +kernel
theorem dL_law_868 : decode cL_law 868 = .ok (.iload_n 3, 1) := by decide +kernel
theorem dL_law_869 : decode cL_law 869 = .ok (.iconst 1, 1) := by decide +kernel
theorem dL_law_870 : decode cL_law 870 = .ok (.iadd, 1) := by decide +kernel
theorem dL_law_871 : decode cL_law 871 = .ok (.iaload, 1) := by decide +kernel
theorem dL_law_872 : decode cL_law 872 = .ok (.aload_n 0, 1) := by decide +kernel
theorem dL_law_873 : decode cL_law 873 = .ok (.iload_n 3, 1) := by decide +kernel
theorem dL_law_874 : decode cL_law 874 = .ok (.iconst 2, 1) := by decide +kernel
theorem dL_law_875 : decode cL_law 875 = .ok (.iadd, 1) := by decide +kernel
theorem dL_law_876 : decode cL_law 876 = .ok (.iaload, 1) := by decide +kernel
theorem dL_law_877 : decode cL_law 877 = .ok (.aload_n 0, 1) := by decide +kernel
theorem dL_law_878 : decode cL_law 878 = .ok (.iload_n 3, 1) := by decide +kernel
theorem dL_law_879 : decode cL_law 879 = .ok (.iconst 3, 1) := by decide +kernel
theorem dL_law_880 : decode cL_law 880 = .ok (.iadd, 1) := by decide +kernel
theorem dL_law_881 : decode cL_law 881 = .ok (.iaload, 1) := by decide +kernel
theorem dL_law_882 : decode cL_law 882 = .ok (.aload_n 0, 1) := by decide +kernel
theorem dL_law_883 : decode cL_law 883 = .ok (.iload_n 3, 1) := by decide +kernel
theorem dL_law_884 : decode cL_law 884 = .ok (.iconst 4, 1) := by decide +kernel
theorem dL_law_885 : decode cL_law 885 = .ok (.iadd, 1) := by decide +kernel
theorem dL_law_886 : decode cL_law 886 = .ok (.iaload, 1) := by decide +kernel
theorem dL_law_887 : decode cL_law 887 = .ok (.aload_n 0, 1) := by decide +kernel
theorem dL_law_888 : decode cL_law 888 = .ok (.iload_n 3, 1) := by decide +kernel
theorem dL_law_889 : decode cL_law 889 = .ok (.iconst 5, 1) := by decide +kernel
theorem dL_law_890 : decode cL_law 890 = .ok (.iadd, 1) := by decide +kernel
theorem dL_law_891 : decode cL_law 891 = .ok (.iaload, 1) := by decide +kernel
theorem dL_law_892 : decode cL_law 892 = .ok (.aload_n 0, 1) := by decide +kernel
theorem dL_law_893 : decode cL_law 893 = .ok (.iload_n 3, 1) := by decide +kernel
theorem dL_law_894 : decode cL_law 894 = .ok (.bipush 6, 2) := by decide +kernel
theorem dL_law_896 : decode cL_law 896 = .ok (.iadd, 1) := by decide +kernel
theorem dL_law_897 : decode cL_law 897 = .ok (.iaload, 1) := by decide +kernel
theorem dL_law_898 : decode cL_law 898 = .ok (.invokevirtual 122, 3) := by decide +kernel
theorem dL_law_901 : decode cL_law 901 = .ok (.if_icmp .eq 133, 3) := by decide +kernel
theorem dL_law_904 : decode cL_law 904 = .ok (.iconst 0, 1) := by decide +kernel
theorem dL_law_905 : decode cL_law 905 = .ok (.ireturn, 1) := by decide +kernel
theorem dL_law_906 : decode cL_law 906 = .ok (.aload_n 1, 1) := by decide +kernel
theorem dL_law_907 : decode cL_law 907 = .ok (.aload_n 0, 1) := by decide +kernel
theorem dL_law_908 : decode cL_law 908 = .ok (.iload_n 3, 1) := by decide +kernel
theorem dL_law_909 : decode cL_law 909 = .ok (.iconst 1, 1) := by decide +kernel
theorem dL_law_910 : decode cL_law 910 = .ok (.iadd, 1) := by decide +kernel
theorem dL_law_911 : decode cL_law 911 = .ok (.iaload, 1) := by decide +kernel
theorem dL_law_912 : decode cL_law 912 = .ok (.invokevirtual 123, 3) := by decide +kernel
theorem dL_law_915 : decode cL_law 915 = .ok (.aload_n 2, 1) := by decide +kernel
theorem dL_law_916 : decode cL_law 916 = .ok (.aload_n 0, 1) := by decide +kernel
theorem dL_law_917 : decode cL_law 917 = .ok (.iload_n 3, 1) := by decide +kernel
theorem dL_law_918 : decode cL_law 918 = .ok (.iconst 1, 1) := by decide +kernel
theorem dL_law_919 : decode cL_law 919 = .ok (.iadd, 1) := by decide +kernel
theorem dL_law_920 : decode cL_law 920 = .ok (.iaload, 1) := by decide +kernel
theorem dL_law_921 : decode cL_law 921 = .ok (.invokevirtual 126, 3) := by decide +kernel
theorem dL_law_924 : decode cL_law 924 = .ok (.if_icmp .eq 110, 3) := by decide +kernel
theorem dL_law_927 : decode cL_law 927 = .ok (.iconst 0, 1) := by decide +kernel
theorem dL_law_928 : decode cL_law 928 = .ok (.ireturn, 1) := by decide +kernel
theorem dL_law_929 : decode cL_law 929 = .ok (.aload_n 1, 1) := by decide +kernel
theorem dL_law_930 : decode cL_law 930 = .ok (.aload_n 0, 1) := by decide +kernel
theorem dL_law_931 : decode cL_law 931 = .ok (.iload_n 3, 1) := by decide +kernel
theorem dL_law_932 : decode cL_law 932 = .ok (.iconst 1, 1) := by decide +kernel
theorem dL_law_933 : decode cL_law 933 = .ok (.iadd, 1) := by decide +kernel
theorem dL_law_934 : decode cL_law 934 = .ok (.iaload, 1) := by decide +kernel
theorem dL_law_935 : decode cL_law 935 = .ok (.invokevirtual 127, 3) := by decide +kernel
theorem dL_law_938 : decode cL_law 938 = .ok (.aload_n 2, 1) := by decide +kernel
theorem dL_law_939 : decode cL_law 939 = .ok (.aload_n 0, 1) := by decide +kernel
theorem dL_law_940 : decode cL_law 940 = .ok (.iload_n 3, 1) := by decide +kernel
theorem dL_law_941 : decode cL_law 941 = .ok (.iconst 1, 1) := by decide +kernel
theorem dL_law_942 : decode cL_law 942 = .ok (.iadd, 1) := by decide +kernel
theorem dL_law_943 : decode cL_law 943 = .ok (.iaload, 1) := by decide +kernel
theorem dL_law_944 : decode cL_law 944 = .ok (.invokevirtual 130, 3) := by decide +kernel
theorem dL_law_947 : decode cL_law 947 = .ok (.if_icmp .eq 87, 3) := by decide +kernel
theorem dL_law_950 : decode cL_law 950 = .ok (.iconst 0, 1) := by decide +kernel
theorem dL_law_951 : decode cL_law 951 = .ok (.ireturn, 1) := by decide +kernel
theorem dL_law_952 : decode cL_law 952 = .ok (.aload_n 1, 1) := by decide +kernel
theorem dL_law_953 : decode cL_law 953 = .ok (.aload_n 0, 1) := by decide +kernel
theorem dL_law_954 : decode cL_law 954 = .ok (.iload_n 3, 1) := by decide +kernel
theorem dL_law_955 : decode cL_law 955 = .ok (.iconst 1, 1) := by decide +kernel
theorem dL_law_956 : decode cL_law 956 = .ok (.iadd, 1) := by decide +kernel
theorem dL_law_957 : decode cL_law 957 = .ok (.iaload, 1) := by decide +kernel
theorem dL_law_958 : decode cL_law 958 = .ok (.aload_n 0, 1) := by decide +kernel
theorem dL_law_959 : decode cL_law 959 = .ok (.iload_n 3, 1) := by decide +kernel
theorem dL_law_960 : decode cL_law 960 = .ok (.iconst 2, 1) := by decide +kernel
theorem dL_law_961 : decode cL_law 961 = .ok (.iadd, 1) := by decide +kernel
theorem dL_law_962 : decode cL_law 962 = .ok (.iaload, 1) := by decide +kernel
theorem dL_law_963 : decode cL_law 963 = .ok (.invokevirtual 131, 3) := by decide +kernel
theorem dL_law_966 : decode cL_law 966 = .ok (.aload_n 2, 1) := by decide +kernel
theorem dL_law_967 : decode cL_law 967 = .ok (.aload_n 0, 1) := by decide +kernel
theorem dL_law_968 : decode cL_law 968 = .ok (.iload_n 3, 1) := by decide +kernel
theorem dL_law_969 : decode cL_law 969 = .ok (.iconst 1, 1) := by decide +kernel
theorem dL_law_970 : decode cL_law 970 = .ok (.iadd, 1) := by decide +kernel
theorem dL_law_971 : decode cL_law 971 = .ok (.iaload, 1) := by decide +kernel
theorem dL_law_972 : decode cL_law 972 = .ok (.aload_n 0, 1) := by decide +kernel
theorem dL_law_973 : decode cL_law 973 = .ok (.iload_n 3, 1) := by decide +kernel
theorem dL_law_974 : decode cL_law 974 = .ok (.iconst 2, 1) := by decide +kernel
theorem dL_law_975 : decode cL_law 975 = .ok (.iadd, 1) := by decide +kernel
theorem dL_law_976 : decode cL_law 976 = .ok (.iaload, 1) := by decide +kernel
theorem dL_law_977 : decode cL_law 977 = .ok (.invokevirtual 134, 3) := by decide +kernel
theorem dL_law_980 : decode cL_law 980 = .ok (.if_icmp .eq 54, 3) := by decide +kernel
theorem dL_law_983 : decode cL_law 983 = .ok (.iconst 0, 1) := by decide +kernel
theorem dL_law_984 : decode cL_law 984 = .ok (.ireturn, 1) := by decide +kernel
theorem dL_law_985 : decode cL_law 985 = .ok (.aload_n 1, 1) := by decide +kernel
theorem dL_law_986 : decode cL_law 986 = .ok (.invokevirtual 135, 3) := by decide +kernel
theorem dL_law_989 : decode cL_law 989 = .ok (.aload_n 2, 1) := by decide +kernel
theorem dL_law_990 : decode cL_law 990 = .ok (.invokevirtual 138, 3) := by decide +kernel
theorem dL_law_993 : decode cL_law 993 = .ok (.if_icmp .eq 41, 3) := by decide +kernel
theorem dL_law_996 : decode cL_law 996 = .ok (.iconst 0, 1) := by decide +kernel
theorem dL_law_997 : decode cL_law 997 = .ok (.ireturn, 1) := by decide +kernel
theorem dL_law_998 : decode cL_law 998 = .ok (.aload_n 1, 1) := by decide +kernel
theorem dL_law_999 : decode cL_law 999 = .ok (.invokevirtual 139, 3) := by decide +kernel
theorem dL_law_1002 : decode cL_law 1002 = .ok (.aload_n 2, 1) := by decide +kernel
theorem dL_law_1003 : decode cL_law 1003 = .ok (.invokevirtual 142, 3) := by decide +kernel
theorem dL_law_1006 : decode cL_law 1006 = .ok (.if_icmp .eq 28, 3) := by decide +kernel
theorem dL_law_1009 : decode cL_law 1009 = .ok (.iconst 0, 1) := by decide +kernel
theorem dL_law_1010 : decode cL_law 1010 = .ok (.ireturn, 1) := by decide +kernel
theorem dL_law_1011 : decode cL_law 1011 = .ok (.aload_n 1, 1) := by decide +kernel
theorem dL_law_1012 : decode cL_law 1012 = .ok (.aload_n 0, 1) := by decide +kernel
theorem dL_law_1013 : decode cL_law 1013 = .ok (.iload_n 3, 1) := by decide +kernel
theorem dL_law_1014 : decode cL_law 1014 = .ok (.iconst 1, 1) := by decide +kernel
theorem dL_law_1015 : decode cL_law 1015 = .ok (.iadd, 1) := by decide +kernel
theorem dL_law_1016 : decode cL_law 1016 = .ok (.iaload, 1) := by decide +kernel
theorem dL_law_1017 : decode cL_law 1017 = .ok (.invokevirtual 143, 3) := by decide +kernel
theorem dL_law_1020 : decode cL_law 1020 = .ok (.aload_n 2, 1) := by decide +kernel
theorem dL_law_1021 : decode cL_law 1021 = .ok (.aload_n 0, 1) := by decide +kernel
theorem dL_law_1022 : decode cL_law 1022 = .ok (.iload_n 3, 1) := by decide +kernel
theorem dL_law_1023 : decode cL_law 1023 = .ok (.iconst 1, 1) := by decide +kernel
theorem dL_law_1024 : decode cL_law 1024 = .ok (.iadd, 1) := by decide +kernel
theorem dL_law_1025 : decode cL_law 1025 = .ok (.iaload, 1) := by decide +kernel
theorem dL_law_1026 : decode cL_law 1026 = .ok (.invokevirtual 146, 3) := by decide +kernel
theorem dL_law_1029 : decode cL_law 1029 = .ok (.if_icmp .eq 5, 3) := by decide +kernel
theorem dL_law_1032 : decode cL_law 1032 = .ok (.iconst 0, 1) := by decide +kernel
theorem dL_law_1033 : decode cL_law 1033 = .ok (.ireturn, 1) := by decide +kernel
theorem dL_law_1034 : decode cL_law 1034 = .ok (.iinc 3 7, 3) := by decide +kernel
theorem dL_law_1037 : decode cL_law 1037 = .ok (.goto (-1019), 3) := by decide +kernel
theorem dL_law_1040 : decode cL_law 1040 = .ok (.iconst 1, 1) := by decide +kernel
theorem dL_law_1041 : decode cL_law 1041 = .ok (.ireturn, 1) := by decide +kernel
