theorem dX12_isFrame_8 : decode cX12_isFrame 8 = .ok (.invokestatic 87, 3) := by decide +kernel
theorem dX12_isFrame_11 : decode cX12_isFrame 11 = .ok (.ireturn, 1) := by decide +kernel
theorem dX12_isPerson_0 : decode cX12_isPerson 0 = .ok (.iload_n 1, 1) := by decide +kernel
theorem dX12_isPerson_1 : decode cX12_isPerson 1 = .ok (.iconst 0, 1) := by decide +kernel
theorem dX12_isPerson_2 : decode cX12_isPerson 2 = .ok (.aload_n 0, 1) := by decide +kernel
theorem dX12_isPerson_3 : decode cX12_isPerson 3 = .ok (.getfield 17, 3) := by decide +kernel
theorem dX12_isPerson_6 : decode cX12_isPerson 6 = .ok (.iconst 1, 1) := by decide +kernel
theorem dX12_isPerson_7 : decode cX12_isPerson 7 = .ok (.isub, 1) := by decide +kernel
theorem dX12_isPerson_8 : decode cX12_isPerson 8 = .ok (.invokestatic 87, 3) := by decide +kernel
theorem dX12_isPerson_11 : decode cX12_isPerson 11 = .ok (.ireturn, 1) := by decide +kernel
theorem dX12_isDay_0 : decode cX12_isDay 0 = .ok (.iload_n 0, 1) := by decide +kernel
theorem dX12_isDay_1 : decode cX12_isDay 1 = .ok (.iconst 0, 1) := by decide +kernel
theorem dX12_isDay_2 : decode cX12_isDay 2 = .ok (.bipush 30, 2) := by decide +kernel
theorem dX12_isDay_4 : decode cX12_isDay 4 = .ok (.invokestatic 87, 3) := by decide +kernel
theorem dX12_isDay_7 : decode cX12_isDay 7 = .ok (.ireturn, 1) := by decide +kernel
theorem dX12_orders_0 : decode cX12_orders 0 = .ok (.iconst 0, 1) := by decide +kernel
theorem dX12_orders_1 : decode cX12_orders 1 = .ok (.istore_n 1, 1) := by decide +kernel
theorem dX12_orders_2 : decode cX12_orders 2 = .ok (.iconst 0, 1) := by decide +kernel
theorem dX12_orders_3 : decode cX12_orders 3 = .ok (.istore_n 2, 1) := by decide +kernel
theorem dX12_orders_4 : decode cX12_orders 4 = .ok (.iload_n 2, 1) := by decide +kernel
theorem dX12_orders_5 : decode cX12_orders 5 = .ok (.bipush 24, 2) := by decide +kernel
theorem dX12_orders_7 : decode cX12_orders 7 = .ok (.if_icmp .ge 49, 3) := by decide +kernel
theorem dX12_orders_10 : decode cX12_orders 10 = .ok (.iconst 0, 1) := by decide +kernel
theorem dX12_orders_11 : decode cX12_orders 11 = .ok (.istore_n 3, 1) := by decide +kernel
theorem dX12_orders_12 : decode cX12_orders 12 = .ok (.iload_n 3, 1) := by decide +kernel
theorem dX12_orders_13 : decode cX12_orders 13 = .ok (.aload_n 0, 1) := by decide +kernel
theorem dX12_orders_14 : decode cX12_orders 14 = .ok (.getfield 23, 3) := by decide +kernel
theorem dX12_orders_17 : decode cX12_orders 17 = .ok (.if_icmp .ge 33, 3) := by decide +kernel
theorem dX12_orders_20 : decode cX12_orders 20 = .ok (.aload_n 0, 1) := by decide +kernel
theorem dX12_orders_21 : decode cX12_orders 21 = .ok (.getfield 26, 3) := by decide +kernel
theorem dX12_orders_24 : decode cX12_orders 24 = .ok (.iconst 3, 1) := by decide +kernel
theorem dX12_orders_25 : decode cX12_orders 25 = .ok (.iload_n 3, 1) := by decide +kernel
theorem dX12_orders_26 : decode cX12_orders 26 = .ok (.imul, 1) := by decide +kernel
theorem dX12_orders_27 : decode cX12_orders 27 = .ok (.iconst 1, 1) := by decide +kernel
theorem dX12_orders_28 : decode cX12_orders 28 = .ok (.iadd, 1) := by decide +kernel
theorem dX12_orders_29 : decode cX12_orders 29 = .ok (.iaload, 1) := by decide +kernel
theorem dX12_orders_30 : decode cX12_orders 30 = .ok (.iload_n 2, 1) := by decide +kernel
theorem dX12_orders_31 : decode cX12_orders 31 = .ok (.if_icmp .ne 13, 3) := by decide +kernel
theorem dX12_orders_34 : decode cX12_orders 34 = .ok (.aload_n 0, 1) := by decide +kernel
theorem dX12_orders_35 : decode cX12_orders 35 = .ok (.getfield 29, 3) := by decide +kernel
theorem dX12_orders_38 : decode cX12_orders 38 = .ok (.iload_n 1, 1) := by decide +kernel
theorem dX12_orders_39 : decode cX12_orders 39 = .ok (.iload_n 3, 1) := by decide +kernel
theorem dX12_orders_40 : decode cX12_orders 40 = .ok (.iastore, 1) := by decide +kernel
theorem dX12_orders_41 : decode cX12_orders 41 = .ok (.iinc 1 1, 3) := by decide +kernel
theorem dX12_orders_44 : decode cX12_orders 44 = .ok (.iinc 3 1, 3) := by decide +kernel
theorem dX12_orders_47 : decode cX12_orders 47 = .ok (.goto (-35), 3) := by decide +kernel
theorem dX12_orders_50 : decode cX12_orders 50 = .ok (.iinc 2 1, 3) := by decide +kernel
theorem dX12_orders_53 : decode cX12_orders 53 = .ok (.goto (-49), 3) := by decide +kernel
theorem dX12_orders_56 : decode cX12_orders 56 = .ok (.return_, 1) := by decide +kernel
theorem dX12_write_0 : decode cX12_write 0 = .ok (.iload_n 1, 1) := by decide +kernel
theorem dX12_write_1 : decode cX12_write 1 = .ok (.bipush 32, 2) := by decide +kernel
theorem dX12_write_3 : decode cX12_write 3 = .ok (.bipush 126, 2) := by decide +kernel
theorem dX12_write_5 : decode cX12_write 5 = .ok (.invokestatic 87, 3) := by decide +kernel
theorem dX12_write_8 : decode cX12_write 8 = .ok (.ifCond .ne 5, 3) := by decide +kernel
theorem dX12_write_11 : decode cX12_write 11 = .ok (.iconst (-1), 1) := by decide +kernel
theorem dX12_write_12 : decode cX12_write 12 = .ok (.ireturn, 1) := by decide +kernel
theorem dX12_write_13 : decode cX12_write 13 = .ok (.aload_n 0, 1) := by decide +kernel
theorem dX12_write_14 : decode cX12_write 14 = .ok (.getfield 91, 3) := by decide +kernel
theorem dX12_write_17 : decode cX12_write 17 = .ok (.sipush 200, 3) := by decide +kernel
theorem dX12_write_20 : decode cX12_write 20 = .ok (.if_icmp .ne 6, 3) := by decide +kernel
theorem dX12_write_23 : decode cX12_write 23 = .ok (.bipush (-3), 2) := by decide +kernel
theorem dX12_write_25 : decode cX12_write 25 = .ok (.ireturn, 1) := by decide +kernel
theorem dX12_write_26 : decode cX12_write 26 = .ok (.aload_n 0, 1) := by decide +kernel
theorem dX12_write_27 : decode cX12_write 27 = .ok (.getfield 44, 3) := by decide +kernel
theorem dX12_write_30 : decode cX12_write 30 = .ok (.aload_n 0, 1) := by decide +kernel
theorem dX12_write_31 : decode cX12_write 31 = .ok (.getfield 91, 3) := by decide +kernel
theorem dX12_write_34 : decode cX12_write 34 = .ok (.iload_n 1, 1) := by decide +kernel
theorem dX12_write_35 : decode cX12_write 35 = .ok (.iastore, 1) := by decide +kernel
theorem dX12_write_36 : decode cX12_write 36 = .ok (.aload_n 0, 1) := by decide +kernel
theorem dX12_write_37 : decode cX12_write 37 = .ok (.dup, 1) := by decide +kernel
theorem dX12_write_38 : decode cX12_write 38 = .ok (.getfield 91, 3) := by decide +kernel
theorem dX12_write_41 : decode cX12_write 41 = .ok (.iconst 1, 1) := by decide +kernel
theorem dX12_write_42 : decode cX12_write 42 = .ok (.iadd, 1) := by decide +kernel
theorem dX12_write_43 : decode cX12_write 43 = .ok (.putfield 91, 3) := by decide +kernel
theorem dX12_write_46 : decode cX12_write 46 = .ok (.aload_n 0, 1) := by decide +kernel
theorem dX12_write_47 : decode cX12_write 47 = .ok (.getfield 91, 3) := by decide +kernel
theorem dX12_write_50 : decode cX12_write 50 = .ok (.ireturn, 1) := by decide +kernel
theorem dX12_wipe_0 : decode cX12_wipe 0 = .ok (.aload_n 0, 1) := by decide +kernel
theorem dX12_wipe_1 : decode cX12_wipe 1 = .ok (.getfield 91, 3) := by decide +kernel
theorem dX12_wipe_4 : decode cX12_wipe 4 = .ok (.istore_n 1, 1) := by decide +kernel
theorem dX12_wipe_5 : decode cX12_wipe 5 = .ok (.aload_n 0, 1) := by decide +kernel
theorem dX12_wipe_6 : decode cX12_wipe 6 = .ok (.iconst 0, 1) := by decide +kernel
theorem dX12_wipe_7 : decode cX12_wipe 7 = .ok (.putfield 91, 3) := by decide +kernel
theorem dX12_wipe_10 : decode cX12_wipe 10 = .ok (.iload_n 1, 1) := by decide +kernel
theorem dX12_wipe_11 : decode cX12_wipe 11 = .ok (.ireturn, 1) := by decide +kernel
theorem dX12_letterAt_0 : decode cX12_letterAt 0 = .ok (.iload_n 1, 1) := by decide +kernel
theorem dX12_letterAt_1 : decode cX12_letterAt 1 = .ok (.aload_n 0, 1) := by decide +kernel
theorem dX12_letterAt_2 : decode cX12_letterAt 2 = .ok (.getfield 91, 3) := by decide +kernel
theorem dX12_letterAt_5 : decode cX12_letterAt 5 = .ok (.if_icmp .ge 12, 3) := by decide +kernel
theorem dX12_letterAt_8 : decode cX12_letterAt 8 = .ok (.aload_n 0, 1) := by decide +kernel
theorem dX12_letterAt_9 : decode cX12_letterAt 9 = .ok (.getfield 44, 3) := by decide +kernel
theorem dX12_letterAt_12 : decode cX12_letterAt 12 = .ok (.iload_n 1, 1) := by decide +kernel
theorem dX12_letterAt_13 : decode cX12_letterAt 13 = .ok (.iaload, 1) := by decide +kernel
theorem dX12_letterAt_14 : decode cX12_letterAt 14 = .ok (.goto 4, 3) := by decide +kernel
theorem dX12_letterAt_17 : decode cX12_letterAt 17 = .ok (.iconst (-1), 1) := by decide +kernel
theorem dX12_letterAt_18 : decode cX12_letterAt 18 = .ok (.ireturn, 1) := by decide +kernel
theorem dX12_isFigure_0 : decode cX12_isFigure 0 = .ok (.iload_n 0, 1) := by decide +kernel
theorem dX12_isFigure_1 : decode cX12_isFigure 1 = .ok (.bipush 48, 2) := by decide +kernel
theorem dX12_isFigure_3 : decode cX12_isFigure 3 = .ok (.bipush 57, 2) := by decide +kernel
theorem dX12_isFigure_5 : decode cX12_isFigure 5 = .ok (.invokestatic 87, 3) := by decide +kernel
theorem dX12_isFigure_8 : decode cX12_isFigure 8 = .ok (.ireturn, 1) := by decide +kernel
theorem dX12_readNumbers_0 : decode cX12_readNumbers 0 = .ok (.iconst 0, 1) := by decide +kernel
theorem dX12_readNumbers_1 : decode cX12_readNumbers 1 = .ok (.istore_n 2, 1) := by decide +kernel
theorem dX12_readNumbers_2 : decode cX12_readNumbers 2 = .ok (.iload_n 2, 1) := by decide +kernel
theorem dX12_readNumbers_3 : decode cX12_readNumbers 3 = .ok (.iload_n 1, 1) := by decide +kernel
theorem dX12_readNumbers_4 : decode cX12_readNumbers 4 = .ok (.if_icmp .ge 140, 3) := by decide +kernel
theorem dX12_readNumbers_7 : decode cX12_readNumbers 7 = .ok (.aload_n 0, 1) := by decide +kernel
theorem dX12_readNumbers_8 : decode cX12_readNumbers 8 = .ok (.aload_n 0, 1) := by decide +kernel
theorem dX12_readNumbers_9 : decode cX12_readNumbers 9 = .ok (.getfield 94, 3) := by decide +kernel
theorem dX12_readNumbers_12 : decode cX12_readNumbers 12 = .ok (.invokevirtual 97, 3) := by decide +kernel
theorem dX12_readNumbers_15 : decode cX12_readNumbers 15 = .ok (.invokestatic 101, 3) := by decide +kernel
theorem dX12_readNumbers_18 : decode cX12_readNumbers 18 = .ok (.ifCond .ne 5, 3) := by decide +kernel
theorem dX12_readNumbers_21 : decode cX12_readNumbers 21 = .ok (.iconst 0, 1) := by decide +kernel
theorem dX12_readNumbers_22 : decode cX12_readNumbers 22 = .ok (.ireturn, 1) := by decide +kernel
theorem dX12_readNumbers_23 : decode cX12_readNumbers 23 = .ok (.aload_n 0, 1) := by decide +kernel
theorem dX12_readNumbers_24 : decode cX12_readNumbers 24 = .ok (.getfield 47, 3) := by decide +kernel
theorem dX12_readNumbers_27 : decode cX12_readNumbers 27 = .ok (.iload_n 2, 1) := by decide +kernel
theorem dX12_readNumbers_28 : decode cX12_readNumbers 28 = .ok (.aload_n 0, 1) := by decide +kernel
theorem dX12_readNumbers_29 : decode cX12_readNumbers 29 = .ok (.aload_n 0, 1) := by decide +kernel
theorem dX12_readNumbers_30 : decode cX12_readNumbers 30 = .ok (.getfield 94, 3) := by decide +kernel
theorem dX12_readNumbers_33 : decode cX12_readNumbers 33 = .ok (.invokevirtual 97, 3) := by decide +kernel
theorem dX12_readNumbers_36 : decode cX12_readNumbers 36 = .ok (.bipush 48, 2) := by decide +kernel
theorem dX12_readNumbers_38 : decode cX12_readNumbers 38 = .ok (.isub, 1) := by decide +kernel
theorem dX12_readNumbers_39 : decode cX12_readNumbers 39 = .ok (.iastore, 1) := by decide +kernel
theorem dX12_readNumbers_40 : decode cX12_readNumbers 40 = .ok (.aload_n 0, 1) := by decide +kernel
theorem dX12_readNumbers_41 : decode cX12_readNumbers 41 = .ok (.dup, 1) := by decide +kernel
theorem dX12_readNumbers_42 : decode cX12_readNumbers 42 = .ok (.getfield 94, 3) := by decide +kernel
theorem dX12_readNumbers_45 : decode cX12_readNumbers 45 = .ok (.iconst 1, 1) := by decide +kernel
theorem dX12_readNumbers_46 : decode cX12_readNumbers 46 = .ok (.iadd, 1) := by decide +kernel
theorem dX12_readNumbers_47 : decode cX12_readNumbers 47 = .ok (.putfield 94, 3) := by decide +kernel
theorem dX12_readNumbers_50 : decode cX12_readNumbers 50 = .ok (.aload_n 0, 1) := by decide +kernel
theorem dX12_readNumbers_51 : decode cX12_readNumbers 51 = .ok (.aload_n 0, 1) := by decide +kernel
theorem dX12_readNumbers_52 : decode cX12_readNumbers 52 = .ok (.getfield 94, 3) := by decide +kernel
theorem dX12_readNumbers_55 : decode cX12_readNumbers 55 = .ok (.invokevirtual 97, 3) := by decide +kernel
theorem dX12_readNumbers_58 : decode cX12_readNumbers 58 = .ok (.invokestatic 101, 3) := by decide +kernel
theorem dX12_readNumbers_61 : decode cX12_readNumbers 61 = .ok (.ifCond .eq 40, 3) := by decide +kernel
theorem dX12_readNumbers_64 : decode cX12_readNumbers 64 = .ok (.aload_n 0, 1) := by decide +kernel
theorem dX12_readNumbers_65 : decode cX12_readNumbers 65 = .ok (.getfield 47, 3) := by decide +kernel
theorem dX12_readNumbers_68 : decode cX12_readNumbers 68 = .ok (.iload_n 2, 1) := by decide +kernel
theorem dX12_readNumbers_69 : decode cX12_readNumbers 69 = .ok (.bipush 10, 2) := by decide +kernel
theorem dX12_readNumbers_71 : decode cX12_readNumbers 71 = .ok (.aload_n 0, 1) := by decide +kernel
theorem dX12_readNumbers_72 : decode cX12_readNumbers 72 = .ok (.getfield 47, 3) := by decide +kernel
theorem dX12_readNumbers_75 : decode cX12_readNumbers 75 = .ok (.iload_n 2, 1) := by decide +kernel
theorem dX12_readNumbers_76 : decode cX12_readNumbers 76 = .ok (.iaload, 1) := by decide +kernel
theorem dX12_readNumbers_77 : decode cX12_readNumbers 77 = .ok (.imul, 1) := by decide +kernel
theorem dX12_readNumbers_78 : decode cX12_readNumbers 78 = .ok (.aload_n 0, 1) := by decide +kernel
theorem dX12_readNumbers_79 : decode cX12_readNumbers 79 = .ok (.aload_n 0, 1) := by decide +kernel
theorem dX12_readNumbers_80 : decode cX12_readNumbers 80 = .ok (.getfield 94, 3) := by decide +kernel
theorem dX12_readNumbers_83 : decode cX12_readNumbers 83 = .ok (.invokevirtual 97, 3) := by decide +kernel
theorem dX12_readNumbers_86 : decode cX12_readNumbers 86 = .ok (.iadd, 1) := by decide +kernel
theorem dX12_readNumbers_87 : decode cX12_readNumbers 87 = .ok (.bipush 48, 2) := by decide +kernel
theorem dX12_readNumbers_89 : decode cX12_readNumbers 89 = .ok (.isub, 1) := by decide +kernel
theorem dX12_readNumbers_90 : decode cX12_readNumbers 90 = .ok (.iastore, 1) := by decide +kernel
theorem dX12_readNumbers_91 : decode cX12_readNumbers 91 = .ok (.aload_n 0, 1) := by decide +kernel
theorem dX12_readNumbers_92 : decode cX12_readNumbers 92 = .ok (.dup, 1) := by decide +kernel
theorem dX12_readNumbers_93 : decode cX12_readNumbers 93 = .ok (.getfield 94, 3) := by decide +kernel
theorem dX12_readNumbers_96 : decode cX12_readNumbers 96 = .ok (.iconst 1, 1) := by decide +kernel
theorem dX12_readNumbers_97 : decode cX12_readNumbers 97 = .ok (.iadd, 1) := by decide +kernel
theorem dX12_readNumbers_98 : decode cX12_readNumbers 98 = .ok (.putfield 94, 3) := by decide +kernel
theorem dX12_readNumbers_101 : decode cX12_readNumbers 101 = .ok (.aload_n 0, 1) := by decide +kernel
theorem dX12_readNumbers_102 : decode cX12_readNumbers 102 = .ok (.aload_n 0, 1) := by decide +kernel
theorem dX12_readNumbers_103 : decode cX12_readNumbers 103 = .ok (.getfield 94, 3) := by decide +kernel
theorem dX12_readNumbers_106 : decode cX12_readNumbers 106 = .ok (.invokevirtual 97, 3) := by decide +kernel
theorem dX12_readNumbers_109 : decode cX12_readNumbers 109 = .ok (.iload_n 2, 1) := by decide +kernel
theorem dX12_readNumbers_110 : decode cX12_readNumbers 110 = .ok (.iload_n 1, 1) := by decide +kernel
theorem dX12_readNumbers_111 : decode cX12_readNumbers 111 = .ok (.iconst 1, 1) := by decide +kernel
theorem dX12_readNumbers_112 : decode cX12_readNumbers 112 = .ok (.isub, 1) := by decide +kernel
theorem dX12_readNumbers_113 : decode cX12_readNumbers 113 = .ok (.if_icmp .ge 8, 3) := by decide +kernel
theorem dX12_readNumbers_116 : decode cX12_readNumbers 116 = .ok (.bipush 44, 2) := by decide +kernel
theorem dX12_readNumbers_118 : decode cX12_readNumbers 118 = .ok (.goto 5, 3) := by decide +kernel
theorem dX12_readNumbers_121 : decode cX12_readNumbers 121 = .ok (.bipush 59, 2) := by decide +kernel
theorem dX12_readNumbers_123 : decode cX12_readNumbers 123 = .ok (.if_icmp .eq 5, 3) := by decide +kernel
theorem dX12_readNumbers_126 : decode cX12_readNumbers 126 = .ok (.iconst 0, 1) := by decide +kernel
theorem dX12_readNumbers_127 : decode cX12_readNumbers 127 = .ok (.ireturn, 1) := by decide +kernel
theorem dX12_readNumbers_128 : decode cX12_readNumbers 128 = .ok (.aload_n 0, 1) := by decide +kernel
theorem dX12_readNumbers_129 : decode cX12_readNumbers 129 = .ok (.dup, 1) := by decide +kernel
theorem dX12_readNumbers_130 : decode cX12_readNumbers 130 = .ok (.getfield 94, 3) := by decide +kernel
theorem dX12_readNumbers_133 : decode cX12_readNumbers 133 = .ok (.iconst 1, 1) := by decide +kernel
theorem dX12_readNumbers_134 : decode cX12_readNumbers 134 = .ok (.iadd, 1) := by decide +kernel
theorem dX12_readNumbers_135 : decode cX12_readNumbers 135 = .ok (.putfield 94, 3) := by decide +kernel
theorem dX12_readNumbers_138 : decode cX12_readNumbers 138 = .ok (.iinc 2 1, 3) := by decide +kernel
theorem dX12_readNumbers_141 : decode cX12_readNumbers 141 = .ok (.goto (-139), 3) := by decide +kernel
theorem dX12_readNumbers_144 : decode cX12_readNumbers 144 = .ok (.iconst 1, 1) := by decide +kernel
theorem dX12_readNumbers_145 : decode cX12_readNumbers 145 = .ok (.ireturn, 1) := by decide +kernel
theorem dX12_isTold_0 : decode cX12_isTold 0 = .ok (.aload_n 0, 1) := by decide +kernel
theorem dX12_isTold_1 : decode cX12_isTold 1 = .ok (.getfield 47, 3) := by decide +kernel
theorem dX12_isTold_4 : decode cX12_isTold 4 = .ok (.iload_n 1, 1) := by decide +kernel
theorem dX12_isTold_5 : decode cX12_isTold 5 = .ok (.iaload, 1) := by decide +kernel
theorem dX12_isTold_6 : decode cX12_isTold 6 = .ok (.iload_n 2, 1) := by decide +kernel
theorem dX12_isTold_7 : decode cX12_isTold 7 = .ok (.iload_n 3, 1) := by decide +kernel
theorem dX12_isTold_8 : decode cX12_isTold 8 = .ok (.invokestatic 87, 3) := by decide +kernel
theorem dX12_isTold_11 : decode cX12_isTold 11 = .ok (.ireturn, 1) := by decide +kernel
theorem dX12_put_0 : decode cX12_put 0 = .ok (.iconst 0, 1) := by decide +kernel
theorem dX12_put_1 : decode cX12_put 1 = .ok (.istore 4, 2) := by decide +kernel
theorem dX12_put_3 : decode cX12_put 3 = .ok (.iload 4, 2) := by decide +kernel
theorem dX12_put_5 : decode cX12_put 5 = .ok (.iload_n 3, 1) := by decide +kernel
theorem dX12_put_6 : decode cX12_put 6 = .ok (.if_icmp .ge 19, 3) := by decide +kernel
theorem dX12_put_9 : decode cX12_put 9 = .ok (.aload_n 0, 1) := by decide +kernel
theorem dX12_put_10 : decode cX12_put 10 = .ok (.iload_n 1, 1) := by decide +kernel
theorem dX12_put_11 : decode cX12_put 11 = .ok (.iload 4, 2) := by decide +kernel
theorem dX12_put_13 : decode cX12_put 13 = .ok (.iadd, 1) := by decide +kernel
theorem dX12_put_14 : decode cX12_put 14 = .ok (.aload_n 2, 1) := by decide +kernel
theorem dX12_put_15 : decode cX12_put 15 = .ok (.iload 4, 2) := by decide +kernel
theorem dX12_put_17 : decode cX12_put 17 = .ok (.iaload, 1) := by decide +kernel
theorem dX12_put_18 : decode cX12_put 18 = .ok (.iastore, 1) := by decide +kernel
theorem dX12_put_19 : decode cX12_put 19 = .ok (.iinc 4 1, 3) := by decide +kernel
theorem dX12_put_22 : decode cX12_put 22 = .ok (.goto (-19), 3) := by decide +kernel
theorem dX12_put_25 : decode cX12_put 25 = .ok (.return_, 1) := by decide +kernel
theorem dX12_readFrameOf_0 : decode cX12_readFrameOf 0 = .ok (.aload_n 0, 1) := by decide +kernel
theorem dX12_readFrameOf_1 : decode cX12_readFrameOf 1 = .ok (.getfield 105, 3) := by decide +kernel
theorem dX12_readFrameOf_4 : decode cX12_readFrameOf 4 = .ok (.bipush 7, 2) := by decide +kernel
theorem dX12_readFrameOf_6 : decode cX12_readFrameOf 6 = .ok (.if_icmp .eq 32, 3) := by decide +kernel
theorem dX12_readFrameOf_9 : decode cX12_readFrameOf 9 = .ok (.aload_n 0, 1) := by decide +kernel
theorem dX12_readFrameOf_10 : decode cX12_readFrameOf 10 = .ok (.iconst 2, 1) := by decide +kernel
theorem dX12_readFrameOf_11 : decode cX12_readFrameOf 11 = .ok (.invokevirtual 108, 3) := by decide +kernel
theorem dX12_readFrameOf_14 : decode cX12_readFrameOf 14 = .ok (.ifCond .eq 24, 3) := by decide +kernel
theorem dX12_readFrameOf_17 : decode cX12_readFrameOf 17 = .ok (.aload_n 0, 1) := by decide +kernel
theorem dX12_readFrameOf_18 : decode cX12_readFrameOf 18 = .ok (.iconst 0, 1) := by decide +kernel
theorem dX12_readFrameOf_19 : decode cX12_readFrameOf 19 = .ok (.iconst 0, 1) := by decide +kernel
theorem dX12_readFrameOf_20 : decode cX12_readFrameOf 20 = .ok (.iconst 3, 1) := by decide +kernel
theorem dX12_readFrameOf_21 : decode cX12_readFrameOf 21 = .ok (.invokevirtual 111, 3) := by decide +kernel
theorem dX12_readFrameOf_24 : decode cX12_readFrameOf 24 = .ok (.ifCond .eq 14, 3) := by decide +kernel
theorem dX12_readFrameOf_27 : decode cX12_readFrameOf 27 = .ok (.aload_n 0, 1) := by decide +kernel
theorem dX12_readFrameOf_28 : decode cX12_readFrameOf 28 = .ok (.iconst 1, 1) := by decide +kernel
theorem dX12_readFrameOf_29 : decode cX12_readFrameOf 29 = .ok (.iconst 0, 1) := by decide +kernel
theorem dX12_readFrameOf_30 : decode cX12_readFrameOf 30 = .ok (.bipush 40, 2) := by decide +kernel
theorem dX12_readFrameOf_32 : decode cX12_readFrameOf 32 = .ok (.invokevirtual 111, 3) := by decide +kernel
theorem dX12_readFrameOf_35 : decode cX12_readFrameOf 35 = .ok (.ifCond .ne 5, 3) := by decide +kernel
theorem dX12_readFrameOf_38 : decode cX12_readFrameOf 38 = .ok (.iconst 0, 1) := by decide +kernel
theorem dX12_readFrameOf_39 : decode cX12_readFrameOf 39 = .ok (.ireturn, 1) := by decide +kernel
theorem dX12_readFrameOf_40 : decode cX12_readFrameOf 40 = .ok (.iconst 4, 1) := by decide +kernel
theorem dX12_readFrameOf_41 : decode cX12_readFrameOf 41 = .ok (.aload_n 0, 1) := by decide +kernel
theorem dX12_readFrameOf_42 : decode cX12_readFrameOf 42 = .ok (.getfield 105, 3) := by decide +kernel
theorem dX12_readFrameOf_45 : decode cX12_readFrameOf 45 = .ok (.imul, 1) := by decide +kernel
theorem dX12_readFrameOf_46 : decode cX12_readFrameOf 46 = .ok (.istore_n 1, 1) := by decide +kernel
theorem dX12_readFrameOf_47 : decode cX12_readFrameOf 47 = .ok (.aload_n 0, 1) := by decide +kernel
theorem dX12_readFrameOf_48 : decode cX12_readFrameOf 48 = .ok (.getfield 50, 3) := by decide +kernel
theorem dX12_readFrameOf_51 : decode cX12_readFrameOf 51 = .ok (.iload_n 1, 1) := by decide +kernel
theorem dX12_readFrameOf_52 : decode cX12_readFrameOf 52 = .ok (.aload_n 0, 1) := by decide +kernel
theorem dX12_readFrameOf_53 : decode cX12_readFrameOf 53 = .ok (.getfield 47, 3) := by decide +kernel
theorem dX12_readFrameOf_56 : decode cX12_readFrameOf 56 = .ok (.iconst 0, 1) := by decide +kernel
theorem dX12_readFrameOf_57 : decode cX12_readFrameOf 57 = .ok (.iaload, 1) := by decide +kernel
theorem dX12_readFrameOf_58 : decode cX12_readFrameOf 58 = .ok (.aload_n 0, 1) := by decide +kernel
theorem dX12_readFrameOf_59 : decode cX12_readFrameOf 59 = .ok (.getfield 47, 3) := by decide +kernel
theorem dX12_readFrameOf_62 : decode cX12_readFrameOf 62 = .ok (.iconst 1, 1) := by decide +kernel
theorem dX12_readFrameOf_63 : decode cX12_readFrameOf 63 = .ok (.iaload, 1) := by decide +kernel
theorem dX12_readFrameOf_64 : decode cX12_readFrameOf 64 = .ok (.bipush 20, 2) := by decide +kernel
theorem dX12_readFrameOf_66 : decode cX12_readFrameOf 66 = .ok (.isub, 1) := by decide +kernel
theorem dX12_readFrameOf_67 : decode cX12_readFrameOf 67 = .ok (.iconst 0, 1) := by decide +kernel
theorem dX12_readFrameOf_68 : decode cX12_readFrameOf 68 = .ok (.invokestatic 80, 3) := by decide +kernel
theorem dX12_readFrameOf_71 : decode cX12_readFrameOf 71 = .ok (.aload_n 0, 1) := by decide +kernel
theorem dX12_readFrameOf_72 : decode cX12_readFrameOf 72 = .ok (.getfield 50, 3) := by decide +kernel
theorem dX12_readFrameOf_75 : decode cX12_readFrameOf 75 = .ok (.iload_n 1, 1) := by decide +kernel
theorem dX12_readFrameOf_76 : decode cX12_readFrameOf 76 = .ok (.iconst 3, 1) := by decide +kernel
theorem dX12_readFrameOf_77 : decode cX12_readFrameOf 77 = .ok (.iadd, 1) := by decide +kernel
theorem dX12_readFrameOf_78 : decode cX12_readFrameOf 78 = .ok (.iconst 0, 1) := by decide +kernel
theorem dX12_readFrameOf_79 : decode cX12_readFrameOf 79 = .ok (.iastore, 1) := by decide +kernel
theorem dX12_readFrameOf_80 : decode cX12_readFrameOf 80 = .ok (.aload_n 0, 1) := by decide +kernel
theorem dX12_readFrameOf_81 : decode cX12_readFrameOf 81 = .ok (.dup, 1) := by decide +kernel
theorem dX12_readFrameOf_82 : decode cX12_readFrameOf 82 = .ok (.getfield 105, 3) := by decide +kernel
theorem dX12_readFrameOf_85 : decode cX12_readFrameOf 85 = .ok (.iconst 1, 1) := by decide +kernel
theorem dX12_readFrameOf_86 : decode cX12_readFrameOf 86 = .ok (.iadd, 1) := by decide +kernel
theorem dX12_readFrameOf_87 : decode cX12_readFrameOf 87 = .ok (.putfield 105, 3) := by decide +kernel
theorem dX12_readFrameOf_90 : decode cX12_readFrameOf 90 = .ok (.iconst 1, 1) := by decide +kernel
theorem dX12_readFrameOf_91 : decode cX12_readFrameOf 91 = .ok (.ireturn, 1) := by decide +kernel
theorem dX12_readTwist_0 : decode cX12_readTwist 0 = .ok (.aload_n 0, 1) := by decide +kernel
theorem dX12_readTwist_1 : decode cX12_readTwist 1 = .ok (.iconst 2, 1) := by decide +kernel
theorem dX12_readTwist_2 : decode cX12_readTwist 2 = .ok (.invokevirtual 108, 3) := by decide +kernel
theorem dX12_readTwist_5 : decode cX12_readTwist 5 = .ok (.ifCond .eq 33, 3) := by decide +kernel
theorem dX12_readTwist_8 : decode cX12_readTwist 8 = .ok (.aload_n 0, 1) := by decide +kernel
theorem dX12_readTwist_9 : decode cX12_readTwist 9 = .ok (.iconst 0, 1) := by decide +kernel
theorem dX12_readTwist_10 : decode cX12_readTwist 10 = .ok (.iconst 0, 1) := by decide +kernel
theorem dX12_readTwist_11 : decode cX12_readTwist 11 = .ok (.aload_n 0, 1) := by decide +kernel
theorem dX12_readTwist_12 : decode cX12_readTwist 12 = .ok (.getfield 105, 3) := by decide +kernel
theorem dX12_readTwist_15 : decode cX12_readTwist 15 = .ok (.iconst 1, 1) := by decide +kernel
theorem dX12_readTwist_16 : decode cX12_readTwist 16 = .ok (.isub, 1) := by decide +kernel
theorem dX12_readTwist_17 : decode cX12_readTwist 17 = .ok (.invokevirtual 111, 3) := by decide +kernel
theorem dX12_readTwist_20 : decode cX12_readTwist 20 = .ok (.ifCond .eq 18, 3) := by decide +kernel
theorem dX12_readTwist_23 : decode cX12_readTwist 23 = .ok (.aload_n 0, 1) := by decide +kernel
theorem dX12_readTwist_24 : decode cX12_readTwist 24 = .ok (.iconst 1, 1) := by decide +kernel
theorem dX12_readTwist_25 : decode cX12_readTwist 25 = .ok (.iconst 0, 1) := by decide +kernel
theorem dX12_readTwist_26 : decode cX12_readTwist 26 = .ok (.bipush 10, 2) := by decide +kernel
theorem dX12_readTwist_28 : decode cX12_readTwist 28 = .ok (.invokevirtual 111, 3) := by decide +kernel
theorem dX12_readTwist_31 : decode cX12_readTwist 31 = .ok (.ifCond .eq 7, 3) := by decide +kernel
theorem dX12_readTwist_34 : decode cX12_readTwist 34 = .ok (.iconst 1, 1) := by decide +kernel
theorem dX12_readTwist_35 : decode cX12_readTwist 35 = .ok (.goto 4, 3) := by decide +kernel
theorem dX12_readTwist_38 : decode cX12_readTwist 38 = .ok (.iconst 0, 1) := by decide +kernel
theorem dX12_readTwist_39 : decode cX12_readTwist 39 = .ok (.istore_n 1, 1) := by decide +kernel
theorem dX12_readTwist_40 : decode cX12_readTwist 40 = .ok (.iload_n 1, 1) := by decide +kernel
theorem dX12_readTwist_41 : decode cX12_readTwist 41 = .ok (.ifCond .eq 26, 3) := by decide +kernel
theorem dX12_readTwist_44 : decode cX12_readTwist 44 = .ok (.aload_n 0, 1) := by decide +kernel
theorem dX12_readTwist_45 : decode cX12_readTwist 45 = .ok (.getfield 50, 3) := by decide +kernel
theorem dX12_readTwist_48 : decode cX12_readTwist 48 = .ok (.iconst 4, 1) := by decide +kernel
theorem dX12_readTwist_49 : decode cX12_readTwist 49 = .ok (.aload_n 0, 1) := by decide +kernel
theorem dX12_readTwist_50 : decode cX12_readTwist 50 = .ok (.getfield 47, 3) := by decide +kernel
theorem dX12_readTwist_53 : decode cX12_readTwist 53 = .ok (.iconst 0, 1) := by decide +kernel
theorem dX12_readTwist_54 : decode cX12_readTwist 54 = .ok (.iaload, 1) := by decide +kernel
theorem dX12_readTwist_55 : decode cX12_readTwist 55 = .ok (.imul, 1) := by decide +kernel
theorem dX12_readTwist_56 : decode cX12_readTwist 56 = .ok (.iconst 2, 1) := by decide +kernel
theorem dX12_readTwist_57 : decode cX12_readTwist 57 = .ok (.iadd, 1) := by decide +kernel
theorem dX12_readTwist_58 : decode cX12_readTwist 58 = .ok (.aload_n 0, 1) := by decide +kernel
theorem dX12_readTwist_59 : decode cX12_readTwist 59 = .ok (.getfield 47, 3) := by decide +kernel
theorem dX12_readTwist_62 : decode cX12_readTwist 62 = .ok (.iconst 1, 1) := by decide +kernel
theorem dX12_readTwist_63 : decode cX12_readTwist 63 = .ok (.iaload, 1) := by decide +kernel
theorem dX12_readTwist_64 : decode cX12_readTwist 64 = .ok (.iconst 5, 1) := by decide +kernel
theorem dX12_readTwist_65 : decode cX12_readTwist 65 = .ok (.isub, 1) := by decide +kernel
theorem dX12_readTwist_66 : decode cX12_readTwist 66 = .ok (.iastore, 1) := by decide +kernel
theorem dX12_readTwist_67 : decode cX12_readTwist 67 = .ok (.iload_n 1, 1) := by decide +kernel
theorem dX12_readTwist_68 : decode cX12_readTwist 68 = .ok (.ireturn, 1) := by decide +kernel
theorem dX12_readPatch_0 : decode cX12_readPatch 0 = .ok (.aload_n 0, 1) := by decide +kernel
theorem dX12_readPatch_1 : decode cX12_readPatch 1 = .ok (.iconst 2, 1) := by decide +kernel
theorem dX12_readPatch_2 : decode cX12_readPatch 2 = .ok (.invokevirtual 108, 3) := by decide +kernel
theorem dX12_readPatch_5 : decode cX12_readPatch 5 = .ok (.ifCond .eq 33, 3) := by decide +kernel
theorem dX12_readPatch_8 : decode cX12_readPatch 8 = .ok (.aload_n 0, 1) := by decide +kernel
theorem dX12_readPatch_9 : decode cX12_readPatch 9 = .ok (.iconst 0, 1) := by decide +kernel
theorem dX12_readPatch_10 : decode cX12_readPatch 10 = .ok (.iconst 0, 1) := by decide +kernel
theorem dX12_readPatch_11 : decode cX12_readPatch 11 = .ok (.aload_n 0, 1) := by decide +kernel
theorem dX12_readPatch_12 : decode cX12_readPatch 12 = .ok (.getfield 105, 3) := by decide +kernel
theorem dX12_readPatch_15 : decode cX12_readPatch 15 = .ok (.iconst 1, 1) := by decide +kernel
theorem dX12_readPatch_16 : decode cX12_readPatch 16 = .ok (.isub, 1) := by decide +kernel
theorem dX12_readPatch_17 : decode cX12_readPatch 17 = .ok (.invokevirtual 111, 3) := by decide +kernel
theorem dX12_readPatch_20 : decode cX12_readPatch 20 = .ok (.ifCond .eq 18, 3) := by decide +kernel
theorem dX12_readPatch_23 : decode cX12_readPatch 23 = .ok (.aload_n 0, 1) := by decide +kernel
theorem dX12_readPatch_24 : decode cX12_readPatch 24 = .ok (.iconst 1, 1) := by decide +kernel
theorem dX12_readPatch_25 : decode cX12_readPatch 25 = .ok (.iconst 0, 1) := by decide +kernel
theorem dX12_readPatch_26 : decode cX12_readPatch 26 = .ok (.bipush 40, 2) := by decide +kernel
theorem dX12_readPatch_28 : decode cX12_readPatch 28 = .ok (.invokevirtual 111, 3) := by decide +kernel
theorem dX12_readPatch_31 : decode cX12_readPatch 31 = .ok (.ifCond .eq 7, 3) := by decide +kernel
theorem dX12_readPatch_34 : decode cX12_readPatch 34 = .ok (.iconst 1, 1) := by decide +kernel
theorem dX12_readPatch_35 : decode cX12_readPatch 35 = .ok (.goto 4, 3) := by decide +kernel
theorem dX12_readPatch_38 : decode cX12_readPatch 38 = .ok (.iconst 0, 1) := by decide +kernel
theorem dX12_readPatch_39 : decode cX12_readPatch 39 = .ok (.istore_n 1, 1) := by decide +kernel
theorem dX12_readPatch_40 : decode cX12_readPatch 40 = .ok (.iload_n 1, 1) := by decide +kernel
theorem dX12_readPatch_41 : decode cX12_readPatch 41 = .ok (.ifCond .eq 27, 3) := by decide +kernel
theorem dX12_readPatch_44 : decode cX12_readPatch 44 = .ok (.aload_n 0, 1) := by decide +kernel
theorem dX12_readPatch_45 : decode cX12_readPatch 45 = .ok (.getfield 50, 3) := by decide +kernel
theorem dX12_readPatch_48 : decode cX12_readPatch 48 = .ok (.iconst 4, 1) := by decide +kernel
theorem dX12_readPatch_49 : decode cX12_readPatch 49 = .ok (.aload_n 0, 1) := by decide +kernel
theorem dX12_readPatch_50 : decode cX12_readPatch 50 = .ok (.getfield 47, 3) := by decide +kernel
theorem dX12_readPatch_53 : decode cX12_readPatch 53 = .ok (.iconst 0, 1) := by decide +kernel
theorem dX12_readPatch_54 : decode cX12_readPatch 54 = .ok (.iaload, 1) := by decide +kernel
theorem dX12_readPatch_55 : decode cX12_readPatch 55 = .ok (.imul, 1) := by decide +kernel
theorem dX12_readPatch_56 : decode cX12_readPatch 56 = .ok (.iconst 3, 1) := by decide +kernel
theorem dX12_readPatch_57 : decode cX12_readPatch 57 = .ok (.iadd, 1) := by decide +kernel
theorem dX12_readPatch_58 : decode cX12_readPatch 58 = .ok (.aload_n 0, 1) := by decide +kernel
theorem dX12_readPatch_59 : decode cX12_readPatch 59 = .ok (.getfield 47, 3) := by decide +kernel
theorem dX12_readPatch_62 : decode cX12_readPatch 62 = .ok (.iconst 1, 1) := by decide +kernel
theorem dX12_readPatch_63 : decode cX12_readPatch 63 = .ok (.iaload, 1) := by decide +kernel
theorem dX12_readPatch_64 : decode cX12_readPatch 64 = .ok (.bipush 20, 2) := by decide +kernel
theorem dX12_readPatch_66 : decode cX12_readPatch 66 = .ok (.isub, 1) := by decide +kernel
theorem dX12_readPatch_67 : decode cX12_readPatch 67 = .ok (.iastore, 1) := by decide +kernel
theorem dX12_readPatch_68 : decode cX12_readPatch 68 = .ok (.iload_n 1, 1) := by decide +kernel
theorem dX12_readPatch_69 : decode cX12_readPatch 69 = .ok (.ireturn, 1) := by decide +kernel
theorem dX12_readPersonOf_0 : decode cX12_readPersonOf 0 = .ok (.aload_n 0, 1) := by decide +kernel
theorem dX12_readPersonOf_1 : decode cX12_readPersonOf 1 = .ok (.getfield 114, 3) := by decide +kernel
theorem dX12_readPersonOf_4 : decode cX12_readPersonOf 4 = .ok (.iconst 5, 1) := by decide +kernel
theorem dX12_readPersonOf_5 : decode cX12_readPersonOf 5 = .ok (.if_icmp .eq 32, 3) := by decide +kernel
theorem dX12_readPersonOf_8 : decode cX12_readPersonOf 8 = .ok (.aload_n 0, 1) := by decide +kernel
theorem dX12_readPersonOf_9 : decode cX12_readPersonOf 9 = .ok (.iconst 2, 1) := by decide +kernel
theorem dX12_readPersonOf_10 : decode cX12_readPersonOf 10 = .ok (.invokevirtual 108, 3) := by decide +kernel
theorem dX12_readPersonOf_13 : decode cX12_readPersonOf 13 = .ok (.ifCond .eq 24, 3) := by decide +kernel
theorem dX12_readPersonOf_16 : decode cX12_readPersonOf 16 = .ok (.aload_n 0, 1) := by decide +kernel
theorem dX12_readPersonOf_17 : decode cX12_readPersonOf 17 = .ok (.iconst 0, 1) := by decide +kernel
theorem dX12_readPersonOf_18 : decode cX12_readPersonOf 18 = .ok (.iconst 0, 1) := by decide +kernel
theorem dX12_readPersonOf_19 : decode cX12_readPersonOf 19 = .ok (.iconst 3, 1) := by decide +kernel
theorem dX12_readPersonOf_20 : decode cX12_readPersonOf 20 = .ok (.invokevirtual 111, 3) := by decide +kernel
theorem dX12_readPersonOf_23 : decode cX12_readPersonOf 23 = .ok (.ifCond .eq 14, 3) := by decide +kernel
theorem dX12_readPersonOf_26 : decode cX12_readPersonOf 26 = .ok (.aload_n 0, 1) := by decide +kernel
theorem dX12_readPersonOf_27 : decode cX12_readPersonOf 27 = .ok (.iconst 1, 1) := by decide +kernel
theorem dX12_readPersonOf_28 : decode cX12_readPersonOf 28 = .ok (.iconst 0, 1) := by decide +kernel
theorem dX12_readPersonOf_29 : decode cX12_readPersonOf 29 = .ok (.bipush 20, 2) := by decide +kernel
theorem dX12_readPersonOf_31 : decode cX12_readPersonOf 31 = .ok (.invokevirtual 111, 3) := by decide +kernel
theorem dX12_readPersonOf_34 : decode cX12_readPersonOf 34 = .ok (.ifCond .ne 5, 3) := by decide +kernel
theorem dX12_readPersonOf_37 : decode cX12_readPersonOf 37 = .ok (.iconst 0, 1) := by decide +kernel
theorem dX12_readPersonOf_38 : decode cX12_readPersonOf 38 = .ok (.ireturn, 1) := by decide +kernel
theorem dX12_readPersonOf_39 : decode cX12_readPersonOf 39 = .ok (.aload_n 0, 1) := by decide +kernel
theorem dX12_readPersonOf_40 : decode cX12_readPersonOf 40 = .ok (.getfield 53, 3) := by decide +kernel
theorem dX12_readPersonOf_43 : decode cX12_readPersonOf 43 = .ok (.iconst 2, 1) := by decide +kernel
theorem dX12_readPersonOf_44 : decode cX12_readPersonOf 44 = .ok (.aload_n 0, 1) := by decide +kernel
theorem dX12_readPersonOf_45 : decode cX12_readPersonOf 45 = .ok (.getfield 114, 3) := by decide +kernel
theorem dX12_readPersonOf_48 : decode cX12_readPersonOf 48 = .ok (.imul, 1) := by decide +kernel
theorem dX12_readPersonOf_49 : decode cX12_readPersonOf 49 = .ok (.aload_n 0, 1) := by decide +kernel
theorem dX12_readPersonOf_50 : decode cX12_readPersonOf 50 = .ok (.getfield 47, 3) := by decide +kernel
theorem dX12_readPersonOf_53 : decode cX12_readPersonOf 53 = .ok (.iconst 2, 1) := by decide +kernel
theorem dX12_readPersonOf_54 : decode cX12_readPersonOf 54 = .ok (.invokestatic 117, 3) := by decide +kernel
theorem dX12_readPersonOf_57 : decode cX12_readPersonOf 57 = .ok (.aload_n 0, 1) := by decide +kernel
theorem dX12_readPersonOf_58 : decode cX12_readPersonOf 58 = .ok (.dup, 1) := by decide +kernel
theorem dX12_readPersonOf_59 : decode cX12_readPersonOf 59 = .ok (.getfield 114, 3) := by decide +kernel
theorem dX12_readPersonOf_62 : decode cX12_readPersonOf 62 = .ok (.iconst 1, 1) := by decide +kernel
theorem dX12_readPersonOf_63 : decode cX12_readPersonOf 63 = .ok (.iadd, 1) := by decide +kernel
theorem dX12_readPersonOf_64 : decode cX12_readPersonOf 64 = .ok (.putfield 114, 3) := by decide +kernel
theorem dX12_readPersonOf_67 : decode cX12_readPersonOf 67 = .ok (.iconst 1, 1) := by decide +kernel
theorem dX12_readPersonOf_68 : decode cX12_readPersonOf 68 = .ok (.ireturn, 1) := by decide +kernel
theorem dX12_readComingOf_0 : decode cX12_readComingOf 0 = .ok (.aload_n 0, 1) := by decide +kernel
theorem dX12_readComingOf_1 : decode cX12_readComingOf 1 = .ok (.getfield 121, 3) := by decide +kernel
theorem dX12_readComingOf_4 : decode cX12_readComingOf 4 = .ok (.bipush 10, 2) := by decide +kernel
theorem dX12_readComingOf_6 : decode cX12_readComingOf 6 = .ok (.if_icmp .eq 47, 3) := by decide +kernel
theorem dX12_readComingOf_9 : decode cX12_readComingOf 9 = .ok (.aload_n 0, 1) := by decide +kernel
theorem dX12_readComingOf_10 : decode cX12_readComingOf 10 = .ok (.iconst 3, 1) := by decide +kernel
theorem dX12_readComingOf_11 : decode cX12_readComingOf 11 = .ok (.invokevirtual 108, 3) := by decide +kernel
theorem dX12_readComingOf_14 : decode cX12_readComingOf 14 = .ok (.ifCond .eq 39, 3) := by decide +kernel
theorem dX12_readComingOf_17 : decode cX12_readComingOf 17 = .ok (.aload_n 0, 1) := by decide +kernel
theorem dX12_readComingOf_18 : decode cX12_readComingOf 18 = .ok (.iconst 0, 1) := by decide +kernel
theorem dX12_readComingOf_19 : decode cX12_readComingOf 19 = .ok (.iconst 0, 1) := by decide +kernel
theorem dX12_readComingOf_20 : decode cX12_readComingOf 20 = .ok (.aload_n 0, 1) := by decide +kernel
theorem dX12_readComingOf_21 : decode cX12_readComingOf 21 = .ok (.getfield 114, 3) := by decide +kernel
theorem dX12_readComingOf_24 : decode cX12_readComingOf 24 = .ok (.iconst 1, 1) := by decide +kernel
theorem dX12_readComingOf_25 : decode cX12_readComingOf 25 = .ok (.isub, 1) := by decide +kernel
theorem dX12_readComingOf_26 : decode cX12_readComingOf 26 = .ok (.invokevirtual 111, 3) := by decide +kernel
theorem dX12_readComingOf_29 : decode cX12_readComingOf 29 = .ok (.ifCond .eq 24, 3) := by decide +kernel
theorem dX12_readComingOf_32 : decode cX12_readComingOf 32 = .ok (.aload_n 0, 1) := by decide +kernel
theorem dX12_readComingOf_33 : decode cX12_readComingOf 33 = .ok (.iconst 1, 1) := by decide +kernel
theorem dX12_readComingOf_34 : decode cX12_readComingOf 34 = .ok (.iconst 0, 1) := by decide +kernel
theorem dX12_readComingOf_35 : decode cX12_readComingOf 35 = .ok (.bipush 23, 2) := by decide +kernel
theorem dX12_readComingOf_37 : decode cX12_readComingOf 37 = .ok (.invokevirtual 111, 3) := by decide +kernel
theorem dX12_readComingOf_40 : decode cX12_readComingOf 40 = .ok (.ifCond .eq 13, 3) := by decide +kernel
theorem dX12_readComingOf_43 : decode cX12_readComingOf 43 = .ok (.aload_n 0, 1) := by decide +kernel
theorem dX12_readComingOf_44 : decode cX12_readComingOf 44 = .ok (.iconst 2, 1) := by decide +kernel
theorem dX12_readComingOf_45 : decode cX12_readComingOf 45 = .ok (.iconst 0, 1) := by decide +kernel
theorem dX12_readComingOf_46 : decode cX12_readComingOf 46 = .ok (.iconst 3, 1) := by decide +kernel
theorem dX12_readComingOf_47 : decode cX12_readComingOf 47 = .ok (.invokevirtual 111, 3) := by decide +kernel
theorem dX12_readComingOf_50 : decode cX12_readComingOf 50 = .ok (.ifCond .ne 5, 3) := by decide +kernel
theorem dX12_readComingOf_53 : decode cX12_readComingOf 53 = .ok (.iconst 0, 1) := by decide +kernel
theorem dX12_readComingOf_54 : decode cX12_readComingOf 54 = .ok (.ireturn, 1) := by decide +kernel
theorem dX12_readComingOf_55 : decode cX12_readComingOf 55 = .ok (.aload_n 0, 1) := by decide +kernel
theorem dX12_readComingOf_56 : decode cX12_readComingOf 56 = .ok (.getfield 56, 3) := by decide +kernel
theorem dX12_readComingOf_59 : decode cX12_readComingOf 59 = .ok (.iconst 3, 1) := by decide +kernel
theorem dX12_readComingOf_60 : decode cX12_readComingOf 60 = .ok (.aload_n 0, 1) := by decide +kernel
theorem dX12_readComingOf_61 : decode cX12_readComingOf 61 = .ok (.getfield 121, 3) := by decide +kernel
theorem dX12_readComingOf_64 : decode cX12_readComingOf 64 = .ok (.imul, 1) := by decide +kernel
theorem dX12_readComingOf_65 : decode cX12_readComingOf 65 = .ok (.aload_n 0, 1) := by decide +kernel
theorem dX12_readComingOf_66 : decode cX12_readComingOf 66 = .ok (.getfield 47, 3) := by decide +kernel
theorem dX12_readComingOf_69 : decode cX12_readComingOf 69 = .ok (.iconst 3, 1) := by decide +kernel
theorem dX12_readComingOf_70 : decode cX12_readComingOf 70 = .ok (.invokestatic 117, 3) := by decide +kernel
theorem dX12_readComingOf_73 : decode cX12_readComingOf 73 = .ok (.aload_n 0, 1) := by decide +kernel
theorem dX12_readComingOf_74 : decode cX12_readComingOf 74 = .ok (.dup, 1) := by decide +kernel
theorem dX12_readComingOf_75 : decode cX12_readComingOf 75 = .ok (.getfield 121, 3) := by decide +kernel
theorem dX12_readComingOf_78 : decode cX12_readComingOf 78 = .ok (.iconst 1, 1) := by decide +kernel
theorem dX12_readComingOf_79 : decode cX12_readComingOf 79 = .ok (.iadd, 1) := by decide +kernel
theorem dX12_readComingOf_80 : decode cX12_readComingOf 80 = .ok (.putfield 121, 3) := by decide +kernel
theorem dX12_readComingOf_83 : decode cX12_readComingOf 83 = .ok (.iconst 1, 1) := by decide +kernel
theorem dX12_readComingOf_84 : decode cX12_readComingOf 84 = .ok (.ireturn, 1) := by decide +kernel
theorem dX12_readTurn_0 : decode cX12_readTurn 0 = .ok (.aload_n 0, 1) := by decide +kernel
theorem dX12_readTurn_1 : decode cX12_readTurn 1 = .ok (.getfield 59, 3) := by decide +kernel
theorem dX12_readTurn_4 : decode cX12_readTurn 4 = .ok (.iconst 0, 1) := by decide +kernel
theorem dX12_readTurn_5 : decode cX12_readTurn 5 = .ok (.iaload, 1) := by decide +kernel
theorem dX12_readTurn_6 : decode cX12_readTurn 6 = .ok (.bipush 8, 2) := by decide +kernel
theorem dX12_readTurn_8 : decode cX12_readTurn 8 = .ok (.if_icmp .eq 48, 3) := by decide +kernel
theorem dX12_readTurn_11 : decode cX12_readTurn 11 = .ok (.aload_n 0, 1) := by decide +kernel
theorem dX12_readTurn_12 : decode cX12_readTurn 12 = .ok (.iconst 3, 1) := by decide +kernel
theorem dX12_readTurn_13 : decode cX12_readTurn 13 = .ok (.invokevirtual 108, 3) := by decide +kernel
theorem dX12_readTurn_16 : decode cX12_readTurn 16 = .ok (.ifCond .eq 40, 3) := by decide +kernel
theorem dX12_readTurn_19 : decode cX12_readTurn 19 = .ok (.aload_n 0, 1) := by decide +kernel
theorem dX12_readTurn_20 : decode cX12_readTurn 20 = .ok (.iconst 0, 1) := by decide +kernel
theorem dX12_readTurn_21 : decode cX12_readTurn 21 = .ok (.iconst 0, 1) := by decide +kernel
theorem dX12_readTurn_22 : decode cX12_readTurn 22 = .ok (.bipush 30, 2) := by decide +kernel
theorem dX12_readTurn_24 : decode cX12_readTurn 24 = .ok (.invokevirtual 111, 3) := by decide +kernel
theorem dX12_readTurn_27 : decode cX12_readTurn 27 = .ok (.ifCond .eq 29, 3) := by decide +kernel
theorem dX12_readTurn_30 : decode cX12_readTurn 30 = .ok (.aload_n 0, 1) := by decide +kernel
theorem dX12_readTurn_31 : decode cX12_readTurn 31 = .ok (.iconst 1, 1) := by decide +kernel
theorem dX12_readTurn_32 : decode cX12_readTurn 32 = .ok (.iconst 0, 1) := by decide +kernel
theorem dX12_readTurn_33 : decode cX12_readTurn 33 = .ok (.aload_n 0, 1) := by decide +kernel
theorem dX12_readTurn_34 : decode cX12_readTurn 34 = .ok (.getfield 105, 3) := by decide +kernel
theorem dX12_readTurn_37 : decode cX12_readTurn 37 = .ok (.iconst 1, 1) := by decide +kernel
theorem dX12_readTurn_38 : decode cX12_readTurn 38 = .ok (.isub, 1) := by decide +kernel
theorem dX12_readTurn_39 : decode cX12_readTurn 39 = .ok (.invokevirtual 111, 3) := by decide +kernel
theorem dX12_readTurn_42 : decode cX12_readTurn 42 = .ok (.ifCond .eq 14, 3) := by decide +kernel
theorem dX12_readTurn_45 : decode cX12_readTurn 45 = .ok (.aload_n 0, 1) := by decide +kernel
theorem dX12_readTurn_46 : decode cX12_readTurn 46 = .ok (.iconst 2, 1) := by decide +kernel
theorem dX12_readTurn_47 : decode cX12_readTurn 47 = .ok (.iconst 0, 1) := by decide +kernel
theorem dX12_readTurn_48 : decode cX12_readTurn 48 = .ok (.bipush 40, 2) := by decide +kernel
theorem dX12_readTurn_50 : decode cX12_readTurn 50 = .ok (.invokevirtual 111, 3) := by decide +kernel
theorem dX12_readTurn_53 : decode cX12_readTurn 53 = .ok (.ifCond .ne 5, 3) := by decide +kernel
theorem dX12_readTurn_56 : decode cX12_readTurn 56 = .ok (.iconst 0, 1) := by decide +kernel
theorem dX12_readTurn_57 : decode cX12_readTurn 57 = .ok (.ireturn, 1) := by decide +kernel
theorem dX12_readTurn_58 : decode cX12_readTurn 58 = .ok (.aload_n 0, 1) := by decide +kernel
theorem dX12_readTurn_59 : decode cX12_readTurn 59 = .ok (.getfield 59, 3) := by decide +kernel
theorem dX12_readTurn_62 : decode cX12_readTurn 62 = .ok (.iconst 1, 1) := by decide +kernel
theorem dX12_readTurn_63 : decode cX12_readTurn 63 = .ok (.iconst 3, 1) := by decide +kernel
theorem dX12_readTurn_64 : decode cX12_readTurn 64 = .ok (.aload_n 0, 1) := by decide +kernel
theorem dX12_readTurn_65 : decode cX12_readTurn 65 = .ok (.getfield 59, 3) := by decide +kernel
theorem dX12_readTurn_68 : decode cX12_readTurn 68 = .ok (.iconst 0, 1) := by decide +kernel
theorem dX12_readTurn_69 : decode cX12_readTurn 69 = .ok (.iaload, 1) := by decide +kernel
theorem dX12_readTurn_70 : decode cX12_readTurn 70 = .ok (.imul, 1) := by decide +kernel
theorem dX12_readTurn_71 : decode cX12_readTurn 71 = .ok (.iadd, 1) := by decide +kernel
theorem dX12_readTurn_72 : decode cX12_readTurn 72 = .ok (.aload_n 0, 1) := by decide +kernel
theorem dX12_readTurn_73 : decode cX12_readTurn 73 = .ok (.getfield 47, 3) := by decide +kernel
theorem dX12_readTurn_76 : decode cX12_readTurn 76 = .ok (.iconst 0, 1) := by decide +kernel
theorem dX12_readTurn_77 : decode cX12_readTurn 77 = .ok (.iaload, 1) := by decide +kernel
theorem dX12_readTurn_78 : decode cX12_readTurn 78 = .ok (.aload_n 0, 1) := by decide +kernel
theorem dX12_readTurn_79 : decode cX12_readTurn 79 = .ok (.getfield 47, 3) := by decide +kernel
theorem dX12_readTurn_82 : decode cX12_readTurn 82 = .ok (.iconst 1, 1) := by decide +kernel
theorem dX12_readTurn_83 : decode cX12_readTurn 83 = .ok (.iaload, 1) := by decide +kernel
theorem dX12_readTurn_84 : decode cX12_readTurn 84 = .ok (.aload_n 0, 1) := by decide +kernel
theorem dX12_readTurn_85 : decode cX12_readTurn 85 = .ok (.getfield 47, 3) := by decide +kernel
theorem dX12_readTurn_88 : decode cX12_readTurn 88 = .ok (.iconst 2, 1) := by decide +kernel
theorem dX12_readTurn_89 : decode cX12_readTurn 89 = .ok (.iaload, 1) := by decide +kernel
theorem dX12_readTurn_90 : decode cX12_readTurn 90 = .ok (.bipush 20, 2) := by decide +kernel
theorem dX12_readTurn_92 : decode cX12_readTurn 92 = .ok (.isub, 1) := by decide +kernel
theorem dX12_readTurn_93 : decode cX12_readTurn 93 = .ok (.invokestatic 80, 3) := by decide +kernel
theorem dX12_readTurn_96 : decode cX12_readTurn 96 = .ok (.aload_n 0, 1) := by decide +kernel
theorem dX12_readTurn_97 : decode cX12_readTurn 97 = .ok (.getfield 59, 3) := by decide +kernel
theorem dX12_readTurn_100 : decode cX12_readTurn 100 = .ok (.iconst 0, 1) := by decide +kernel
theorem dX12_readTurn_101 : decode cX12_readTurn 101 = .ok (.dup2, 1) := by decide +kernel
theorem dX12_readTurn_102 : decode cX12_readTurn 102 = .ok (.iaload, 1) := by decide +kernel
theorem dX12_readTurn_103 : decode cX12_readTurn 103 = .ok (.iconst 1, 1) := by decide +kernel
theorem dX12_readTurn_104 : decode cX12_readTurn 104 = .ok (.iadd, 1) := by decide +kernel
theorem dX12_readTurn_105 : decode cX12_readTurn 105 = .ok (.iastore, 1) := by decide +kernel
theorem dX12_readTurn_106 : decode cX12_readTurn 106 = .ok (.iconst 1, 1) := by decide +kernel
theorem dX12_readTurn_107 : decode cX12_readTurn 107 = .ok (.ireturn, 1) := by decide +kernel
theorem dX12_readItem_0 : decode cX12_readItem 0 = .ok (.aload_n 0, 1) := by decide +kernel
theorem dX12_readItem_1 : decode cX12_readItem 1 = .ok (.aload_n 0, 1) := by decide +kernel
theorem dX12_readItem_2 : decode cX12_readItem 2 = .ok (.getfield 94, 3) := by decide +kernel
theorem dX12_readItem_5 : decode cX12_readItem 5 = .ok (.invokevirtual 97, 3) := by decide +kernel
theorem dX12_readItem_8 : decode cX12_readItem 8 = .ok (.istore_n 1, 1) := by decide +kernel
theorem dX12_readItem_9 : decode cX12_readItem 9 = .ok (.aload_n 0, 1) := by decide +kernel
theorem dX12_readItem_10 : decode cX12_readItem 10 = .ok (.dup, 1) := by decide +kernel
theorem dX12_readItem_11 : decode cX12_readItem 11 = .ok (.getfield 94, 3) := by decide +kernel
theorem dX12_readItem_14 : decode cX12_readItem 14 = .ok (.iconst 1, 1) := by decide +kernel
theorem dX12_readItem_15 : decode cX12_readItem 15 = .ok (.iadd, 1) := by decide +kernel
theorem dX12_readItem_16 : decode cX12_readItem 16 = .ok (.putfield 94, 3) := by decide +kernel
theorem dX12_readItem_19 : decode cX12_readItem 19 = .ok (.iload_n 1, 1) := by decide +kernel
theorem dX12_readItem_20 : decode cX12_readItem 20 = .ok (.lookupswitch 90 #[(99, 85), (102, 60), (110, 80), (112, 70), (116, 65), (119, 75)], 60) := by decide +kernel
theorem dX12_readItem_80 : decode cX12_readItem 80 = .ok (.aload_n 0, 1) := by decide +kernel
theorem dX12_readItem_81 : decode cX12_readItem 81 = .ok (.invokevirtual 124, 3) := by decide +kernel
theorem dX12_readItem_84 : decode cX12_readItem 84 = .ok (.ireturn, 1) := by decide +kernel
theorem dX12_readItem_85 : decode cX12_readItem 85 = .ok (.aload_n 0, 1) := by decide +kernel
theorem dX12_readItem_86 : decode cX12_readItem 86 = .ok (.invokevirtual 128, 3) := by decide +kernel
theorem dX12_readItem_89 : decode cX12_readItem 89 = .ok (.ireturn, 1) := by decide +kernel
theorem dX12_readItem_90 : decode cX12_readItem 90 = .ok (.aload_n 0, 1) := by decide +kernel
theorem dX12_readItem_91 : decode cX12_readItem 91 = .ok (.invokevirtual 131, 3) := by decide +kernel
theorem dX12_readItem_94 : decode cX12_readItem 94 = .ok (.ireturn, 1) := by decide +kernel
theorem dX12_readItem_95 : decode cX12_readItem 95 = .ok (.aload_n 0, 1) := by decide +kernel
theorem dX12_readItem_96 : decode cX12_readItem 96 = .ok (.invokevirtual 134, 3) := by decide +kernel
theorem dX12_readItem_99 : decode cX12_readItem 99 = .ok (.ireturn, 1) := by decide +kernel
theorem dX12_readItem_100 : decode cX12_readItem 100 = .ok (.aload_n 0, 1) := by decide +kernel
theorem dX12_readItem_101 : decode cX12_readItem 101 = .ok (.invokevirtual 137, 3) := by decide +kernel
theorem dX12_readItem_104 : decode cX12_readItem 104 = .ok (.ireturn, 1) := by decide +kernel
theorem dX12_readItem_105 : decode cX12_readItem 105 = .ok (.aload_n 0, 1) := by decide +kernel
theorem dX12_readItem_106 : decode cX12_readItem 106 = .ok (.invokevirtual 140, 3) := by decide +kernel
theorem dX12_readItem_109 : decode cX12_readItem 109 = .ok (.ireturn, 1) := by decide +kernel
theorem dX12_readItem_110 : decode cX12_readItem 110 = .ok (.iconst 0, 1) := by decide +kernel
theorem dX12_readItem_111 : decode cX12_readItem 111 = .ok (.ireturn, 1) := by decide +kernel
theorem dX12_fault_0 : decode cX12_fault 0 = .ok (.aload_n 0, 1) := by decide +kernel
theorem dX12_fault_1 : decode cX12_fault 1 = .ok (.iconst 0, 1) := by decide +kernel
theorem dX12_fault_2 : decode cX12_fault 2 = .ok (.putfield 94, 3) := by decide +kernel
theorem dX12_fault_5 : decode cX12_fault 5 = .ok (.aload_n 0, 1) := by decide +kernel
theorem dX12_fault_6 : decode cX12_fault 6 = .ok (.iconst 0, 1) := by decide +kernel
theorem dX12_fault_7 : decode cX12_fault 7 = .ok (.putfield 105, 3) := by decide +kernel
theorem dX12_fault_10 : decode cX12_fault 10 = .ok (.aload_n 0, 1) := by decide +kernel
theorem dX12_fault_11 : decode cX12_fault 11 = .ok (.iconst 0, 1) := by decide +kernel
theorem dX12_fault_12 : decode cX12_fault 12 = .ok (.putfield 114, 3) := by decide +kernel
theorem dX12_fault_15 : decode cX12_fault 15 = .ok (.aload_n 0, 1) := by decide +kernel
theorem dX12_fault_16 : decode cX12_fault 16 = .ok (.iconst 0, 1) := by decide +kernel
theorem dX12_fault_17 : decode cX12_fault 17 = .ok (.putfield 121, 3) := by decide +kernel
theorem dX12_fault_20 : decode cX12_fault 20 = .ok (.iconst 0, 1) := by decide +kernel
theorem dX12_fault_21 : decode cX12_fault 21 = .ok (.istore_n 1, 1) := by decide +kernel
theorem dX12_fault_22 : decode cX12_fault 22 = .ok (.iload_n 1, 1) := by decide +kernel
theorem dX12_fault_23 : decode cX12_fault 23 = .ok (.bipush 25, 2) := by decide +kernel
theorem dX12_fault_25 : decode cX12_fault 25 = .ok (.if_icmp .ge 16, 3) := by decide +kernel
theorem dX12_fault_28 : decode cX12_fault 28 = .ok (.aload_n 0, 1) := by decide +kernel
theorem dX12_fault_29 : decode cX12_fault 29 = .ok (.getfield 59, 3) := by decide +kernel
theorem dX12_fault_32 : decode cX12_fault 32 = .ok (.iload_n 1, 1) := by decide +kernel
theorem dX12_fault_33 : decode cX12_fault 33 = .ok (.iconst 0, 1) := by decide +kernel
theorem dX12_fault_34 : decode cX12_fault 34 = .ok (.iastore, 1) := by decide +kernel
theorem dX12_fault_35 : decode cX12_fault 35 = .ok (.iinc 1 1, 3) := by decide +kernel
theorem dX12_fault_38 : decode cX12_fault 38 = .ok (.goto (-16), 3) := by decide +kernel
theorem dX12_fault_41 : decode cX12_fault 41 = .ok (.aload_n 0, 1) := by decide +kernel
theorem dX12_fault_42 : decode cX12_fault 42 = .ok (.getfield 94, 3) := by decide +kernel
theorem dX12_fault_45 : decode cX12_fault 45 = .ok (.aload_n 0, 1) := by decide +kernel
theorem dX12_fault_46 : decode cX12_fault 46 = .ok (.getfield 91, 3) := by decide +kernel
theorem dX12_fault_49 : decode cX12_fault 49 = .ok (.if_icmp .ge 20, 3) := by decide +kernel
theorem dX12_fault_52 : decode cX12_fault 52 = .ok (.aload_n 0, 1) := by decide +kernel
theorem dX12_fault_53 : decode cX12_fault 53 = .ok (.getfield 94, 3) := by decide +kernel
theorem dX12_fault_56 : decode cX12_fault 56 = .ok (.istore_n 1, 1) := by decide +kernel
theorem dX12_fault_57 : decode cX12_fault 57 = .ok (.aload_n 0, 1) := by decide +kernel
theorem dX12_fault_58 : decode cX12_fault 58 = .ok (.invokevirtual 143, 3) := by decide +kernel
theorem dX12_fault_61 : decode cX12_fault 61 = .ok (.ifCond .ne 5, 3) := by decide +kernel
theorem dX12_fault_64 : decode cX12_fault 64 = .ok (.iload_n 1, 1) := by decide +kernel
theorem dX12_fault_65 : decode cX12_fault 65 = .ok (.ireturn, 1) := by decide +kernel
theorem dX12_fault_66 : decode cX12_fault 66 = .ok (.goto (-25), 3) := by decide +kernel
theorem dX12_fault_69 : decode cX12_fault 69 = .ok (.bipush (-4), 2) := by decide +kernel
theorem dX12_fault_71 : decode cX12_fault 71 = .ok (.ireturn, 1) := by decide +kernel
theorem dX12_lay_0 : decode cX12_lay 0 = .ok (.aload_n 0, 1) := by decide +kernel
theorem dX12_lay_1 : decode cX12_lay 1 = .ok (.invokevirtual 146, 3) := by decide +kernel
theorem dX12_lay_4 : decode cX12_lay 4 = .ok (.bipush (-4), 2) := by decide +kernel
theorem dX12_lay_6 : decode cX12_lay 6 = .ok (.if_icmp .ne 10, 3) := by decide +kernel
theorem dX12_lay_9 : decode cX12_lay 9 = .ok (.aload_n 0, 1) := by decide +kernel
theorem dX12_lay_10 : decode cX12_lay 10 = .ok (.getfield 105, 3) := by decide +kernel
theorem dX12_lay_13 : decode cX12_lay 13 = .ok (.ifCond .ne 6, 3) := by decide +kernel
theorem dX12_lay_16 : decode cX12_lay 16 = .ok (.bipush (-2), 2) := by decide +kernel
theorem dX12_lay_18 : decode cX12_lay 18 = .ok (.ireturn, 1) := by decide +kernel
theorem dX12_lay_19 : decode cX12_lay 19 = .ok (.aload_n 0, 1) := by decide +kernel
theorem dX12_lay_20 : decode cX12_lay 20 = .ok (.aload_n 0, 1) := by decide +kernel
theorem dX12_lay_21 : decode cX12_lay 21 = .ok (.getfield 105, 3) := by decide +kernel
theorem dX12_lay_24 : decode cX12_lay 24 = .ok (.putfield 7, 3) := by decide +kernel
theorem dX12_lay_27 : decode cX12_lay 27 = .ok (.aload_n 0, 1) := by decide +kernel
theorem dX12_lay_28 : decode cX12_lay 28 = .ok (.aload_n 0, 1) := by decide +kernel
theorem dX12_lay_29 : decode cX12_lay 29 = .ok (.getfield 114, 3) := by decide +kernel
theorem dX12_lay_32 : decode cX12_lay 32 = .ok (.putfield 17, 3) := by decide +kernel
theorem dX12_lay_35 : decode cX12_lay 35 = .ok (.aload_n 0, 1) := by decide +kernel
theorem dX12_lay_36 : decode cX12_lay 36 = .ok (.aload_n 0, 1) := by decide +kernel
theorem dX12_lay_37 : decode cX12_lay 37 = .ok (.getfield 121, 3) := by decide +kernel
theorem dX12_lay_40 : decode cX12_lay 40 = .ok (.putfield 23, 3) := by decide +kernel
theorem dX12_lay_43 : decode cX12_lay 43 = .ok (.aload_n 0, 1) := by decide +kernel
theorem dX12_lay_44 : decode cX12_lay 44 = .ok (.getfield 13, 3) := by decide +kernel
theorem dX12_lay_47 : decode cX12_lay 47 = .ok (.iconst 0, 1) := by decide +kernel
theorem dX12_lay_48 : decode cX12_lay 48 = .ok (.aload_n 0, 1) := by decide +kernel
theorem dX12_lay_49 : decode cX12_lay 49 = .ok (.getfield 50, 3) := by decide +kernel
theorem dX12_lay_52 : decode cX12_lay 52 = .ok (.bipush 28, 2) := by decide +kernel
theorem dX12_lay_54 : decode cX12_lay 54 = .ok (.invokestatic 117, 3) := by decide +kernel
theorem dX12_lay_57 : decode cX12_lay 57 = .ok (.aload_n 0, 1) := by decide +kernel
theorem dX12_lay_58 : decode cX12_lay 58 = .ok (.getfield 20, 3) := by decide +kernel
theorem dX12_lay_61 : decode cX12_lay 61 = .ok (.iconst 0, 1) := by decide +kernel
theorem dX12_lay_62 : decode cX12_lay 62 = .ok (.aload_n 0, 1) := by decide +kernel
theorem dX12_lay_63 : decode cX12_lay 63 = .ok (.getfield 53, 3) := by decide +kernel
theorem dX12_lay_66 : decode cX12_lay 66 = .ok (.bipush 10, 2) := by decide +kernel
theorem dX12_lay_68 : decode cX12_lay 68 = .ok (.invokestatic 117, 3) := by decide +kernel
theorem dX12_lay_71 : decode cX12_lay 71 = .ok (.aload_n 0, 1) := by decide +kernel
theorem dX12_lay_72 : decode cX12_lay 72 = .ok (.getfield 26, 3) := by decide +kernel
theorem dX12_lay_75 : decode cX12_lay 75 = .ok (.iconst 0, 1) := by decide +kernel
theorem dX12_lay_76 : decode cX12_lay 76 = .ok (.aload_n 0, 1) := by decide +kernel
theorem dX12_lay_77 : decode cX12_lay 77 = .ok (.getfield 56, 3) := by decide +kernel
theorem dX12_lay_80 : decode cX12_lay 80 = .ok (.bipush 30, 2) := by decide +kernel
theorem dX12_lay_82 : decode cX12_lay 82 = .ok (.invokestatic 117, 3) := by decide +kernel
theorem dX12_lay_85 : decode cX12_lay 85 = .ok (.aload_n 0, 1) := by decide +kernel
theorem dX12_lay_86 : decode cX12_lay 86 = .ok (.getfield 32, 3) := by decide +kernel
theorem dX12_lay_89 : decode cX12_lay 89 = .ok (.iconst 0, 1) := by decide +kernel
theorem dX12_lay_90 : decode cX12_lay 90 = .ok (.aload_n 0, 1) := by decide +kernel
theorem dX12_lay_91 : decode cX12_lay 91 = .ok (.getfield 59, 3) := by decide +kernel
theorem dX12_lay_94 : decode cX12_lay 94 = .ok (.bipush 25, 2) := by decide +kernel
theorem dX12_lay_96 : decode cX12_lay 96 = .ok (.invokestatic 117, 3) := by decide +kernel
theorem dX12_lay_99 : decode cX12_lay 99 = .ok (.aload_n 0, 1) := by decide +kernel
theorem dX12_lay_100 : decode cX12_lay 100 = .ok (.invokevirtual 84, 3) := by decide +kernel
theorem dX12_lay_103 : decode cX12_lay 103 = .ok (.aload_n 0, 1) := by decide +kernel
theorem dX12_lay_104 : decode cX12_lay 104 = .ok (.iconst 0, 1) := by decide +kernel
theorem dX12_lay_105 : decode cX12_lay 105 = .ok (.putfield 150, 3) := by decide +kernel
theorem dX12_lay_108 : decode cX12_lay 108 = .ok (.aload_n 0, 1) := by decide +kernel
theorem dX12_lay_109 : decode cX12_lay 109 = .ok (.iconst 0, 1) := by decide +kernel
theorem dX12_lay_110 : decode cX12_lay 110 = .ok (.putfield 153, 3) := by decide +kernel
theorem dX12_lay_113 : decode cX12_lay 113 = .ok (.aload_n 0, 1) := by decide +kernel
theorem dX12_lay_114 : decode cX12_lay 114 = .ok (.iconst 0, 1) := by decide +kernel
theorem dX12_lay_115 : decode cX12_lay 115 = .ok (.putfield 156, 3) := by decide +kernel
theorem dX12_lay_118 : decode cX12_lay 118 = .ok (.aload_n 0, 1) := by decide +kernel
theorem dX12_lay_119 : decode cX12_lay 119 = .ok (.getfield 7, 3) := by decide +kernel
theorem dX12_lay_122 : decode cX12_lay 122 = .ok (.ireturn, 1) := by decide +kernel
theorem dX12_frame_0 : decode cX12_frame 0 = .ok (.aload_n 0, 1) := by decide +kernel
theorem dX12_frame_1 : decode cX12_frame 1 = .ok (.iload_n 1, 1) := by decide +kernel
theorem dX12_frame_2 : decode cX12_frame 2 = .ok (.invokevirtual 159, 3) := by decide +kernel
theorem dX12_frame_5 : decode cX12_frame 5 = .ok (.ifCond .eq 12, 3) := by decide +kernel
theorem dX12_frame_8 : decode cX12_frame 8 = .ok (.iload_n 2, 1) := by decide +kernel
theorem dX12_frame_9 : decode cX12_frame 9 = .ok (.iconst 0, 1) := by decide +kernel
theorem dX12_frame_10 : decode cX12_frame 10 = .ok (.iconst 3, 1) := by decide +kernel
theorem dX12_frame_11 : decode cX12_frame 11 = .ok (.invokestatic 87, 3) := by decide +kernel
theorem dX12_frame_14 : decode cX12_frame 14 = .ok (.ifCond .ne 5, 3) := by decide +kernel
theorem dX12_frame_17 : decode cX12_frame 17 = .ok (.iconst (-1), 1) := by decide +kernel
theorem dX12_frame_18 : decode cX12_frame 18 = .ok (.ireturn, 1) := by decide +kernel
theorem dX12_frame_19 : decode cX12_frame 19 = .ok (.aload_n 0, 1) := by decide +kernel
theorem dX12_frame_20 : decode cX12_frame 20 = .ok (.getfield 13, 3) := by decide +kernel
theorem dX12_frame_23 : decode cX12_frame 23 = .ok (.iconst 4, 1) := by decide +kernel
theorem dX12_frame_24 : decode cX12_frame 24 = .ok (.iload_n 1, 1) := by decide +kernel
theorem dX12_frame_25 : decode cX12_frame 25 = .ok (.imul, 1) := by decide +kernel
theorem dX12_frame_26 : decode cX12_frame 26 = .ok (.iload_n 2, 1) := by decide +kernel
theorem dX12_frame_27 : decode cX12_frame 27 = .ok (.iadd, 1) := by decide +kernel
theorem dX12_frame_28 : decode cX12_frame 28 = .ok (.iaload, 1) := by decide +kernel
theorem dX12_frame_29 : decode cX12_frame 29 = .ok (.istore_n 3, 1) := by decide +kernel
theorem dX12_frame_30 : decode cX12_frame 30 = .ok (.iload_n 2, 1) := by decide +kernel
theorem dX12_frame_31 : decode cX12_frame 31 = .ok (.ifCond .ne 7, 3) := by decide +kernel
theorem dX12_frame_34 : decode cX12_frame 34 = .ok (.iload_n 3, 1) := by decide +kernel
theorem dX12_frame_35 : decode cX12_frame 35 = .ok (.goto 18, 3) := by decide +kernel
theorem dX12_frame_38 : decode cX12_frame 38 = .ok (.iload_n 2, 1) := by decide +kernel
theorem dX12_frame_39 : decode cX12_frame 39 = .ok (.iconst 2, 1) := by decide +kernel
theorem dX12_frame_40 : decode cX12_frame 40 = .ok (.if_icmp .ne 9, 3) := by decide +kernel
theorem dX12_frame_43 : decode cX12_frame 43 = .ok (.iload_n 3, 1) := by decide +kernel
theorem dX12_frame_44 : decode cX12_frame 44 = .ok (.iconst 5, 1) := by decide +kernel
theorem dX12_frame_45 : decode cX12_frame 45 = .ok (.iadd, 1) := by decide +kernel
theorem dX12_frame_46 : decode cX12_frame 46 = .ok (.goto 7, 3) := by decide +kernel
theorem dX12_frame_49 : decode cX12_frame 49 = .ok (.iload_n 3, 1) := by decide +kernel
theorem dX12_frame_50 : decode cX12_frame 50 = .ok (.bipush 40, 2) := by decide +kernel
theorem dX12_frame_52 : decode cX12_frame 52 = .ok (.iadd, 1) := by decide +kernel
theorem dX12_frame_53 : decode cX12_frame 53 = .ok (.ireturn, 1) := by decide +kernel
theorem dX12_person_0 : decode cX12_person 0 = .ok (.aload_n 0, 1) := by decide +kernel
theorem dX12_person_1 : decode cX12_person 1 = .ok (.iload_n 1, 1) := by decide +kernel
theorem dX12_person_2 : decode cX12_person 2 = .ok (.invokevirtual 162, 3) := by decide +kernel
theorem dX12_person_5 : decode cX12_person 5 = .ok (.ifCond .eq 25, 3) := by decide +kernel
theorem dX12_person_8 : decode cX12_person 8 = .ok (.iload_n 2, 1) := by decide +kernel
theorem dX12_person_9 : decode cX12_person 9 = .ok (.iconst 0, 1) := by decide +kernel
theorem dX12_person_10 : decode cX12_person 10 = .ok (.iconst 1, 1) := by decide +kernel
theorem dX12_person_11 : decode cX12_person 11 = .ok (.invokestatic 87, 3) := by decide +kernel
theorem dX12_person_14 : decode cX12_person 14 = .ok (.ifCond .eq 16, 3) := by decide +kernel
theorem dX12_person_17 : decode cX12_person 17 = .ok (.aload_n 0, 1) := by decide +kernel
theorem dX12_person_18 : decode cX12_person 18 = .ok (.getfield 20, 3) := by decide +kernel
theorem dX12_person_21 : decode cX12_person 21 = .ok (.iconst 2, 1) := by decide +kernel
theorem dX12_person_22 : decode cX12_person 22 = .ok (.iload_n 1, 1) := by decide +kernel
theorem dX12_person_23 : decode cX12_person 23 = .ok (.imul, 1) := by decide +kernel
theorem dX12_person_24 : decode cX12_person 24 = .ok (.iload_n 2, 1) := by decide +kernel
theorem dX12_person_25 : decode cX12_person 25 = .ok (.iadd, 1) := by decide +kernel
theorem dX12_person_26 : decode cX12_person 26 = .ok (.iaload, 1) := by decide +kernel
theorem dX12_person_27 : decode cX12_person 27 = .ok (.goto 4, 3) := by decide +kernel
theorem dX12_person_30 : decode cX12_person 30 = .ok (.iconst (-1), 1) := by decide +kernel
theorem dX12_person_31 : decode cX12_person 31 = .ok (.ireturn, 1) := by decide +kernel
theorem dX12_madeOf_0 : decode cX12_madeOf 0 = .ok (.iload_n 2, 1) := by decide +kernel
theorem dX12_madeOf_1 : decode cX12_madeOf 1 = .ok (.invokestatic 165, 3) := by decide +kernel
theorem dX12_madeOf_4 : decode cX12_madeOf 4 = .ok (.iload_n 0, 1) := by decide +kernel
theorem dX12_madeOf_5 : decode cX12_madeOf 5 = .ok (.iconst 3, 1) := by decide +kernel
theorem dX12_madeOf_6 : decode cX12_madeOf 6 = .ok (.if_icmp .ne 9, 3) := by decide +kernel
theorem dX12_madeOf_9 : decode cX12_madeOf 9 = .ok (.iconst 2, 1) := by decide +kernel
theorem dX12_madeOf_10 : decode cX12_madeOf 10 = .ok (.iload_n 1, 1) := by decide +kernel
theorem dX12_madeOf_11 : decode cX12_madeOf 11 = .ok (.imul, 1) := by decide +kernel
theorem dX12_madeOf_12 : decode cX12_madeOf 12 = .ok (.goto 4, 3) := by decide +kernel
theorem dX12_madeOf_15 : decode cX12_madeOf 15 = .ok (.iload_n 1, 1) := by decide +kernel
theorem dX12_madeOf_16 : decode cX12_madeOf 16 = .ok (.if_icmp .gt 5, 3) := by decide +kernel
theorem dX12_madeOf_19 : decode cX12_madeOf 19 = .ok (.iload_n 2, 1) := by decide +kernel
theorem dX12_madeOf_20 : decode cX12_madeOf 20 = .ok (.ireturn, 1) := by decide +kernel
theorem dX12_madeOf_21 : decode cX12_madeOf 21 = .ok (.iload_n 0, 1) := by decide +kernel
theorem dX12_madeOf_22 : decode cX12_madeOf 22 = .ok (.tableswitch 37 0 2 #[26, 28, 32], 26) := by decide +kernel
theorem dX12_madeOf_48 : decode cX12_madeOf 48 = .ok (.iconst 0, 1) := by decide +kernel
theorem dX12_madeOf_49 : decode cX12_madeOf 49 = .ok (.ireturn, 1) := by decide +kernel
theorem dX12_madeOf_50 : decode cX12_madeOf 50 = .ok (.iload_n 2, 1) := by decide +kernel
theorem dX12_madeOf_51 : decode cX12_madeOf 51 = .ok (.iconst 2, 1) := by decide +kernel
theorem dX12_madeOf_52 : decode cX12_madeOf 52 = .ok (.idiv, 1) := by decide +kernel
theorem dX12_madeOf_53 : decode cX12_madeOf 53 = .ok (.ireturn, 1) := by decide +kernel
theorem dX12_madeOf_54 : decode cX12_madeOf 54 = .ok (.iload_n 2, 1) := by decide +kernel
theorem dX12_madeOf_55 : decode cX12_madeOf 55 = .ok (.iconst 2, 1) := by decide +kernel
theorem dX12_madeOf_56 : decode cX12_madeOf 56 = .ok (.idiv, 1) := by decide +kernel
theorem dX12_madeOf_57 : decode cX12_madeOf 57 = .ok (.ineg, 1) := by decide +kernel
theorem dX12_madeOf_58 : decode cX12_madeOf 58 = .ok (.ireturn, 1) := by decide +kernel
theorem dX12_madeOf_59 : decode cX12_madeOf 59 = .ok (.iload_n 2, 1) := by decide +kernel
theorem dX12_madeOf_60 : decode cX12_madeOf 60 = .ok (.ifCond .ge 8, 3) := by decide +kernel
theorem dX12_madeOf_63 : decode cX12_madeOf 63 = .ok (.iload_n 1, 1) := by decide +kernel
theorem dX12_madeOf_64 : decode cX12_madeOf 64 = .ok (.ineg, 1) := by decide +kernel
theorem dX12_madeOf_65 : decode cX12_madeOf 65 = .ok (.goto 4, 3) := by decide +kernel
theorem dX12_madeOf_68 : decode cX12_madeOf 68 = .ok (.iload_n 1, 1) := by decide +kernel
theorem dX12_madeOf_69 : decode cX12_madeOf 69 = .ok (.ireturn, 1) := by decide +kernel
theorem dX12_madeBy_0 : decode cX12_madeBy 0 = .ok (.aload_n 0, 1) := by decide +kernel
theorem dX12_madeBy_1 : decode cX12_madeBy 1 = .ok (.getfield 20, 3) := by decide +kernel
theorem dX12_madeBy_4 : decode cX12_madeBy 4 = .ok (.iconst 2, 1) := by decide +kernel
theorem dX12_madeBy_5 : decode cX12_madeBy 5 = .ok (.iload_n 1, 1) := by decide +kernel
theorem dX12_madeBy_6 : decode cX12_madeBy 6 = .ok (.imul, 1) := by decide +kernel
theorem dX12_madeBy_7 : decode cX12_madeBy 7 = .ok (.iaload, 1) := by decide +kernel
theorem dX12_madeBy_8 : decode cX12_madeBy 8 = .ok (.aload_n 0, 1) := by decide +kernel
theorem dX12_madeBy_9 : decode cX12_madeBy 9 = .ok (.getfield 20, 3) := by decide +kernel
theorem dX12_madeBy_12 : decode cX12_madeBy 12 = .ok (.iconst 2, 1) := by decide +kernel
theorem dX12_madeBy_13 : decode cX12_madeBy 13 = .ok (.iload_n 1, 1) := by decide +kernel
theorem dX12_madeBy_14 : decode cX12_madeBy 14 = .ok (.imul, 1) := by decide +kernel
theorem dX12_madeBy_15 : decode cX12_madeBy 15 = .ok (.iconst 1, 1) := by decide +kernel
theorem dX12_madeBy_16 : decode cX12_madeBy 16 = .ok (.iadd, 1) := by decide +kernel
theorem dX12_madeBy_17 : decode cX12_madeBy 17 = .ok (.iaload, 1) := by decide +kernel
theorem dX12_madeBy_18 : decode cX12_madeBy 18 = .ok (.iload_n 2, 1) := by decide +kernel
theorem dX12_madeBy_19 : decode cX12_madeBy 19 = .ok (.invokestatic 168, 3) := by decide +kernel
theorem dX12_madeBy_22 : decode cX12_madeBy 22 = .ok (.ireturn, 1) := by decide +kernel
theorem dX12_begins_0 : decode cX12_begins 0 = .ok (.iconst 0, 1) := by decide +kernel
theorem dX12_begins_1 : decode cX12_begins 1 = .ok (.istore_n 1, 1) := by decide +kernel
theorem dX12_begins_2 : decode cX12_begins 2 = .ok (.iload_n 1, 1) := by decide +kernel
theorem dX12_begins_3 : decode cX12_begins 3 = .ok (.bipush 7, 2) := by decide +kernel
theorem dX12_begins_5 : decode cX12_begins 5 = .ok (.if_icmp .ge 25, 3) := by decide +kernel
theorem dX12_begins_8 : decode cX12_begins 8 = .ok (.aload_n 0, 1) := by decide +kernel
theorem dX12_begins_9 : decode cX12_begins 9 = .ok (.getfield 62, 3) := by decide +kernel
theorem dX12_begins_12 : decode cX12_begins 12 = .ok (.iload_n 1, 1) := by decide +kernel
theorem dX12_begins_13 : decode cX12_begins 13 = .ok (.aload_n 0, 1) := by decide +kernel
theorem dX12_begins_14 : decode cX12_begins 14 = .ok (.getfield 13, 3) := by decide +kernel
theorem dX12_begins_17 : decode cX12_begins 17 = .ok (.iconst 4, 1) := by decide +kernel
theorem dX12_begins_18 : decode cX12_begins 18 = .ok (.iload_n 1, 1) := by decide +kernel
theorem dX12_begins_19 : decode cX12_begins 19 = .ok (.imul, 1) := by decide +kernel
theorem dX12_begins_20 : decode cX12_begins 20 = .ok (.iconst 1, 1) := by decide +kernel
theorem dX12_begins_21 : decode cX12_begins 21 = .ok (.iadd, 1) := by decide +kernel
theorem dX12_begins_22 : decode cX12_begins 22 = .ok (.iaload, 1) := by decide +kernel
theorem dX12_begins_23 : decode cX12_begins 23 = .ok (.iastore, 1) := by decide +kernel
theorem dX12_begins_24 : decode cX12_begins 24 = .ok (.iinc 1 1, 3) := by decide +kernel
theorem dX12_begins_27 : decode cX12_begins 27 = .ok (.goto (-25), 3) := by decide +kernel
theorem dX12_begins_30 : decode cX12_begins 30 = .ok (.return_, 1) := by decide +kernel
theorem dX12_twists_0 : decode cX12_twists 0 = .ok (.iconst 0, 1) := by decide +kernel
theorem dX12_twists_1 : decode cX12_twists 1 = .ok (.istore_n 1, 1) := by decide +kernel
theorem dX12_twists_2 : decode cX12_twists 2 = .ok (.iload_n 1, 1) := by decide +kernel
theorem dX12_twists_3 : decode cX12_twists 3 = .ok (.aload_n 0, 1) := by decide +kernel
theorem dX12_twists_4 : decode cX12_twists 4 = .ok (.getfield 7, 3) := by decide +kernel
theorem dX12_twists_7 : decode cX12_twists 7 = .ok (.if_icmp .ge 35, 3) := by decide +kernel
theorem dX12_twists_10 : decode cX12_twists 10 = .ok (.aload_n 0, 1) := by decide +kernel
theorem dX12_twists_11 : decode cX12_twists 11 = .ok (.getfield 62, 3) := by decide +kernel
theorem dX12_twists_14 : decode cX12_twists 14 = .ok (.iload_n 1, 1) := by decide +kernel
theorem dX12_twists_15 : decode cX12_twists 15 = .ok (.aload_n 0, 1) := by decide +kernel
theorem dX12_twists_16 : decode cX12_twists 16 = .ok (.getfield 62, 3) := by decide +kernel
theorem dX12_twists_19 : decode cX12_twists 19 = .ok (.iload_n 1, 1) := by decide +kernel
theorem dX12_twists_20 : decode cX12_twists 20 = .ok (.iaload, 1) := by decide +kernel
theorem dX12_twists_21 : decode cX12_twists 21 = .ok (.aload_n 0, 1) := by decide +kernel
theorem dX12_twists_22 : decode cX12_twists 22 = .ok (.getfield 13, 3) := by decide +kernel
theorem dX12_twists_25 : decode cX12_twists 25 = .ok (.iconst 4, 1) := by decide +kernel
theorem dX12_twists_26 : decode cX12_twists 26 = .ok (.iload_n 1, 1) := by decide +kernel
theorem dX12_twists_27 : decode cX12_twists 27 = .ok (.imul, 1) := by decide +kernel
theorem dX12_twists_28 : decode cX12_twists 28 = .ok (.iconst 2, 1) := by decide +kernel
theorem dX12_twists_29 : decode cX12_twists 29 = .ok (.iadd, 1) := by decide +kernel
theorem dX12_twists_30 : decode cX12_twists 30 = .ok (.iaload, 1) := by decide +kernel
theorem dX12_twists_31 : decode cX12_twists 31 = .ok (.iadd, 1) := by decide +kernel
theorem dX12_twists_32 : decode cX12_twists 32 = .ok (.invokestatic 172, 3) := by decide +kernel
theorem dX12_twists_35 : decode cX12_twists 35 = .ok (.iastore, 1) := by decide +kernel
theorem dX12_twists_36 : decode cX12_twists 36 = .ok (.iinc 1 1, 3) := by decide +kernel
theorem dX12_twists_39 : decode cX12_twists 39 = .ok (.goto (-37), 3) := by decide +kernel
theorem dX12_twists_42 : decode cX12_twists 42 = .ok (.return_, 1) := by decide +kernel
theorem dX12_turnsBy_0 : decode cX12_turnsBy 0 = .ok (.aload_n 0, 1) := by decide +kernel
theorem dX12_turnsBy_1 : decode cX12_turnsBy 1 = .ok (.getfield 62, 3) := by decide +kernel
theorem dX12_turnsBy_4 : decode cX12_turnsBy 4 = .ok (.iload_n 1, 1) := by decide +kernel
theorem dX12_turnsBy_5 : decode cX12_turnsBy 5 = .ok (.aload_n 0, 1) := by decide +kernel
theorem dX12_turnsBy_6 : decode cX12_turnsBy 6 = .ok (.getfield 62, 3) := by decide +kernel
theorem dX12_turnsBy_9 : decode cX12_turnsBy 9 = .ok (.iload_n 1, 1) := by decide +kernel
theorem dX12_turnsBy_10 : decode cX12_turnsBy 10 = .ok (.iaload, 1) := by decide +kernel
theorem dX12_turnsBy_11 : decode cX12_turnsBy 11 = .ok (.iload_n 2, 1) := by decide +kernel
theorem dX12_turnsBy_12 : decode cX12_turnsBy 12 = .ok (.iadd, 1) := by decide +kernel
theorem dX12_turnsBy_13 : decode cX12_turnsBy 13 = .ok (.invokestatic 172, 3) := by decide +kernel
theorem dX12_turnsBy_16 : decode cX12_turnsBy 16 = .ok (.iastore, 1) := by decide +kernel
theorem dX12_turnsBy_17 : decode cX12_turnsBy 17 = .ok (.return_, 1) := by decide +kernel
theorem dX12_nightOf_0 : decode cX12_nightOf 0 = .ok (.aload_n 0, 1) := by decide +kernel
theorem dX12_nightOf_1 : decode cX12_nightOf 1 = .ok (.invokevirtual 175, 3) := by decide +kernel
theorem dX12_nightOf_4 : decode cX12_nightOf 4 = .ok (.iconst 0, 1) := by decide +kernel
theorem dX12_nightOf_5 : decode cX12_nightOf 5 = .ok (.istore_n 2, 1) := by decide +kernel
theorem dX12_nightOf_6 : decode cX12_nightOf 6 = .ok (.iload_n 2, 1) := by decide +kernel
theorem dX12_nightOf_7 : decode cX12_nightOf 7 = .ok (.aload_n 0, 1) := by decide +kernel
theorem dX12_nightOf_8 : decode cX12_nightOf 8 = .ok (.getfield 32, 3) := by decide +kernel
theorem dX12_nightOf_11 : decode cX12_nightOf 11 = .ok (.iconst 0, 1) := by decide +kernel
theorem dX12_nightOf_12 : decode cX12_nightOf 12 = .ok (.iaload, 1) := by decide +kernel
theorem dX12_nightOf_13 : decode cX12_nightOf 13 = .ok (.if_icmp .ge 51, 3) := by decide +kernel
theorem dX12_nightOf_16 : decode cX12_nightOf 16 = .ok (.aload_n 0, 1) := by decide +kernel
theorem dX12_nightOf_17 : decode cX12_nightOf 17 = .ok (.getfield 32, 3) := by decide +kernel
theorem dX12_nightOf_20 : decode cX12_nightOf 20 = .ok (.iconst 1, 1) := by decide +kernel
theorem dX12_nightOf_21 : decode cX12_nightOf 21 = .ok (.iconst 3, 1) := by decide +kernel
theorem dX12_nightOf_22 : decode cX12_nightOf 22 = .ok (.iload_n 2, 1) := by decide +kernel
theorem dX12_nightOf_23 : decode cX12_nightOf 23 = .ok (.imul, 1) := by decide +kernel
theorem dX12_nightOf_24 : decode cX12_nightOf 24 = .ok (.iadd, 1) := by decide +kernel
theorem dX12_nightOf_25 : decode cX12_nightOf 25 = .ok (.iaload, 1) := by decide +kernel
theorem dX12_nightOf_26 : decode cX12_nightOf 26 = .ok (.iload_n 1, 1) := by decide +kernel
theorem dX12_nightOf_27 : decode cX12_nightOf 27 = .ok (.if_icmp .ne 31, 3) := by decide +kernel
theorem dX12_nightOf_30 : decode cX12_nightOf 30 = .ok (.aload_n 0, 1) := by decide +kernel
theorem dX12_nightOf_31 : decode cX12_nightOf 31 = .ok (.aload_n 0, 1) := by decide +kernel
theorem dX12_nightOf_32 : decode cX12_nightOf 32 = .ok (.getfield 32, 3) := by decide +kernel
theorem dX12_nightOf_35 : decode cX12_nightOf 35 = .ok (.iconst 1, 1) := by decide +kernel
theorem dX12_nightOf_36 : decode cX12_nightOf 36 = .ok (.iconst 3, 1) := by decide +kernel
theorem dX12_nightOf_37 : decode cX12_nightOf 37 = .ok (.iload_n 2, 1) := by decide +kernel
theorem dX12_nightOf_38 : decode cX12_nightOf 38 = .ok (.imul, 1) := by decide +kernel
theorem dX12_nightOf_39 : decode cX12_nightOf 39 = .ok (.iadd, 1) := by decide +kernel
theorem dX12_nightOf_40 : decode cX12_nightOf 40 = .ok (.iconst 1, 1) := by decide +kernel
theorem dX12_nightOf_41 : decode cX12_nightOf 41 = .ok (.iadd, 1) := by decide +kernel
theorem dX12_nightOf_42 : decode cX12_nightOf 42 = .ok (.iaload, 1) := by decide +kernel
theorem dX12_nightOf_43 : decode cX12_nightOf 43 = .ok (.aload_n 0, 1) := by decide +kernel
theorem dX12_nightOf_44 : decode cX12_nightOf 44 = .ok (.getfield 32, 3) := by decide +kernel
theorem dX12_nightOf_47 : decode cX12_nightOf 47 = .ok (.iconst 1, 1) := by decide +kernel
theorem dX12_nightOf_48 : decode cX12_nightOf 48 = .ok (.iconst 3, 1) := by decide +kernel
theorem dX12_nightOf_49 : decode cX12_nightOf 49 = .ok (.iload_n 2, 1) := by decide +kernel
theorem dX12_nightOf_50 : decode cX12_nightOf 50 = .ok (.imul, 1) := by decide +kernel
theorem dX12_nightOf_51 : decode cX12_nightOf 51 = .ok (.iadd, 1) := by decide +kernel
theorem dX12_nightOf_52 : decode cX12_nightOf 52 = .ok (.iconst 2, 1) := by decide +kernel
theorem dX12_nightOf_53 : decode cX12_nightOf 53 = .ok (.iadd, 1) := by decide +kernel
theorem dX12_nightOf_54 : decode cX12_nightOf 54 = .ok (.iaload, 1) := by decide +kernel
theorem dX12_nightOf_55 : decode cX12_nightOf 55 = .ok (.invokevirtual 178, 3) := by decide +kernel
theorem dX12_nightOf_58 : decode cX12_nightOf 58 = .ok (.iinc 2 1, 3) := by decide +kernel
theorem dX12_nightOf_61 : decode cX12_nightOf 61 = .ok (.goto (-55), 3) := by decide +kernel
theorem dX12_nightOf_64 : decode cX12_nightOf 64 = .ok (.return_, 1) := by decide +kernel
theorem dX12_comes_0 : decode cX12_comes 0 = .ok (.iconst 0, 1) := by decide +kernel
theorem dX12_comes_1 : decode cX12_comes 1 = .ok (.istore_n 3, 1) := by decide +kernel
theorem dX12_comes_2 : decode cX12_comes 2 = .ok (.iload_n 3, 1) := by decide +kernel
theorem dX12_comes_3 : decode cX12_comes 3 = .ok (.aload_n 0, 1) := by decide +kernel
theorem dX12_comes_4 : decode cX12_comes 4 = .ok (.getfield 7, 3) := by decide +kernel
theorem dX12_comes_7 : decode cX12_comes 7 = .ok (.if_icmp .ge 88, 3) := by decide +kernel
theorem dX12_comes_10 : decode cX12_comes 10 = .ok (.aload_n 0, 1) := by decide +kernel
theorem dX12_comes_11 : decode cX12_comes 11 = .ok (.getfield 182, 3) := by decide +kernel
theorem dX12_comes_14 : decode cX12_comes 14 = .ok (.iload_n 1, 1) := by decide +kernel
theorem dX12_comes_15 : decode cX12_comes 15 = .ok (.invokestatic 185, 3) := by decide +kernel
theorem dX12_comes_18 : decode cX12_comes 18 = .ok (.ifCond .ne 77, 3) := by decide +kernel
theorem dX12_comes_21 : decode cX12_comes 21 = .ok (.aload_n 0, 1) := by decide +kernel
theorem dX12_comes_22 : decode cX12_comes 22 = .ok (.getfield 13, 3) := by decide +kernel
theorem dX12_comes_25 : decode cX12_comes 25 = .ok (.iconst 4, 1) := by decide +kernel
theorem dX12_comes_26 : decode cX12_comes 26 = .ok (.iload_n 3, 1) := by decide +kernel
theorem dX12_comes_27 : decode cX12_comes 27 = .ok (.imul, 1) := by decide +kernel
theorem dX12_comes_28 : decode cX12_comes 28 = .ok (.iaload, 1) := by decide +kernel
theorem dX12_comes_29 : decode cX12_comes 29 = .ok (.iload_n 2, 1) := by decide +kernel
theorem dX12_comes_30 : decode cX12_comes 30 = .ok (.if_icmp .ne 59, 3) := by decide +kernel
theorem dX12_comes_33 : decode cX12_comes 33 = .ok (.aload_n 0, 1) := by decide +kernel
theorem dX12_comes_34 : decode cX12_comes 34 = .ok (.iload_n 1, 1) := by decide +kernel
theorem dX12_comes_35 : decode cX12_comes 35 = .ok (.aload_n 0, 1) := by decide +kernel
theorem dX12_comes_36 : decode cX12_comes 36 = .ok (.getfield 62, 3) := by decide +kernel
theorem dX12_comes_39 : decode cX12_comes 39 = .ok (.iload_n 3, 1) := by decide +kernel
theorem dX12_comes_40 : decode cX12_comes 40 = .ok (.iaload, 1) := by decide +kernel
theorem dX12_comes_41 : decode cX12_comes 41 = .ok (.invokevirtual 189, 3) := by decide +kernel
theorem dX12_comes_44 : decode cX12_comes 44 = .ok (.aload_n 0, 1) := by decide +kernel
theorem dX12_comes_45 : decode cX12_comes 45 = .ok (.getfield 62, 3) := by decide +kernel
theorem dX12_comes_48 : decode cX12_comes 48 = .ok (.iload_n 3, 1) := by decide +kernel
theorem dX12_comes_49 : decode cX12_comes 49 = .ok (.iaload, 1) := by decide +kernel
theorem dX12_comes_50 : decode cX12_comes 50 = .ok (.if_icmp .eq 39, 3) := by decide +kernel
theorem dX12_comes_53 : decode cX12_comes 53 = .ok (.aload_n 0, 1) := by decide +kernel
theorem dX12_comes_54 : decode cX12_comes 54 = .ok (.getfield 62, 3) := by decide +kernel
theorem dX12_comes_57 : decode cX12_comes 57 = .ok (.iload_n 3, 1) := by decide +kernel
theorem dX12_comes_58 : decode cX12_comes 58 = .ok (.aload_n 0, 1) := by decide +kernel
theorem dX12_comes_59 : decode cX12_comes 59 = .ok (.iload_n 1, 1) := by decide +kernel
theorem dX12_comes_60 : decode cX12_comes 60 = .ok (.aload_n 0, 1) := by decide +kernel
theorem dX12_comes_61 : decode cX12_comes 61 = .ok (.getfield 62, 3) := by decide +kernel
theorem dX12_comes_64 : decode cX12_comes 64 = .ok (.iload_n 3, 1) := by decide +kernel
theorem dX12_comes_65 : decode cX12_comes 65 = .ok (.iaload, 1) := by decide +kernel
theorem dX12_comes_66 : decode cX12_comes 66 = .ok (.invokevirtual 189, 3) := by decide +kernel
theorem dX12_comes_69 : decode cX12_comes 69 = .ok (.iastore, 1) := by decide +kernel
theorem dX12_comes_70 : decode cX12_comes 70 = .ok (.aload_n 0, 1) := by decide +kernel
theorem dX12_comes_71 : decode cX12_comes 71 = .ok (.getfield 68, 3) := by decide +kernel
theorem dX12_comes_74 : decode cX12_comes 74 = .ok (.iload_n 1, 1) := by decide +kernel
theorem dX12_comes_75 : decode cX12_comes 75 = .ok (.iload_n 3, 1) := by decide +kernel
theorem dX12_comes_76 : decode cX12_comes 76 = .ok (.iastore, 1) := by decide +kernel
theorem dX12_comes_77 : decode cX12_comes 77 = .ok (.aload_n 0, 1) := by decide +kernel
theorem dX12_comes_78 : decode cX12_comes 78 = .ok (.dup, 1) := by decide +kernel
theorem dX12_comes_79 : decode cX12_comes 79 = .ok (.getfield 182, 3) := by decide +kernel
theorem dX12_comes_82 : decode cX12_comes 82 = .ok (.iconst 1, 1) := by decide +kernel
theorem dX12_comes_83 : decode cX12_comes 83 = .ok (.iload_n 1, 1) := by decide +kernel
theorem dX12_comes_84 : decode cX12_comes 84 = .ok (.ishl, 1) := by decide +kernel
theorem dX12_comes_85 : decode cX12_comes 85 = .ok (.ior, 1) := by decide +kernel
theorem dX12_comes_86 : decode cX12_comes 86 = .ok (.putfield 182, 3) := by decide +kernel
theorem dX12_comes_89 : decode cX12_comes 89 = .ok (.iinc 3 1, 3) := by decide +kernel
theorem dX12_comes_92 : decode cX12_comes 92 = .ok (.goto (-90), 3) := by decide +kernel
theorem dX12_comes_95 : decode cX12_comes 95 = .ok (.return_, 1) := by decide +kernel
theorem dX12_morning_0 : decode cX12_morning 0 = .ok (.aload_n 0, 1) := by decide +kernel
theorem dX12_morning_1 : decode cX12_morning 1 = .ok (.iconst 0, 1) := by decide +kernel
theorem dX12_morning_2 : decode cX12_morning 2 = .ok (.putfield 182, 3) := by decide +kernel
theorem dX12_morning_5 : decode cX12_morning 5 = .ok (.iconst 0, 1) := by decide +kernel
theorem dX12_morning_6 : decode cX12_morning 6 = .ok (.istore_n 1, 1) := by decide +kernel
theorem dX12_morning_7 : decode cX12_morning 7 = .ok (.iload_n 1, 1) := by decide +kernel
theorem dX12_morning_8 : decode cX12_morning 8 = .ok (.iconst 5, 1) := by decide +kernel
theorem dX12_morning_9 : decode cX12_morning 9 = .ok (.if_icmp .ge 17, 3) := by decide +kernel
theorem dX12_morning_12 : decode cX12_morning 12 = .ok (.aload_n 0, 1) := by decide +kernel
theorem dX12_morning_13 : decode cX12_morning 13 = .ok (.getfield 68, 3) := by decide +kernel
theorem dX12_morning_16 : decode cX12_morning 16 = .ok (.iload_n 1, 1) := by decide +kernel
theorem dX12_morning_17 : decode cX12_morning 17 = .ok (.bipush (-4), 2) := by decide +kernel
theorem dX12_morning_19 : decode cX12_morning 19 = .ok (.iastore, 1) := by decide +kernel
theorem dX12_morning_20 : decode cX12_morning 20 = .ok (.iinc 1 1, 3) := by decide +kernel
theorem dX12_morning_23 : decode cX12_morning 23 = .ok (.goto (-16), 3) := by decide +kernel
theorem dX12_morning_26 : decode cX12_morning 26 = .ok (.iconst 0, 1) := by decide +kernel
theorem dX12_morning_27 : decode cX12_morning 27 = .ok (.istore_n 1, 1) := by decide +kernel
theorem dX12_morning_28 : decode cX12_morning 28 = .ok (.iload_n 1, 1) := by decide +kernel
theorem dX12_morning_29 : decode cX12_morning 29 = .ok (.aload_n 0, 1) := by decide +kernel
theorem dX12_morning_30 : decode cX12_morning 30 = .ok (.getfield 23, 3) := by decide +kernel
theorem dX12_morning_33 : decode cX12_morning 33 = .ok (.if_icmp .ge 41, 3) := by decide +kernel
theorem dX12_morning_36 : decode cX12_morning 36 = .ok (.aload_n 0, 1) := by decide +kernel
theorem dX12_morning_37 : decode cX12_morning 37 = .ok (.aload_n 0, 1) := by decide +kernel
theorem dX12_morning_38 : decode cX12_morning 38 = .ok (.getfield 26, 3) := by decide +kernel
theorem dX12_morning_41 : decode cX12_morning 41 = .ok (.iconst 3, 1) := by decide +kernel
theorem dX12_morning_42 : decode cX12_morning 42 = .ok (.aload_n 0, 1) := by decide +kernel
theorem dX12_morning_43 : decode cX12_morning 43 = .ok (.getfield 29, 3) := by decide +kernel
theorem dX12_morning_46 : decode cX12_morning 46 = .ok (.iload_n 1, 1) := by decide +kernel
theorem dX12_morning_47 : decode cX12_morning 47 = .ok (.iaload, 1) := by decide +kernel
theorem dX12_morning_48 : decode cX12_morning 48 = .ok (.imul, 1) := by decide +kernel
theorem dX12_morning_49 : decode cX12_morning 49 = .ok (.iaload, 1) := by decide +kernel
theorem dX12_morning_50 : decode cX12_morning 50 = .ok (.aload_n 0, 1) := by decide +kernel
theorem dX12_morning_51 : decode cX12_morning 51 = .ok (.getfield 26, 3) := by decide +kernel
theorem dX12_morning_54 : decode cX12_morning 54 = .ok (.iconst 3, 1) := by decide +kernel
theorem dX12_morning_55 : decode cX12_morning 55 = .ok (.aload_n 0, 1) := by decide +kernel
theorem dX12_morning_56 : decode cX12_morning 56 = .ok (.getfield 29, 3) := by decide +kernel
theorem dX12_morning_59 : decode cX12_morning 59 = .ok (.iload_n 1, 1) := by decide +kernel
theorem dX12_morning_60 : decode cX12_morning 60 = .ok (.iaload, 1) := by decide +kernel
theorem dX12_morning_61 : decode cX12_morning 61 = .ok (.imul, 1) := by decide +kernel
theorem dX12_morning_62 : decode cX12_morning 62 = .ok (.iconst 2, 1) := by decide +kernel
theorem dX12_morning_63 : decode cX12_morning 63 = .ok (.iadd, 1) := by decide +kernel
theorem dX12_morning_64 : decode cX12_morning 64 = .ok (.iaload, 1) := by decide +kernel
theorem dX12_morning_65 : decode cX12_morning 65 = .ok (.invokevirtual 193, 3) := by decide +kernel
theorem dX12_morning_68 : decode cX12_morning 68 = .ok (.iinc 1 1, 3) := by decide +kernel
theorem dX12_morning_71 : decode cX12_morning 71 = .ok (.goto (-43), 3) := by decide +kernel
theorem dX12_morning_74 : decode cX12_morning 74 = .ok (.return_, 1) := by decide +kernel
theorem dX12_goes_0 : decode cX12_goes 0 = .ok (.aload_n 0, 1) := by decide +kernel
theorem dX12_goes_1 : decode cX12_goes 1 = .ok (.invokevirtual 196, 3) := by decide +kernel
theorem dX12_goes_4 : decode cX12_goes 4 = .ok (.iconst 0, 1) := by decide +kernel
theorem dX12_goes_5 : decode cX12_goes 5 = .ok (.istore_n 2, 1) := by decide +kernel
theorem dX12_goes_6 : decode cX12_goes 6 = .ok (.iload_n 2, 1) := by decide +kernel
theorem dX12_goes_7 : decode cX12_goes 7 = .ok (.iload_n 1, 1) := by decide +kernel
theorem dX12_goes_8 : decode cX12_goes 8 = .ok (.if_icmp .gt 44, 3) := by decide +kernel
theorem dX12_goes_11 : decode cX12_goes 11 = .ok (.aload_n 0, 1) := by decide +kernel
theorem dX12_goes_12 : decode cX12_goes 12 = .ok (.iload_n 2, 1) := by decide +kernel
theorem dX12_goes_13 : decode cX12_goes 13 = .ok (.invokevirtual 199, 3) := by decide +kernel
theorem dX12_goes_16 : decode cX12_goes 16 = .ok (.iconst 0, 1) := by decide +kernel
theorem dX12_goes_17 : decode cX12_goes 17 = .ok (.istore_n 3, 1) := by decide +kernel
theorem dX12_goes_18 : decode cX12_goes 18 = .ok (.iload_n 3, 1) := by decide +kernel
theorem dX12_goes_19 : decode cX12_goes 19 = .ok (.bipush 7, 2) := by decide +kernel
theorem dX12_goes_21 : decode cX12_goes 21 = .ok (.if_icmp .ge 21, 3) := by decide +kernel
theorem dX12_goes_24 : decode cX12_goes 24 = .ok (.aload_n 0, 1) := by decide +kernel
theorem dX12_goes_25 : decode cX12_goes 25 = .ok (.getfield 65, 3) := by decide +kernel
theorem dX12_goes_28 : decode cX12_goes 28 = .ok (.iload_n 3, 1) := by decide +kernel
theorem dX12_goes_29 : decode cX12_goes 29 = .ok (.aload_n 0, 1) := by decide +kernel
theorem dX12_goes_30 : decode cX12_goes 30 = .ok (.getfield 62, 3) := by decide +kernel
theorem dX12_goes_33 : decode cX12_goes 33 = .ok (.iload_n 3, 1) := by decide +kernel
theorem dX12_goes_34 : decode cX12_goes 34 = .ok (.iaload, 1) := by decide +kernel
theorem dX12_goes_35 : decode cX12_goes 35 = .ok (.iastore, 1) := by decide +kernel
theorem dX12_goes_36 : decode cX12_goes 36 = .ok (.iinc 3 1, 3) := by decide +kernel
theorem dX12_goes_39 : decode cX12_goes 39 = .ok (.goto (-21), 3) := by decide +kernel
theorem dX12_goes_42 : decode cX12_goes 42 = .ok (.aload_n 0, 1) := by decide +kernel
theorem dX12_goes_43 : decode cX12_goes 43 = .ok (.invokevirtual 203, 3) := by decide +kernel
theorem dX12_goes_46 : decode cX12_goes 46 = .ok (.iinc 2 1, 3) := by decide +kernel
theorem dX12_goes_49 : decode cX12_goes 49 = .ok (.goto (-43), 3) := by decide +kernel
theorem dX12_goes_52 : decode cX12_goes 52 = .ok (.return_, 1) := by decide +kernel
theorem dX12_angle_0 : decode cX12_angle 0 = .ok (.aload_n 0, 1) := by decide +kernel
theorem dX12_angle_1 : decode cX12_angle 1 = .ok (.iload_n 1, 1) := by decide +kernel
theorem dX12_angle_2 : decode cX12_angle 2 = .ok (.invokevirtual 159, 3) := by decide +kernel
theorem dX12_angle_5 : decode cX12_angle 5 = .ok (.ifCond .eq 10, 3) := by decide +kernel
theorem dX12_angle_8 : decode cX12_angle 8 = .ok (.iload_n 2, 1) := by decide +kernel
theorem dX12_angle_9 : decode cX12_angle 9 = .ok (.invokestatic 206, 3) := by decide +kernel
theorem dX12_angle_12 : decode cX12_angle 12 = .ok (.ifCond .ne 5, 3) := by decide +kernel
theorem dX12_angle_15 : decode cX12_angle 15 = .ok (.iconst (-1), 1) := by decide +kernel
theorem dX12_angle_16 : decode cX12_angle 16 = .ok (.ireturn, 1) := by decide +kernel
theorem dX12_angle_17 : decode cX12_angle 17 = .ok (.aload_n 0, 1) := by decide +kernel
theorem dX12_angle_18 : decode cX12_angle 18 = .ok (.iload_n 2, 1) := by decide +kernel
theorem dX12_angle_19 : decode cX12_angle 19 = .ok (.invokevirtual 209, 3) := by decide +kernel
theorem dX12_angle_22 : decode cX12_angle 22 = .ok (.aload_n 0, 1) := by decide +kernel
theorem dX12_angle_23 : decode cX12_angle 23 = .ok (.getfield 62, 3) := by decide +kernel
theorem dX12_angle_26 : decode cX12_angle 26 = .ok (.iload_n 1, 1) := by decide +kernel
theorem dX12_angle_27 : decode cX12_angle 27 = .ok (.iaload, 1) := by decide +kernel
theorem dX12_angle_28 : decode cX12_angle 28 = .ok (.bipush 40, 2) := by decide +kernel
theorem dX12_angle_30 : decode cX12_angle 30 = .ok (.iadd, 1) := by decide +kernel
theorem dX12_angle_31 : decode cX12_angle 31 = .ok (.ireturn, 1) := by decide +kernel
theorem dX12_hers_0 : decode cX12_hers 0 = .ok (.iload_n 1, 1) := by decide +kernel
theorem dX12_hers_1 : decode cX12_hers 1 = .ok (.invokestatic 206, 3) := by decide +kernel
theorem dX12_hers_4 : decode cX12_hers 4 = .ok (.ifCond .ne 5, 3) := by decide +kernel
theorem dX12_hers_7 : decode cX12_hers 7 = .ok (.iconst (-1), 1) := by decide +kernel
theorem dX12_hers_8 : decode cX12_hers 8 = .ok (.ireturn, 1) := by decide +kernel
theorem dX12_hers_9 : decode cX12_hers 9 = .ok (.aload_n 0, 1) := by decide +kernel
theorem dX12_hers_10 : decode cX12_hers 10 = .ok (.iload_n 1, 1) := by decide +kernel
theorem dX12_hers_11 : decode cX12_hers 11 = .ok (.invokevirtual 209, 3) := by decide +kernel
theorem dX12_hers_14 : decode cX12_hers 14 = .ok (.aload_n 0, 1) := by decide +kernel
theorem dX12_hers_15 : decode cX12_hers 15 = .ok (.getfield 182, 3) := by decide +kernel
theorem dX12_hers_18 : decode cX12_hers 18 = .ok (.ireturn, 1) := by decide +kernel
theorem dX12_sets_0 : decode cX12_sets 0 = .ok (.aload_n 0, 1) := by decide +kernel
theorem dX12_sets_1 : decode cX12_sets 1 = .ok (.iload_n 1, 1) := by decide +kernel
theorem dX12_sets_2 : decode cX12_sets 2 = .ok (.invokevirtual 162, 3) := by decide +kernel
theorem dX12_sets_5 : decode cX12_sets 5 = .ok (.ifCond .eq 10, 3) := by decide +kernel
theorem dX12_sets_8 : decode cX12_sets 8 = .ok (.iload_n 2, 1) := by decide +kernel
theorem dX12_sets_9 : decode cX12_sets 9 = .ok (.invokestatic 206, 3) := by decide +kernel
theorem dX12_sets_12 : decode cX12_sets 12 = .ok (.ifCond .ne 5, 3) := by decide +kernel
theorem dX12_sets_15 : decode cX12_sets 15 = .ok (.iconst (-1), 1) := by decide +kernel
theorem dX12_sets_16 : decode cX12_sets 16 = .ok (.ireturn, 1) := by decide +kernel
theorem dX12_sets_17 : decode cX12_sets 17 = .ok (.aload_n 0, 1) := by decide +kernel
theorem dX12_sets_18 : decode cX12_sets 18 = .ok (.iload_n 2, 1) := by decide +kernel
theorem dX12_sets_19 : decode cX12_sets 19 = .ok (.invokevirtual 209, 3) := by decide +kernel
theorem dX12_sets_22 : decode cX12_sets 22 = .ok (.aload_n 0, 1) := by decide +kernel
theorem dX12_sets_23 : decode cX12_sets 23 = .ok (.getfield 68, 3) := by decide +kernel
theorem dX12_sets_26 : decode cX12_sets 26 = .ok (.iload_n 1, 1) := by decide +kernel
theorem dX12_sets_27 : decode cX12_sets 27 = .ok (.iaload, 1) := by decide +kernel
theorem dX12_sets_28 : decode cX12_sets 28 = .ok (.ireturn, 1) := by decide +kernel
theorem dX12_rest_0 : decode cX12_rest 0 = .ok (.iconst 0, 1) := by decide +kernel
theorem dX12_rest_1 : decode cX12_rest 1 = .ok (.istore_n 1, 1) := by decide +kernel
theorem dX12_rest_2 : decode cX12_rest 2 = .ok (.aload_n 0, 1) := by decide +kernel
theorem dX12_rest_3 : decode cX12_rest 3 = .ok (.invokevirtual 196, 3) := by decide +kernel
theorem dX12_rest_6 : decode cX12_rest 6 = .ok (.iconst 0, 1) := by decide +kernel
theorem dX12_rest_7 : decode cX12_rest 7 = .ok (.istore_n 2, 1) := by decide +kernel
theorem dX12_rest_8 : decode cX12_rest 8 = .ok (.iload_n 2, 1) := by decide +kernel
theorem dX12_rest_9 : decode cX12_rest 9 = .ok (.bipush 30, 2) := by decide +kernel
theorem dX12_rest_11 : decode cX12_rest 11 = .ok (.if_icmp .gt 83, 3) := by decide +kernel
theorem dX12_rest_14 : decode cX12_rest 14 = .ok (.iconst 0, 1) := by decide +kernel
theorem dX12_rest_15 : decode cX12_rest 15 = .ok (.istore_n 3, 1) := by decide +kernel
theorem dX12_rest_16 : decode cX12_rest 16 = .ok (.iload_n 3, 1) := by decide +kernel
theorem dX12_rest_17 : decode cX12_rest 17 = .ok (.bipush 7, 2) := by decide +kernel
theorem dX12_rest_19 : decode cX12_rest 19 = .ok (.if_icmp .ge 21, 3) := by decide +kernel
theorem dX12_rest_22 : decode cX12_rest 22 = .ok (.aload_n 0, 1) := by decide +kernel
theorem dX12_rest_23 : decode cX12_rest 23 = .ok (.getfield 71, 3) := by decide +kernel
theorem dX12_rest_26 : decode cX12_rest 26 = .ok (.iload_n 3, 1) := by decide +kernel
theorem dX12_rest_27 : decode cX12_rest 27 = .ok (.aload_n 0, 1) := by decide +kernel
theorem dX12_rest_28 : decode cX12_rest 28 = .ok (.getfield 62, 3) := by decide +kernel
theorem dX12_rest_31 : decode cX12_rest 31 = .ok (.iload_n 3, 1) := by decide +kernel
theorem dX12_rest_32 : decode cX12_rest 32 = .ok (.iaload, 1) := by decide +kernel
theorem dX12_rest_33 : decode cX12_rest 33 = .ok (.iastore, 1) := by decide +kernel
theorem dX12_rest_34 : decode cX12_rest 34 = .ok (.iinc 3 1, 3) := by decide +kernel
theorem dX12_rest_37 : decode cX12_rest 37 = .ok (.goto (-21), 3) := by decide +kernel
theorem dX12_rest_40 : decode cX12_rest 40 = .ok (.aload_n 0, 1) := by decide +kernel
theorem dX12_rest_41 : decode cX12_rest 41 = .ok (.iload_n 2, 1) := by decide +kernel
theorem dX12_rest_42 : decode cX12_rest 42 = .ok (.invokevirtual 199, 3) := by decide +kernel
theorem dX12_rest_45 : decode cX12_rest 45 = .ok (.aload_n 0, 1) := by decide +kernel
theorem dX12_rest_46 : decode cX12_rest 46 = .ok (.invokevirtual 203, 3) := by decide +kernel
theorem dX12_rest_49 : decode cX12_rest 49 = .ok (.iconst 0, 1) := by decide +kernel
theorem dX12_rest_50 : decode cX12_rest 50 = .ok (.istore_n 3, 1) := by decide +kernel
theorem dX12_rest_51 : decode cX12_rest 51 = .ok (.iload_n 3, 1) := by decide +kernel
theorem dX12_rest_52 : decode cX12_rest 52 = .ok (.aload_n 0, 1) := by decide +kernel
theorem dX12_rest_53 : decode cX12_rest 53 = .ok (.getfield 7, 3) := by decide +kernel
theorem dX12_rest_56 : decode cX12_rest 56 = .ok (.if_icmp .ge 32, 3) := by decide +kernel
theorem dX12_rest_59 : decode cX12_rest 59 = .ok (.aload_n 0, 1) := by decide +kernel
theorem dX12_rest_60 : decode cX12_rest 60 = .ok (.getfield 62, 3) := by decide +kernel
theorem dX12_rest_63 : decode cX12_rest 63 = .ok (.iload_n 3, 1) := by decide +kernel
theorem dX12_rest_64 : decode cX12_rest 64 = .ok (.iaload, 1) := by decide +kernel
theorem dX12_rest_65 : decode cX12_rest 65 = .ok (.aload_n 0, 1) := by decide +kernel
theorem dX12_rest_66 : decode cX12_rest 66 = .ok (.getfield 71, 3) := by decide +kernel
theorem dX12_rest_69 : decode cX12_rest 69 = .ok (.iload_n 3, 1) := by decide +kernel
theorem dX12_rest_70 : decode cX12_rest 70 = .ok (.iaload, 1) := by decide +kernel
theorem dX12_rest_71 : decode cX12_rest 71 = .ok (.if_icmp .ne 7, 3) := by decide +kernel
theorem dX12_rest_74 : decode cX12_rest 74 = .ok (.iload_n 1, 1) := by decide +kernel
theorem dX12_rest_75 : decode cX12_rest 75 = .ok (.goto 6, 3) := by decide +kernel
theorem dX12_rest_78 : decode cX12_rest 78 = .ok (.iload_n 2, 1) := by decide +kernel
theorem dX12_rest_79 : decode cX12_rest 79 = .ok (.iconst 1, 1) := by decide +kernel
theorem dX12_rest_80 : decode cX12_rest 80 = .ok (.iadd, 1) := by decide +kernel
theorem dX12_rest_81 : decode cX12_rest 81 = .ok (.istore_n 1, 1) := by decide +kernel
theorem dX12_rest_82 : decode cX12_rest 82 = .ok (.iinc 3 1, 3) := by decide +kernel
theorem dX12_rest_85 : decode cX12_rest 85 = .ok (.goto (-34), 3) := by decide +kernel
theorem dX12_rest_88 : decode cX12_rest 88 = .ok (.iinc 2 1, 3) := by decide +kernel
theorem dX12_rest_91 : decode cX12_rest 91 = .ok (.goto (-83), 3) := by decide +kernel
theorem dX12_rest_94 : decode cX12_rest 94 = .ok (.iload_n 1, 1) := by decide +kernel
theorem dX12_rest_95 : decode cX12_rest 95 = .ok (.bipush 30, 2) := by decide +kernel
theorem dX12_rest_97 : decode cX12_rest 97 = .ok (.if_icmp .le 8, 3) := by decide +kernel
theorem dX12_rest_100 : decode cX12_rest 100 = .ok (.bipush (-4), 2) := by decide +kernel
theorem dX12_rest_102 : decode cX12_rest 102 = .ok (.goto 4, 3) := by decide +kernel
theorem dX12_rest_105 : decode cX12_rest 105 = .ok (.iload_n 1, 1) := by decide +kernel
theorem dX12_rest_106 : decode cX12_rest 106 = .ok (.ireturn, 1) := by decide +kernel
theorem dX12_sways_0 : decode cX12_sways 0 = .ok (.iconst 0, 1) := by decide +kernel
theorem dX12_sways_1 : decode cX12_sways 1 = .ok (.istore_n 1, 1) := by decide +kernel
theorem dX12_sways_2 : decode cX12_sways 2 = .ok (.aload_n 0, 1) := by decide +kernel
theorem dX12_sways_3 : decode cX12_sways 3 = .ok (.invokevirtual 196, 3) := by decide +kernel
theorem dX12_sways_6 : decode cX12_sways 6 = .ok (.iconst 0, 1) := by decide +kernel
theorem dX12_sways_7 : decode cX12_sways 7 = .ok (.istore_n 2, 1) := by decide +kernel
theorem dX12_sways_8 : decode cX12_sways 8 = .ok (.iload_n 2, 1) := by decide +kernel
theorem dX12_sways_9 : decode cX12_sways 9 = .ok (.bipush 30, 2) := by decide +kernel
theorem dX12_sways_11 : decode cX12_sways 11 = .ok (.if_icmp .gt 84, 3) := by decide +kernel
theorem dX12_sways_14 : decode cX12_sways 14 = .ok (.aload_n 0, 1) := by decide +kernel
theorem dX12_sways_15 : decode cX12_sways 15 = .ok (.iload_n 2, 1) := by decide +kernel
theorem dX12_sways_16 : decode cX12_sways 16 = .ok (.invokevirtual 199, 3) := by decide +kernel
theorem dX12_sways_19 : decode cX12_sways 19 = .ok (.aload_n 0, 1) := by decide +kernel
theorem dX12_sways_20 : decode cX12_sways 20 = .ok (.invokevirtual 203, 3) := by decide +kernel
theorem dX12_sways_23 : decode cX12_sways 23 = .ok (.iconst 0, 1) := by decide +kernel
theorem dX12_sways_24 : decode cX12_sways 24 = .ok (.istore_n 3, 1) := by decide +kernel
theorem dX12_sways_25 : decode cX12_sways 25 = .ok (.iload_n 3, 1) := by decide +kernel
theorem dX12_sways_26 : decode cX12_sways 26 = .ok (.aload_n 0, 1) := by decide +kernel
theorem dX12_sways_27 : decode cX12_sways 27 = .ok (.getfield 7, 3) := by decide +kernel
theorem dX12_sways_30 : decode cX12_sways 30 = .ok (.if_icmp .ge 59, 3) := by decide +kernel
theorem dX12_sways_33 : decode cX12_sways 33 = .ok (.aload_n 0, 1) := by decide +kernel
theorem dX12_sways_34 : decode cX12_sways 34 = .ok (.getfield 71, 3) := by decide +kernel
theorem dX12_sways_37 : decode cX12_sways 37 = .ok (.iload_n 3, 1) := by decide +kernel
theorem dX12_sways_38 : decode cX12_sways 38 = .ok (.iload_n 2, 1) := by decide +kernel
theorem dX12_sways_39 : decode cX12_sways 39 = .ok (.ifCond .ne 12, 3) := by decide +kernel
theorem dX12_sways_42 : decode cX12_sways 42 = .ok (.aload_n 0, 1) := by decide +kernel
theorem dX12_sways_43 : decode cX12_sways 43 = .ok (.getfield 62, 3) := by decide +kernel
theorem dX12_sways_46 : decode cX12_sways 46 = .ok (.iload_n 3, 1) := by decide +kernel
theorem dX12_sways_47 : decode cX12_sways 47 = .ok (.iaload, 1) := by decide +kernel
theorem dX12_sways_48 : decode cX12_sways 48 = .ok (.goto 9, 3) := by decide +kernel
theorem dX12_sways_51 : decode cX12_sways 51 = .ok (.aload_n 0, 1) := by decide +kernel
theorem dX12_sways_52 : decode cX12_sways 52 = .ok (.getfield 71, 3) := by decide +kernel
theorem dX12_sways_55 : decode cX12_sways 55 = .ok (.iload_n 3, 1) := by decide +kernel
theorem dX12_sways_56 : decode cX12_sways 56 = .ok (.iaload, 1) := by decide +kernel
theorem dX12_sways_57 : decode cX12_sways 57 = .ok (.iastore, 1) := by decide +kernel
theorem dX12_sways_58 : decode cX12_sways 58 = .ok (.iload_n 1, 1) := by decide +kernel
theorem dX12_sways_59 : decode cX12_sways 59 = .ok (.aload_n 0, 1) := by decide +kernel
theorem dX12_sways_60 : decode cX12_sways 60 = .ok (.getfield 62, 3) := by decide +kernel
theorem dX12_sways_63 : decode cX12_sways 63 = .ok (.iload_n 3, 1) := by decide +kernel
theorem dX12_sways_64 : decode cX12_sways 64 = .ok (.iaload, 1) := by decide +kernel
theorem dX12_sways_65 : decode cX12_sways 65 = .ok (.aload_n 0, 1) := by decide +kernel
theorem dX12_sways_66 : decode cX12_sways 66 = .ok (.getfield 71, 3) := by decide +kernel
theorem dX12_sways_69 : decode cX12_sways 69 = .ok (.iload_n 3, 1) := by decide +kernel
theorem dX12_sways_70 : decode cX12_sways 70 = .ok (.iaload, 1) := by decide +kernel
theorem dX12_sways_71 : decode cX12_sways 71 = .ok (.if_icmp .ne 7, 3) := by decide +kernel
theorem dX12_sways_74 : decode cX12_sways 74 = .ok (.iconst 0, 1) := by decide +kernel
theorem dX12_sways_75 : decode cX12_sways 75 = .ok (.goto 6, 3) := by decide +kernel
theorem dX12_sways_78 : decode cX12_sways 78 = .ok (.iconst 1, 1) := by decide +kernel
theorem dX12_sways_79 : decode cX12_sways 79 = .ok (.iload_n 3, 1) := by decide +kernel
theorem dX12_sways_80 : decode cX12_sways 80 = .ok (.ishl, 1) := by decide +kernel
theorem dX12_sways_81 : decode cX12_sways 81 = .ok (.ior, 1) := by decide +kernel
theorem dX12_sways_82 : decode cX12_sways 82 = .ok (.istore_n 1, 1) := by decide +kernel
