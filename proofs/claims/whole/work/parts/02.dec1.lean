theorem dX5_oneOrTwo_58 : decode cX5_oneOrTwo 58 = .ok (.iadd, 1) := by decide +kernel
theorem dX5_oneOrTwo_59 : decode cX5_oneOrTwo 59 = .ok (.istore 5, 2) := by decide +kernel
theorem dX5_oneOrTwo_61 : decode cX5_oneOrTwo 61 = .ok (.iload 5, 2) := by decide +kernel
theorem dX5_oneOrTwo_63 : decode cX5_oneOrTwo 63 = .ok (.aload_n 1, 1) := by decide +kernel
theorem dX5_oneOrTwo_64 : decode cX5_oneOrTwo 64 = .ok (.getfield 29, 3) := by decide +kernel
theorem dX5_oneOrTwo_67 : decode cX5_oneOrTwo 67 = .ok (.if_icmp .ge 25, 3) := by decide +kernel
theorem dX5_oneOrTwo_70 : decode cX5_oneOrTwo 70 = .ok (.aload_n 0, 1) := by decide +kernel
theorem dX5_oneOrTwo_71 : decode cX5_oneOrTwo 71 = .ok (.aload_n 1, 1) := by decide +kernel
theorem dX5_oneOrTwo_72 : decode cX5_oneOrTwo 72 = .ok (.aload_n 2, 1) := by decide +kernel
theorem dX5_oneOrTwo_73 : decode cX5_oneOrTwo 73 = .ok (.iload 4, 2) := by decide +kernel
theorem dX5_oneOrTwo_75 : decode cX5_oneOrTwo 75 = .ok (.iload 5, 2) := by decide +kernel
theorem dX5_oneOrTwo_77 : decode cX5_oneOrTwo 77 = .ok (.iload_n 3, 1) := by decide +kernel
theorem dX5_oneOrTwo_78 : decode cX5_oneOrTwo 78 = .ok (.invokevirtual 59, 3) := by decide +kernel
theorem dX5_oneOrTwo_81 : decode cX5_oneOrTwo 81 = .ok (.ifCond .eq 5, 3) := by decide +kernel
theorem dX5_oneOrTwo_84 : decode cX5_oneOrTwo 84 = .ok (.iconst 2, 1) := by decide +kernel
theorem dX5_oneOrTwo_85 : decode cX5_oneOrTwo 85 = .ok (.ireturn, 1) := by decide +kernel
theorem dX5_oneOrTwo_86 : decode cX5_oneOrTwo 86 = .ok (.iinc 5 1, 3) := by decide +kernel
theorem dX5_oneOrTwo_89 : decode cX5_oneOrTwo 89 = .ok (.goto (-28), 3) := by decide +kernel
theorem dX5_oneOrTwo_92 : decode cX5_oneOrTwo 92 = .ok (.iinc 4 1, 3) := by decide +kernel
theorem dX5_oneOrTwo_95 : decode cX5_oneOrTwo 95 = .ok (.goto (-49), 3) := by decide +kernel
theorem dX5_oneOrTwo_98 : decode cX5_oneOrTwo 98 = .ok (.iconst 0, 1) := by decide +kernel
theorem dX5_oneOrTwo_99 : decode cX5_oneOrTwo 99 = .ok (.istore 4, 2) := by decide +kernel
theorem dX5_oneOrTwo_101 : decode cX5_oneOrTwo 101 = .ok (.iload 4, 2) := by decide +kernel
theorem dX5_oneOrTwo_103 : decode cX5_oneOrTwo 103 = .ok (.aload_n 1, 1) := by decide +kernel
theorem dX5_oneOrTwo_104 : decode cX5_oneOrTwo 104 = .ok (.getfield 29, 3) := by decide +kernel
theorem dX5_oneOrTwo_107 : decode cX5_oneOrTwo 107 = .ok (.if_icmp .ge 36, 3) := by decide +kernel
theorem dX5_oneOrTwo_110 : decode cX5_oneOrTwo 110 = .ok (.aload_n 0, 1) := by decide +kernel
theorem dX5_oneOrTwo_111 : decode cX5_oneOrTwo 111 = .ok (.aload_n 1, 1) := by decide +kernel
theorem dX5_oneOrTwo_112 : decode cX5_oneOrTwo 112 = .ok (.aload_n 2, 1) := by decide +kernel
theorem dX5_oneOrTwo_113 : decode cX5_oneOrTwo 113 = .ok (.iload 4, 2) := by decide +kernel
theorem dX5_oneOrTwo_115 : decode cX5_oneOrTwo 115 = .ok (.iaload, 1) := by decide +kernel
theorem dX5_oneOrTwo_116 : decode cX5_oneOrTwo 116 = .ok (.iload 4, 2) := by decide +kernel
theorem dX5_oneOrTwo_118 : decode cX5_oneOrTwo 118 = .ok (.bipush 40, 2) := by decide +kernel
theorem dX5_oneOrTwo_120 : decode cX5_oneOrTwo 120 = .ok (.invokevirtual 62, 3) := by decide +kernel
theorem dX5_oneOrTwo_123 : decode cX5_oneOrTwo 123 = .ok (.aload_n 0, 1) := by decide +kernel
theorem dX5_oneOrTwo_124 : decode cX5_oneOrTwo 124 = .ok (.aload_n 1, 1) := by decide +kernel
theorem dX5_oneOrTwo_125 : decode cX5_oneOrTwo 125 = .ok (.aload_n 2, 1) := by decide +kernel
theorem dX5_oneOrTwo_126 : decode cX5_oneOrTwo 126 = .ok (.iload 4, 2) := by decide +kernel
theorem dX5_oneOrTwo_128 : decode cX5_oneOrTwo 128 = .ok (.iload_n 3, 1) := by decide +kernel
theorem dX5_oneOrTwo_129 : decode cX5_oneOrTwo 129 = .ok (.invokevirtual 55, 3) := by decide +kernel
theorem dX5_oneOrTwo_132 : decode cX5_oneOrTwo 132 = .ok (.ifCond .eq 5, 3) := by decide +kernel
theorem dX5_oneOrTwo_135 : decode cX5_oneOrTwo 135 = .ok (.iconst 2, 1) := by decide +kernel
theorem dX5_oneOrTwo_136 : decode cX5_oneOrTwo 136 = .ok (.ireturn, 1) := by decide +kernel
theorem dX5_oneOrTwo_137 : decode cX5_oneOrTwo 137 = .ok (.iinc 4 1, 3) := by decide +kernel
theorem dX5_oneOrTwo_140 : decode cX5_oneOrTwo 140 = .ok (.goto (-39), 3) := by decide +kernel
theorem dX5_oneOrTwo_143 : decode cX5_oneOrTwo 143 = .ok (.bipush (-4), 2) := by decide +kernel
theorem dX5_oneOrTwo_145 : decode cX5_oneOrTwo 145 = .ok (.ireturn, 1) := by decide +kernel
theorem dX5_isWonByReached_0 : decode cX5_isWonByReached 0 = .ok (.iconst 0, 1) := by decide +kernel
theorem dX5_isWonByReached_1 : decode cX5_isWonByReached 1 = .ok (.istore 5, 2) := by decide +kernel
theorem dX5_isWonByReached_3 : decode cX5_isWonByReached 3 = .ok (.iload 5, 2) := by decide +kernel
theorem dX5_isWonByReached_5 : decode cX5_isWonByReached 5 = .ok (.aload_n 0, 1) := by decide +kernel
theorem dX5_isWonByReached_6 : decode cX5_isWonByReached 6 = .ok (.getfield 26, 3) := by decide +kernel
theorem dX5_isWonByReached_9 : decode cX5_isWonByReached 9 = .ok (.iload_n 3, 1) := by decide +kernel
theorem dX5_isWonByReached_10 : decode cX5_isWonByReached 10 = .ok (.iaload, 1) := by decide +kernel
theorem dX5_isWonByReached_11 : decode cX5_isWonByReached 11 = .ok (.if_icmp .ge 35, 3) := by decide +kernel
theorem dX5_isWonByReached_14 : decode cX5_isWonByReached 14 = .ok (.aload_n 0, 1) := by decide +kernel
theorem dX5_isWonByReached_15 : decode cX5_isWonByReached 15 = .ok (.aload_n 1, 1) := by decide +kernel
theorem dX5_isWonByReached_16 : decode cX5_isWonByReached 16 = .ok (.aload_n 2, 1) := by decide +kernel
theorem dX5_isWonByReached_17 : decode cX5_isWonByReached 17 = .ok (.iload_n 3, 1) := by decide +kernel
theorem dX5_isWonByReached_18 : decode cX5_isWonByReached 18 = .ok (.aload_n 0, 1) := by decide +kernel
theorem dX5_isWonByReached_19 : decode cX5_isWonByReached 19 = .ok (.getfield 23, 3) := by decide +kernel
theorem dX5_isWonByReached_22 : decode cX5_isWonByReached 22 = .ok (.iload_n 3, 1) := by decide +kernel
theorem dX5_isWonByReached_23 : decode cX5_isWonByReached 23 = .ok (.aaload, 1) := by decide +kernel
theorem dX5_isWonByReached_24 : decode cX5_isWonByReached 24 = .ok (.iload 5, 2) := by decide +kernel
theorem dX5_isWonByReached_26 : decode cX5_isWonByReached 26 = .ok (.iaload, 1) := by decide +kernel
theorem dX5_isWonByReached_27 : decode cX5_isWonByReached 27 = .ok (.invokevirtual 43, 3) := by decide +kernel
theorem dX5_isWonByReached_30 : decode cX5_isWonByReached 30 = .ok (.iload 4, 2) := by decide +kernel
theorem dX5_isWonByReached_32 : decode cX5_isWonByReached 32 = .ok (.iand, 1) := by decide +kernel
theorem dX5_isWonByReached_33 : decode cX5_isWonByReached 33 = .ok (.iload 4, 2) := by decide +kernel
theorem dX5_isWonByReached_35 : decode cX5_isWonByReached 35 = .ok (.if_icmp .ne 5, 3) := by decide +kernel
theorem dX5_isWonByReached_38 : decode cX5_isWonByReached 38 = .ok (.iconst 1, 1) := by decide +kernel
theorem dX5_isWonByReached_39 : decode cX5_isWonByReached 39 = .ok (.ireturn, 1) := by decide +kernel
theorem dX5_isWonByReached_40 : decode cX5_isWonByReached 40 = .ok (.iinc 5 1, 3) := by decide +kernel
theorem dX5_isWonByReached_43 : decode cX5_isWonByReached 43 = .ok (.goto (-40), 3) := by decide +kernel
theorem dX5_isWonByReached_46 : decode cX5_isWonByReached 46 = .ok (.iconst 0, 1) := by decide +kernel
theorem dX5_isWonByReached_47 : decode cX5_isWonByReached 47 = .ok (.ireturn, 1) := by decide +kernel
theorem dX5_isWonByBoth_0 : decode cX5_isWonByBoth 0 = .ok (.iconst 0, 1) := by decide +kernel
theorem dX5_isWonByBoth_1 : decode cX5_isWonByBoth 1 = .ok (.istore 6, 2) := by decide +kernel
theorem dX5_isWonByBoth_3 : decode cX5_isWonByBoth 3 = .ok (.iload 6, 2) := by decide +kernel
theorem dX5_isWonByBoth_5 : decode cX5_isWonByBoth 5 = .ok (.aload_n 0, 1) := by decide +kernel
theorem dX5_isWonByBoth_6 : decode cX5_isWonByBoth 6 = .ok (.getfield 26, 3) := by decide +kernel
theorem dX5_isWonByBoth_9 : decode cX5_isWonByBoth 9 = .ok (.iload_n 3, 1) := by decide +kernel
theorem dX5_isWonByBoth_10 : decode cX5_isWonByBoth 10 = .ok (.iaload, 1) := by decide +kernel
theorem dX5_isWonByBoth_11 : decode cX5_isWonByBoth 11 = .ok (.if_icmp .ge 96, 3) := by decide +kernel
theorem dX5_isWonByBoth_14 : decode cX5_isWonByBoth 14 = .ok (.iconst 0, 1) := by decide +kernel
theorem dX5_isWonByBoth_15 : decode cX5_isWonByBoth 15 = .ok (.istore 7, 2) := by decide +kernel
theorem dX5_isWonByBoth_17 : decode cX5_isWonByBoth 17 = .ok (.iload 7, 2) := by decide +kernel
theorem dX5_isWonByBoth_19 : decode cX5_isWonByBoth 19 = .ok (.aload_n 0, 1) := by decide +kernel
theorem dX5_isWonByBoth_20 : decode cX5_isWonByBoth 20 = .ok (.getfield 26, 3) := by decide +kernel
theorem dX5_isWonByBoth_23 : decode cX5_isWonByBoth 23 = .ok (.iload 4, 2) := by decide +kernel
theorem dX5_isWonByBoth_25 : decode cX5_isWonByBoth 25 = .ok (.iaload, 1) := by decide +kernel
theorem dX5_isWonByBoth_26 : decode cX5_isWonByBoth 26 = .ok (.if_icmp .ge 75, 3) := by decide +kernel
theorem dX5_isWonByBoth_29 : decode cX5_isWonByBoth 29 = .ok (.aload_n 2, 1) := by decide +kernel
theorem dX5_isWonByBoth_30 : decode cX5_isWonByBoth 30 = .ok (.iconst 0, 1) := by decide +kernel
theorem dX5_isWonByBoth_31 : decode cX5_isWonByBoth 31 = .ok (.aload_n 0, 1) := by decide +kernel
theorem dX5_isWonByBoth_32 : decode cX5_isWonByBoth 32 = .ok (.getfield 9, 3) := by decide +kernel
theorem dX5_isWonByBoth_35 : decode cX5_isWonByBoth 35 = .ok (.iconst 0, 1) := by decide +kernel
theorem dX5_isWonByBoth_36 : decode cX5_isWonByBoth 36 = .ok (.bipush 7, 2) := by decide +kernel
theorem dX5_isWonByBoth_38 : decode cX5_isWonByBoth 38 = .ok (.invokestatic 66, 3) := by decide +kernel
theorem dX5_isWonByBoth_41 : decode cX5_isWonByBoth 41 = .ok (.aload_n 0, 1) := by decide +kernel
theorem dX5_isWonByBoth_42 : decode cX5_isWonByBoth 42 = .ok (.getfield 9, 3) := by decide +kernel
theorem dX5_isWonByBoth_45 : decode cX5_isWonByBoth 45 = .ok (.iload_n 3, 1) := by decide +kernel
theorem dX5_isWonByBoth_46 : decode cX5_isWonByBoth 46 = .ok (.aload_n 0, 1) := by decide +kernel
theorem dX5_isWonByBoth_47 : decode cX5_isWonByBoth 47 = .ok (.getfield 23, 3) := by decide +kernel
theorem dX5_isWonByBoth_50 : decode cX5_isWonByBoth 50 = .ok (.iload_n 3, 1) := by decide +kernel
theorem dX5_isWonByBoth_51 : decode cX5_isWonByBoth 51 = .ok (.aaload, 1) := by decide +kernel
theorem dX5_isWonByBoth_52 : decode cX5_isWonByBoth 52 = .ok (.iload 6, 2) := by decide +kernel
theorem dX5_isWonByBoth_54 : decode cX5_isWonByBoth 54 = .ok (.iaload, 1) := by decide +kernel
theorem dX5_isWonByBoth_55 : decode cX5_isWonByBoth 55 = .ok (.iastore, 1) := by decide +kernel
theorem dX5_isWonByBoth_56 : decode cX5_isWonByBoth 56 = .ok (.aload_n 0, 1) := by decide +kernel
theorem dX5_isWonByBoth_57 : decode cX5_isWonByBoth 57 = .ok (.getfield 9, 3) := by decide +kernel
theorem dX5_isWonByBoth_60 : decode cX5_isWonByBoth 60 = .ok (.iload 4, 2) := by decide +kernel
theorem dX5_isWonByBoth_62 : decode cX5_isWonByBoth 62 = .ok (.aload_n 0, 1) := by decide +kernel
theorem dX5_isWonByBoth_63 : decode cX5_isWonByBoth 63 = .ok (.getfield 23, 3) := by decide +kernel
theorem dX5_isWonByBoth_66 : decode cX5_isWonByBoth 66 = .ok (.iload 4, 2) := by decide +kernel
theorem dX5_isWonByBoth_68 : decode cX5_isWonByBoth 68 = .ok (.aaload, 1) := by decide +kernel
theorem dX5_isWonByBoth_69 : decode cX5_isWonByBoth 69 = .ok (.iload 7, 2) := by decide +kernel
theorem dX5_isWonByBoth_71 : decode cX5_isWonByBoth 71 = .ok (.iaload, 1) := by decide +kernel
theorem dX5_isWonByBoth_72 : decode cX5_isWonByBoth 72 = .ok (.iastore, 1) := by decide +kernel
theorem dX5_isWonByBoth_73 : decode cX5_isWonByBoth 73 = .ok (.aload_n 1, 1) := by decide +kernel
theorem dX5_isWonByBoth_74 : decode cX5_isWonByBoth 74 = .ok (.aload_n 0, 1) := by decide +kernel
theorem dX5_isWonByBoth_75 : decode cX5_isWonByBoth 75 = .ok (.getfield 9, 3) := by decide +kernel
theorem dX5_isWonByBoth_78 : decode cX5_isWonByBoth 78 = .ok (.aload_n 0, 1) := by decide +kernel
theorem dX5_isWonByBoth_79 : decode cX5_isWonByBoth 79 = .ok (.getfield 15, 3) := by decide +kernel
theorem dX5_isWonByBoth_82 : decode cX5_isWonByBoth 82 = .ok (.invokevirtual 72, 3) := by decide +kernel
theorem dX5_isWonByBoth_85 : decode cX5_isWonByBoth 85 = .ok (.iload 5, 2) := by decide +kernel
theorem dX5_isWonByBoth_87 : decode cX5_isWonByBoth 87 = .ok (.iand, 1) := by decide +kernel
theorem dX5_isWonByBoth_88 : decode cX5_isWonByBoth 88 = .ok (.iload 5, 2) := by decide +kernel
theorem dX5_isWonByBoth_90 : decode cX5_isWonByBoth 90 = .ok (.if_icmp .ne 5, 3) := by decide +kernel
theorem dX5_isWonByBoth_93 : decode cX5_isWonByBoth 93 = .ok (.iconst 1, 1) := by decide +kernel
theorem dX5_isWonByBoth_94 : decode cX5_isWonByBoth 94 = .ok (.ireturn, 1) := by decide +kernel
theorem dX5_isWonByBoth_95 : decode cX5_isWonByBoth 95 = .ok (.iinc 7 1, 3) := by decide +kernel
theorem dX5_isWonByBoth_98 : decode cX5_isWonByBoth 98 = .ok (.goto (-81), 3) := by decide +kernel
theorem dX5_isWonByBoth_101 : decode cX5_isWonByBoth 101 = .ok (.iinc 6 1, 3) := by decide +kernel
theorem dX5_isWonByBoth_104 : decode cX5_isWonByBoth 104 = .ok (.goto (-101), 3) := by decide +kernel
theorem dX5_isWonByBoth_107 : decode cX5_isWonByBoth 107 = .ok (.iconst 0, 1) := by decide +kernel
theorem dX5_isWonByBoth_108 : decode cX5_isWonByBoth 108 = .ok (.ireturn, 1) := by decide +kernel
theorem dX5_wonWith_0 : decode cX5_wonWith 0 = .ok (.aload_n 2, 1) := by decide +kernel
theorem dX5_wonWith_1 : decode cX5_wonWith 1 = .ok (.iconst 0, 1) := by decide +kernel
theorem dX5_wonWith_2 : decode cX5_wonWith 2 = .ok (.aload_n 0, 1) := by decide +kernel
theorem dX5_wonWith_3 : decode cX5_wonWith 3 = .ok (.getfield 9, 3) := by decide +kernel
theorem dX5_wonWith_6 : decode cX5_wonWith 6 = .ok (.iconst 0, 1) := by decide +kernel
theorem dX5_wonWith_7 : decode cX5_wonWith 7 = .ok (.bipush 7, 2) := by decide +kernel
theorem dX5_wonWith_9 : decode cX5_wonWith 9 = .ok (.invokestatic 66, 3) := by decide +kernel
theorem dX5_wonWith_12 : decode cX5_wonWith 12 = .ok (.aload_n 0, 1) := by decide +kernel
theorem dX5_wonWith_13 : decode cX5_wonWith 13 = .ok (.getfield 9, 3) := by decide +kernel
theorem dX5_wonWith_16 : decode cX5_wonWith 16 = .ok (.iload_n 3, 1) := by decide +kernel
theorem dX5_wonWith_17 : decode cX5_wonWith 17 = .ok (.iload 4, 2) := by decide +kernel
theorem dX5_wonWith_19 : decode cX5_wonWith 19 = .ok (.iastore, 1) := by decide +kernel
theorem dX5_wonWith_20 : decode cX5_wonWith 20 = .ok (.aload_n 1, 1) := by decide +kernel
theorem dX5_wonWith_21 : decode cX5_wonWith 21 = .ok (.aload_n 0, 1) := by decide +kernel
theorem dX5_wonWith_22 : decode cX5_wonWith 22 = .ok (.getfield 9, 3) := by decide +kernel
theorem dX5_wonWith_25 : decode cX5_wonWith 25 = .ok (.aload_n 0, 1) := by decide +kernel
theorem dX5_wonWith_26 : decode cX5_wonWith 26 = .ok (.getfield 15, 3) := by decide +kernel
theorem dX5_wonWith_29 : decode cX5_wonWith 29 = .ok (.invokevirtual 72, 3) := by decide +kernel
theorem dX5_wonWith_32 : decode cX5_wonWith 32 = .ok (.ireturn, 1) := by decide +kernel
theorem dX5_reachAll_0 : decode cX5_reachAll 0 = .ok (.iconst 0, 1) := by decide +kernel
theorem dX5_reachAll_1 : decode cX5_reachAll 1 = .ok (.istore_n 3, 1) := by decide +kernel
theorem dX5_reachAll_2 : decode cX5_reachAll 2 = .ok (.iload_n 3, 1) := by decide +kernel
theorem dX5_reachAll_3 : decode cX5_reachAll 3 = .ok (.aload_n 1, 1) := by decide +kernel
theorem dX5_reachAll_4 : decode cX5_reachAll 4 = .ok (.getfield 29, 3) := by decide +kernel
theorem dX5_reachAll_7 : decode cX5_reachAll 7 = .ok (.if_icmp .ge 20, 3) := by decide +kernel
theorem dX5_reachAll_10 : decode cX5_reachAll 10 = .ok (.aload_n 0, 1) := by decide +kernel
theorem dX5_reachAll_11 : decode cX5_reachAll 11 = .ok (.aload_n 1, 1) := by decide +kernel
theorem dX5_reachAll_12 : decode cX5_reachAll 12 = .ok (.aload_n 2, 1) := by decide +kernel
theorem dX5_reachAll_13 : decode cX5_reachAll 13 = .ok (.iload_n 3, 1) := by decide +kernel
theorem dX5_reachAll_14 : decode cX5_reachAll 14 = .ok (.iaload, 1) := by decide +kernel
theorem dX5_reachAll_15 : decode cX5_reachAll 15 = .ok (.iload_n 3, 1) := by decide +kernel
theorem dX5_reachAll_16 : decode cX5_reachAll 16 = .ok (.bipush 20, 2) := by decide +kernel
theorem dX5_reachAll_18 : decode cX5_reachAll 18 = .ok (.invokevirtual 62, 3) := by decide +kernel
theorem dX5_reachAll_21 : decode cX5_reachAll 21 = .ok (.iinc 3 1, 3) := by decide +kernel
theorem dX5_reachAll_24 : decode cX5_reachAll 24 = .ok (.goto (-22), 3) := by decide +kernel
theorem dX5_reachAll_27 : decode cX5_reachAll 27 = .ok (.return_, 1) := by decide +kernel
theorem dX5_reach_0 : decode cX5_reach 0 = .ok (.aload_n 0, 1) := by decide +kernel
theorem dX5_reach_1 : decode cX5_reach 1 = .ok (.getfield 26, 3) := by decide +kernel
theorem dX5_reach_4 : decode cX5_reach 4 = .ok (.iload_n 3, 1) := by decide +kernel
theorem dX5_reach_5 : decode cX5_reach 5 = .ok (.iconst 0, 1) := by decide +kernel
theorem dX5_reach_6 : decode cX5_reach 6 = .ok (.iastore, 1) := by decide +kernel
theorem dX5_reach_7 : decode cX5_reach 7 = .ok (.aload_n 1, 1) := by decide +kernel
theorem dX5_reach_8 : decode cX5_reach 8 = .ok (.aload_n 1, 1) := by decide +kernel
theorem dX5_reach_9 : decode cX5_reach 9 = .ok (.getfield 76, 3) := by decide +kernel
theorem dX5_reach_12 : decode cX5_reach 12 = .ok (.iload_n 3, 1) := by decide +kernel
theorem dX5_reach_13 : decode cX5_reach 13 = .ok (.iaload, 1) := by decide +kernel
theorem dX5_reach_14 : decode cX5_reach 14 = .ok (.invokestatic 79, 3) := by decide +kernel
theorem dX5_reach_17 : decode cX5_reach 17 = .ok (.ifCond .ne 4, 3) := by decide +kernel
theorem dX5_reach_20 : decode cX5_reach 20 = .ok (.return_, 1) := by decide +kernel
theorem dX5_reach_21 : decode cX5_reach 21 = .ok (.iload_n 2, 1) := by decide +kernel
theorem dX5_reach_22 : decode cX5_reach 22 = .ok (.iload 4, 2) := by decide +kernel
theorem dX5_reach_24 : decode cX5_reach 24 = .ok (.isub, 1) := by decide +kernel
theorem dX5_reach_25 : decode cX5_reach 25 = .ok (.invokestatic 39, 3) := by decide +kernel
theorem dX5_reach_28 : decode cX5_reach 28 = .ok (.istore 5, 2) := by decide +kernel
theorem dX5_reach_30 : decode cX5_reach 30 = .ok (.iload 5, 2) := by decide +kernel
theorem dX5_reach_32 : decode cX5_reach 32 = .ok (.iload_n 2, 1) := by decide +kernel
theorem dX5_reach_33 : decode cX5_reach 33 = .ok (.iload 4, 2) := by decide +kernel
theorem dX5_reach_35 : decode cX5_reach 35 = .ok (.iadd, 1) := by decide +kernel
theorem dX5_reach_36 : decode cX5_reach 36 = .ok (.invokestatic 39, 3) := by decide +kernel
theorem dX5_reach_39 : decode cX5_reach 39 = .ok (.if_icmp .gt 24, 3) := by decide +kernel
theorem dX5_reach_42 : decode cX5_reach 42 = .ok (.aload_n 0, 1) := by decide +kernel
theorem dX5_reach_43 : decode cX5_reach 43 = .ok (.iload_n 3, 1) := by decide +kernel
theorem dX5_reach_44 : decode cX5_reach 44 = .ok (.aload_n 0, 1) := by decide +kernel
theorem dX5_reach_45 : decode cX5_reach 45 = .ok (.getfield 18, 3) := by decide +kernel
theorem dX5_reach_48 : decode cX5_reach 48 = .ok (.iload 5, 2) := by decide +kernel
theorem dX5_reach_50 : decode cX5_reach 50 = .ok (.invokestatic 83, 3) := by decide +kernel
theorem dX5_reach_53 : decode cX5_reach 53 = .ok (.iaload, 1) := by decide +kernel
theorem dX5_reach_54 : decode cX5_reach 54 = .ok (.invokevirtual 88, 3) := by decide +kernel
theorem dX5_reach_57 : decode cX5_reach 57 = .ok (.iinc 5 1, 3) := by decide +kernel
theorem dX5_reach_60 : decode cX5_reach 60 = .ok (.goto (-30), 3) := by decide +kernel
theorem dX5_reach_63 : decode cX5_reach 63 = .ok (.return_, 1) := by decide +kernel
theorem dX5_addReached_0 : decode cX5_addReached 0 = .ok (.iconst 0, 1) := by decide +kernel
theorem dX5_addReached_1 : decode cX5_addReached 1 = .ok (.istore_n 3, 1) := by decide +kernel
theorem dX5_addReached_2 : decode cX5_addReached 2 = .ok (.iload_n 3, 1) := by decide +kernel
theorem dX5_addReached_3 : decode cX5_addReached 3 = .ok (.aload_n 0, 1) := by decide +kernel
theorem dX5_addReached_4 : decode cX5_addReached 4 = .ok (.getfield 26, 3) := by decide +kernel
theorem dX5_addReached_7 : decode cX5_addReached 7 = .ok (.iload_n 1, 1) := by decide +kernel
theorem dX5_addReached_8 : decode cX5_addReached 8 = .ok (.iaload, 1) := by decide +kernel
theorem dX5_addReached_9 : decode cX5_addReached 9 = .ok (.if_icmp .ge 22, 3) := by decide +kernel
theorem dX5_addReached_12 : decode cX5_addReached 12 = .ok (.aload_n 0, 1) := by decide +kernel
theorem dX5_addReached_13 : decode cX5_addReached 13 = .ok (.getfield 23, 3) := by decide +kernel
theorem dX5_addReached_16 : decode cX5_addReached 16 = .ok (.iload_n 1, 1) := by decide +kernel
theorem dX5_addReached_17 : decode cX5_addReached 17 = .ok (.aaload, 1) := by decide +kernel
theorem dX5_addReached_18 : decode cX5_addReached 18 = .ok (.iload_n 3, 1) := by decide +kernel
theorem dX5_addReached_19 : decode cX5_addReached 19 = .ok (.iaload, 1) := by decide +kernel
theorem dX5_addReached_20 : decode cX5_addReached 20 = .ok (.iload_n 2, 1) := by decide +kernel
theorem dX5_addReached_21 : decode cX5_addReached 21 = .ok (.if_icmp .ne 4, 3) := by decide +kernel
theorem dX5_addReached_24 : decode cX5_addReached 24 = .ok (.return_, 1) := by decide +kernel
theorem dX5_addReached_25 : decode cX5_addReached 25 = .ok (.iinc 3 1, 3) := by decide +kernel
theorem dX5_addReached_28 : decode cX5_addReached 28 = .ok (.goto (-26), 3) := by decide +kernel
theorem dX5_addReached_31 : decode cX5_addReached 31 = .ok (.aload_n 0, 1) := by decide +kernel
theorem dX5_addReached_32 : decode cX5_addReached 32 = .ok (.getfield 26, 3) := by decide +kernel
theorem dX5_addReached_35 : decode cX5_addReached 35 = .ok (.iload_n 1, 1) := by decide +kernel
theorem dX5_addReached_36 : decode cX5_addReached 36 = .ok (.iaload, 1) := by decide +kernel
theorem dX5_addReached_37 : decode cX5_addReached 37 = .ok (.bipush 40, 2) := by decide +kernel
theorem dX5_addReached_39 : decode cX5_addReached 39 = .ok (.if_icmp .gt 27, 3) := by decide +kernel
theorem dX5_addReached_42 : decode cX5_addReached 42 = .ok (.aload_n 0, 1) := by decide +kernel
theorem dX5_addReached_43 : decode cX5_addReached 43 = .ok (.getfield 23, 3) := by decide +kernel
theorem dX5_addReached_46 : decode cX5_addReached 46 = .ok (.iload_n 1, 1) := by decide +kernel
theorem dX5_addReached_47 : decode cX5_addReached 47 = .ok (.aaload, 1) := by decide +kernel
theorem dX5_addReached_48 : decode cX5_addReached 48 = .ok (.aload_n 0, 1) := by decide +kernel
theorem dX5_addReached_49 : decode cX5_addReached 49 = .ok (.getfield 26, 3) := by decide +kernel
theorem dX5_addReached_52 : decode cX5_addReached 52 = .ok (.iload_n 1, 1) := by decide +kernel
theorem dX5_addReached_53 : decode cX5_addReached 53 = .ok (.iaload, 1) := by decide +kernel
theorem dX5_addReached_54 : decode cX5_addReached 54 = .ok (.iload_n 2, 1) := by decide +kernel
theorem dX5_addReached_55 : decode cX5_addReached 55 = .ok (.iastore, 1) := by decide +kernel
theorem dX5_addReached_56 : decode cX5_addReached 56 = .ok (.aload_n 0, 1) := by decide +kernel
theorem dX5_addReached_57 : decode cX5_addReached 57 = .ok (.getfield 26, 3) := by decide +kernel
theorem dX5_addReached_60 : decode cX5_addReached 60 = .ok (.iload_n 1, 1) := by decide +kernel
theorem dX5_addReached_61 : decode cX5_addReached 61 = .ok (.dup2, 1) := by decide +kernel
theorem dX5_addReached_62 : decode cX5_addReached 62 = .ok (.iaload, 1) := by decide +kernel
theorem dX5_addReached_63 : decode cX5_addReached 63 = .ok (.iconst 1, 1) := by decide +kernel
theorem dX5_addReached_64 : decode cX5_addReached 64 = .ok (.iadd, 1) := by decide +kernel
theorem dX5_addReached_65 : decode cX5_addReached 65 = .ok (.iastore, 1) := by decide +kernel
theorem dX5_addReached_66 : decode cX5_addReached 66 = .ok (.return_, 1) := by decide +kernel
theorem dX5_isEntered_0 : decode cX5_isEntered 0 = .ok (.iconst 0, 1) := by decide +kernel
theorem dX5_isEntered_1 : decode cX5_isEntered 1 = .ok (.istore_n 2, 1) := by decide +kernel
theorem dX5_isEntered_2 : decode cX5_isEntered 2 = .ok (.iload_n 2, 1) := by decide +kernel
theorem dX5_isEntered_3 : decode cX5_isEntered 3 = .ok (.aload_n 0, 1) := by decide +kernel
theorem dX5_isEntered_4 : decode cX5_isEntered 4 = .ok (.getfield 92, 3) := by decide +kernel
theorem dX5_isEntered_7 : decode cX5_isEntered 7 = .ok (.if_icmp .ge 21, 3) := by decide +kernel
theorem dX5_isEntered_10 : decode cX5_isEntered 10 = .ok (.aload_n 0, 1) := by decide +kernel
theorem dX5_isEntered_11 : decode cX5_isEntered 11 = .ok (.getfield 95, 3) := by decide +kernel
theorem dX5_isEntered_14 : decode cX5_isEntered 14 = .ok (.iload_n 2, 1) := by decide +kernel
theorem dX5_isEntered_15 : decode cX5_isEntered 15 = .ok (.iaload, 1) := by decide +kernel
theorem dX5_isEntered_16 : decode cX5_isEntered 16 = .ok (.iload_n 1, 1) := by decide +kernel
theorem dX5_isEntered_17 : decode cX5_isEntered 17 = .ok (.if_icmp .ne 5, 3) := by decide +kernel
theorem dX5_isEntered_20 : decode cX5_isEntered 20 = .ok (.iconst 1, 1) := by decide +kernel
theorem dX5_isEntered_21 : decode cX5_isEntered 21 = .ok (.ireturn, 1) := by decide +kernel
theorem dX5_isEntered_22 : decode cX5_isEntered 22 = .ok (.iinc 2 1, 3) := by decide +kernel
theorem dX5_isEntered_25 : decode cX5_isEntered 25 = .ok (.goto (-23), 3) := by decide +kernel
theorem dX5_isEntered_28 : decode cX5_isEntered 28 = .ok (.iconst 0, 1) := by decide +kernel
theorem dX5_isEntered_29 : decode cX5_isEntered 29 = .ok (.ireturn, 1) := by decide +kernel
theorem dX5_findAlike_0 : decode cX5_findAlike 0 = .ok (.iconst 0, 1) := by decide +kernel
theorem dX5_findAlike_1 : decode cX5_findAlike 1 = .ok (.istore_n 2, 1) := by decide +kernel
theorem dX5_findAlike_2 : decode cX5_findAlike 2 = .ok (.iload_n 2, 1) := by decide +kernel
theorem dX5_findAlike_3 : decode cX5_findAlike 3 = .ok (.bipush 40, 2) := by decide +kernel
theorem dX5_findAlike_5 : decode cX5_findAlike 5 = .ok (.if_icmp .gt 49, 3) := by decide +kernel
theorem dX5_findAlike_8 : decode cX5_findAlike 8 = .ok (.iconst 0, 1) := by decide +kernel
theorem dX5_findAlike_9 : decode cX5_findAlike 9 = .ok (.istore_n 3, 1) := by decide +kernel
theorem dX5_findAlike_10 : decode cX5_findAlike 10 = .ok (.iload_n 3, 1) := by decide +kernel
theorem dX5_findAlike_11 : decode cX5_findAlike 11 = .ok (.iload_n 2, 1) := by decide +kernel
theorem dX5_findAlike_12 : decode cX5_findAlike 12 = .ok (.if_icmp .ge 29, 3) := by decide +kernel
theorem dX5_findAlike_15 : decode cX5_findAlike 15 = .ok (.aload_n 0, 1) := by decide +kernel
theorem dX5_findAlike_16 : decode cX5_findAlike 16 = .ok (.getfield 18, 3) := by decide +kernel
theorem dX5_findAlike_19 : decode cX5_findAlike 19 = .ok (.iload_n 3, 1) := by decide +kernel
theorem dX5_findAlike_20 : decode cX5_findAlike 20 = .ok (.iaload, 1) := by decide +kernel
theorem dX5_findAlike_21 : decode cX5_findAlike 21 = .ok (.iload_n 3, 1) := by decide +kernel
theorem dX5_findAlike_22 : decode cX5_findAlike 22 = .ok (.if_icmp .ne 13, 3) := by decide +kernel
theorem dX5_findAlike_25 : decode cX5_findAlike 25 = .ok (.aload_n 0, 1) := by decide +kernel
theorem dX5_findAlike_26 : decode cX5_findAlike 26 = .ok (.aload_n 1, 1) := by decide +kernel
theorem dX5_findAlike_27 : decode cX5_findAlike 27 = .ok (.iload_n 3, 1) := by decide +kernel
theorem dX5_findAlike_28 : decode cX5_findAlike 28 = .ok (.iload_n 2, 1) := by decide +kernel
theorem dX5_findAlike_29 : decode cX5_findAlike 29 = .ok (.invokevirtual 98, 3) := by decide +kernel
theorem dX5_findAlike_32 : decode cX5_findAlike 32 = .ok (.ifCond .ne 9, 3) := by decide +kernel
theorem dX5_findAlike_35 : decode cX5_findAlike 35 = .ok (.iinc 3 1, 3) := by decide +kernel
theorem dX5_findAlike_38 : decode cX5_findAlike 38 = .ok (.goto (-28), 3) := by decide +kernel
theorem dX5_findAlike_41 : decode cX5_findAlike 41 = .ok (.aload_n 0, 1) := by decide +kernel
theorem dX5_findAlike_42 : decode cX5_findAlike 42 = .ok (.getfield 18, 3) := by decide +kernel
theorem dX5_findAlike_45 : decode cX5_findAlike 45 = .ok (.iload_n 2, 1) := by decide +kernel
theorem dX5_findAlike_46 : decode cX5_findAlike 46 = .ok (.iload_n 3, 1) := by decide +kernel
theorem dX5_findAlike_47 : decode cX5_findAlike 47 = .ok (.iastore, 1) := by decide +kernel
theorem dX5_findAlike_48 : decode cX5_findAlike 48 = .ok (.iinc 2 1, 3) := by decide +kernel
theorem dX5_findAlike_51 : decode cX5_findAlike 51 = .ok (.goto (-49), 3) := by decide +kernel
theorem dX5_findAlike_54 : decode cX5_findAlike 54 = .ok (.return_, 1) := by decide +kernel
theorem dX5_areAlike_0 : decode cX5_areAlike 0 = .ok (.iconst 0, 1) := by decide +kernel
theorem dX5_areAlike_1 : decode cX5_areAlike 1 = .ok (.istore 4, 2) := by decide +kernel
theorem dX5_areAlike_3 : decode cX5_areAlike 3 = .ok (.iload 4, 2) := by decide +kernel
theorem dX5_areAlike_5 : decode cX5_areAlike 5 = .ok (.aload_n 1, 1) := by decide +kernel
theorem dX5_areAlike_6 : decode cX5_areAlike 6 = .ok (.getfield 102, 3) := by decide +kernel
theorem dX5_areAlike_9 : decode cX5_areAlike 9 = .ok (.if_icmp .ge 90, 3) := by decide +kernel
theorem dX5_areAlike_12 : decode cX5_areAlike 12 = .ok (.aload_n 1, 1) := by decide +kernel
theorem dX5_areAlike_13 : decode cX5_areAlike 13 = .ok (.iload 4, 2) := by decide +kernel
theorem dX5_areAlike_15 : decode cX5_areAlike 15 = .ok (.iload_n 2, 1) := by decide +kernel
theorem dX5_areAlike_16 : decode cX5_areAlike 16 = .ok (.invokevirtual 105, 3) := by decide +kernel
theorem dX5_areAlike_19 : decode cX5_areAlike 19 = .ok (.invokestatic 83, 3) := by decide +kernel
theorem dX5_areAlike_22 : decode cX5_areAlike 22 = .ok (.istore 5, 2) := by decide +kernel
theorem dX5_areAlike_24 : decode cX5_areAlike 24 = .ok (.aload_n 1, 1) := by decide +kernel
theorem dX5_areAlike_25 : decode cX5_areAlike 25 = .ok (.iload 4, 2) := by decide +kernel
theorem dX5_areAlike_27 : decode cX5_areAlike 27 = .ok (.iload_n 3, 1) := by decide +kernel
theorem dX5_areAlike_28 : decode cX5_areAlike 28 = .ok (.invokevirtual 105, 3) := by decide +kernel
theorem dX5_areAlike_31 : decode cX5_areAlike 31 = .ok (.invokestatic 83, 3) := by decide +kernel
theorem dX5_areAlike_34 : decode cX5_areAlike 34 = .ok (.istore 6, 2) := by decide +kernel
theorem dX5_areAlike_36 : decode cX5_areAlike 36 = .ok (.iload 5, 2) := by decide +kernel
theorem dX5_areAlike_38 : decode cX5_areAlike 38 = .ok (.iload_n 2, 1) := by decide +kernel
theorem dX5_areAlike_39 : decode cX5_areAlike 39 = .ok (.if_icmp .ne 7, 3) := by decide +kernel
theorem dX5_areAlike_42 : decode cX5_areAlike 42 = .ok (.iconst 1, 1) := by decide +kernel
theorem dX5_areAlike_43 : decode cX5_areAlike 43 = .ok (.goto 4, 3) := by decide +kernel
theorem dX5_areAlike_46 : decode cX5_areAlike 46 = .ok (.iconst 0, 1) := by decide +kernel
theorem dX5_areAlike_47 : decode cX5_areAlike 47 = .ok (.istore 7, 2) := by decide +kernel
theorem dX5_areAlike_49 : decode cX5_areAlike 49 = .ok (.iload 6, 2) := by decide +kernel
theorem dX5_areAlike_51 : decode cX5_areAlike 51 = .ok (.iload_n 3, 1) := by decide +kernel
theorem dX5_areAlike_52 : decode cX5_areAlike 52 = .ok (.if_icmp .ne 7, 3) := by decide +kernel
theorem dX5_areAlike_55 : decode cX5_areAlike 55 = .ok (.iconst 1, 1) := by decide +kernel
theorem dX5_areAlike_56 : decode cX5_areAlike 56 = .ok (.goto 4, 3) := by decide +kernel
theorem dX5_areAlike_59 : decode cX5_areAlike 59 = .ok (.iconst 0, 1) := by decide +kernel
theorem dX5_areAlike_60 : decode cX5_areAlike 60 = .ok (.istore 8, 2) := by decide +kernel
theorem dX5_areAlike_62 : decode cX5_areAlike 62 = .ok (.iload 7, 2) := by decide +kernel
theorem dX5_areAlike_64 : decode cX5_areAlike 64 = .ok (.iload 8, 2) := by decide +kernel
theorem dX5_areAlike_66 : decode cX5_areAlike 66 = .ok (.if_icmp .ne 25, 3) := by decide +kernel
theorem dX5_areAlike_69 : decode cX5_areAlike 69 = .ok (.iload 8, 2) := by decide +kernel
theorem dX5_areAlike_71 : decode cX5_areAlike 71 = .ok (.ifCond .ne 22, 3) := by decide +kernel
theorem dX5_areAlike_74 : decode cX5_areAlike 74 = .ok (.aload_n 0, 1) := by decide +kernel
theorem dX5_areAlike_75 : decode cX5_areAlike 75 = .ok (.getfield 18, 3) := by decide +kernel
theorem dX5_areAlike_78 : decode cX5_areAlike 78 = .ok (.iload 5, 2) := by decide +kernel
theorem dX5_areAlike_80 : decode cX5_areAlike 80 = .ok (.iaload, 1) := by decide +kernel
theorem dX5_areAlike_81 : decode cX5_areAlike 81 = .ok (.aload_n 0, 1) := by decide +kernel
theorem dX5_areAlike_82 : decode cX5_areAlike 82 = .ok (.getfield 18, 3) := by decide +kernel
theorem dX5_areAlike_85 : decode cX5_areAlike 85 = .ok (.iload 6, 2) := by decide +kernel
theorem dX5_areAlike_87 : decode cX5_areAlike 87 = .ok (.iaload, 1) := by decide +kernel
theorem dX5_areAlike_88 : decode cX5_areAlike 88 = .ok (.if_icmp .eq 5, 3) := by decide +kernel
theorem dX5_areAlike_91 : decode cX5_areAlike 91 = .ok (.iconst 0, 1) := by decide +kernel
theorem dX5_areAlike_92 : decode cX5_areAlike 92 = .ok (.ireturn, 1) := by decide +kernel
theorem dX5_areAlike_93 : decode cX5_areAlike 93 = .ok (.iinc 4 1, 3) := by decide +kernel
theorem dX5_areAlike_96 : decode cX5_areAlike 96 = .ok (.goto (-93), 3) := by decide +kernel
theorem dX5_areAlike_99 : decode cX5_areAlike 99 = .ok (.iconst 1, 1) := by decide +kernel
theorem dX5_areAlike_100 : decode cX5_areAlike 100 = .ok (.ireturn, 1) := by decide +kernel
theorem dX6_init_0 : decode cX6_init 0 = .ok (.aload_n 0, 1) := by decide +kernel
theorem dX6_init_1 : decode cX6_init 1 = .ok (.invokespecial 3, 3) := by decide +kernel
theorem dX6_init_4 : decode cX6_init 4 = .ok (.aload_n 0, 1) := by decide +kernel
theorem dX6_init_5 : decode cX6_init 5 = .ok (.iconst 3, 1) := by decide +kernel
theorem dX6_init_6 : decode cX6_init 6 = .ok (.newarray .int, 2) := by decide +kernel
theorem dX6_init_8 : decode cX6_init 8 = .ok (.putfield 11, 3) := by decide +kernel
theorem dX6_init_11 : decode cX6_init 11 = .ok (.return_, 1) := by decide +kernel
theorem dX6_readAll_0 : decode cX6_readAll 0 = .ok (.aload_n 2, 1) := by decide +kernel
theorem dX6_readAll_1 : decode cX6_readAll 1 = .ok (.invokevirtual 15, 3) := by decide +kernel
theorem dX6_readAll_4 : decode cX6_readAll 4 = .ok (.aload_n 0, 1) := by decide +kernel
theorem dX6_readAll_5 : decode cX6_readAll 5 = .ok (.iconst 0, 1) := by decide +kernel
theorem dX6_readAll_6 : decode cX6_readAll 6 = .ok (.putfield 20, 3) := by decide +kernel
theorem dX6_readAll_9 : decode cX6_readAll 9 = .ok (.iconst 0, 1) := by decide +kernel
theorem dX6_readAll_10 : decode cX6_readAll 10 = .ok (.istore_n 3, 1) := by decide +kernel
theorem dX6_readAll_11 : decode cX6_readAll 11 = .ok (.iload_n 3, 1) := by decide +kernel
theorem dX6_readAll_12 : decode cX6_readAll 12 = .ok (.sipush 200, 3) := by decide +kernel
theorem dX6_readAll_15 : decode cX6_readAll 15 = .ok (.if_icmp .ge 54, 3) := by decide +kernel
theorem dX6_readAll_18 : decode cX6_readAll 18 = .ok (.aload_n 0, 1) := by decide +kernel
theorem dX6_readAll_19 : decode cX6_readAll 19 = .ok (.getfield 20, 3) := by decide +kernel
theorem dX6_readAll_22 : decode cX6_readAll 22 = .ok (.aload_n 1, 1) := by decide +kernel
theorem dX6_readAll_23 : decode cX6_readAll 23 = .ok (.getfield 24, 3) := by decide +kernel
theorem dX6_readAll_26 : decode cX6_readAll 26 = .ok (.if_icmp .ge 43, 3) := by decide +kernel
theorem dX6_readAll_29 : decode cX6_readAll 29 = .ok (.aload_n 0, 1) := by decide +kernel
theorem dX6_readAll_30 : decode cX6_readAll 30 = .ok (.getfield 20, 3) := by decide +kernel
theorem dX6_readAll_33 : decode cX6_readAll 33 = .ok (.istore 4, 2) := by decide +kernel
theorem dX6_readAll_35 : decode cX6_readAll 35 = .ok (.aload_n 0, 1) := by decide +kernel
theorem dX6_readAll_36 : decode cX6_readAll 36 = .ok (.aload_n 1, 1) := by decide +kernel
theorem dX6_readAll_37 : decode cX6_readAll 37 = .ok (.invokevirtual 29, 3) := by decide +kernel
theorem dX6_readAll_40 : decode cX6_readAll 40 = .ok (.ifCond .eq 20, 3) := by decide +kernel
theorem dX6_readAll_43 : decode cX6_readAll 43 = .ok (.aload_n 2, 1) := by decide +kernel
theorem dX6_readAll_44 : decode cX6_readAll 44 = .ok (.aload_n 1, 1) := by decide +kernel
theorem dX6_readAll_45 : decode cX6_readAll 45 = .ok (.iload 4, 2) := by decide +kernel
theorem dX6_readAll_47 : decode cX6_readAll 47 = .ok (.invokevirtual 33, 3) := by decide +kernel
theorem dX6_readAll_50 : decode cX6_readAll 50 = .ok (.aload_n 0, 1) := by decide +kernel
theorem dX6_readAll_51 : decode cX6_readAll 51 = .ok (.getfield 11, 3) := by decide +kernel
theorem dX6_readAll_54 : decode cX6_readAll 54 = .ok (.invokevirtual 37, 3) := by decide +kernel
theorem dX6_readAll_57 : decode cX6_readAll 57 = .ok (.ifCond .ne 6, 3) := by decide +kernel
theorem dX6_readAll_60 : decode cX6_readAll 60 = .ok (.iload 4, 2) := by decide +kernel
theorem dX6_readAll_62 : decode cX6_readAll 62 = .ok (.ireturn, 1) := by decide +kernel
theorem dX6_readAll_63 : decode cX6_readAll 63 = .ok (.iinc 3 1, 3) := by decide +kernel
theorem dX6_readAll_66 : decode cX6_readAll 66 = .ok (.goto (-55), 3) := by decide +kernel
theorem dX6_readAll_69 : decode cX6_readAll 69 = .ok (.bipush (-4), 2) := by decide +kernel
theorem dX6_readAll_71 : decode cX6_readAll 71 = .ok (.ireturn, 1) := by decide +kernel
theorem dX6_readItem_0 : decode cX6_readItem 0 = .ok (.aload_n 1, 1) := by decide +kernel
theorem dX6_readItem_1 : decode cX6_readItem 1 = .ok (.aload_n 0, 1) := by decide +kernel
theorem dX6_readItem_2 : decode cX6_readItem 2 = .ok (.getfield 20, 3) := by decide +kernel
theorem dX6_readItem_5 : decode cX6_readItem 5 = .ok (.invokevirtual 33, 3) := by decide +kernel
theorem dX6_readItem_8 : decode cX6_readItem 8 = .ok (.invokestatic 41, 3) := by decide +kernel
theorem dX6_readItem_11 : decode cX6_readItem 11 = .ok (.istore_n 2, 1) := by decide +kernel
theorem dX6_readItem_12 : decode cX6_readItem 12 = .ok (.aload_n 0, 1) := by decide +kernel
theorem dX6_readItem_13 : decode cX6_readItem 13 = .ok (.dup, 1) := by decide +kernel
theorem dX6_readItem_14 : decode cX6_readItem 14 = .ok (.getfield 20, 3) := by decide +kernel
theorem dX6_readItem_17 : decode cX6_readItem 17 = .ok (.iconst 1, 1) := by decide +kernel
theorem dX6_readItem_18 : decode cX6_readItem 18 = .ok (.iadd, 1) := by decide +kernel
theorem dX6_readItem_19 : decode cX6_readItem 19 = .ok (.putfield 20, 3) := by decide +kernel
theorem dX6_readItem_22 : decode cX6_readItem 22 = .ok (.iconst 0, 1) := by decide +kernel
theorem dX6_readItem_23 : decode cX6_readItem 23 = .ok (.istore_n 3, 1) := by decide +kernel
theorem dX6_readItem_24 : decode cX6_readItem 24 = .ok (.iload_n 3, 1) := by decide +kernel
theorem dX6_readItem_25 : decode cX6_readItem 25 = .ok (.iload_n 2, 1) := by decide +kernel
theorem dX6_readItem_26 : decode cX6_readItem 26 = .ok (.if_icmp .ge 70, 3) := by decide +kernel
theorem dX6_readItem_29 : decode cX6_readItem 29 = .ok (.iload_n 3, 1) := by decide +kernel
theorem dX6_readItem_30 : decode cX6_readItem 30 = .ok (.iload_n 2, 1) := by decide +kernel
theorem dX6_readItem_31 : decode cX6_readItem 31 = .ok (.iconst 1, 1) := by decide +kernel
theorem dX6_readItem_32 : decode cX6_readItem 32 = .ok (.isub, 1) := by decide +kernel
theorem dX6_readItem_33 : decode cX6_readItem 33 = .ok (.if_icmp .ge 8, 3) := by decide +kernel
theorem dX6_readItem_36 : decode cX6_readItem 36 = .ok (.bipush 44, 2) := by decide +kernel
theorem dX6_readItem_38 : decode cX6_readItem 38 = .ok (.goto 5, 3) := by decide +kernel
theorem dX6_readItem_41 : decode cX6_readItem 41 = .ok (.bipush 59, 2) := by decide +kernel
theorem dX6_readItem_43 : decode cX6_readItem 43 = .ok (.istore 4, 2) := by decide +kernel
theorem dX6_readItem_45 : decode cX6_readItem 45 = .ok (.aload_n 0, 1) := by decide +kernel
theorem dX6_readItem_46 : decode cX6_readItem 46 = .ok (.getfield 11, 3) := by decide +kernel
theorem dX6_readItem_49 : decode cX6_readItem 49 = .ok (.iload_n 3, 1) := by decide +kernel
theorem dX6_readItem_50 : decode cX6_readItem 50 = .ok (.aload_n 0, 1) := by decide +kernel
theorem dX6_readItem_51 : decode cX6_readItem 51 = .ok (.aload_n 1, 1) := by decide +kernel
theorem dX6_readItem_52 : decode cX6_readItem 52 = .ok (.invokevirtual 44, 3) := by decide +kernel
theorem dX6_readItem_55 : decode cX6_readItem 55 = .ok (.iastore, 1) := by decide +kernel
theorem dX6_readItem_56 : decode cX6_readItem 56 = .ok (.aload_n 0, 1) := by decide +kernel
theorem dX6_readItem_57 : decode cX6_readItem 57 = .ok (.getfield 11, 3) := by decide +kernel
theorem dX6_readItem_60 : decode cX6_readItem 60 = .ok (.iload_n 3, 1) := by decide +kernel
theorem dX6_readItem_61 : decode cX6_readItem 61 = .ok (.iaload, 1) := by decide +kernel
theorem dX6_readItem_62 : decode cX6_readItem 62 = .ok (.ifCond .lt 16, 3) := by decide +kernel
theorem dX6_readItem_65 : decode cX6_readItem 65 = .ok (.aload_n 1, 1) := by decide +kernel
theorem dX6_readItem_66 : decode cX6_readItem 66 = .ok (.aload_n 0, 1) := by decide +kernel
theorem dX6_readItem_67 : decode cX6_readItem 67 = .ok (.getfield 20, 3) := by decide +kernel
theorem dX6_readItem_70 : decode cX6_readItem 70 = .ok (.invokevirtual 33, 3) := by decide +kernel
theorem dX6_readItem_73 : decode cX6_readItem 73 = .ok (.iload 4, 2) := by decide +kernel
theorem dX6_readItem_75 : decode cX6_readItem 75 = .ok (.if_icmp .eq 5, 3) := by decide +kernel
theorem dX6_readItem_78 : decode cX6_readItem 78 = .ok (.iconst 0, 1) := by decide +kernel
theorem dX6_readItem_79 : decode cX6_readItem 79 = .ok (.ireturn, 1) := by decide +kernel
theorem dX6_readItem_80 : decode cX6_readItem 80 = .ok (.aload_n 0, 1) := by decide +kernel
theorem dX6_readItem_81 : decode cX6_readItem 81 = .ok (.dup, 1) := by decide +kernel
theorem dX6_readItem_82 : decode cX6_readItem 82 = .ok (.getfield 20, 3) := by decide +kernel
theorem dX6_readItem_85 : decode cX6_readItem 85 = .ok (.iconst 1, 1) := by decide +kernel
theorem dX6_readItem_86 : decode cX6_readItem 86 = .ok (.iadd, 1) := by decide +kernel
theorem dX6_readItem_87 : decode cX6_readItem 87 = .ok (.putfield 20, 3) := by decide +kernel
theorem dX6_readItem_90 : decode cX6_readItem 90 = .ok (.iinc 3 1, 3) := by decide +kernel
theorem dX6_readItem_93 : decode cX6_readItem 93 = .ok (.goto (-69), 3) := by decide +kernel
theorem dX6_readItem_96 : decode cX6_readItem 96 = .ok (.iload_n 2, 1) := by decide +kernel
theorem dX6_readItem_97 : decode cX6_readItem 97 = .ok (.ifCond .le 7, 3) := by decide +kernel
theorem dX6_readItem_100 : decode cX6_readItem 100 = .ok (.iconst 1, 1) := by decide +kernel
theorem dX6_readItem_101 : decode cX6_readItem 101 = .ok (.goto 4, 3) := by decide +kernel
theorem dX6_readItem_104 : decode cX6_readItem 104 = .ok (.iconst 0, 1) := by decide +kernel
theorem dX6_readItem_105 : decode cX6_readItem 105 = .ok (.ireturn, 1) := by decide +kernel
theorem dX6_numbersBehind_0 : decode cX6_numbersBehind 0 = .ok (.iload_n 0, 1) := by decide +kernel
theorem dX6_numbersBehind_1 : decode cX6_numbersBehind 1 = .ok (.lookupswitch 63 #[(99, 59), (102, 59), (110, 61), (112, 59), (116, 59), (119, 61)], 59) := by decide +kernel
theorem dX6_numbersBehind_60 : decode cX6_numbersBehind 60 = .ok (.iconst 2, 1) := by decide +kernel
theorem dX6_numbersBehind_61 : decode cX6_numbersBehind 61 = .ok (.ireturn, 1) := by decide +kernel
theorem dX6_numbersBehind_62 : decode cX6_numbersBehind 62 = .ok (.iconst 3, 1) := by decide +kernel
theorem dX6_numbersBehind_63 : decode cX6_numbersBehind 63 = .ok (.ireturn, 1) := by decide +kernel
theorem dX6_numbersBehind_64 : decode cX6_numbersBehind 64 = .ok (.iconst 0, 1) := by decide +kernel
theorem dX6_numbersBehind_65 : decode cX6_numbersBehind 65 = .ok (.ireturn, 1) := by decide +kernel
theorem dX6_readNumber_0 : decode cX6_readNumber 0 = .ok (.aload_n 1, 1) := by decide +kernel
theorem dX6_readNumber_1 : decode cX6_readNumber 1 = .ok (.aload_n 0, 1) := by decide +kernel
theorem dX6_readNumber_2 : decode cX6_readNumber 2 = .ok (.getfield 20, 3) := by decide +kernel
theorem dX6_readNumber_5 : decode cX6_readNumber 5 = .ok (.invokestatic 48, 3) := by decide +kernel
theorem dX6_readNumber_8 : decode cX6_readNumber 8 = .ok (.istore_n 2, 1) := by decide +kernel
theorem dX6_readNumber_9 : decode cX6_readNumber 9 = .ok (.iload_n 2, 1) := by decide +kernel
theorem dX6_readNumber_10 : decode cX6_readNumber 10 = .ok (.bipush (-4), 2) := by decide +kernel
theorem dX6_readNumber_12 : decode cX6_readNumber 12 = .ok (.if_icmp .ne 6, 3) := by decide +kernel
theorem dX6_readNumber_15 : decode cX6_readNumber 15 = .ok (.bipush (-4), 2) := by decide +kernel
theorem dX6_readNumber_17 : decode cX6_readNumber 17 = .ok (.ireturn, 1) := by decide +kernel
theorem dX6_readNumber_18 : decode cX6_readNumber 18 = .ok (.aload_n 0, 1) := by decide +kernel
theorem dX6_readNumber_19 : decode cX6_readNumber 19 = .ok (.dup, 1) := by decide +kernel
theorem dX6_readNumber_20 : decode cX6_readNumber 20 = .ok (.getfield 20, 3) := by decide +kernel
theorem dX6_readNumber_23 : decode cX6_readNumber 23 = .ok (.iconst 1, 1) := by decide +kernel
theorem dX6_readNumber_24 : decode cX6_readNumber 24 = .ok (.iadd, 1) := by decide +kernel
theorem dX6_readNumber_25 : decode cX6_readNumber 25 = .ok (.putfield 20, 3) := by decide +kernel
theorem dX6_readNumber_28 : decode cX6_readNumber 28 = .ok (.aload_n 1, 1) := by decide +kernel
theorem dX6_readNumber_29 : decode cX6_readNumber 29 = .ok (.aload_n 0, 1) := by decide +kernel
theorem dX6_readNumber_30 : decode cX6_readNumber 30 = .ok (.getfield 20, 3) := by decide +kernel
theorem dX6_readNumber_33 : decode cX6_readNumber 33 = .ok (.invokestatic 48, 3) := by decide +kernel
theorem dX6_readNumber_36 : decode cX6_readNumber 36 = .ok (.istore_n 3, 1) := by decide +kernel
theorem dX6_readNumber_37 : decode cX6_readNumber 37 = .ok (.iload_n 3, 1) := by decide +kernel
theorem dX6_readNumber_38 : decode cX6_readNumber 38 = .ok (.bipush (-4), 2) := by decide +kernel
theorem dX6_readNumber_40 : decode cX6_readNumber 40 = .ok (.if_icmp .ne 5, 3) := by decide +kernel
theorem dX6_readNumber_43 : decode cX6_readNumber 43 = .ok (.iload_n 2, 1) := by decide +kernel
theorem dX6_readNumber_44 : decode cX6_readNumber 44 = .ok (.ireturn, 1) := by decide +kernel
theorem dX6_readNumber_45 : decode cX6_readNumber 45 = .ok (.aload_n 0, 1) := by decide +kernel
theorem dX6_readNumber_46 : decode cX6_readNumber 46 = .ok (.dup, 1) := by decide +kernel
theorem dX6_readNumber_47 : decode cX6_readNumber 47 = .ok (.getfield 20, 3) := by decide +kernel
theorem dX6_readNumber_50 : decode cX6_readNumber 50 = .ok (.iconst 1, 1) := by decide +kernel
theorem dX6_readNumber_51 : decode cX6_readNumber 51 = .ok (.iadd, 1) := by decide +kernel
theorem dX6_readNumber_52 : decode cX6_readNumber 52 = .ok (.putfield 20, 3) := by decide +kernel
theorem dX6_readNumber_55 : decode cX6_readNumber 55 = .ok (.bipush 10, 2) := by decide +kernel
theorem dX6_readNumber_57 : decode cX6_readNumber 57 = .ok (.iload_n 2, 1) := by decide +kernel
theorem dX6_readNumber_58 : decode cX6_readNumber 58 = .ok (.imul, 1) := by decide +kernel
theorem dX6_readNumber_59 : decode cX6_readNumber 59 = .ok (.iload_n 3, 1) := by decide +kernel
theorem dX6_readNumber_60 : decode cX6_readNumber 60 = .ok (.iadd, 1) := by decide +kernel
theorem dX6_readNumber_61 : decode cX6_readNumber 61 = .ok (.ireturn, 1) := by decide +kernel
theorem dX6_figureAt_0 : decode cX6_figureAt 0 = .ok (.aload_n 0, 1) := by decide +kernel
theorem dX6_figureAt_1 : decode cX6_figureAt 1 = .ok (.iload_n 1, 1) := by decide +kernel
theorem dX6_figureAt_2 : decode cX6_figureAt 2 = .ok (.invokevirtual 33, 3) := by decide +kernel
theorem dX6_figureAt_5 : decode cX6_figureAt 5 = .ok (.istore_n 2, 1) := by decide +kernel
theorem dX6_figureAt_6 : decode cX6_figureAt 6 = .ok (.iload_n 2, 1) := by decide +kernel
theorem dX6_figureAt_7 : decode cX6_figureAt 7 = .ok (.bipush 48, 2) := by decide +kernel
theorem dX6_figureAt_9 : decode cX6_figureAt 9 = .ok (.if_icmp .lt 16, 3) := by decide +kernel
theorem dX6_figureAt_12 : decode cX6_figureAt 12 = .ok (.iload_n 2, 1) := by decide +kernel
theorem dX6_figureAt_13 : decode cX6_figureAt 13 = .ok (.bipush 57, 2) := by decide +kernel
theorem dX6_figureAt_15 : decode cX6_figureAt 15 = .ok (.if_icmp .gt 10, 3) := by decide +kernel
theorem dX6_figureAt_18 : decode cX6_figureAt 18 = .ok (.iload_n 2, 1) := by decide +kernel
theorem dX6_figureAt_19 : decode cX6_figureAt 19 = .ok (.bipush 48, 2) := by decide +kernel
theorem dX6_figureAt_21 : decode cX6_figureAt 21 = .ok (.isub, 1) := by decide +kernel
theorem dX6_figureAt_22 : decode cX6_figureAt 22 = .ok (.goto 5, 3) := by decide +kernel
theorem dX6_figureAt_25 : decode cX6_figureAt 25 = .ok (.bipush (-4), 2) := by decide +kernel
theorem dX6_figureAt_27 : decode cX6_figureAt 27 = .ok (.ireturn, 1) := by decide +kernel
theorem dX7_init_0 : decode cX7_init 0 = .ok (.aload_n 0, 1) := by decide +kernel
theorem dX7_init_1 : decode cX7_init 1 = .ok (.invokespecial 1, 3) := by decide +kernel
theorem dX7_init_4 : decode cX7_init 4 = .ok (.aload_n 0, 1) := by decide +kernel
theorem dX7_init_5 : decode cX7_init 5 = .ok (.iconst 1, 1) := by decide +kernel
theorem dX7_init_6 : decode cX7_init 6 = .ok (.iload_n 1, 1) := by decide +kernel
theorem dX7_init_7 : decode cX7_init 7 = .ok (.invokestatic 7, 3) := by decide +kernel
theorem dX7_init_10 : decode cX7_init 10 = .ok (.anewarray 13, 3) := by decide +kernel
theorem dX7_init_13 : decode cX7_init 13 = .ok (.putfield 15, 3) := by decide +kernel
theorem dX7_init_16 : decode cX7_init 16 = .ok (.iconst 0, 1) := by decide +kernel
theorem dX7_init_17 : decode cX7_init 17 = .ok (.istore_n 2, 1) := by decide +kernel
theorem dX7_init_18 : decode cX7_init 18 = .ok (.iload_n 2, 1) := by decide +kernel
theorem dX7_init_19 : decode cX7_init 19 = .ok (.aload_n 0, 1) := by decide +kernel
theorem dX7_init_20 : decode cX7_init 20 = .ok (.getfield 15, 3) := by decide +kernel
theorem dX7_init_23 : decode cX7_init 23 = .ok (.arraylength, 1) := by decide +kernel
theorem dX7_init_24 : decode cX7_init 24 = .ok (.if_icmp .ge 22, 3) := by decide +kernel
theorem dX7_init_27 : decode cX7_init 27 = .ok (.aload_n 0, 1) := by decide +kernel
theorem dX7_init_28 : decode cX7_init 28 = .ok (.getfield 15, 3) := by decide +kernel
theorem dX7_init_31 : decode cX7_init 31 = .ok (.iload_n 2, 1) := by decide +kernel
theorem dX7_init_32 : decode cX7_init 32 = .ok (.new 13, 3) := by decide +kernel
theorem dX7_init_35 : decode cX7_init 35 = .ok (.dup, 1) := by decide +kernel
theorem dX7_init_36 : decode cX7_init 36 = .ok (.invokespecial 21, 3) := by decide +kernel
theorem dX7_init_39 : decode cX7_init 39 = .ok (.aastore, 1) := by decide +kernel
theorem dX7_init_40 : decode cX7_init 40 = .ok (.iinc 2 1, 3) := by decide +kernel
theorem dX7_init_43 : decode cX7_init 43 = .ok (.goto (-25), 3) := by decide +kernel
theorem dX7_init_46 : decode cX7_init 46 = .ok (.return_, 1) := by decide +kernel
theorem dX7_put_0 : decode cX7_put 0 = .ok (.aload_n 0, 1) := by decide +kernel
theorem dX7_put_1 : decode cX7_put 1 = .ok (.getfield 22, 3) := by decide +kernel
theorem dX7_put_4 : decode cX7_put 4 = .ok (.aload_n 0, 1) := by decide +kernel
theorem dX7_put_5 : decode cX7_put 5 = .ok (.getfield 15, 3) := by decide +kernel
theorem dX7_put_8 : decode cX7_put 8 = .ok (.arraylength, 1) := by decide +kernel
theorem dX7_put_9 : decode cX7_put 9 = .ok (.if_icmp .lt 67, 3) := by decide +kernel
theorem dX7_put_12 : decode cX7_put 12 = .ok (.aload_n 0, 1) := by decide +kernel
theorem dX7_put_13 : decode cX7_put 13 = .ok (.getfield 15, 3) := by decide +kernel
theorem dX7_put_16 : decode cX7_put 16 = .ok (.iconst 0, 1) := by decide +kernel
theorem dX7_put_17 : decode cX7_put 17 = .ok (.aaload, 1) := by decide +kernel
theorem dX7_put_18 : decode cX7_put 18 = .ok (.astore_n 2, 1) := by decide +kernel
theorem dX7_put_19 : decode cX7_put 19 = .ok (.iconst 0, 1) := by decide +kernel
theorem dX7_put_20 : decode cX7_put 20 = .ok (.istore_n 3, 1) := by decide +kernel
theorem dX7_put_21 : decode cX7_put 21 = .ok (.iload_n 3, 1) := by decide +kernel
theorem dX7_put_22 : decode cX7_put 22 = .ok (.aload_n 0, 1) := by decide +kernel
theorem dX7_put_23 : decode cX7_put 23 = .ok (.getfield 15, 3) := by decide +kernel
theorem dX7_put_26 : decode cX7_put 26 = .ok (.arraylength, 1) := by decide +kernel
theorem dX7_put_27 : decode cX7_put 27 = .ok (.iconst 1, 1) := by decide +kernel
theorem dX7_put_28 : decode cX7_put 28 = .ok (.isub, 1) := by decide +kernel
theorem dX7_put_29 : decode cX7_put 29 = .ok (.if_icmp .ge 23, 3) := by decide +kernel
theorem dX7_put_32 : decode cX7_put 32 = .ok (.aload_n 0, 1) := by decide +kernel
theorem dX7_put_33 : decode cX7_put 33 = .ok (.getfield 15, 3) := by decide +kernel
theorem dX7_put_36 : decode cX7_put 36 = .ok (.iload_n 3, 1) := by decide +kernel
theorem dX7_put_37 : decode cX7_put 37 = .ok (.aload_n 0, 1) := by decide +kernel
theorem dX7_put_38 : decode cX7_put 38 = .ok (.getfield 15, 3) := by decide +kernel
theorem dX7_put_41 : decode cX7_put 41 = .ok (.iload_n 3, 1) := by decide +kernel
theorem dX7_put_42 : decode cX7_put 42 = .ok (.iconst 1, 1) := by decide +kernel
theorem dX7_put_43 : decode cX7_put 43 = .ok (.iadd, 1) := by decide +kernel
theorem dX7_put_44 : decode cX7_put 44 = .ok (.aaload, 1) := by decide +kernel
theorem dX7_put_45 : decode cX7_put 45 = .ok (.aastore, 1) := by decide +kernel
theorem dX7_put_46 : decode cX7_put 46 = .ok (.iinc 3 1, 3) := by decide +kernel
theorem dX7_put_49 : decode cX7_put 49 = .ok (.goto (-28), 3) := by decide +kernel
theorem dX7_put_52 : decode cX7_put 52 = .ok (.aload_n 0, 1) := by decide +kernel
theorem dX7_put_53 : decode cX7_put 53 = .ok (.getfield 15, 3) := by decide +kernel
theorem dX7_put_56 : decode cX7_put 56 = .ok (.aload_n 0, 1) := by decide +kernel
theorem dX7_put_57 : decode cX7_put 57 = .ok (.getfield 15, 3) := by decide +kernel
theorem dX7_put_60 : decode cX7_put 60 = .ok (.arraylength, 1) := by decide +kernel
theorem dX7_put_61 : decode cX7_put 61 = .ok (.iconst 1, 1) := by decide +kernel
theorem dX7_put_62 : decode cX7_put 62 = .ok (.isub, 1) := by decide +kernel
theorem dX7_put_63 : decode cX7_put 63 = .ok (.aload_n 2, 1) := by decide +kernel
theorem dX7_put_64 : decode cX7_put 64 = .ok (.aastore, 1) := by decide +kernel
theorem dX7_put_65 : decode cX7_put 65 = .ok (.aload_n 0, 1) := by decide +kernel
theorem dX7_put_66 : decode cX7_put 66 = .ok (.aload_n 0, 1) := by decide +kernel
theorem dX7_put_67 : decode cX7_put 67 = .ok (.getfield 15, 3) := by decide +kernel
theorem dX7_put_70 : decode cX7_put 70 = .ok (.arraylength, 1) := by decide +kernel
theorem dX7_put_71 : decode cX7_put 71 = .ok (.iconst 1, 1) := by decide +kernel
theorem dX7_put_72 : decode cX7_put 72 = .ok (.isub, 1) := by decide +kernel
theorem dX7_put_73 : decode cX7_put 73 = .ok (.putfield 22, 3) := by decide +kernel
theorem dX7_put_76 : decode cX7_put 76 = .ok (.aload_n 0, 1) := by decide +kernel
theorem dX7_put_77 : decode cX7_put 77 = .ok (.getfield 15, 3) := by decide +kernel
theorem dX7_put_80 : decode cX7_put 80 = .ok (.aload_n 0, 1) := by decide +kernel
theorem dX7_put_81 : decode cX7_put 81 = .ok (.getfield 22, 3) := by decide +kernel
theorem dX7_put_84 : decode cX7_put 84 = .ok (.aaload, 1) := by decide +kernel
theorem dX7_put_85 : decode cX7_put 85 = .ok (.aload_n 1, 1) := by decide +kernel
theorem dX7_put_86 : decode cX7_put 86 = .ok (.invokevirtual 26, 3) := by decide +kernel
theorem dX7_put_89 : decode cX7_put 89 = .ok (.aload_n 0, 1) := by decide +kernel
theorem dX7_put_90 : decode cX7_put 90 = .ok (.dup, 1) := by decide +kernel
theorem dX7_put_91 : decode cX7_put 91 = .ok (.getfield 22, 3) := by decide +kernel
theorem dX7_put_94 : decode cX7_put 94 = .ok (.iconst 1, 1) := by decide +kernel
theorem dX7_put_95 : decode cX7_put 95 = .ok (.iadd, 1) := by decide +kernel
theorem dX7_put_96 : decode cX7_put 96 = .ok (.putfield 22, 3) := by decide +kernel
theorem dX7_put_99 : decode cX7_put 99 = .ok (.return_, 1) := by decide +kernel
theorem dX7_takeLast_0 : decode cX7_takeLast 0 = .ok (.aload_n 0, 1) := by decide +kernel
theorem dX7_takeLast_1 : decode cX7_takeLast 1 = .ok (.getfield 22, 3) := by decide +kernel
theorem dX7_takeLast_4 : decode cX7_takeLast 4 = .ok (.ifCond .ne 5, 3) := by decide +kernel
theorem dX7_takeLast_7 : decode cX7_takeLast 7 = .ok (.iconst 0, 1) := by decide +kernel
theorem dX7_takeLast_8 : decode cX7_takeLast 8 = .ok (.ireturn, 1) := by decide +kernel
theorem dX7_takeLast_9 : decode cX7_takeLast 9 = .ok (.aload_n 0, 1) := by decide +kernel
theorem dX7_takeLast_10 : decode cX7_takeLast 10 = .ok (.dup, 1) := by decide +kernel
theorem dX7_takeLast_11 : decode cX7_takeLast 11 = .ok (.getfield 22, 3) := by decide +kernel
theorem dX7_takeLast_14 : decode cX7_takeLast 14 = .ok (.iconst 1, 1) := by decide +kernel
theorem dX7_takeLast_15 : decode cX7_takeLast 15 = .ok (.isub, 1) := by decide +kernel
theorem dX7_takeLast_16 : decode cX7_takeLast 16 = .ok (.putfield 22, 3) := by decide +kernel
theorem dX7_takeLast_19 : decode cX7_takeLast 19 = .ok (.aload_n 1, 1) := by decide +kernel
theorem dX7_takeLast_20 : decode cX7_takeLast 20 = .ok (.aload_n 0, 1) := by decide +kernel
theorem dX7_takeLast_21 : decode cX7_takeLast 21 = .ok (.getfield 15, 3) := by decide +kernel
theorem dX7_takeLast_24 : decode cX7_takeLast 24 = .ok (.aload_n 0, 1) := by decide +kernel
theorem dX7_takeLast_25 : decode cX7_takeLast 25 = .ok (.getfield 22, 3) := by decide +kernel
theorem dX7_takeLast_28 : decode cX7_takeLast 28 = .ok (.aaload, 1) := by decide +kernel
theorem dX7_takeLast_29 : decode cX7_takeLast 29 = .ok (.invokevirtual 26, 3) := by decide +kernel
theorem dX7_takeLast_32 : decode cX7_takeLast 32 = .ok (.iconst 1, 1) := by decide +kernel
theorem dX7_takeLast_33 : decode cX7_takeLast 33 = .ok (.ireturn, 1) := by decide +kernel
theorem dX8_init_0 : decode cX8_init 0 = .ok (.aload_n 0, 1) := by decide +kernel
theorem dX8_init_1 : decode cX8_init 1 = .ok (.invokespecial 3, 3) := by decide +kernel
theorem dX8_init_4 : decode cX8_init 4 = .ok (.aload_n 0, 1) := by decide +kernel
theorem dX8_init_5 : decode cX8_init 5 = .ok (.bipush 8, 2) := by decide +kernel
theorem dX8_init_7 : decode cX8_init 7 = .ok (.newarray .int, 2) := by decide +kernel
theorem dX8_init_9 : decode cX8_init 9 = .ok (.putfield 9, 3) := by decide +kernel
theorem dX8_init_12 : decode cX8_init 12 = .ok (.aload_n 0, 1) := by decide +kernel
theorem dX8_init_13 : decode cX8_init 13 = .ok (.bipush 8, 2) := by decide +kernel
theorem dX8_init_15 : decode cX8_init 15 = .ok (.newarray .int, 2) := by decide +kernel
theorem dX8_init_17 : decode cX8_init 17 = .ok (.putfield 15, 3) := by decide +kernel
theorem dX8_init_20 : decode cX8_init 20 = .ok (.aload_n 0, 1) := by decide +kernel
theorem dX8_init_21 : decode cX8_init 21 = .ok (.bipush 81, 2) := by decide +kernel
theorem dX8_init_23 : decode cX8_init 23 = .ok (.newarray .int, 2) := by decide +kernel
theorem dX8_init_25 : decode cX8_init 25 = .ok (.putfield 18, 3) := by decide +kernel
theorem dX8_init_28 : decode cX8_init 28 = .ok (.return_, 1) := by decide +kernel
theorem dX8_add_0 : decode cX8_add 0 = .ok (.aload_n 0, 1) := by decide +kernel
theorem dX8_add_1 : decode cX8_add 1 = .ok (.getfield 21, 3) := by decide +kernel
theorem dX8_add_4 : decode cX8_add 4 = .ok (.bipush 8, 2) := by decide +kernel
theorem dX8_add_6 : decode cX8_add 6 = .ok (.if_icmp .lt 5, 3) := by decide +kernel
theorem dX8_add_9 : decode cX8_add 9 = .ok (.iconst 0, 1) := by decide +kernel
theorem dX8_add_10 : decode cX8_add 10 = .ok (.ireturn, 1) := by decide +kernel
theorem dX8_add_11 : decode cX8_add 11 = .ok (.aload_n 0, 1) := by decide +kernel
theorem dX8_add_12 : decode cX8_add 12 = .ok (.getfield 9, 3) := by decide +kernel
theorem dX8_add_15 : decode cX8_add 15 = .ok (.aload_n 0, 1) := by decide +kernel
theorem dX8_add_16 : decode cX8_add 16 = .ok (.getfield 21, 3) := by decide +kernel
theorem dX8_add_19 : decode cX8_add 19 = .ok (.iload_n 1, 1) := by decide +kernel
theorem dX8_add_20 : decode cX8_add 20 = .ok (.iastore, 1) := by decide +kernel
theorem dX8_add_21 : decode cX8_add 21 = .ok (.aload_n 0, 1) := by decide +kernel
theorem dX8_add_22 : decode cX8_add 22 = .ok (.getfield 15, 3) := by decide +kernel
theorem dX8_add_25 : decode cX8_add 25 = .ok (.aload_n 0, 1) := by decide +kernel
theorem dX8_add_26 : decode cX8_add 26 = .ok (.getfield 21, 3) := by decide +kernel
theorem dX8_add_29 : decode cX8_add 29 = .ok (.iload_n 2, 1) := by decide +kernel
theorem dX8_add_30 : decode cX8_add 30 = .ok (.iastore, 1) := by decide +kernel
theorem dX8_add_31 : decode cX8_add 31 = .ok (.aload_n 0, 1) := by decide +kernel
theorem dX8_add_32 : decode cX8_add 32 = .ok (.dup, 1) := by decide +kernel
theorem dX8_add_33 : decode cX8_add 33 = .ok (.getfield 21, 3) := by decide +kernel
theorem dX8_add_36 : decode cX8_add 36 = .ok (.iconst 1, 1) := by decide +kernel
theorem dX8_add_37 : decode cX8_add 37 = .ok (.iadd, 1) := by decide +kernel
theorem dX8_add_38 : decode cX8_add 38 = .ok (.putfield 21, 3) := by decide +kernel
theorem dX8_add_41 : decode cX8_add 41 = .ok (.iconst 1, 1) := by decide +kernel
theorem dX8_add_42 : decode cX8_add 42 = .ok (.ireturn, 1) := by decide +kernel
theorem dX8_empty_0 : decode cX8_empty 0 = .ok (.aload_n 0, 1) := by decide +kernel
theorem dX8_empty_1 : decode cX8_empty 1 = .ok (.getfield 21, 3) := by decide +kernel
theorem dX8_empty_4 : decode cX8_empty 4 = .ok (.istore_n 1, 1) := by decide +kernel
theorem dX8_empty_5 : decode cX8_empty 5 = .ok (.aload_n 0, 1) := by decide +kernel
theorem dX8_empty_6 : decode cX8_empty 6 = .ok (.iconst 0, 1) := by decide +kernel
theorem dX8_empty_7 : decode cX8_empty 7 = .ok (.putfield 21, 3) := by decide +kernel
theorem dX8_empty_10 : decode cX8_empty 10 = .ok (.iload_n 1, 1) := by decide +kernel
theorem dX8_empty_11 : decode cX8_empty 11 = .ok (.ireturn, 1) := by decide +kernel
theorem dX8_fitting_0 : decode cX8_fitting 0 = .ok (.iconst 0, 1) := by decide +kernel
theorem dX8_fitting_1 : decode cX8_fitting 1 = .ok (.istore_n 2, 1) := by decide +kernel
theorem dX8_fitting_2 : decode cX8_fitting 2 = .ok (.iconst 0, 1) := by decide +kernel
theorem dX8_fitting_3 : decode cX8_fitting 3 = .ok (.istore_n 3, 1) := by decide +kernel
theorem dX8_fitting_4 : decode cX8_fitting 4 = .ok (.iload_n 3, 1) := by decide +kernel
theorem dX8_fitting_5 : decode cX8_fitting 5 = .ok (.bipush 20, 2) := by decide +kernel
theorem dX8_fitting_7 : decode cX8_fitting 7 = .ok (.if_icmp .gt 24, 3) := by decide +kernel
theorem dX8_fitting_10 : decode cX8_fitting 10 = .ok (.aload_n 0, 1) := by decide +kernel
theorem dX8_fitting_11 : decode cX8_fitting 11 = .ok (.iload_n 1, 1) := by decide +kernel
theorem dX8_fitting_12 : decode cX8_fitting 12 = .ok (.iload_n 3, 1) := by decide +kernel
theorem dX8_fitting_13 : decode cX8_fitting 13 = .ok (.invokevirtual 25, 3) := by decide +kernel
theorem dX8_fitting_16 : decode cX8_fitting 16 = .ok (.ifCond .eq 9, 3) := by decide +kernel
theorem dX8_fitting_19 : decode cX8_fitting 19 = .ok (.iload_n 2, 1) := by decide +kernel
theorem dX8_fitting_20 : decode cX8_fitting 20 = .ok (.iconst 1, 1) := by decide +kernel
theorem dX8_fitting_21 : decode cX8_fitting 21 = .ok (.iload_n 3, 1) := by decide +kernel
theorem dX8_fitting_22 : decode cX8_fitting 22 = .ok (.ishl, 1) := by decide +kernel
theorem dX8_fitting_23 : decode cX8_fitting 23 = .ok (.ior, 1) := by decide +kernel
theorem dX8_fitting_24 : decode cX8_fitting 24 = .ok (.istore_n 2, 1) := by decide +kernel
theorem dX8_fitting_25 : decode cX8_fitting 25 = .ok (.iinc 3 1, 3) := by decide +kernel
theorem dX8_fitting_28 : decode cX8_fitting 28 = .ok (.goto (-24), 3) := by decide +kernel
theorem dX8_fitting_31 : decode cX8_fitting 31 = .ok (.iload_n 2, 1) := by decide +kernel
theorem dX8_fitting_32 : decode cX8_fitting 32 = .ok (.ireturn, 1) := by decide +kernel
theorem dX8_fits_0 : decode cX8_fits 0 = .ok (.iconst 0, 1) := by decide +kernel
theorem dX8_fits_1 : decode cX8_fits 1 = .ok (.istore_n 3, 1) := by decide +kernel
theorem dX8_fits_2 : decode cX8_fits 2 = .ok (.iload_n 3, 1) := by decide +kernel
theorem dX8_fits_3 : decode cX8_fits 3 = .ok (.aload_n 0, 1) := by decide +kernel
theorem dX8_fits_4 : decode cX8_fits 4 = .ok (.getfield 21, 3) := by decide +kernel
theorem dX8_fits_7 : decode cX8_fits 7 = .ok (.if_icmp .ge 31, 3) := by decide +kernel
theorem dX8_fits_10 : decode cX8_fits 10 = .ok (.iload_n 1, 1) := by decide +kernel
theorem dX8_fits_11 : decode cX8_fits 11 = .ok (.iload_n 2, 1) := by decide +kernel
theorem dX8_fits_12 : decode cX8_fits 12 = .ok (.aload_n 0, 1) := by decide +kernel
theorem dX8_fits_13 : decode cX8_fits 13 = .ok (.getfield 9, 3) := by decide +kernel
theorem dX8_fits_16 : decode cX8_fits 16 = .ok (.iload_n 3, 1) := by decide +kernel
theorem dX8_fits_17 : decode cX8_fits 17 = .ok (.iaload, 1) := by decide +kernel
theorem dX8_fits_18 : decode cX8_fits 18 = .ok (.invokestatic 29, 3) := by decide +kernel
theorem dX8_fits_21 : decode cX8_fits 21 = .ok (.aload_n 0, 1) := by decide +kernel
theorem dX8_fits_22 : decode cX8_fits 22 = .ok (.getfield 15, 3) := by decide +kernel
theorem dX8_fits_25 : decode cX8_fits 25 = .ok (.iload_n 3, 1) := by decide +kernel
theorem dX8_fits_26 : decode cX8_fits 26 = .ok (.iaload, 1) := by decide +kernel
theorem dX8_fits_27 : decode cX8_fits 27 = .ok (.if_icmp .eq 5, 3) := by decide +kernel
theorem dX8_fits_30 : decode cX8_fits 30 = .ok (.iconst 0, 1) := by decide +kernel
theorem dX8_fits_31 : decode cX8_fits 31 = .ok (.ireturn, 1) := by decide +kernel
theorem dX8_fits_32 : decode cX8_fits 32 = .ok (.iinc 3 1, 3) := by decide +kernel
theorem dX8_fits_35 : decode cX8_fits 35 = .ok (.goto (-33), 3) := by decide +kernel
theorem dX8_fits_38 : decode cX8_fits 38 = .ok (.iconst 1, 1) := by decide +kernel
theorem dX8_fits_39 : decode cX8_fits 39 = .ok (.ireturn, 1) := by decide +kernel
theorem dX8_bestLook_0 : decode cX8_bestLook 0 = .ok (.iconst 0, 1) := by decide +kernel
theorem dX8_bestLook_1 : decode cX8_bestLook 1 = .ok (.istore_n 3, 1) := by decide +kernel
theorem dX8_bestLook_2 : decode cX8_bestLook 2 = .ok (.aload_n 0, 1) := by decide +kernel
theorem dX8_bestLook_3 : decode cX8_bestLook 3 = .ok (.iload_n 1, 1) := by decide +kernel
theorem dX8_bestLook_4 : decode cX8_bestLook 4 = .ok (.iload_n 2, 1) := by decide +kernel
theorem dX8_bestLook_5 : decode cX8_bestLook 5 = .ok (.iconst 0, 1) := by decide +kernel
theorem dX8_bestLook_6 : decode cX8_bestLook 6 = .ok (.invokevirtual 35, 3) := by decide +kernel
theorem dX8_bestLook_9 : decode cX8_bestLook 9 = .ok (.istore 4, 2) := by decide +kernel
theorem dX8_bestLook_11 : decode cX8_bestLook 11 = .ok (.iconst 1, 1) := by decide +kernel
theorem dX8_bestLook_12 : decode cX8_bestLook 12 = .ok (.istore 5, 2) := by decide +kernel
theorem dX8_bestLook_14 : decode cX8_bestLook 14 = .ok (.iload 5, 2) := by decide +kernel
theorem dX8_bestLook_16 : decode cX8_bestLook 16 = .ok (.bipush 20, 2) := by decide +kernel
theorem dX8_bestLook_18 : decode cX8_bestLook 18 = .ok (.if_icmp .gt 33, 3) := by decide +kernel
theorem dX8_bestLook_21 : decode cX8_bestLook 21 = .ok (.aload_n 0, 1) := by decide +kernel
theorem dX8_bestLook_22 : decode cX8_bestLook 22 = .ok (.iload_n 1, 1) := by decide +kernel
theorem dX8_bestLook_23 : decode cX8_bestLook 23 = .ok (.iload_n 2, 1) := by decide +kernel
theorem dX8_bestLook_24 : decode cX8_bestLook 24 = .ok (.iload 5, 2) := by decide +kernel
theorem dX8_bestLook_26 : decode cX8_bestLook 26 = .ok (.invokevirtual 35, 3) := by decide +kernel
theorem dX8_bestLook_29 : decode cX8_bestLook 29 = .ok (.istore 6, 2) := by decide +kernel
theorem dX8_bestLook_31 : decode cX8_bestLook 31 = .ok (.iload 6, 2) := by decide +kernel
theorem dX8_bestLook_33 : decode cX8_bestLook 33 = .ok (.iload 4, 2) := by decide +kernel
theorem dX8_bestLook_35 : decode cX8_bestLook 35 = .ok (.if_icmp .ge 10, 3) := by decide +kernel
theorem dX8_bestLook_38 : decode cX8_bestLook 38 = .ok (.iload 5, 2) := by decide +kernel
theorem dX8_bestLook_40 : decode cX8_bestLook 40 = .ok (.istore_n 3, 1) := by decide +kernel
theorem dX8_bestLook_41 : decode cX8_bestLook 41 = .ok (.iload 6, 2) := by decide +kernel
theorem dX8_bestLook_43 : decode cX8_bestLook 43 = .ok (.istore 4, 2) := by decide +kernel
theorem dX8_bestLook_45 : decode cX8_bestLook 45 = .ok (.iinc 5 1, 3) := by decide +kernel
theorem dX8_bestLook_48 : decode cX8_bestLook 48 = .ok (.goto (-34), 3) := by decide +kernel
theorem dX8_bestLook_51 : decode cX8_bestLook 51 = .ok (.iload_n 3, 1) := by decide +kernel
theorem dX8_bestLook_52 : decode cX8_bestLook 52 = .ok (.ireturn, 1) := by decide +kernel
theorem dX8_mostAlike_0 : decode cX8_mostAlike 0 = .ok (.aload_n 0, 1) := by decide +kernel
theorem dX8_mostAlike_1 : decode cX8_mostAlike 1 = .ok (.getfield 18, 3) := by decide +kernel
theorem dX8_mostAlike_4 : decode cX8_mostAlike 4 = .ok (.iconst 0, 1) := by decide +kernel
theorem dX8_mostAlike_5 : decode cX8_mostAlike 5 = .ok (.invokestatic 38, 3) := by decide +kernel
theorem dX8_mostAlike_8 : decode cX8_mostAlike 8 = .ok (.iconst 0, 1) := by decide +kernel
theorem dX8_mostAlike_9 : decode cX8_mostAlike 9 = .ok (.istore 4, 2) := by decide +kernel
theorem dX8_mostAlike_11 : decode cX8_mostAlike 11 = .ok (.iconst 0, 1) := by decide +kernel
theorem dX8_mostAlike_12 : decode cX8_mostAlike 12 = .ok (.istore 5, 2) := by decide +kernel
theorem dX8_mostAlike_14 : decode cX8_mostAlike 14 = .ok (.iload 5, 2) := by decide +kernel
theorem dX8_mostAlike_16 : decode cX8_mostAlike 16 = .ok (.bipush 20, 2) := by decide +kernel
theorem dX8_mostAlike_18 : decode cX8_mostAlike 18 = .ok (.if_icmp .gt 59, 3) := by decide +kernel
theorem dX8_mostAlike_21 : decode cX8_mostAlike 21 = .ok (.iload_n 2, 1) := by decide +kernel
theorem dX8_mostAlike_22 : decode cX8_mostAlike 22 = .ok (.iload 5, 2) := by decide +kernel
theorem dX8_mostAlike_24 : decode cX8_mostAlike 24 = .ok (.ishr, 1) := by decide +kernel
theorem dX8_mostAlike_25 : decode cX8_mostAlike 25 = .ok (.iconst 1, 1) := by decide +kernel
theorem dX8_mostAlike_26 : decode cX8_mostAlike 26 = .ok (.iand, 1) := by decide +kernel
theorem dX8_mostAlike_27 : decode cX8_mostAlike 27 = .ok (.iconst 1, 1) := by decide +kernel
theorem dX8_mostAlike_28 : decode cX8_mostAlike 28 = .ok (.if_icmp .ne 43, 3) := by decide +kernel
theorem dX8_mostAlike_31 : decode cX8_mostAlike 31 = .ok (.iload_n 1, 1) := by decide +kernel
theorem dX8_mostAlike_32 : decode cX8_mostAlike 32 = .ok (.iload 5, 2) := by decide +kernel
theorem dX8_mostAlike_34 : decode cX8_mostAlike 34 = .ok (.iload_n 3, 1) := by decide +kernel
theorem dX8_mostAlike_35 : decode cX8_mostAlike 35 = .ok (.invokestatic 29, 3) := by decide +kernel
theorem dX8_mostAlike_38 : decode cX8_mostAlike 38 = .ok (.invokestatic 44, 3) := by decide +kernel
theorem dX8_mostAlike_41 : decode cX8_mostAlike 41 = .ok (.bipush 40, 2) := by decide +kernel
theorem dX8_mostAlike_43 : decode cX8_mostAlike 43 = .ok (.iadd, 1) := by decide +kernel
theorem dX8_mostAlike_44 : decode cX8_mostAlike 44 = .ok (.istore 6, 2) := by decide +kernel
theorem dX8_mostAlike_46 : decode cX8_mostAlike 46 = .ok (.aload_n 0, 1) := by decide +kernel
theorem dX8_mostAlike_47 : decode cX8_mostAlike 47 = .ok (.getfield 18, 3) := by decide +kernel
theorem dX8_mostAlike_50 : decode cX8_mostAlike 50 = .ok (.iload 6, 2) := by decide +kernel
theorem dX8_mostAlike_52 : decode cX8_mostAlike 52 = .ok (.dup2, 1) := by decide +kernel
theorem dX8_mostAlike_53 : decode cX8_mostAlike 53 = .ok (.iaload, 1) := by decide +kernel
theorem dX8_mostAlike_54 : decode cX8_mostAlike 54 = .ok (.iconst 1, 1) := by decide +kernel
theorem dX8_mostAlike_55 : decode cX8_mostAlike 55 = .ok (.iadd, 1) := by decide +kernel
theorem dX8_mostAlike_56 : decode cX8_mostAlike 56 = .ok (.iastore, 1) := by decide +kernel
theorem dX8_mostAlike_57 : decode cX8_mostAlike 57 = .ok (.iload 4, 2) := by decide +kernel
theorem dX8_mostAlike_59 : decode cX8_mostAlike 59 = .ok (.aload_n 0, 1) := by decide +kernel
theorem dX8_mostAlike_60 : decode cX8_mostAlike 60 = .ok (.getfield 18, 3) := by decide +kernel
theorem dX8_mostAlike_63 : decode cX8_mostAlike 63 = .ok (.iload 6, 2) := by decide +kernel
theorem dX8_mostAlike_65 : decode cX8_mostAlike 65 = .ok (.iaload, 1) := by decide +kernel
theorem dX8_mostAlike_66 : decode cX8_mostAlike 66 = .ok (.invokestatic 48, 3) := by decide +kernel
theorem dX8_mostAlike_69 : decode cX8_mostAlike 69 = .ok (.istore 4, 2) := by decide +kernel
theorem dX8_mostAlike_71 : decode cX8_mostAlike 71 = .ok (.iinc 5 1, 3) := by decide +kernel
theorem dX8_mostAlike_74 : decode cX8_mostAlike 74 = .ok (.goto (-60), 3) := by decide +kernel
theorem dX8_mostAlike_77 : decode cX8_mostAlike 77 = .ok (.iload 4, 2) := by decide +kernel
theorem dX8_mostAlike_79 : decode cX8_mostAlike 79 = .ok (.ireturn, 1) := by decide +kernel
theorem dX9_init_0 : decode cX9_init 0 = .ok (.aload_n 0, 1) := by decide +kernel
theorem dX9_init_1 : decode cX9_init 1 = .ok (.invokespecial 3, 3) := by decide +kernel
theorem dX9_init_4 : decode cX9_init 4 = .ok (.aload_n 0, 1) := by decide +kernel
theorem dX9_init_5 : decode cX9_init 5 = .ok (.sipush 200, 3) := by decide +kernel
theorem dX9_init_8 : decode cX9_init 8 = .ok (.newarray .int, 2) := by decide +kernel
theorem dX9_init_10 : decode cX9_init 10 = .ok (.putfield 9, 3) := by decide +kernel
theorem dX9_init_13 : decode cX9_init 13 = .ok (.return_, 1) := by decide +kernel
theorem dX9_add_0 : decode cX9_add 0 = .ok (.aload_n 0, 1) := by decide +kernel
theorem dX9_add_1 : decode cX9_add 1 = .ok (.getfield 15, 3) := by decide +kernel
theorem dX9_add_4 : decode cX9_add 4 = .ok (.sipush 200, 3) := by decide +kernel
theorem dX9_add_7 : decode cX9_add 7 = .ok (.if_icmp .lt 5, 3) := by decide +kernel
theorem dX9_add_10 : decode cX9_add 10 = .ok (.iconst 0, 1) := by decide +kernel
theorem dX9_add_11 : decode cX9_add 11 = .ok (.ireturn, 1) := by decide +kernel
theorem dX9_add_12 : decode cX9_add 12 = .ok (.aload_n 0, 1) := by decide +kernel
theorem dX9_add_13 : decode cX9_add 13 = .ok (.getfield 9, 3) := by decide +kernel
theorem dX9_add_16 : decode cX9_add 16 = .ok (.aload_n 0, 1) := by decide +kernel
theorem dX9_add_17 : decode cX9_add 17 = .ok (.getfield 15, 3) := by decide +kernel
theorem dX9_add_20 : decode cX9_add 20 = .ok (.iload_n 1, 1) := by decide +kernel
theorem dX9_add_21 : decode cX9_add 21 = .ok (.iastore, 1) := by decide +kernel
theorem dX9_add_22 : decode cX9_add 22 = .ok (.aload_n 0, 1) := by decide +kernel
theorem dX9_add_23 : decode cX9_add 23 = .ok (.dup, 1) := by decide +kernel
theorem dX9_add_24 : decode cX9_add 24 = .ok (.getfield 15, 3) := by decide +kernel
theorem dX9_add_27 : decode cX9_add 27 = .ok (.iconst 1, 1) := by decide +kernel
theorem dX9_add_28 : decode cX9_add 28 = .ok (.iadd, 1) := by decide +kernel
theorem dX9_add_29 : decode cX9_add 29 = .ok (.putfield 15, 3) := by decide +kernel
theorem dX9_add_32 : decode cX9_add 32 = .ok (.iconst 1, 1) := by decide +kernel
theorem dX9_add_33 : decode cX9_add 33 = .ok (.ireturn, 1) := by decide +kernel
theorem dX9_letterAt_0 : decode cX9_letterAt 0 = .ok (.iload_n 1, 1) := by decide +kernel
theorem dX9_letterAt_1 : decode cX9_letterAt 1 = .ok (.aload_n 0, 1) := by decide +kernel
theorem dX9_letterAt_2 : decode cX9_letterAt 2 = .ok (.getfield 15, 3) := by decide +kernel
theorem dX9_letterAt_5 : decode cX9_letterAt 5 = .ok (.invokestatic 19, 3) := by decide +kernel
theorem dX9_letterAt_8 : decode cX9_letterAt 8 = .ok (.ifCond .eq 8, 3) := by decide +kernel
theorem dX9_letterAt_11 : decode cX9_letterAt 11 = .ok (.bipush (-4), 2) := by decide +kernel
theorem dX9_letterAt_13 : decode cX9_letterAt 13 = .ok (.goto 9, 3) := by decide +kernel
theorem dX9_letterAt_16 : decode cX9_letterAt 16 = .ok (.aload_n 0, 1) := by decide +kernel
theorem dX9_letterAt_17 : decode cX9_letterAt 17 = .ok (.getfield 9, 3) := by decide +kernel
theorem dX9_letterAt_20 : decode cX9_letterAt 20 = .ok (.iload_n 1, 1) := by decide +kernel
theorem dX9_letterAt_21 : decode cX9_letterAt 21 = .ok (.iaload, 1) := by decide +kernel
theorem dX9_letterAt_22 : decode cX9_letterAt 22 = .ok (.ireturn, 1) := by decide +kernel
theorem dX9_empty_0 : decode cX9_empty 0 = .ok (.aload_n 0, 1) := by decide +kernel
theorem dX9_empty_1 : decode cX9_empty 1 = .ok (.getfield 15, 3) := by decide +kernel
theorem dX9_empty_4 : decode cX9_empty 4 = .ok (.istore_n 1, 1) := by decide +kernel
theorem dX9_empty_5 : decode cX9_empty 5 = .ok (.aload_n 0, 1) := by decide +kernel
theorem dX9_empty_6 : decode cX9_empty 6 = .ok (.iconst 0, 1) := by decide +kernel
theorem dX9_empty_7 : decode cX9_empty 7 = .ok (.putfield 15, 3) := by decide +kernel
theorem dX9_empty_10 : decode cX9_empty 10 = .ok (.iload_n 1, 1) := by decide +kernel
theorem dX9_empty_11 : decode cX9_empty 11 = .ok (.ireturn, 1) := by decide +kernel
theorem dX10_init_0 : decode cX10_init 0 = .ok (.aload_n 0, 1) := by decide +kernel
theorem dX10_init_1 : decode cX10_init 1 = .ok (.invokespecial 3, 3) := by decide +kernel
theorem dX10_init_4 : decode cX10_init 4 = .ok (.aload_n 0, 1) := by decide +kernel
theorem dX10_init_5 : decode cX10_init 5 = .ok (.bipush 8, 2) := by decide +kernel
theorem dX10_init_7 : decode cX10_init 7 = .ok (.newarray .int, 2) := by decide +kernel
theorem dX10_init_9 : decode cX10_init 9 = .ok (.putfield 9, 3) := by decide +kernel
theorem dX10_init_12 : decode cX10_init 12 = .ok (.aload_n 0, 1) := by decide +kernel
theorem dX10_init_13 : decode cX10_init 13 = .ok (.bipush 8, 2) := by decide +kernel
theorem dX10_init_15 : decode cX10_init 15 = .ok (.newarray .int, 2) := by decide +kernel
theorem dX10_init_17 : decode cX10_init 17 = .ok (.putfield 15, 3) := by decide +kernel
theorem dX10_init_20 : decode cX10_init 20 = .ok (.aload_n 0, 1) := by decide +kernel
theorem dX10_init_21 : decode cX10_init 21 = .ok (.bipush 8, 2) := by decide +kernel
theorem dX10_init_23 : decode cX10_init 23 = .ok (.newarray .int, 2) := by decide +kernel
theorem dX10_init_25 : decode cX10_init 25 = .ok (.putfield 18, 3) := by decide +kernel
theorem dX10_init_28 : decode cX10_init 28 = .ok (.return_, 1) := by decide +kernel
theorem dX10_add_0 : decode cX10_add 0 = .ok (.aload_n 0, 1) := by decide +kernel
theorem dX10_add_1 : decode cX10_add 1 = .ok (.getfield 21, 3) := by decide +kernel
theorem dX10_add_4 : decode cX10_add 4 = .ok (.bipush 8, 2) := by decide +kernel
theorem dX10_add_6 : decode cX10_add 6 = .ok (.if_icmp .ge 43, 3) := by decide +kernel
theorem dX10_add_9 : decode cX10_add 9 = .ok (.aload_n 0, 1) := by decide +kernel
theorem dX10_add_10 : decode cX10_add 10 = .ok (.getfield 9, 3) := by decide +kernel
theorem dX10_add_13 : decode cX10_add 13 = .ok (.aload_n 0, 1) := by decide +kernel
theorem dX10_add_14 : decode cX10_add 14 = .ok (.getfield 21, 3) := by decide +kernel
theorem dX10_add_17 : decode cX10_add 17 = .ok (.iload_n 1, 1) := by decide +kernel
theorem dX10_add_18 : decode cX10_add 18 = .ok (.iastore, 1) := by decide +kernel
theorem dX10_add_19 : decode cX10_add 19 = .ok (.aload_n 0, 1) := by decide +kernel
theorem dX10_add_20 : decode cX10_add 20 = .ok (.getfield 15, 3) := by decide +kernel
theorem dX10_add_23 : decode cX10_add 23 = .ok (.aload_n 0, 1) := by decide +kernel
theorem dX10_add_24 : decode cX10_add 24 = .ok (.getfield 21, 3) := by decide +kernel
theorem dX10_add_27 : decode cX10_add 27 = .ok (.iload_n 2, 1) := by decide +kernel
theorem dX10_add_28 : decode cX10_add 28 = .ok (.iastore, 1) := by decide +kernel
theorem dX10_add_29 : decode cX10_add 29 = .ok (.aload_n 0, 1) := by decide +kernel
theorem dX10_add_30 : decode cX10_add 30 = .ok (.getfield 18, 3) := by decide +kernel
theorem dX10_add_33 : decode cX10_add 33 = .ok (.aload_n 0, 1) := by decide +kernel
theorem dX10_add_34 : decode cX10_add 34 = .ok (.getfield 21, 3) := by decide +kernel
theorem dX10_add_37 : decode cX10_add 37 = .ok (.iload_n 3, 1) := by decide +kernel
theorem dX10_add_38 : decode cX10_add 38 = .ok (.iastore, 1) := by decide +kernel
theorem dX10_add_39 : decode cX10_add 39 = .ok (.aload_n 0, 1) := by decide +kernel
theorem dX10_add_40 : decode cX10_add 40 = .ok (.dup, 1) := by decide +kernel
theorem dX10_add_41 : decode cX10_add 41 = .ok (.getfield 21, 3) := by decide +kernel
theorem dX10_add_44 : decode cX10_add 44 = .ok (.iconst 1, 1) := by decide +kernel
theorem dX10_add_45 : decode cX10_add 45 = .ok (.iadd, 1) := by decide +kernel
theorem dX10_add_46 : decode cX10_add 46 = .ok (.putfield 21, 3) := by decide +kernel
theorem dX10_add_49 : decode cX10_add 49 = .ok (.return_, 1) := by decide +kernel
theorem dX10_remove_0 : decode cX10_remove 0 = .ok (.iload_n 1, 1) := by decide +kernel
theorem dX10_remove_1 : decode cX10_remove 1 = .ok (.aload_n 0, 1) := by decide +kernel
theorem dX10_remove_2 : decode cX10_remove 2 = .ok (.getfield 21, 3) := by decide +kernel
theorem dX10_remove_5 : decode cX10_remove 5 = .ok (.invokestatic 25, 3) := by decide +kernel
theorem dX10_remove_8 : decode cX10_remove 8 = .ok (.ifCond .eq 4, 3) := by decide +kernel
theorem dX10_remove_11 : decode cX10_remove 11 = .ok (.return_, 1) := by decide +kernel
theorem dX10_remove_12 : decode cX10_remove 12 = .ok (.iload_n 1, 1) := by decide +kernel
theorem dX10_remove_13 : decode cX10_remove 13 = .ok (.istore_n 2, 1) := by decide +kernel
theorem dX10_remove_14 : decode cX10_remove 14 = .ok (.iload_n 2, 1) := by decide +kernel
theorem dX10_remove_15 : decode cX10_remove 15 = .ok (.aload_n 0, 1) := by decide +kernel
theorem dX10_remove_16 : decode cX10_remove 16 = .ok (.getfield 21, 3) := by decide +kernel
theorem dX10_remove_19 : decode cX10_remove 19 = .ok (.iconst 1, 1) := by decide +kernel
theorem dX10_remove_20 : decode cX10_remove 20 = .ok (.isub, 1) := by decide +kernel
theorem dX10_remove_21 : decode cX10_remove 21 = .ok (.if_icmp .ge 51, 3) := by decide +kernel
theorem dX10_remove_24 : decode cX10_remove 24 = .ok (.aload_n 0, 1) := by decide +kernel
theorem dX10_remove_25 : decode cX10_remove 25 = .ok (.getfield 9, 3) := by decide +kernel
theorem dX10_remove_28 : decode cX10_remove 28 = .ok (.iload_n 2, 1) := by decide +kernel
theorem dX10_remove_29 : decode cX10_remove 29 = .ok (.aload_n 0, 1) := by decide +kernel
theorem dX10_remove_30 : decode cX10_remove 30 = .ok (.getfield 9, 3) := by decide +kernel
theorem dX10_remove_33 : decode cX10_remove 33 = .ok (.iload_n 2, 1) := by decide +kernel
theorem dX10_remove_34 : decode cX10_remove 34 = .ok (.iconst 1, 1) := by decide +kernel
theorem dX10_remove_35 : decode cX10_remove 35 = .ok (.iadd, 1) := by decide +kernel
theorem dX10_remove_36 : decode cX10_remove 36 = .ok (.iaload, 1) := by decide +kernel
theorem dX10_remove_37 : decode cX10_remove 37 = .ok (.iastore, 1) := by decide +kernel
theorem dX10_remove_38 : decode cX10_remove 38 = .ok (.aload_n 0, 1) := by decide +kernel
theorem dX10_remove_39 : decode cX10_remove 39 = .ok (.getfield 15, 3) := by decide +kernel
theorem dX10_remove_42 : decode cX10_remove 42 = .ok (.iload_n 2, 1) := by decide +kernel
theorem dX10_remove_43 : decode cX10_remove 43 = .ok (.aload_n 0, 1) := by decide +kernel
theorem dX10_remove_44 : decode cX10_remove 44 = .ok (.getfield 15, 3) := by decide +kernel
theorem dX10_remove_47 : decode cX10_remove 47 = .ok (.iload_n 2, 1) := by decide +kernel
theorem dX10_remove_48 : decode cX10_remove 48 = .ok (.iconst 1, 1) := by decide +kernel
theorem dX10_remove_49 : decode cX10_remove 49 = .ok (.iadd, 1) := by decide +kernel
theorem dX10_remove_50 : decode cX10_remove 50 = .ok (.iaload, 1) := by decide +kernel
theorem dX10_remove_51 : decode cX10_remove 51 = .ok (.iastore, 1) := by decide +kernel
theorem dX10_remove_52 : decode cX10_remove 52 = .ok (.aload_n 0, 1) := by decide +kernel
theorem dX10_remove_53 : decode cX10_remove 53 = .ok (.getfield 18, 3) := by decide +kernel
theorem dX10_remove_56 : decode cX10_remove 56 = .ok (.iload_n 2, 1) := by decide +kernel
theorem dX10_remove_57 : decode cX10_remove 57 = .ok (.aload_n 0, 1) := by decide +kernel
theorem dX10_remove_58 : decode cX10_remove 58 = .ok (.getfield 18, 3) := by decide +kernel
theorem dX10_remove_61 : decode cX10_remove 61 = .ok (.iload_n 2, 1) := by decide +kernel
theorem dX10_remove_62 : decode cX10_remove 62 = .ok (.iconst 1, 1) := by decide +kernel
theorem dX10_remove_63 : decode cX10_remove 63 = .ok (.iadd, 1) := by decide +kernel
theorem dX10_remove_64 : decode cX10_remove 64 = .ok (.iaload, 1) := by decide +kernel
theorem dX10_remove_65 : decode cX10_remove 65 = .ok (.iastore, 1) := by decide +kernel
theorem dX10_remove_66 : decode cX10_remove 66 = .ok (.iinc 2 1, 3) := by decide +kernel
theorem dX10_remove_69 : decode cX10_remove 69 = .ok (.goto (-55), 3) := by decide +kernel
theorem dX10_remove_72 : decode cX10_remove 72 = .ok (.aload_n 0, 1) := by decide +kernel
theorem dX10_remove_73 : decode cX10_remove 73 = .ok (.dup, 1) := by decide +kernel
theorem dX10_remove_74 : decode cX10_remove 74 = .ok (.getfield 21, 3) := by decide +kernel
theorem dX10_remove_77 : decode cX10_remove 77 = .ok (.iconst 1, 1) := by decide +kernel
theorem dX10_remove_78 : decode cX10_remove 78 = .ok (.isub, 1) := by decide +kernel
theorem dX10_remove_79 : decode cX10_remove 79 = .ok (.putfield 21, 3) := by decide +kernel
theorem dX10_remove_82 : decode cX10_remove 82 = .ok (.return_, 1) := by decide +kernel
theorem dX10_copy_0 : decode cX10_copy 0 = .ok (.aload_n 0, 1) := by decide +kernel
theorem dX10_copy_1 : decode cX10_copy 1 = .ok (.iconst 0, 1) := by decide +kernel
theorem dX10_copy_2 : decode cX10_copy 2 = .ok (.putfield 21, 3) := by decide +kernel
theorem dX10_copy_5 : decode cX10_copy 5 = .ok (.iconst 0, 1) := by decide +kernel
theorem dX10_copy_6 : decode cX10_copy 6 = .ok (.istore_n 2, 1) := by decide +kernel
theorem dX10_copy_7 : decode cX10_copy 7 = .ok (.iload_n 2, 1) := by decide +kernel
theorem dX10_copy_8 : decode cX10_copy 8 = .ok (.aload_n 1, 1) := by decide +kernel
theorem dX10_copy_9 : decode cX10_copy 9 = .ok (.getfield 21, 3) := by decide +kernel
theorem dX10_copy_12 : decode cX10_copy 12 = .ok (.if_icmp .ge 31, 3) := by decide +kernel
theorem dX10_copy_15 : decode cX10_copy 15 = .ok (.aload_n 0, 1) := by decide +kernel
theorem dX10_copy_16 : decode cX10_copy 16 = .ok (.aload_n 1, 1) := by decide +kernel
theorem dX10_copy_17 : decode cX10_copy 17 = .ok (.getfield 9, 3) := by decide +kernel
theorem dX10_copy_20 : decode cX10_copy 20 = .ok (.iload_n 2, 1) := by decide +kernel
theorem dX10_copy_21 : decode cX10_copy 21 = .ok (.iaload, 1) := by decide +kernel
theorem dX10_copy_22 : decode cX10_copy 22 = .ok (.aload_n 1, 1) := by decide +kernel
theorem dX10_copy_23 : decode cX10_copy 23 = .ok (.getfield 15, 3) := by decide +kernel
theorem dX10_copy_26 : decode cX10_copy 26 = .ok (.iload_n 2, 1) := by decide +kernel
theorem dX10_copy_27 : decode cX10_copy 27 = .ok (.iaload, 1) := by decide +kernel
theorem dX10_copy_28 : decode cX10_copy 28 = .ok (.aload_n 1, 1) := by decide +kernel
theorem dX10_copy_29 : decode cX10_copy 29 = .ok (.getfield 18, 3) := by decide +kernel
theorem dX10_copy_32 : decode cX10_copy 32 = .ok (.iload_n 2, 1) := by decide +kernel
theorem dX10_copy_33 : decode cX10_copy 33 = .ok (.iaload, 1) := by decide +kernel
theorem dX10_copy_34 : decode cX10_copy 34 = .ok (.invokevirtual 29, 3) := by decide +kernel
theorem dX10_copy_37 : decode cX10_copy 37 = .ok (.iinc 2 1, 3) := by decide +kernel
theorem dX10_copy_40 : decode cX10_copy 40 = .ok (.goto (-33), 3) := by decide +kernel
theorem dX10_copy_43 : decode cX10_copy 43 = .ok (.return_, 1) := by decide +kernel
theorem dX10_turnAll_0 : decode cX10_turnAll 0 = .ok (.iconst 0, 1) := by decide +kernel
theorem dX10_turnAll_1 : decode cX10_turnAll 1 = .ok (.istore_n 3, 1) := by decide +kernel
theorem dX10_turnAll_2 : decode cX10_turnAll 2 = .ok (.iload_n 3, 1) := by decide +kernel
theorem dX10_turnAll_3 : decode cX10_turnAll 3 = .ok (.aload_n 0, 1) := by decide +kernel
theorem dX10_turnAll_4 : decode cX10_turnAll 4 = .ok (.getfield 21, 3) := by decide +kernel
theorem dX10_turnAll_7 : decode cX10_turnAll 7 = .ok (.if_icmp .ge 45, 3) := by decide +kernel
theorem dX10_turnAll_10 : decode cX10_turnAll 10 = .ok (.aload_n 0, 1) := by decide +kernel
theorem dX10_turnAll_11 : decode cX10_turnAll 11 = .ok (.getfield 9, 3) := by decide +kernel
theorem dX10_turnAll_14 : decode cX10_turnAll 14 = .ok (.iload_n 3, 1) := by decide +kernel
theorem dX10_turnAll_15 : decode cX10_turnAll 15 = .ok (.iaload, 1) := by decide +kernel
theorem dX10_turnAll_16 : decode cX10_turnAll 16 = .ok (.iload_n 1, 1) := by decide +kernel
theorem dX10_turnAll_17 : decode cX10_turnAll 17 = .ok (.if_icmp .ne 29, 3) := by decide +kernel
theorem dX10_turnAll_20 : decode cX10_turnAll 20 = .ok (.aload_n 2, 1) := by decide +kernel
theorem dX10_turnAll_21 : decode cX10_turnAll 21 = .ok (.aload_n 0, 1) := by decide +kernel
theorem dX10_turnAll_22 : decode cX10_turnAll 22 = .ok (.getfield 15, 3) := by decide +kernel
theorem dX10_turnAll_25 : decode cX10_turnAll 25 = .ok (.iload_n 3, 1) := by decide +kernel
theorem dX10_turnAll_26 : decode cX10_turnAll 26 = .ok (.iaload, 1) := by decide +kernel
theorem dX10_turnAll_27 : decode cX10_turnAll 27 = .ok (.aload_n 2, 1) := by decide +kernel
theorem dX10_turnAll_28 : decode cX10_turnAll 28 = .ok (.aload_n 0, 1) := by decide +kernel
theorem dX10_turnAll_29 : decode cX10_turnAll 29 = .ok (.getfield 15, 3) := by decide +kernel
theorem dX10_turnAll_32 : decode cX10_turnAll 32 = .ok (.iload_n 3, 1) := by decide +kernel
theorem dX10_turnAll_33 : decode cX10_turnAll 33 = .ok (.iaload, 1) := by decide +kernel
theorem dX10_turnAll_34 : decode cX10_turnAll 34 = .ok (.iaload, 1) := by decide +kernel
theorem dX10_turnAll_35 : decode cX10_turnAll 35 = .ok (.aload_n 0, 1) := by decide +kernel
theorem dX10_turnAll_36 : decode cX10_turnAll 36 = .ok (.getfield 18, 3) := by decide +kernel
theorem dX10_turnAll_39 : decode cX10_turnAll 39 = .ok (.iload_n 3, 1) := by decide +kernel
theorem dX10_turnAll_40 : decode cX10_turnAll 40 = .ok (.iaload, 1) := by decide +kernel
theorem dX10_turnAll_41 : decode cX10_turnAll 41 = .ok (.iadd, 1) := by decide +kernel
theorem dX10_turnAll_42 : decode cX10_turnAll 42 = .ok (.invokestatic 33, 3) := by decide +kernel
theorem dX10_turnAll_45 : decode cX10_turnAll 45 = .ok (.iastore, 1) := by decide +kernel
theorem dX10_turnAll_46 : decode cX10_turnAll 46 = .ok (.iinc 3 1, 3) := by decide +kernel
theorem dX10_turnAll_49 : decode cX10_turnAll 49 = .ok (.goto (-47), 3) := by decide +kernel
theorem dX10_turnAll_52 : decode cX10_turnAll 52 = .ok (.return_, 1) := by decide +kernel
theorem dX11_init_0 : decode cX11_init 0 = .ok (.aload_n 0, 1) := by decide +kernel
theorem dX11_init_1 : decode cX11_init 1 = .ok (.invokespecial 1, 3) := by decide +kernel
theorem dX11_init_4 : decode cX11_init 4 = .ok (.aload_n 0, 1) := by decide +kernel
theorem dX11_init_5 : decode cX11_init 5 = .ok (.new 7, 3) := by decide +kernel
theorem dX11_init_8 : decode cX11_init 8 = .ok (.dup, 1) := by decide +kernel
theorem dX11_init_9 : decode cX11_init 9 = .ok (.invokespecial 9, 3) := by decide +kernel
theorem dX11_init_12 : decode cX11_init 12 = .ok (.putfield 10, 3) := by decide +kernel
theorem dX11_init_15 : decode cX11_init 15 = .ok (.aload_n 0, 1) := by decide +kernel
theorem dX11_init_16 : decode cX11_init 16 = .ok (.new 16, 3) := by decide +kernel
theorem dX11_init_19 : decode cX11_init 19 = .ok (.dup, 1) := by decide +kernel
theorem dX11_init_20 : decode cX11_init 20 = .ok (.invokespecial 18, 3) := by decide +kernel
theorem dX11_init_23 : decode cX11_init 23 = .ok (.putfield 19, 3) := by decide +kernel
theorem dX11_init_26 : decode cX11_init 26 = .ok (.aload_n 0, 1) := by decide +kernel
theorem dX11_init_27 : decode cX11_init 27 = .ok (.new 23, 3) := by decide +kernel
theorem dX11_init_30 : decode cX11_init 30 = .ok (.dup, 1) := by decide +kernel
theorem dX11_init_31 : decode cX11_init 31 = .ok (.invokespecial 25, 3) := by decide +kernel
theorem dX11_init_34 : decode cX11_init 34 = .ok (.putfield 26, 3) := by decide +kernel
theorem dX11_init_37 : decode cX11_init 37 = .ok (.aload_n 0, 1) := by decide +kernel
theorem dX11_init_38 : decode cX11_init 38 = .ok (.new 30, 3) := by decide +kernel
theorem dX11_init_41 : decode cX11_init 41 = .ok (.dup, 1) := by decide +kernel
theorem dX11_init_42 : decode cX11_init 42 = .ok (.bipush 8, 2) := by decide +kernel
theorem dX11_init_44 : decode cX11_init 44 = .ok (.invokespecial 32, 3) := by decide +kernel
theorem dX11_init_47 : decode cX11_init 47 = .ok (.putfield 35, 3) := by decide +kernel
theorem dX11_init_50 : decode cX11_init 50 = .ok (.aload_n 0, 1) := by decide +kernel
theorem dX11_init_51 : decode cX11_init 51 = .ok (.new 30, 3) := by decide +kernel
theorem dX11_init_54 : decode cX11_init 54 = .ok (.dup, 1) := by decide +kernel
theorem dX11_init_55 : decode cX11_init 55 = .ok (.iconst 2, 1) := by decide +kernel
theorem dX11_init_56 : decode cX11_init 56 = .ok (.invokespecial 32, 3) := by decide +kernel
theorem dX11_init_59 : decode cX11_init 59 = .ok (.putfield 39, 3) := by decide +kernel
theorem dX11_init_62 : decode cX11_init 62 = .ok (.aload_n 0, 1) := by decide +kernel
theorem dX11_init_63 : decode cX11_init 63 = .ok (.new 42, 3) := by decide +kernel
theorem dX11_init_66 : decode cX11_init 66 = .ok (.dup, 1) := by decide +kernel
theorem dX11_init_67 : decode cX11_init 67 = .ok (.invokespecial 44, 3) := by decide +kernel
theorem dX11_init_70 : decode cX11_init 70 = .ok (.putfield 45, 3) := by decide +kernel
theorem dX11_init_73 : decode cX11_init 73 = .ok (.aload_n 0, 1) := by decide +kernel
theorem dX11_init_74 : decode cX11_init 74 = .ok (.new 49, 3) := by decide +kernel
theorem dX11_init_77 : decode cX11_init 77 = .ok (.dup, 1) := by decide +kernel
theorem dX11_init_78 : decode cX11_init 78 = .ok (.invokespecial 51, 3) := by decide +kernel
theorem dX11_init_81 : decode cX11_init 81 = .ok (.putfield 52, 3) := by decide +kernel
theorem dX11_init_84 : decode cX11_init 84 = .ok (.aload_n 0, 1) := by decide +kernel
theorem dX11_init_85 : decode cX11_init 85 = .ok (.new 56, 3) := by decide +kernel
theorem dX11_init_88 : decode cX11_init 88 = .ok (.dup, 1) := by decide +kernel
theorem dX11_init_89 : decode cX11_init 89 = .ok (.invokespecial 58, 3) := by decide +kernel
theorem dX11_init_92 : decode cX11_init 92 = .ok (.putfield 59, 3) := by decide +kernel
theorem dX11_init_95 : decode cX11_init 95 = .ok (.aload_n 0, 1) := by decide +kernel
theorem dX11_init_96 : decode cX11_init 96 = .ok (.new 63, 3) := by decide +kernel
theorem dX11_init_99 : decode cX11_init 99 = .ok (.dup, 1) := by decide +kernel
theorem dX11_init_100 : decode cX11_init 100 = .ok (.invokespecial 65, 3) := by decide +kernel
theorem dX11_init_103 : decode cX11_init 103 = .ok (.putfield 66, 3) := by decide +kernel
theorem dX11_init_106 : decode cX11_init 106 = .ok (.aload_n 0, 1) := by decide +kernel
theorem dX11_init_107 : decode cX11_init 107 = .ok (.new 70, 3) := by decide +kernel
theorem dX11_init_110 : decode cX11_init 110 = .ok (.dup, 1) := by decide +kernel
theorem dX11_init_111 : decode cX11_init 111 = .ok (.invokespecial 72, 3) := by decide +kernel
theorem dX11_init_114 : decode cX11_init 114 = .ok (.putfield 73, 3) := by decide +kernel
theorem dX11_init_117 : decode cX11_init 117 = .ok (.aload_n 0, 1) := by decide +kernel
theorem dX11_init_118 : decode cX11_init 118 = .ok (.new 77, 3) := by decide +kernel
theorem dX11_init_121 : decode cX11_init 121 = .ok (.dup, 1) := by decide +kernel
theorem dX11_init_122 : decode cX11_init 122 = .ok (.invokespecial 79, 3) := by decide +kernel
theorem dX11_init_125 : decode cX11_init 125 = .ok (.putfield 80, 3) := by decide +kernel
theorem dX11_init_128 : decode cX11_init 128 = .ok (.aload_n 0, 1) := by decide +kernel
theorem dX11_init_129 : decode cX11_init 129 = .ok (.new 77, 3) := by decide +kernel
theorem dX11_init_132 : decode cX11_init 132 = .ok (.dup, 1) := by decide +kernel
theorem dX11_init_133 : decode cX11_init 133 = .ok (.invokespecial 79, 3) := by decide +kernel
theorem dX11_init_136 : decode cX11_init 136 = .ok (.putfield 84, 3) := by decide +kernel
theorem dX11_init_139 : decode cX11_init 139 = .ok (.iconst 0, 1) := by decide +kernel
theorem dX11_init_140 : decode cX11_init 140 = .ok (.istore_n 1, 1) := by decide +kernel
theorem dX11_init_141 : decode cX11_init 141 = .ok (.iload_n 1, 1) := by decide +kernel
theorem dX11_init_142 : decode cX11_init 142 = .ok (.ldc 87, 2) := by decide +kernel
theorem dX11_init_144 : decode cX11_init 144 = .ok (.invokevirtual 89, 3) := by decide +kernel
theorem dX11_init_147 : decode cX11_init 147 = .ok (.if_icmp .ge 23, 3) := by decide +kernel
theorem dX11_init_150 : decode cX11_init 150 = .ok (.aload_n 0, 1) := by decide +kernel
theorem dX11_init_151 : decode cX11_init 151 = .ok (.getfield 10, 3) := by decide +kernel
theorem dX11_init_154 : decode cX11_init 154 = .ok (.ldc 87, 2) := by decide +kernel
theorem dX11_init_156 : decode cX11_init 156 = .ok (.iload_n 1, 1) := by decide +kernel
theorem dX11_init_157 : decode cX11_init 157 = .ok (.invokevirtual 95, 3) := by decide +kernel
theorem dX11_init_160 : decode cX11_init 160 = .ok (.invokevirtual 99, 3) := by decide +kernel
theorem dX11_init_163 : decode cX11_init 163 = .ok (.pop, 1) := by decide +kernel
theorem dX11_init_164 : decode cX11_init 164 = .ok (.iinc 1 1, 3) := by decide +kernel
theorem dX11_init_167 : decode cX11_init 167 = .ok (.goto (-26), 3) := by decide +kernel
theorem dX11_init_170 : decode cX11_init 170 = .ok (.aload_n 0, 1) := by decide +kernel
theorem dX11_init_171 : decode cX11_init 171 = .ok (.getfield 19, 3) := by decide +kernel
theorem dX11_init_174 : decode cX11_init 174 = .ok (.aload_n 0, 1) := by decide +kernel
theorem dX11_init_175 : decode cX11_init 175 = .ok (.getfield 10, 3) := by decide +kernel
theorem dX11_init_178 : decode cX11_init 178 = .ok (.aload_n 0, 1) := by decide +kernel
theorem dX11_init_179 : decode cX11_init 179 = .ok (.getfield 84, 3) := by decide +kernel
theorem dX11_init_182 : decode cX11_init 182 = .ok (.invokevirtual 103, 3) := by decide +kernel
theorem dX11_init_185 : decode cX11_init 185 = .ok (.pop, 1) := by decide +kernel
theorem dX11_init_186 : decode cX11_init 186 = .ok (.aload_n 0, 1) := by decide +kernel
theorem dX11_init_187 : decode cX11_init 187 = .ok (.invokevirtual 107, 3) := by decide +kernel
theorem dX11_init_190 : decode cX11_init 190 = .ok (.aload_n 0, 1) := by decide +kernel
theorem dX11_init_191 : decode cX11_init 191 = .ok (.getfield 10, 3) := by decide +kernel
theorem dX11_init_194 : decode cX11_init 194 = .ok (.invokevirtual 110, 3) := by decide +kernel
theorem dX11_init_197 : decode cX11_init 197 = .ok (.pop, 1) := by decide +kernel
theorem dX11_init_198 : decode cX11_init 198 = .ok (.return_, 1) := by decide +kernel
theorem dX11_write_0 : decode cX11_write 0 = .ok (.iload_n 1, 1) := by decide +kernel
theorem dX11_write_1 : decode cX11_write 1 = .ok (.bipush 32, 2) := by decide +kernel
theorem dX11_write_3 : decode cX11_write 3 = .ok (.if_icmp .lt 9, 3) := by decide +kernel
theorem dX11_write_6 : decode cX11_write 6 = .ok (.iload_n 1, 1) := by decide +kernel
theorem dX11_write_7 : decode cX11_write 7 = .ok (.bipush 126, 2) := by decide +kernel
theorem dX11_write_9 : decode cX11_write 9 = .ok (.if_icmp .le 5, 3) := by decide +kernel
theorem dX11_write_12 : decode cX11_write 12 = .ok (.iconst (-1), 1) := by decide +kernel
theorem dX11_write_13 : decode cX11_write 13 = .ok (.ireturn, 1) := by decide +kernel
theorem dX11_write_14 : decode cX11_write 14 = .ok (.aload_n 0, 1) := by decide +kernel
theorem dX11_write_15 : decode cX11_write 15 = .ok (.getfield 10, 3) := by decide +kernel
theorem dX11_write_18 : decode cX11_write 18 = .ok (.iload_n 1, 1) := by decide +kernel
theorem dX11_write_19 : decode cX11_write 19 = .ok (.invokevirtual 99, 3) := by decide +kernel
theorem dX11_write_22 : decode cX11_write 22 = .ok (.ifCond .eq 13, 3) := by decide +kernel
theorem dX11_write_25 : decode cX11_write 25 = .ok (.aload_n 0, 1) := by decide +kernel
theorem dX11_write_26 : decode cX11_write 26 = .ok (.getfield 10, 3) := by decide +kernel
theorem dX11_write_29 : decode cX11_write 29 = .ok (.getfield 113, 3) := by decide +kernel
theorem dX11_write_32 : decode cX11_write 32 = .ok (.goto 5, 3) := by decide +kernel
theorem dX11_write_35 : decode cX11_write 35 = .ok (.bipush (-3), 2) := by decide +kernel
theorem dX11_write_37 : decode cX11_write 37 = .ok (.ireturn, 1) := by decide +kernel
theorem dX11_wipe_0 : decode cX11_wipe 0 = .ok (.aload_n 0, 1) := by decide +kernel
theorem dX11_wipe_1 : decode cX11_wipe 1 = .ok (.getfield 10, 3) := by decide +kernel
theorem dX11_wipe_4 : decode cX11_wipe 4 = .ok (.invokevirtual 110, 3) := by decide +kernel
theorem dX11_wipe_7 : decode cX11_wipe 7 = .ok (.ireturn, 1) := by decide +kernel
theorem dX11_fault_0 : decode cX11_fault 0 = .ok (.aload_n 0, 1) := by decide +kernel
theorem dX11_fault_1 : decode cX11_fault 1 = .ok (.getfield 19, 3) := by decide +kernel
theorem dX11_fault_4 : decode cX11_fault 4 = .ok (.aload_n 0, 1) := by decide +kernel
theorem dX11_fault_5 : decode cX11_fault 5 = .ok (.getfield 10, 3) := by decide +kernel
theorem dX11_fault_8 : decode cX11_fault 8 = .ok (.aload_n 0, 1) := by decide +kernel
theorem dX11_fault_9 : decode cX11_fault 9 = .ok (.getfield 84, 3) := by decide +kernel
theorem dX11_fault_12 : decode cX11_fault 12 = .ok (.invokevirtual 103, 3) := by decide +kernel
theorem dX11_fault_15 : decode cX11_fault 15 = .ok (.ireturn, 1) := by decide +kernel
theorem dX11_lay_0 : decode cX11_lay 0 = .ok (.aload_n 0, 1) := by decide +kernel
theorem dX11_lay_1 : decode cX11_lay 1 = .ok (.getfield 19, 3) := by decide +kernel
theorem dX11_lay_4 : decode cX11_lay 4 = .ok (.aload_n 0, 1) := by decide +kernel
theorem dX11_lay_5 : decode cX11_lay 5 = .ok (.getfield 10, 3) := by decide +kernel
theorem dX11_lay_8 : decode cX11_lay 8 = .ok (.aload_n 0, 1) := by decide +kernel
theorem dX11_lay_9 : decode cX11_lay 9 = .ok (.getfield 84, 3) := by decide +kernel
theorem dX11_lay_12 : decode cX11_lay 12 = .ok (.invokevirtual 103, 3) := by decide +kernel
theorem dX11_lay_15 : decode cX11_lay 15 = .ok (.bipush (-4), 2) := by decide +kernel
theorem dX11_lay_17 : decode cX11_lay 17 = .ok (.if_icmp .ne 13, 3) := by decide +kernel
theorem dX11_lay_20 : decode cX11_lay 20 = .ok (.aload_n 0, 1) := by decide +kernel
theorem dX11_lay_21 : decode cX11_lay 21 = .ok (.getfield 84, 3) := by decide +kernel
theorem dX11_lay_24 : decode cX11_lay 24 = .ok (.getfield 116, 3) := by decide +kernel
theorem dX11_lay_27 : decode cX11_lay 27 = .ok (.ifCond .ne 6, 3) := by decide +kernel
theorem dX11_lay_30 : decode cX11_lay 30 = .ok (.bipush (-2), 2) := by decide +kernel
theorem dX11_lay_32 : decode cX11_lay 32 = .ok (.ireturn, 1) := by decide +kernel
theorem dX11_lay_33 : decode cX11_lay 33 = .ok (.aload_n 0, 1) := by decide +kernel
theorem dX11_lay_34 : decode cX11_lay 34 = .ok (.invokevirtual 107, 3) := by decide +kernel
theorem dX11_lay_37 : decode cX11_lay 37 = .ok (.aload_n 0, 1) := by decide +kernel
theorem dX11_lay_38 : decode cX11_lay 38 = .ok (.getfield 80, 3) := by decide +kernel
theorem dX11_lay_41 : decode cX11_lay 41 = .ok (.getfield 116, 3) := by decide +kernel
theorem dX11_lay_44 : decode cX11_lay 44 = .ok (.ireturn, 1) := by decide +kernel
theorem dX11_frame_0 : decode cX11_frame 0 = .ok (.iload_n 1, 1) := by decide +kernel
theorem dX11_frame_1 : decode cX11_frame 1 = .ok (.aload_n 0, 1) := by decide +kernel
theorem dX11_frame_2 : decode cX11_frame 2 = .ok (.getfield 80, 3) := by decide +kernel
theorem dX11_frame_5 : decode cX11_frame 5 = .ok (.getfield 116, 3) := by decide +kernel
