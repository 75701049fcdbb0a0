theorem dX0_init_0 : decode cX0_init 0 = .ok (.aload_n 0, 1) := by decide +kernel
theorem dX0_init_1 : decode cX0_init 1 = .ok (.invokespecial 3, 3) := by decide +kernel
theorem dX0_init_4 : decode cX0_init 4 = .ok (.aload_n 0, 1) := by decide +kernel
theorem dX0_init_5 : decode cX0_init 5 = .ok (.bipush 15, 2) := by decide +kernel
theorem dX0_init_7 : decode cX0_init 7 = .ok (.newarray .int, 2) := by decide +kernel
theorem dX0_init_9 : decode cX0_init 9 = .ok (.putfield 11, 3) := by decide +kernel
theorem dX0_init_12 : decode cX0_init 12 = .ok (.aload_n 0, 1) := by decide +kernel
theorem dX0_init_13 : decode cX0_init 13 = .ok (.bipush 15, 2) := by decide +kernel
theorem dX0_init_15 : decode cX0_init 15 = .ok (.newarray .int, 2) := by decide +kernel
theorem dX0_init_17 : decode cX0_init 17 = .ok (.putfield 15, 3) := by decide +kernel
theorem dX0_init_20 : decode cX0_init 20 = .ok (.return_, 1) := by decide +kernel
theorem dX0_twist_0 : decode cX0_twist 0 = .ok (.aload_n 0, 1) := by decide +kernel
theorem dX0_twist_1 : decode cX0_twist 1 = .ok (.getfield 11, 3) := by decide +kernel
theorem dX0_twist_4 : decode cX0_twist 4 = .ok (.iconst 0, 1) := by decide +kernel
theorem dX0_twist_5 : decode cX0_twist 5 = .ok (.invokestatic 18, 3) := by decide +kernel
theorem dX0_twist_8 : decode cX0_twist 8 = .ok (.aload_n 0, 1) := by decide +kernel
theorem dX0_twist_9 : decode cX0_twist 9 = .ok (.getfield 15, 3) := by decide +kernel
theorem dX0_twist_12 : decode cX0_twist 12 = .ok (.iconst 0, 1) := by decide +kernel
theorem dX0_twist_13 : decode cX0_twist 13 = .ok (.invokestatic 18, 3) := by decide +kernel
theorem dX0_twist_16 : decode cX0_twist 16 = .ok (.aload_n 0, 1) := by decide +kernel
theorem dX0_twist_17 : decode cX0_twist 17 = .ok (.getfield 11, 3) := by decide +kernel
theorem dX0_twist_20 : decode cX0_twist 20 = .ok (.bipush 7, 2) := by decide +kernel
theorem dX0_twist_22 : decode cX0_twist 22 = .ok (.iconst 1, 1) := by decide +kernel
theorem dX0_twist_23 : decode cX0_twist 23 = .ok (.iastore, 1) := by decide +kernel
theorem dX0_twist_24 : decode cX0_twist 24 = .ok (.iconst 0, 1) := by decide +kernel
theorem dX0_twist_25 : decode cX0_twist 25 = .ok (.istore 4, 2) := by decide +kernel
theorem dX0_twist_27 : decode cX0_twist 27 = .ok (.iload 4, 2) := by decide +kernel
theorem dX0_twist_29 : decode cX0_twist 29 = .ok (.iload_n 1, 1) := by decide +kernel
theorem dX0_twist_30 : decode cX0_twist 30 = .ok (.if_icmp .ge 90, 3) := by decide +kernel
theorem dX0_twist_33 : decode cX0_twist 33 = .ok (.iconst 1, 1) := by decide +kernel
theorem dX0_twist_34 : decode cX0_twist 34 = .ok (.istore 5, 2) := by decide +kernel
theorem dX0_twist_36 : decode cX0_twist 36 = .ok (.iload 5, 2) := by decide +kernel
theorem dX0_twist_38 : decode cX0_twist 38 = .ok (.bipush 14, 2) := by decide +kernel
theorem dX0_twist_40 : decode cX0_twist 40 = .ok (.if_icmp .ge 54, 3) := by decide +kernel
theorem dX0_twist_43 : decode cX0_twist 43 = .ok (.aload_n 0, 1) := by decide +kernel
theorem dX0_twist_44 : decode cX0_twist 44 = .ok (.getfield 15, 3) := by decide +kernel
theorem dX0_twist_47 : decode cX0_twist 47 = .ok (.iload 5, 2) := by decide +kernel
theorem dX0_twist_49 : decode cX0_twist 49 = .ok (.aload_n 0, 1) := by decide +kernel
theorem dX0_twist_50 : decode cX0_twist 50 = .ok (.getfield 11, 3) := by decide +kernel
theorem dX0_twist_53 : decode cX0_twist 53 = .ok (.iload 5, 2) := by decide +kernel
theorem dX0_twist_55 : decode cX0_twist 55 = .ok (.iconst 1, 1) := by decide +kernel
theorem dX0_twist_56 : decode cX0_twist 56 = .ok (.isub, 1) := by decide +kernel
theorem dX0_twist_57 : decode cX0_twist 57 = .ok (.iaload, 1) := by decide +kernel
theorem dX0_twist_58 : decode cX0_twist 58 = .ok (.iload_n 2, 1) := by decide +kernel
theorem dX0_twist_59 : decode cX0_twist 59 = .ok (.imul, 1) := by decide +kernel
theorem dX0_twist_60 : decode cX0_twist 60 = .ok (.aload_n 0, 1) := by decide +kernel
theorem dX0_twist_61 : decode cX0_twist 61 = .ok (.getfield 11, 3) := by decide +kernel
theorem dX0_twist_64 : decode cX0_twist 64 = .ok (.iload 5, 2) := by decide +kernel
theorem dX0_twist_66 : decode cX0_twist 66 = .ok (.iconst 1, 1) := by decide +kernel
theorem dX0_twist_67 : decode cX0_twist 67 = .ok (.iadd, 1) := by decide +kernel
theorem dX0_twist_68 : decode cX0_twist 68 = .ok (.iaload, 1) := by decide +kernel
theorem dX0_twist_69 : decode cX0_twist 69 = .ok (.iload_n 3, 1) := by decide +kernel
theorem dX0_twist_70 : decode cX0_twist 70 = .ok (.imul, 1) := by decide +kernel
theorem dX0_twist_71 : decode cX0_twist 71 = .ok (.iadd, 1) := by decide +kernel
theorem dX0_twist_72 : decode cX0_twist 72 = .ok (.aload_n 0, 1) := by decide +kernel
theorem dX0_twist_73 : decode cX0_twist 73 = .ok (.getfield 11, 3) := by decide +kernel
theorem dX0_twist_76 : decode cX0_twist 76 = .ok (.iload 5, 2) := by decide +kernel
theorem dX0_twist_78 : decode cX0_twist 78 = .ok (.iaload, 1) := by decide +kernel
theorem dX0_twist_79 : decode cX0_twist 79 = .ok (.bipush 10, 2) := by decide +kernel
theorem dX0_twist_81 : decode cX0_twist 81 = .ok (.iload_n 2, 1) := by decide +kernel
theorem dX0_twist_82 : decode cX0_twist 82 = .ok (.isub, 1) := by decide +kernel
theorem dX0_twist_83 : decode cX0_twist 83 = .ok (.iload_n 3, 1) := by decide +kernel
theorem dX0_twist_84 : decode cX0_twist 84 = .ok (.isub, 1) := by decide +kernel
theorem dX0_twist_85 : decode cX0_twist 85 = .ok (.imul, 1) := by decide +kernel
theorem dX0_twist_86 : decode cX0_twist 86 = .ok (.iadd, 1) := by decide +kernel
theorem dX0_twist_87 : decode cX0_twist 87 = .ok (.iastore, 1) := by decide +kernel
theorem dX0_twist_88 : decode cX0_twist 88 = .ok (.iinc 5 1, 3) := by decide +kernel
theorem dX0_twist_91 : decode cX0_twist 91 = .ok (.goto (-55), 3) := by decide +kernel
theorem dX0_twist_94 : decode cX0_twist 94 = .ok (.aload_n 0, 1) := by decide +kernel
theorem dX0_twist_95 : decode cX0_twist 95 = .ok (.getfield 11, 3) := by decide +kernel
theorem dX0_twist_98 : decode cX0_twist 98 = .ok (.astore 5, 2) := by decide +kernel
theorem dX0_twist_100 : decode cX0_twist 100 = .ok (.aload_n 0, 1) := by decide +kernel
theorem dX0_twist_101 : decode cX0_twist 101 = .ok (.aload_n 0, 1) := by decide +kernel
theorem dX0_twist_102 : decode cX0_twist 102 = .ok (.getfield 15, 3) := by decide +kernel
theorem dX0_twist_105 : decode cX0_twist 105 = .ok (.putfield 11, 3) := by decide +kernel
theorem dX0_twist_108 : decode cX0_twist 108 = .ok (.aload_n 0, 1) := by decide +kernel
theorem dX0_twist_109 : decode cX0_twist 109 = .ok (.aload 5, 2) := by decide +kernel
theorem dX0_twist_111 : decode cX0_twist 111 = .ok (.putfield 15, 3) := by decide +kernel
theorem dX0_twist_114 : decode cX0_twist 114 = .ok (.iinc 4 1, 3) := by decide +kernel
theorem dX0_twist_117 : decode cX0_twist 117 = .ok (.goto (-90), 3) := by decide +kernel
theorem dX0_twist_120 : decode cX0_twist 120 = .ok (.return_, 1) := by decide +kernel
theorem dX0_waysWithin_0 : decode cX0_waysWithin 0 = .ok (.iconst 0, 1) := by decide +kernel
theorem dX0_waysWithin_1 : decode cX0_waysWithin 1 = .ok (.istore_n 3, 1) := by decide +kernel
theorem dX0_waysWithin_2 : decode cX0_waysWithin 2 = .ok (.bipush (-6), 2) := by decide +kernel
theorem dX0_waysWithin_4 : decode cX0_waysWithin 4 = .ok (.istore 4, 2) := by decide +kernel
theorem dX0_waysWithin_6 : decode cX0_waysWithin 6 = .ok (.iload 4, 2) := by decide +kernel
theorem dX0_waysWithin_8 : decode cX0_waysWithin 8 = .ok (.bipush 6, 2) := by decide +kernel
theorem dX0_waysWithin_10 : decode cX0_waysWithin 10 = .ok (.if_icmp .gt 33, 3) := by decide +kernel
theorem dX0_waysWithin_13 : decode cX0_waysWithin 13 = .ok (.iload_n 1, 1) := by decide +kernel
theorem dX0_waysWithin_14 : decode cX0_waysWithin 14 = .ok (.iload 4, 2) := by decide +kernel
theorem dX0_waysWithin_16 : decode cX0_waysWithin 16 = .ok (.iadd, 1) := by decide +kernel
theorem dX0_waysWithin_17 : decode cX0_waysWithin 17 = .ok (.invokestatic 24, 3) := by decide +kernel
theorem dX0_waysWithin_20 : decode cX0_waysWithin 20 = .ok (.iload_n 2, 1) := by decide +kernel
theorem dX0_waysWithin_21 : decode cX0_waysWithin 21 = .ok (.if_icmp .gt 16, 3) := by decide +kernel
theorem dX0_waysWithin_24 : decode cX0_waysWithin 24 = .ok (.iload_n 3, 1) := by decide +kernel
theorem dX0_waysWithin_25 : decode cX0_waysWithin 25 = .ok (.aload_n 0, 1) := by decide +kernel
theorem dX0_waysWithin_26 : decode cX0_waysWithin 26 = .ok (.getfield 11, 3) := by decide +kernel
theorem dX0_waysWithin_29 : decode cX0_waysWithin 29 = .ok (.bipush 7, 2) := by decide +kernel
theorem dX0_waysWithin_31 : decode cX0_waysWithin 31 = .ok (.iload 4, 2) := by decide +kernel
theorem dX0_waysWithin_33 : decode cX0_waysWithin 33 = .ok (.iadd, 1) := by decide +kernel
theorem dX0_waysWithin_34 : decode cX0_waysWithin 34 = .ok (.iaload, 1) := by decide +kernel
theorem dX0_waysWithin_35 : decode cX0_waysWithin 35 = .ok (.iadd, 1) := by decide +kernel
theorem dX0_waysWithin_36 : decode cX0_waysWithin 36 = .ok (.istore_n 3, 1) := by decide +kernel
theorem dX0_waysWithin_37 : decode cX0_waysWithin 37 = .ok (.iinc 4 1, 3) := by decide +kernel
theorem dX0_waysWithin_40 : decode cX0_waysWithin 40 = .ok (.goto (-34), 3) := by decide +kernel
theorem dX0_waysWithin_43 : decode cX0_waysWithin 43 = .ok (.iload_n 3, 1) := by decide +kernel
theorem dX0_waysWithin_44 : decode cX0_waysWithin 44 = .ok (.ireturn, 1) := by decide +kernel
theorem dX0_allWays_0 : decode cX0_allWays 0 = .ok (.iconst 1, 1) := by decide +kernel
theorem dX0_allWays_1 : decode cX0_allWays 1 = .ok (.istore_n 2, 1) := by decide +kernel
theorem dX0_allWays_2 : decode cX0_allWays 2 = .ok (.iconst 0, 1) := by decide +kernel
theorem dX0_allWays_3 : decode cX0_allWays 3 = .ok (.istore_n 3, 1) := by decide +kernel
theorem dX0_allWays_4 : decode cX0_allWays 4 = .ok (.iload_n 3, 1) := by decide +kernel
theorem dX0_allWays_5 : decode cX0_allWays 5 = .ok (.iload_n 1, 1) := by decide +kernel
theorem dX0_allWays_6 : decode cX0_allWays 6 = .ok (.if_icmp .ge 14, 3) := by decide +kernel
theorem dX0_allWays_9 : decode cX0_allWays 9 = .ok (.iload_n 2, 1) := by decide +kernel
theorem dX0_allWays_10 : decode cX0_allWays 10 = .ok (.bipush 10, 2) := by decide +kernel
theorem dX0_allWays_12 : decode cX0_allWays 12 = .ok (.imul, 1) := by decide +kernel
theorem dX0_allWays_13 : decode cX0_allWays 13 = .ok (.istore_n 2, 1) := by decide +kernel
theorem dX0_allWays_14 : decode cX0_allWays 14 = .ok (.iinc 3 1, 3) := by decide +kernel
theorem dX0_allWays_17 : decode cX0_allWays 17 = .ok (.goto (-13), 3) := by decide +kernel
theorem dX0_allWays_20 : decode cX0_allWays 20 = .ok (.iload_n 2, 1) := by decide +kernel
theorem dX0_allWays_21 : decode cX0_allWays 21 = .ok (.ireturn, 1) := by decide +kernel
theorem dX0_commonDivisor_0 : decode cX0_commonDivisor 0 = .ok (.iload_n 0, 1) := by decide +kernel
theorem dX0_commonDivisor_1 : decode cX0_commonDivisor 1 = .ok (.istore_n 2, 1) := by decide +kernel
theorem dX0_commonDivisor_2 : decode cX0_commonDivisor 2 = .ok (.iload_n 1, 1) := by decide +kernel
theorem dX0_commonDivisor_3 : decode cX0_commonDivisor 3 = .ok (.istore_n 3, 1) := by decide +kernel
theorem dX0_commonDivisor_4 : decode cX0_commonDivisor 4 = .ok (.iconst 0, 1) := by decide +kernel
theorem dX0_commonDivisor_5 : decode cX0_commonDivisor 5 = .ok (.istore 4, 2) := by decide +kernel
theorem dX0_commonDivisor_7 : decode cX0_commonDivisor 7 = .ok (.iload 4, 2) := by decide +kernel
theorem dX0_commonDivisor_9 : decode cX0_commonDivisor 9 = .ok (.bipush 100, 2) := by decide +kernel
theorem dX0_commonDivisor_11 : decode cX0_commonDivisor 11 = .ok (.if_icmp .ge 23, 3) := by decide +kernel
theorem dX0_commonDivisor_14 : decode cX0_commonDivisor 14 = .ok (.iload_n 3, 1) := by decide +kernel
theorem dX0_commonDivisor_15 : decode cX0_commonDivisor 15 = .ok (.ifCond .eq 19, 3) := by decide +kernel
theorem dX0_commonDivisor_18 : decode cX0_commonDivisor 18 = .ok (.iload_n 2, 1) := by decide +kernel
theorem dX0_commonDivisor_19 : decode cX0_commonDivisor 19 = .ok (.iload_n 3, 1) := by decide +kernel
theorem dX0_commonDivisor_20 : decode cX0_commonDivisor 20 = .ok (.irem, 1) := by decide +kernel
theorem dX0_commonDivisor_21 : decode cX0_commonDivisor 21 = .ok (.istore 5, 2) := by decide +kernel
theorem dX0_commonDivisor_23 : decode cX0_commonDivisor 23 = .ok (.iload_n 3, 1) := by decide +kernel
theorem dX0_commonDivisor_24 : decode cX0_commonDivisor 24 = .ok (.istore_n 2, 1) := by decide +kernel
theorem dX0_commonDivisor_25 : decode cX0_commonDivisor 25 = .ok (.iload 5, 2) := by decide +kernel
theorem dX0_commonDivisor_27 : decode cX0_commonDivisor 27 = .ok (.istore_n 3, 1) := by decide +kernel
theorem dX0_commonDivisor_28 : decode cX0_commonDivisor 28 = .ok (.iinc 4 1, 3) := by decide +kernel
theorem dX0_commonDivisor_31 : decode cX0_commonDivisor 31 = .ok (.goto (-24), 3) := by decide +kernel
theorem dX0_commonDivisor_34 : decode cX0_commonDivisor 34 = .ok (.iload_n 2, 1) := by decide +kernel
theorem dX0_commonDivisor_35 : decode cX0_commonDivisor 35 = .ok (.ireturn, 1) := by decide +kernel
theorem dX1_init_0 : decode cX1_init 0 = .ok (.aload_n 0, 1) := by decide +kernel
theorem dX1_init_1 : decode cX1_init 1 = .ok (.invokespecial 3, 3) := by decide +kernel
theorem dX1_init_4 : decode cX1_init 4 = .ok (.aload_n 0, 1) := by decide +kernel
theorem dX1_init_5 : decode cX1_init 5 = .ok (.bipush 31, 2) := by decide +kernel
theorem dX1_init_7 : decode cX1_init 7 = .ok (.bipush 7, 2) := by decide +kernel
theorem dX1_init_9 : decode cX1_init 9 = .ok (.multianewarray 9 2, 4) := by decide +kernel
theorem dX1_init_13 : decode cX1_init 13 = .ok (.putfield 11, 3) := by decide +kernel
theorem dX1_init_16 : decode cX1_init 16 = .ok (.aload_n 0, 1) := by decide +kernel
theorem dX1_init_17 : decode cX1_init 17 = .ok (.bipush 31, 2) := by decide +kernel
theorem dX1_init_19 : decode cX1_init 19 = .ok (.bipush 7, 2) := by decide +kernel
theorem dX1_init_21 : decode cX1_init 21 = .ok (.multianewarray 9 2, 4) := by decide +kernel
theorem dX1_init_25 : decode cX1_init 25 = .ok (.putfield 16, 3) := by decide +kernel
theorem dX1_init_28 : decode cX1_init 28 = .ok (.aload_n 0, 1) := by decide +kernel
theorem dX1_init_29 : decode cX1_init 29 = .ok (.bipush 31, 2) := by decide +kernel
theorem dX1_init_31 : decode cX1_init 31 = .ok (.iconst 5, 1) := by decide +kernel
theorem dX1_init_32 : decode cX1_init 32 = .ok (.multianewarray 9 2, 4) := by decide +kernel
theorem dX1_init_36 : decode cX1_init 36 = .ok (.putfield 19, 3) := by decide +kernel
theorem dX1_init_39 : decode cX1_init 39 = .ok (.aload_n 0, 1) := by decide +kernel
theorem dX1_init_40 : decode cX1_init 40 = .ok (.bipush 31, 2) := by decide +kernel
theorem dX1_init_42 : decode cX1_init 42 = .ok (.newarray .int, 2) := by decide +kernel
theorem dX1_init_44 : decode cX1_init 44 = .ok (.putfield 22, 3) := by decide +kernel
theorem dX1_init_47 : decode cX1_init 47 = .ok (.aload_n 0, 1) := by decide +kernel
theorem dX1_init_48 : decode cX1_init 48 = .ok (.iconst 1, 1) := by decide +kernel
theorem dX1_init_49 : decode cX1_init 49 = .ok (.putfield 26, 3) := by decide +kernel
theorem dX1_init_52 : decode cX1_init 52 = .ok (.return_, 1) := by decide +kernel
theorem dX1_play_0 : decode cX1_play 0 = .ok (.aload_n 1, 1) := by decide +kernel
theorem dX1_play_1 : decode cX1_play 1 = .ok (.getfield 30, 3) := by decide +kernel
theorem dX1_play_4 : decode cX1_play 4 = .ok (.astore_n 3, 1) := by decide +kernel
theorem dX1_play_5 : decode cX1_play 5 = .ok (.iconst 0, 1) := by decide +kernel
theorem dX1_play_6 : decode cX1_play 6 = .ok (.istore 4, 2) := by decide +kernel
theorem dX1_play_8 : decode cX1_play 8 = .ok (.iload 4, 2) := by decide +kernel
theorem dX1_play_10 : decode cX1_play 10 = .ok (.bipush 31, 2) := by decide +kernel
theorem dX1_play_12 : decode cX1_play 12 = .ok (.if_icmp .ge 85, 3) := by decide +kernel
theorem dX1_play_15 : decode cX1_play 15 = .ok (.aload_n 0, 1) := by decide +kernel
theorem dX1_play_16 : decode cX1_play 16 = .ok (.getfield 11, 3) := by decide +kernel
theorem dX1_play_19 : decode cX1_play 19 = .ok (.iload 4, 2) := by decide +kernel
theorem dX1_play_21 : decode cX1_play 21 = .ok (.aaload, 1) := by decide +kernel
theorem dX1_play_22 : decode cX1_play 22 = .ok (.astore 5, 2) := by decide +kernel
theorem dX1_play_24 : decode cX1_play 24 = .ok (.aload_n 0, 1) := by decide +kernel
theorem dX1_play_25 : decode cX1_play 25 = .ok (.getfield 16, 3) := by decide +kernel
theorem dX1_play_28 : decode cX1_play 28 = .ok (.iload 4, 2) := by decide +kernel
theorem dX1_play_30 : decode cX1_play 30 = .ok (.aaload, 1) := by decide +kernel
theorem dX1_play_31 : decode cX1_play 31 = .ok (.astore 6, 2) := by decide +kernel
theorem dX1_play_33 : decode cX1_play 33 = .ok (.aload_n 3, 1) := by decide +kernel
theorem dX1_play_34 : decode cX1_play 34 = .ok (.iconst 0, 1) := by decide +kernel
theorem dX1_play_35 : decode cX1_play 35 = .ok (.aload 5, 2) := by decide +kernel
theorem dX1_play_37 : decode cX1_play 37 = .ok (.iconst 0, 1) := by decide +kernel
theorem dX1_play_38 : decode cX1_play 38 = .ok (.bipush 7, 2) := by decide +kernel
theorem dX1_play_40 : decode cX1_play 40 = .ok (.invokestatic 35, 3) := by decide +kernel
theorem dX1_play_43 : decode cX1_play 43 = .ok (.aload_n 1, 1) := by decide +kernel
theorem dX1_play_44 : decode cX1_play 44 = .ok (.aload 5, 2) := by decide +kernel
theorem dX1_play_46 : decode cX1_play 46 = .ok (.invokevirtual 41, 3) := by decide +kernel
theorem dX1_play_49 : decode cX1_play 49 = .ok (.aload_n 2, 1) := by decide +kernel
theorem dX1_play_50 : decode cX1_play 50 = .ok (.iload 4, 2) := by decide +kernel
theorem dX1_play_52 : decode cX1_play 52 = .ok (.aload 5, 2) := by decide +kernel
theorem dX1_play_54 : decode cX1_play 54 = .ok (.invokevirtual 45, 3) := by decide +kernel
theorem dX1_play_57 : decode cX1_play 57 = .ok (.aload 5, 2) := by decide +kernel
theorem dX1_play_59 : decode cX1_play 59 = .ok (.iconst 0, 1) := by decide +kernel
theorem dX1_play_60 : decode cX1_play 60 = .ok (.aload 6, 2) := by decide +kernel
theorem dX1_play_62 : decode cX1_play 62 = .ok (.iconst 0, 1) := by decide +kernel
theorem dX1_play_63 : decode cX1_play 63 = .ok (.bipush 7, 2) := by decide +kernel
theorem dX1_play_65 : decode cX1_play 65 = .ok (.invokestatic 35, 3) := by decide +kernel
theorem dX1_play_68 : decode cX1_play 68 = .ok (.aload_n 0, 1) := by decide +kernel
theorem dX1_play_69 : decode cX1_play 69 = .ok (.getfield 22, 3) := by decide +kernel
theorem dX1_play_72 : decode cX1_play 72 = .ok (.iload 4, 2) := by decide +kernel
theorem dX1_play_74 : decode cX1_play 74 = .ok (.aload_n 1, 1) := by decide +kernel
theorem dX1_play_75 : decode cX1_play 75 = .ok (.aload 6, 2) := by decide +kernel
theorem dX1_play_77 : decode cX1_play 77 = .ok (.aload_n 0, 1) := by decide +kernel
theorem dX1_play_78 : decode cX1_play 78 = .ok (.getfield 19, 3) := by decide +kernel
theorem dX1_play_81 : decode cX1_play 81 = .ok (.iload 4, 2) := by decide +kernel
theorem dX1_play_83 : decode cX1_play 83 = .ok (.aaload, 1) := by decide +kernel
theorem dX1_play_84 : decode cX1_play 84 = .ok (.invokevirtual 51, 3) := by decide +kernel
theorem dX1_play_87 : decode cX1_play 87 = .ok (.iastore, 1) := by decide +kernel
theorem dX1_play_88 : decode cX1_play 88 = .ok (.aload 6, 2) := by decide +kernel
theorem dX1_play_90 : decode cX1_play 90 = .ok (.astore_n 3, 1) := by decide +kernel
theorem dX1_play_91 : decode cX1_play 91 = .ok (.iinc 4 1, 3) := by decide +kernel
theorem dX1_play_94 : decode cX1_play 94 = .ok (.goto (-86), 3) := by decide +kernel
theorem dX1_play_97 : decode cX1_play 97 = .ok (.aload_n 0, 1) := by decide +kernel
theorem dX1_play_98 : decode cX1_play 98 = .ok (.iconst 0, 1) := by decide +kernel
theorem dX1_play_99 : decode cX1_play 99 = .ok (.putfield 26, 3) := by decide +kernel
theorem dX1_play_102 : decode cX1_play 102 = .ok (.return_, 1) := by decide +kernel
theorem dX1_firstOfRest_0 : decode cX1_firstOfRest 0 = .ok (.bipush 31, 2) := by decide +kernel
theorem dX1_firstOfRest_2 : decode cX1_firstOfRest 2 = .ok (.istore_n 2, 1) := by decide +kernel
theorem dX1_firstOfRest_3 : decode cX1_firstOfRest 3 = .ok (.iload_n 2, 1) := by decide +kernel
theorem dX1_firstOfRest_4 : decode cX1_firstOfRest 4 = .ok (.ifCond .le 20, 3) := by decide +kernel
theorem dX1_firstOfRest_7 : decode cX1_firstOfRest 7 = .ok (.aload_n 0, 1) := by decide +kernel
theorem dX1_firstOfRest_8 : decode cX1_firstOfRest 8 = .ok (.aload_n 1, 1) := by decide +kernel
theorem dX1_firstOfRest_9 : decode cX1_firstOfRest 9 = .ok (.iload_n 2, 1) := by decide +kernel
theorem dX1_firstOfRest_10 : decode cX1_firstOfRest 10 = .ok (.iconst 1, 1) := by decide +kernel
theorem dX1_firstOfRest_11 : decode cX1_firstOfRest 11 = .ok (.isub, 1) := by decide +kernel
theorem dX1_firstOfRest_12 : decode cX1_firstOfRest 12 = .ok (.invokevirtual 55, 3) := by decide +kernel
theorem dX1_firstOfRest_15 : decode cX1_firstOfRest 15 = .ok (.ifCond .eq 9, 3) := by decide +kernel
theorem dX1_firstOfRest_18 : decode cX1_firstOfRest 18 = .ok (.iinc 2 (-1), 3) := by decide +kernel
theorem dX1_firstOfRest_21 : decode cX1_firstOfRest 21 = .ok (.goto (-18), 3) := by decide +kernel
theorem dX1_firstOfRest_24 : decode cX1_firstOfRest 24 = .ok (.iload_n 2, 1) := by decide +kernel
theorem dX1_firstOfRest_25 : decode cX1_firstOfRest 25 = .ok (.bipush 31, 2) := by decide +kernel
theorem dX1_firstOfRest_27 : decode cX1_firstOfRest 27 = .ok (.if_icmp .ge 7, 3) := by decide +kernel
theorem dX1_firstOfRest_30 : decode cX1_firstOfRest 30 = .ok (.iload_n 2, 1) := by decide +kernel
theorem dX1_firstOfRest_31 : decode cX1_firstOfRest 31 = .ok (.goto 5, 3) := by decide +kernel
theorem dX1_firstOfRest_34 : decode cX1_firstOfRest 34 = .ok (.bipush (-4), 2) := by decide +kernel
theorem dX1_firstOfRest_36 : decode cX1_firstOfRest 36 = .ok (.ireturn, 1) := by decide +kernel
theorem dX1_isAsAhead_0 : decode cX1_isAsAhead 0 = .ok (.iload_n 2, 1) := by decide +kernel
theorem dX1_isAsAhead_1 : decode cX1_isAsAhead 1 = .ok (.ifCond .le 14, 3) := by decide +kernel
theorem dX1_isAsAhead_4 : decode cX1_isAsAhead 4 = .ok (.aload_n 0, 1) := by decide +kernel
theorem dX1_isAsAhead_5 : decode cX1_isAsAhead 5 = .ok (.getfield 16, 3) := by decide +kernel
theorem dX1_isAsAhead_8 : decode cX1_isAsAhead 8 = .ok (.iload_n 2, 1) := by decide +kernel
theorem dX1_isAsAhead_9 : decode cX1_isAsAhead 9 = .ok (.iconst 1, 1) := by decide +kernel
theorem dX1_isAsAhead_10 : decode cX1_isAsAhead 10 = .ok (.isub, 1) := by decide +kernel
theorem dX1_isAsAhead_11 : decode cX1_isAsAhead 11 = .ok (.aaload, 1) := by decide +kernel
theorem dX1_isAsAhead_12 : decode cX1_isAsAhead 12 = .ok (.goto 7, 3) := by decide +kernel
theorem dX1_isAsAhead_15 : decode cX1_isAsAhead 15 = .ok (.aload_n 1, 1) := by decide +kernel
theorem dX1_isAsAhead_16 : decode cX1_isAsAhead 16 = .ok (.getfield 30, 3) := by decide +kernel
theorem dX1_isAsAhead_19 : decode cX1_isAsAhead 19 = .ok (.astore_n 3, 1) := by decide +kernel
theorem dX1_isAsAhead_20 : decode cX1_isAsAhead 20 = .ok (.iconst 0, 1) := by decide +kernel
theorem dX1_isAsAhead_21 : decode cX1_isAsAhead 21 = .ok (.istore 4, 2) := by decide +kernel
theorem dX1_isAsAhead_23 : decode cX1_isAsAhead 23 = .ok (.iload 4, 2) := by decide +kernel
theorem dX1_isAsAhead_25 : decode cX1_isAsAhead 25 = .ok (.aload_n 1, 1) := by decide +kernel
theorem dX1_isAsAhead_26 : decode cX1_isAsAhead 26 = .ok (.getfield 59, 3) := by decide +kernel
theorem dX1_isAsAhead_29 : decode cX1_isAsAhead 29 = .ok (.if_icmp .ge 27, 3) := by decide +kernel
theorem dX1_isAsAhead_32 : decode cX1_isAsAhead 32 = .ok (.aload_n 0, 1) := by decide +kernel
theorem dX1_isAsAhead_33 : decode cX1_isAsAhead 33 = .ok (.getfield 16, 3) := by decide +kernel
theorem dX1_isAsAhead_36 : decode cX1_isAsAhead 36 = .ok (.iload_n 2, 1) := by decide +kernel
theorem dX1_isAsAhead_37 : decode cX1_isAsAhead 37 = .ok (.aaload, 1) := by decide +kernel
theorem dX1_isAsAhead_38 : decode cX1_isAsAhead 38 = .ok (.iload 4, 2) := by decide +kernel
theorem dX1_isAsAhead_40 : decode cX1_isAsAhead 40 = .ok (.iaload, 1) := by decide +kernel
theorem dX1_isAsAhead_41 : decode cX1_isAsAhead 41 = .ok (.aload_n 3, 1) := by decide +kernel
theorem dX1_isAsAhead_42 : decode cX1_isAsAhead 42 = .ok (.iload 4, 2) := by decide +kernel
theorem dX1_isAsAhead_44 : decode cX1_isAsAhead 44 = .ok (.iaload, 1) := by decide +kernel
theorem dX1_isAsAhead_45 : decode cX1_isAsAhead 45 = .ok (.if_icmp .eq 5, 3) := by decide +kernel
theorem dX1_isAsAhead_48 : decode cX1_isAsAhead 48 = .ok (.iconst 0, 1) := by decide +kernel
theorem dX1_isAsAhead_49 : decode cX1_isAsAhead 49 = .ok (.ireturn, 1) := by decide +kernel
theorem dX1_isAsAhead_50 : decode cX1_isAsAhead 50 = .ok (.iinc 4 1, 3) := by decide +kernel
theorem dX1_isAsAhead_53 : decode cX1_isAsAhead 53 = .ok (.goto (-30), 3) := by decide +kernel
theorem dX1_isAsAhead_56 : decode cX1_isAsAhead 56 = .ok (.iconst 1, 1) := by decide +kernel
theorem dX1_isAsAhead_57 : decode cX1_isAsAhead 57 = .ok (.ireturn, 1) := by decide +kernel
theorem dX1_swaying_0 : decode cX1_swaying 0 = .ok (.iconst 0, 1) := by decide +kernel
theorem dX1_swaying_1 : decode cX1_swaying 1 = .ok (.istore_n 2, 1) := by decide +kernel
theorem dX1_swaying_2 : decode cX1_swaying 2 = .ok (.iconst 0, 1) := by decide +kernel
theorem dX1_swaying_3 : decode cX1_swaying 3 = .ok (.istore_n 3, 1) := by decide +kernel
theorem dX1_swaying_4 : decode cX1_swaying 4 = .ok (.iload_n 3, 1) := by decide +kernel
theorem dX1_swaying_5 : decode cX1_swaying 5 = .ok (.iload_n 1, 1) := by decide +kernel
theorem dX1_swaying_6 : decode cX1_swaying 6 = .ok (.if_icmp .ge 20, 3) := by decide +kernel
theorem dX1_swaying_9 : decode cX1_swaying 9 = .ok (.aload_n 0, 1) := by decide +kernel
theorem dX1_swaying_10 : decode cX1_swaying 10 = .ok (.iload_n 3, 1) := by decide +kernel
theorem dX1_swaying_11 : decode cX1_swaying 11 = .ok (.invokevirtual 63, 3) := by decide +kernel
theorem dX1_swaying_14 : decode cX1_swaying 14 = .ok (.ifCond .eq 6, 3) := by decide +kernel
theorem dX1_swaying_17 : decode cX1_swaying 17 = .ok (.iinc 2 1, 3) := by decide +kernel
theorem dX1_swaying_20 : decode cX1_swaying 20 = .ok (.iinc 3 1, 3) := by decide +kernel
theorem dX1_swaying_23 : decode cX1_swaying 23 = .ok (.goto (-19), 3) := by decide +kernel
theorem dX1_swaying_26 : decode cX1_swaying 26 = .ok (.iload_n 2, 1) := by decide +kernel
theorem dX1_swaying_27 : decode cX1_swaying 27 = .ok (.ireturn, 1) := by decide +kernel
theorem dX1_swaysOne_0 : decode cX1_swaysOne 0 = .ok (.iconst 1, 1) := by decide +kernel
theorem dX1_swaysOne_1 : decode cX1_swaysOne 1 = .ok (.istore_n 2, 1) := by decide +kernel
theorem dX1_swaysOne_2 : decode cX1_swaysOne 2 = .ok (.iload_n 2, 1) := by decide +kernel
theorem dX1_swaysOne_3 : decode cX1_swaysOne 3 = .ok (.bipush 31, 2) := by decide +kernel
theorem dX1_swaysOne_5 : decode cX1_swaysOne 5 = .ok (.if_icmp .ge 30, 3) := by decide +kernel
theorem dX1_swaysOne_8 : decode cX1_swaysOne 8 = .ok (.aload_n 0, 1) := by decide +kernel
theorem dX1_swaysOne_9 : decode cX1_swaysOne 9 = .ok (.getfield 16, 3) := by decide +kernel
theorem dX1_swaysOne_12 : decode cX1_swaysOne 12 = .ok (.iload_n 2, 1) := by decide +kernel
theorem dX1_swaysOne_13 : decode cX1_swaysOne 13 = .ok (.aaload, 1) := by decide +kernel
theorem dX1_swaysOne_14 : decode cX1_swaysOne 14 = .ok (.iload_n 1, 1) := by decide +kernel
theorem dX1_swaysOne_15 : decode cX1_swaysOne 15 = .ok (.iaload, 1) := by decide +kernel
theorem dX1_swaysOne_16 : decode cX1_swaysOne 16 = .ok (.aload_n 0, 1) := by decide +kernel
theorem dX1_swaysOne_17 : decode cX1_swaysOne 17 = .ok (.getfield 16, 3) := by decide +kernel
theorem dX1_swaysOne_20 : decode cX1_swaysOne 20 = .ok (.iconst 0, 1) := by decide +kernel
theorem dX1_swaysOne_21 : decode cX1_swaysOne 21 = .ok (.aaload, 1) := by decide +kernel
theorem dX1_swaysOne_22 : decode cX1_swaysOne 22 = .ok (.iload_n 1, 1) := by decide +kernel
theorem dX1_swaysOne_23 : decode cX1_swaysOne 23 = .ok (.iaload, 1) := by decide +kernel
theorem dX1_swaysOne_24 : decode cX1_swaysOne 24 = .ok (.if_icmp .eq 5, 3) := by decide +kernel
theorem dX1_swaysOne_27 : decode cX1_swaysOne 27 = .ok (.iconst 1, 1) := by decide +kernel
theorem dX1_swaysOne_28 : decode cX1_swaysOne 28 = .ok (.ireturn, 1) := by decide +kernel
theorem dX1_swaysOne_29 : decode cX1_swaysOne 29 = .ok (.iinc 2 1, 3) := by decide +kernel
theorem dX1_swaysOne_32 : decode cX1_swaysOne 32 = .ok (.goto (-30), 3) := by decide +kernel
theorem dX1_swaysOne_35 : decode cX1_swaysOne 35 = .ok (.iconst 0, 1) := by decide +kernel
theorem dX1_swaysOne_36 : decode cX1_swaysOne 36 = .ok (.ireturn, 1) := by decide +kernel
theorem dX1_daysWon_0 : decode cX1_daysWon 0 = .ok (.iconst 0, 1) := by decide +kernel
theorem dX1_daysWon_1 : decode cX1_daysWon 1 = .ok (.istore_n 2, 1) := by decide +kernel
theorem dX1_daysWon_2 : decode cX1_daysWon 2 = .ok (.iconst 0, 1) := by decide +kernel
theorem dX1_daysWon_3 : decode cX1_daysWon 3 = .ok (.istore_n 3, 1) := by decide +kernel
theorem dX1_daysWon_4 : decode cX1_daysWon 4 = .ok (.iload_n 3, 1) := by decide +kernel
theorem dX1_daysWon_5 : decode cX1_daysWon 5 = .ok (.bipush 31, 2) := by decide +kernel
theorem dX1_daysWon_7 : decode cX1_daysWon 7 = .ok (.if_icmp .ge 22, 3) := by decide +kernel
theorem dX1_daysWon_10 : decode cX1_daysWon 10 = .ok (.iload_n 2, 1) := by decide +kernel
theorem dX1_daysWon_11 : decode cX1_daysWon 11 = .ok (.aload_n 0, 1) := by decide +kernel
theorem dX1_daysWon_12 : decode cX1_daysWon 12 = .ok (.getfield 22, 3) := by decide +kernel
theorem dX1_daysWon_15 : decode cX1_daysWon 15 = .ok (.iload_n 3, 1) := by decide +kernel
theorem dX1_daysWon_16 : decode cX1_daysWon 16 = .ok (.iaload, 1) := by decide +kernel
theorem dX1_daysWon_17 : decode cX1_daysWon 17 = .ok (.iload_n 1, 1) := by decide +kernel
theorem dX1_daysWon_18 : decode cX1_daysWon 18 = .ok (.ishr, 1) := by decide +kernel
theorem dX1_daysWon_19 : decode cX1_daysWon 19 = .ok (.iconst 1, 1) := by decide +kernel
theorem dX1_daysWon_20 : decode cX1_daysWon 20 = .ok (.iand, 1) := by decide +kernel
theorem dX1_daysWon_21 : decode cX1_daysWon 21 = .ok (.iadd, 1) := by decide +kernel
theorem dX1_daysWon_22 : decode cX1_daysWon 22 = .ok (.istore_n 2, 1) := by decide +kernel
theorem dX1_daysWon_23 : decode cX1_daysWon 23 = .ok (.iinc 3 1, 3) := by decide +kernel
theorem dX1_daysWon_26 : decode cX1_daysWon 26 = .ok (.goto (-22), 3) := by decide +kernel
theorem dX1_daysWon_29 : decode cX1_daysWon 29 = .ok (.iload_n 2, 1) := by decide +kernel
theorem dX1_daysWon_30 : decode cX1_daysWon 30 = .ok (.ireturn, 1) := by decide +kernel
theorem dX2_init_0 : decode cX2_init 0 = .ok (.aload_n 0, 1) := by decide +kernel
theorem dX2_init_1 : decode cX2_init 1 = .ok (.invokespecial 3, 3) := by decide +kernel
theorem dX2_init_4 : decode cX2_init 4 = .ok (.aload_n 0, 1) := by decide +kernel
theorem dX2_init_5 : decode cX2_init 5 = .ok (.bipush 7, 2) := by decide +kernel
theorem dX2_init_7 : decode cX2_init 7 = .ok (.newarray .int, 2) := by decide +kernel
theorem dX2_init_9 : decode cX2_init 9 = .ok (.putfield 9, 3) := by decide +kernel
theorem dX2_init_12 : decode cX2_init 12 = .ok (.aload_n 0, 1) := by decide +kernel
theorem dX2_init_13 : decode cX2_init 13 = .ok (.iconst 5, 1) := by decide +kernel
theorem dX2_init_14 : decode cX2_init 14 = .ok (.newarray .int, 2) := by decide +kernel
theorem dX2_init_16 : decode cX2_init 16 = .ok (.putfield 15, 3) := by decide +kernel
theorem dX2_init_19 : decode cX2_init 19 = .ok (.return_, 1) := by decide +kernel
theorem dX2_play_0 : decode cX2_play 0 = .ok (.aload_n 1, 1) := by decide +kernel
theorem dX2_play_1 : decode cX2_play 1 = .ok (.getfield 18, 3) := by decide +kernel
theorem dX2_play_4 : decode cX2_play 4 = .ok (.iconst 0, 1) := by decide +kernel
theorem dX2_play_5 : decode cX2_play 5 = .ok (.aload_n 0, 1) := by decide +kernel
theorem dX2_play_6 : decode cX2_play 6 = .ok (.getfield 9, 3) := by decide +kernel
theorem dX2_play_9 : decode cX2_play 9 = .ok (.iconst 0, 1) := by decide +kernel
theorem dX2_play_10 : decode cX2_play 10 = .ok (.bipush 7, 2) := by decide +kernel
theorem dX2_play_12 : decode cX2_play 12 = .ok (.invokestatic 23, 3) := by decide +kernel
theorem dX2_play_15 : decode cX2_play 15 = .ok (.iconst 0, 1) := by decide +kernel
theorem dX2_play_16 : decode cX2_play 16 = .ok (.istore_n 3, 1) := by decide +kernel
theorem dX2_play_17 : decode cX2_play 17 = .ok (.iconst 0, 1) := by decide +kernel
theorem dX2_play_18 : decode cX2_play 18 = .ok (.istore 4, 2) := by decide +kernel
theorem dX2_play_20 : decode cX2_play 20 = .ok (.iload 4, 2) := by decide +kernel
theorem dX2_play_22 : decode cX2_play 22 = .ok (.bipush 31, 2) := by decide +kernel
theorem dX2_play_24 : decode cX2_play 24 = .ok (.if_icmp .ge 49, 3) := by decide +kernel
theorem dX2_play_27 : decode cX2_play 27 = .ok (.aload_n 1, 1) := by decide +kernel
theorem dX2_play_28 : decode cX2_play 28 = .ok (.aload_n 0, 1) := by decide +kernel
theorem dX2_play_29 : decode cX2_play 29 = .ok (.getfield 9, 3) := by decide +kernel
theorem dX2_play_32 : decode cX2_play 32 = .ok (.invokevirtual 29, 3) := by decide +kernel
theorem dX2_play_35 : decode cX2_play 35 = .ok (.aload_n 0, 1) := by decide +kernel
theorem dX2_play_36 : decode cX2_play 36 = .ok (.aload_n 1, 1) := by decide +kernel
theorem dX2_play_37 : decode cX2_play 37 = .ok (.getfield 33, 3) := by decide +kernel
theorem dX2_play_40 : decode cX2_play 40 = .ok (.iload_n 2, 1) := by decide +kernel
theorem dX2_play_41 : decode cX2_play 41 = .ok (.iload 4, 2) := by decide +kernel
theorem dX2_play_43 : decode cX2_play 43 = .ok (.invokestatic 37, 3) := by decide +kernel
theorem dX2_play_46 : decode cX2_play 46 = .ok (.invokevirtual 41, 3) := by decide +kernel
theorem dX2_play_49 : decode cX2_play 49 = .ok (.iload_n 3, 1) := by decide +kernel
theorem dX2_play_50 : decode cX2_play 50 = .ok (.aload_n 1, 1) := by decide +kernel
theorem dX2_play_51 : decode cX2_play 51 = .ok (.aload_n 0, 1) := by decide +kernel
theorem dX2_play_52 : decode cX2_play 52 = .ok (.getfield 9, 3) := by decide +kernel
theorem dX2_play_55 : decode cX2_play 55 = .ok (.aload_n 0, 1) := by decide +kernel
theorem dX2_play_56 : decode cX2_play 56 = .ok (.getfield 15, 3) := by decide +kernel
theorem dX2_play_59 : decode cX2_play 59 = .ok (.invokevirtual 45, 3) := by decide +kernel
theorem dX2_play_62 : decode cX2_play 62 = .ok (.invokestatic 49, 3) := by decide +kernel
theorem dX2_play_65 : decode cX2_play 65 = .ok (.iadd, 1) := by decide +kernel
theorem dX2_play_66 : decode cX2_play 66 = .ok (.istore_n 3, 1) := by decide +kernel
theorem dX2_play_67 : decode cX2_play 67 = .ok (.iinc 4 1, 3) := by decide +kernel
theorem dX2_play_70 : decode cX2_play 70 = .ok (.goto (-50), 3) := by decide +kernel
theorem dX2_play_73 : decode cX2_play 73 = .ok (.iload_n 3, 1) := by decide +kernel
theorem dX2_play_74 : decode cX2_play 74 = .ok (.ireturn, 1) := by decide +kernel
theorem dX2_turnOne_0 : decode cX2_turnOne 0 = .ok (.iload_n 1, 1) := by decide +kernel
theorem dX2_turnOne_1 : decode cX2_turnOne 1 = .ok (.ifCond .le 33, 3) := by decide +kernel
theorem dX2_turnOne_4 : decode cX2_turnOne 4 = .ok (.iload_n 2, 1) := by decide +kernel
theorem dX2_turnOne_5 : decode cX2_turnOne 5 = .ok (.iload_n 1, 1) := by decide +kernel
theorem dX2_turnOne_6 : decode cX2_turnOne 6 = .ok (.irem, 1) := by decide +kernel
theorem dX2_turnOne_7 : decode cX2_turnOne 7 = .ok (.istore_n 3, 1) := by decide +kernel
theorem dX2_turnOne_8 : decode cX2_turnOne 8 = .ok (.aload_n 0, 1) := by decide +kernel
theorem dX2_turnOne_9 : decode cX2_turnOne 9 = .ok (.getfield 9, 3) := by decide +kernel
theorem dX2_turnOne_12 : decode cX2_turnOne 12 = .ok (.iload_n 3, 1) := by decide +kernel
theorem dX2_turnOne_13 : decode cX2_turnOne 13 = .ok (.aload_n 0, 1) := by decide +kernel
theorem dX2_turnOne_14 : decode cX2_turnOne 14 = .ok (.getfield 9, 3) := by decide +kernel
theorem dX2_turnOne_17 : decode cX2_turnOne 17 = .ok (.iload_n 3, 1) := by decide +kernel
theorem dX2_turnOne_18 : decode cX2_turnOne 18 = .ok (.iaload, 1) := by decide +kernel
theorem dX2_turnOne_19 : decode cX2_turnOne 19 = .ok (.iload_n 2, 1) := by decide +kernel
theorem dX2_turnOne_20 : decode cX2_turnOne 20 = .ok (.bipush 8, 2) := by decide +kernel
theorem dX2_turnOne_22 : decode cX2_turnOne 22 = .ok (.idiv, 1) := by decide +kernel
theorem dX2_turnOne_23 : decode cX2_turnOne 23 = .ok (.bipush 41, 2) := by decide +kernel
theorem dX2_turnOne_25 : decode cX2_turnOne 25 = .ok (.irem, 1) := by decide +kernel
theorem dX2_turnOne_26 : decode cX2_turnOne 26 = .ok (.iadd, 1) := by decide +kernel
theorem dX2_turnOne_27 : decode cX2_turnOne 27 = .ok (.bipush 20, 2) := by decide +kernel
theorem dX2_turnOne_29 : decode cX2_turnOne 29 = .ok (.isub, 1) := by decide +kernel
theorem dX2_turnOne_30 : decode cX2_turnOne 30 = .ok (.invokestatic 55, 3) := by decide +kernel
theorem dX2_turnOne_33 : decode cX2_turnOne 33 = .ok (.iastore, 1) := by decide +kernel
theorem dX2_turnOne_34 : decode cX2_turnOne 34 = .ok (.return_, 1) := by decide +kernel
theorem dX2_draw_0 : decode cX2_draw 0 = .ok (.ldc2_w 58, 3) := by decide +kernel
theorem dX2_draw_3 : decode cX2_draw 3 = .ok (.iload_n 0, 1) := by decide +kernel
theorem dX2_draw_4 : decode cX2_draw 4 = .ok (.i2l, 1) := by decide +kernel
theorem dX2_draw_5 : decode cX2_draw 5 = .ok (.lmul, 1) := by decide +kernel
theorem dX2_draw_6 : decode cX2_draw 6 = .ok (.ldc2_w 60, 3) := by decide +kernel
theorem dX2_draw_9 : decode cX2_draw 9 = .ok (.iload_n 1, 1) := by decide +kernel
theorem dX2_draw_10 : decode cX2_draw 10 = .ok (.i2l, 1) := by decide +kernel
theorem dX2_draw_11 : decode cX2_draw 11 = .ok (.lmul, 1) := by decide +kernel
theorem dX2_draw_12 : decode cX2_draw 12 = .ok (.ladd, 1) := by decide +kernel
theorem dX2_draw_13 : decode cX2_draw 13 = .ok (.lconst 1, 1) := by decide +kernel
theorem dX2_draw_14 : decode cX2_draw 14 = .ok (.ladd, 1) := by decide +kernel
theorem dX2_draw_15 : decode cX2_draw 15 = .ok (.lstore_n 2, 1) := by decide +kernel
theorem dX2_draw_16 : decode cX2_draw 16 = .ok (.lload_n 2, 1) := by decide +kernel
theorem dX2_draw_17 : decode cX2_draw 17 = .ok (.lload_n 2, 1) := by decide +kernel
theorem dX2_draw_18 : decode cX2_draw 18 = .ok (.lmul, 1) := by decide +kernel
theorem dX2_draw_19 : decode cX2_draw 19 = .ok (.ldc2_w 62, 3) := by decide +kernel
theorem dX2_draw_22 : decode cX2_draw 22 = .ok (.lrem, 1) := by decide +kernel
theorem dX2_draw_23 : decode cX2_draw 23 = .ok (.l2i, 1) := by decide +kernel
theorem dX2_draw_24 : decode cX2_draw 24 = .ok (.ireturn, 1) := by decide +kernel
theorem dX3_farthestBorne_0 : decode cX3_farthestBorne 0 = .ok (.iload_n 0, 1) := by decide +kernel
theorem dX3_farthestBorne_1 : decode cX3_farthestBorne 1 = .ok (.iconst 3, 1) := by decide +kernel
theorem dX3_farthestBorne_2 : decode cX3_farthestBorne 2 = .ok (.if_icmp .ne 9, 3) := by decide +kernel
theorem dX3_farthestBorne_5 : decode cX3_farthestBorne 5 = .ok (.iconst 2, 1) := by decide +kernel
theorem dX3_farthestBorne_6 : decode cX3_farthestBorne 6 = .ok (.iload_n 1, 1) := by decide +kernel
theorem dX3_farthestBorne_7 : decode cX3_farthestBorne 7 = .ok (.imul, 1) := by decide +kernel
theorem dX3_farthestBorne_8 : decode cX3_farthestBorne 8 = .ok (.goto 4, 3) := by decide +kernel
theorem dX3_farthestBorne_11 : decode cX3_farthestBorne 11 = .ok (.iload_n 1, 1) := by decide +kernel
theorem dX3_farthestBorne_12 : decode cX3_farthestBorne 12 = .ok (.ireturn, 1) := by decide +kernel
theorem dX3_settle_0 : decode cX3_settle 0 = .ok (.iload_n 2, 1) := by decide +kernel
theorem dX3_settle_1 : decode cX3_settle 1 = .ok (.invokestatic 9, 3) := by decide +kernel
theorem dX3_settle_4 : decode cX3_settle 4 = .ok (.iload_n 0, 1) := by decide +kernel
theorem dX3_settle_5 : decode cX3_settle 5 = .ok (.iload_n 1, 1) := by decide +kernel
theorem dX3_settle_6 : decode cX3_settle 6 = .ok (.invokestatic 15, 3) := by decide +kernel
theorem dX3_settle_9 : decode cX3_settle 9 = .ok (.if_icmp .gt 5, 3) := by decide +kernel
theorem dX3_settle_12 : decode cX3_settle 12 = .ok (.iload_n 2, 1) := by decide +kernel
theorem dX3_settle_13 : decode cX3_settle 13 = .ok (.ireturn, 1) := by decide +kernel
theorem dX3_settle_14 : decode cX3_settle 14 = .ok (.iload_n 0, 1) := by decide +kernel
theorem dX3_settle_15 : decode cX3_settle 15 = .ok (.tableswitch 45 1 3 #[25, 29, 34], 25) := by decide +kernel
theorem dX3_settle_40 : decode cX3_settle 40 = .ok (.iload_n 2, 1) := by decide +kernel
theorem dX3_settle_41 : decode cX3_settle 41 = .ok (.iconst 2, 1) := by decide +kernel
theorem dX3_settle_42 : decode cX3_settle 42 = .ok (.idiv, 1) := by decide +kernel
theorem dX3_settle_43 : decode cX3_settle 43 = .ok (.ireturn, 1) := by decide +kernel
theorem dX3_settle_44 : decode cX3_settle 44 = .ok (.iload_n 2, 1) := by decide +kernel
theorem dX3_settle_45 : decode cX3_settle 45 = .ok (.iconst 2, 1) := by decide +kernel
theorem dX3_settle_46 : decode cX3_settle 46 = .ok (.idiv, 1) := by decide +kernel
theorem dX3_settle_47 : decode cX3_settle 47 = .ok (.ineg, 1) := by decide +kernel
theorem dX3_settle_48 : decode cX3_settle 48 = .ok (.ireturn, 1) := by decide +kernel
theorem dX3_settle_49 : decode cX3_settle 49 = .ok (.iload_n 2, 1) := by decide +kernel
theorem dX3_settle_50 : decode cX3_settle 50 = .ok (.ifCond .le 7, 3) := by decide +kernel
theorem dX3_settle_53 : decode cX3_settle 53 = .ok (.iload_n 1, 1) := by decide +kernel
theorem dX3_settle_54 : decode cX3_settle 54 = .ok (.goto 5, 3) := by decide +kernel
theorem dX3_settle_57 : decode cX3_settle 57 = .ok (.iload_n 1, 1) := by decide +kernel
theorem dX3_settle_58 : decode cX3_settle 58 = .ok (.ineg, 1) := by decide +kernel
theorem dX3_settle_59 : decode cX3_settle 59 = .ok (.ireturn, 1) := by decide +kernel
theorem dX3_settle_60 : decode cX3_settle 60 = .ok (.iconst 0, 1) := by decide +kernel
theorem dX3_settle_61 : decode cX3_settle 61 = .ok (.ireturn, 1) := by decide +kernel
theorem dX4_init_0 : decode cX4_init 0 = .ok (.aload_n 0, 1) := by decide +kernel
theorem dX4_init_1 : decode cX4_init 1 = .ok (.invokespecial 3, 3) := by decide +kernel
theorem dX4_init_4 : decode cX4_init 4 = .ok (.aload_n 0, 1) := by decide +kernel
theorem dX4_init_5 : decode cX4_init 5 = .ok (.bipush 7, 2) := by decide +kernel
theorem dX4_init_7 : decode cX4_init 7 = .ok (.newarray .int, 2) := by decide +kernel
theorem dX4_init_9 : decode cX4_init 9 = .ok (.putfield 9, 3) := by decide +kernel
theorem dX4_init_12 : decode cX4_init 12 = .ok (.aload_n 0, 1) := by decide +kernel
theorem dX4_init_13 : decode cX4_init 13 = .ok (.bipush 7, 2) := by decide +kernel
theorem dX4_init_15 : decode cX4_init 15 = .ok (.newarray .int, 2) := by decide +kernel
theorem dX4_init_17 : decode cX4_init 17 = .ok (.putfield 15, 3) := by decide +kernel
theorem dX4_init_20 : decode cX4_init 20 = .ok (.aload_n 0, 1) := by decide +kernel
theorem dX4_init_21 : decode cX4_init 21 = .ok (.bipush 7, 2) := by decide +kernel
theorem dX4_init_23 : decode cX4_init 23 = .ok (.newarray .int, 2) := by decide +kernel
theorem dX4_init_25 : decode cX4_init 25 = .ok (.putfield 18, 3) := by decide +kernel
theorem dX4_init_28 : decode cX4_init 28 = .ok (.aload_n 0, 1) := by decide +kernel
theorem dX4_init_29 : decode cX4_init 29 = .ok (.bipush 7, 2) := by decide +kernel
theorem dX4_init_31 : decode cX4_init 31 = .ok (.newarray .int, 2) := by decide +kernel
theorem dX4_init_33 : decode cX4_init 33 = .ok (.putfield 21, 3) := by decide +kernel
theorem dX4_init_36 : decode cX4_init 36 = .ok (.aload_n 0, 1) := by decide +kernel
theorem dX4_init_37 : decode cX4_init 37 = .ok (.iconst 5, 1) := by decide +kernel
theorem dX4_init_38 : decode cX4_init 38 = .ok (.newarray .int, 2) := by decide +kernel
theorem dX4_init_40 : decode cX4_init 40 = .ok (.putfield 24, 3) := by decide +kernel
theorem dX4_init_43 : decode cX4_init 43 = .ok (.aload_n 0, 1) := by decide +kernel
theorem dX4_init_44 : decode cX4_init 44 = .ok (.iconst 5, 1) := by decide +kernel
theorem dX4_init_45 : decode cX4_init 45 = .ok (.newarray .int, 2) := by decide +kernel
theorem dX4_init_47 : decode cX4_init 47 = .ok (.putfield 27, 3) := by decide +kernel
theorem dX4_init_50 : decode cX4_init 50 = .ok (.aload_n 0, 1) := by decide +kernel
theorem dX4_init_51 : decode cX4_init 51 = .ok (.bipush 10, 2) := by decide +kernel
theorem dX4_init_53 : decode cX4_init 53 = .ok (.newarray .int, 2) := by decide +kernel
theorem dX4_init_55 : decode cX4_init 55 = .ok (.putfield 30, 3) := by decide +kernel
theorem dX4_init_58 : decode cX4_init 58 = .ok (.aload_n 0, 1) := by decide +kernel
theorem dX4_init_59 : decode cX4_init 59 = .ok (.bipush 10, 2) := by decide +kernel
theorem dX4_init_61 : decode cX4_init 61 = .ok (.newarray .int, 2) := by decide +kernel
theorem dX4_init_63 : decode cX4_init 63 = .ok (.putfield 33, 3) := by decide +kernel
theorem dX4_init_66 : decode cX4_init 66 = .ok (.aload_n 0, 1) := by decide +kernel
theorem dX4_init_67 : decode cX4_init 67 = .ok (.bipush 10, 2) := by decide +kernel
theorem dX4_init_69 : decode cX4_init 69 = .ok (.newarray .int, 2) := by decide +kernel
theorem dX4_init_71 : decode cX4_init 71 = .ok (.putfield 36, 3) := by decide +kernel
theorem dX4_init_74 : decode cX4_init 74 = .ok (.aload_n 0, 1) := by decide +kernel
theorem dX4_init_75 : decode cX4_init 75 = .ok (.new 39, 3) := by decide +kernel
theorem dX4_init_78 : decode cX4_init 78 = .ok (.dup, 1) := by decide +kernel
theorem dX4_init_79 : decode cX4_init 79 = .ok (.invokespecial 41, 3) := by decide +kernel
theorem dX4_init_82 : decode cX4_init 82 = .ok (.putfield 42, 3) := by decide +kernel
theorem dX4_init_85 : decode cX4_init 85 = .ok (.return_, 1) := by decide +kernel
theorem dX4_empty_0 : decode cX4_empty 0 = .ok (.aload_n 0, 1) := by decide +kernel
theorem dX4_empty_1 : decode cX4_empty 1 = .ok (.iconst 0, 1) := by decide +kernel
theorem dX4_empty_2 : decode cX4_empty 2 = .ok (.putfield 46, 3) := by decide +kernel
theorem dX4_empty_5 : decode cX4_empty 5 = .ok (.aload_n 0, 1) := by decide +kernel
theorem dX4_empty_6 : decode cX4_empty 6 = .ok (.iconst 0, 1) := by decide +kernel
theorem dX4_empty_7 : decode cX4_empty 7 = .ok (.putfield 50, 3) := by decide +kernel
theorem dX4_empty_10 : decode cX4_empty 10 = .ok (.aload_n 0, 1) := by decide +kernel
theorem dX4_empty_11 : decode cX4_empty 11 = .ok (.iconst 0, 1) := by decide +kernel
theorem dX4_empty_12 : decode cX4_empty 12 = .ok (.putfield 53, 3) := by decide +kernel
theorem dX4_empty_15 : decode cX4_empty 15 = .ok (.aload_n 0, 1) := by decide +kernel
theorem dX4_empty_16 : decode cX4_empty 16 = .ok (.getfield 42, 3) := by decide +kernel
theorem dX4_empty_19 : decode cX4_empty 19 = .ok (.iconst 0, 1) := by decide +kernel
theorem dX4_empty_20 : decode cX4_empty 20 = .ok (.putfield 56, 3) := by decide +kernel
theorem dX4_empty_23 : decode cX4_empty 23 = .ok (.return_, 1) := by decide +kernel
theorem dX4_take_0 : decode cX4_take 0 = .ok (.aload_n 2, 1) := by decide +kernel
theorem dX4_take_1 : decode cX4_take 1 = .ok (.iconst 0, 1) := by decide +kernel
theorem dX4_take_2 : decode cX4_take 2 = .ok (.iaload, 1) := by decide +kernel
theorem dX4_take_3 : decode cX4_take 3 = .ok (.istore_n 3, 1) := by decide +kernel
theorem dX4_take_4 : decode cX4_take 4 = .ok (.aload_n 2, 1) := by decide +kernel
theorem dX4_take_5 : decode cX4_take 5 = .ok (.iconst 1, 1) := by decide +kernel
theorem dX4_take_6 : decode cX4_take 6 = .ok (.iaload, 1) := by decide +kernel
theorem dX4_take_7 : decode cX4_take 7 = .ok (.istore 4, 2) := by decide +kernel
theorem dX4_take_9 : decode cX4_take 9 = .ok (.aload_n 2, 1) := by decide +kernel
theorem dX4_take_10 : decode cX4_take 10 = .ok (.iconst 2, 1) := by decide +kernel
theorem dX4_take_11 : decode cX4_take 11 = .ok (.iaload, 1) := by decide +kernel
theorem dX4_take_12 : decode cX4_take 12 = .ok (.istore 5, 2) := by decide +kernel
theorem dX4_take_14 : decode cX4_take 14 = .ok (.iload_n 1, 1) := by decide +kernel
theorem dX4_take_15 : decode cX4_take 15 = .ok (.lookupswitch 109 #[(99, 101), (102, 57), (110, 91), (112, 73), (116, 65), (119, 81)], 57) := by decide +kernel
theorem dX4_take_72 : decode cX4_take 72 = .ok (.aload_n 0, 1) := by decide +kernel
theorem dX4_take_73 : decode cX4_take 73 = .ok (.iload_n 3, 1) := by decide +kernel
theorem dX4_take_74 : decode cX4_take 74 = .ok (.iload 4, 2) := by decide +kernel
theorem dX4_take_76 : decode cX4_take 76 = .ok (.invokevirtual 59, 3) := by decide +kernel
theorem dX4_take_79 : decode cX4_take 79 = .ok (.ireturn, 1) := by decide +kernel
theorem dX4_take_80 : decode cX4_take 80 = .ok (.aload_n 0, 1) := by decide +kernel
theorem dX4_take_81 : decode cX4_take 81 = .ok (.iload_n 3, 1) := by decide +kernel
theorem dX4_take_82 : decode cX4_take 82 = .ok (.iload 4, 2) := by decide +kernel
theorem dX4_take_84 : decode cX4_take 84 = .ok (.invokevirtual 63, 3) := by decide +kernel
theorem dX4_take_87 : decode cX4_take 87 = .ok (.ireturn, 1) := by decide +kernel
theorem dX4_take_88 : decode cX4_take 88 = .ok (.aload_n 0, 1) := by decide +kernel
theorem dX4_take_89 : decode cX4_take 89 = .ok (.iload_n 3, 1) := by decide +kernel
theorem dX4_take_90 : decode cX4_take 90 = .ok (.iload 4, 2) := by decide +kernel
theorem dX4_take_92 : decode cX4_take 92 = .ok (.invokevirtual 66, 3) := by decide +kernel
theorem dX4_take_95 : decode cX4_take 95 = .ok (.ireturn, 1) := by decide +kernel
theorem dX4_take_96 : decode cX4_take 96 = .ok (.aload_n 0, 1) := by decide +kernel
theorem dX4_take_97 : decode cX4_take 97 = .ok (.iload_n 3, 1) := by decide +kernel
theorem dX4_take_98 : decode cX4_take 98 = .ok (.iload 4, 2) := by decide +kernel
theorem dX4_take_100 : decode cX4_take 100 = .ok (.iload 5, 2) := by decide +kernel
theorem dX4_take_102 : decode cX4_take 102 = .ok (.invokevirtual 69, 3) := by decide +kernel
theorem dX4_take_105 : decode cX4_take 105 = .ok (.ireturn, 1) := by decide +kernel
theorem dX4_take_106 : decode cX4_take 106 = .ok (.aload_n 0, 1) := by decide +kernel
theorem dX4_take_107 : decode cX4_take 107 = .ok (.iload_n 3, 1) := by decide +kernel
theorem dX4_take_108 : decode cX4_take 108 = .ok (.iload 4, 2) := by decide +kernel
theorem dX4_take_110 : decode cX4_take 110 = .ok (.iload 5, 2) := by decide +kernel
theorem dX4_take_112 : decode cX4_take 112 = .ok (.invokevirtual 73, 3) := by decide +kernel
theorem dX4_take_115 : decode cX4_take 115 = .ok (.ireturn, 1) := by decide +kernel
theorem dX4_take_116 : decode cX4_take 116 = .ok (.aload_n 0, 1) := by decide +kernel
theorem dX4_take_117 : decode cX4_take 117 = .ok (.iload_n 3, 1) := by decide +kernel
theorem dX4_take_118 : decode cX4_take 118 = .ok (.iload 4, 2) := by decide +kernel
theorem dX4_take_120 : decode cX4_take 120 = .ok (.invokevirtual 76, 3) := by decide +kernel
theorem dX4_take_123 : decode cX4_take 123 = .ok (.ireturn, 1) := by decide +kernel
theorem dX4_take_124 : decode cX4_take 124 = .ok (.iconst 0, 1) := by decide +kernel
theorem dX4_take_125 : decode cX4_take 125 = .ok (.ireturn, 1) := by decide +kernel
theorem dX4_takeFrame_0 : decode cX4_takeFrame 0 = .ok (.aload_n 0, 1) := by decide +kernel
theorem dX4_takeFrame_1 : decode cX4_takeFrame 1 = .ok (.getfield 46, 3) := by decide +kernel
theorem dX4_takeFrame_4 : decode cX4_takeFrame 4 = .ok (.bipush 7, 2) := by decide +kernel
theorem dX4_takeFrame_6 : decode cX4_takeFrame 6 = .ok (.if_icmp .ge 20, 3) := by decide +kernel
theorem dX4_takeFrame_9 : decode cX4_takeFrame 9 = .ok (.iload_n 1, 1) := by decide +kernel
theorem dX4_takeFrame_10 : decode cX4_takeFrame 10 = .ok (.iconst 4, 1) := by decide +kernel
theorem dX4_takeFrame_11 : decode cX4_takeFrame 11 = .ok (.invokestatic 79, 3) := by decide +kernel
theorem dX4_takeFrame_14 : decode cX4_takeFrame 14 = .ok (.ifCond .ne 12, 3) := by decide +kernel
theorem dX4_takeFrame_17 : decode cX4_takeFrame 17 = .ok (.iload_n 2, 1) := by decide +kernel
theorem dX4_takeFrame_18 : decode cX4_takeFrame 18 = .ok (.bipush 41, 2) := by decide +kernel
theorem dX4_takeFrame_20 : decode cX4_takeFrame 20 = .ok (.invokestatic 79, 3) := by decide +kernel
theorem dX4_takeFrame_23 : decode cX4_takeFrame 23 = .ok (.ifCond .eq 5, 3) := by decide +kernel
theorem dX4_takeFrame_26 : decode cX4_takeFrame 26 = .ok (.iconst 0, 1) := by decide +kernel
theorem dX4_takeFrame_27 : decode cX4_takeFrame 27 = .ok (.ireturn, 1) := by decide +kernel
theorem dX4_takeFrame_28 : decode cX4_takeFrame 28 = .ok (.aload_n 0, 1) := by decide +kernel
theorem dX4_takeFrame_29 : decode cX4_takeFrame 29 = .ok (.getfield 9, 3) := by decide +kernel
theorem dX4_takeFrame_32 : decode cX4_takeFrame 32 = .ok (.aload_n 0, 1) := by decide +kernel
theorem dX4_takeFrame_33 : decode cX4_takeFrame 33 = .ok (.getfield 46, 3) := by decide +kernel
theorem dX4_takeFrame_36 : decode cX4_takeFrame 36 = .ok (.iload_n 1, 1) := by decide +kernel
theorem dX4_takeFrame_37 : decode cX4_takeFrame 37 = .ok (.iastore, 1) := by decide +kernel
theorem dX4_takeFrame_38 : decode cX4_takeFrame 38 = .ok (.aload_n 0, 1) := by decide +kernel
theorem dX4_takeFrame_39 : decode cX4_takeFrame 39 = .ok (.getfield 15, 3) := by decide +kernel
theorem dX4_takeFrame_42 : decode cX4_takeFrame 42 = .ok (.aload_n 0, 1) := by decide +kernel
theorem dX4_takeFrame_43 : decode cX4_takeFrame 43 = .ok (.getfield 46, 3) := by decide +kernel
theorem dX4_takeFrame_46 : decode cX4_takeFrame 46 = .ok (.iload_n 2, 1) := by decide +kernel
theorem dX4_takeFrame_47 : decode cX4_takeFrame 47 = .ok (.bipush 20, 2) := by decide +kernel
theorem dX4_takeFrame_49 : decode cX4_takeFrame 49 = .ok (.isub, 1) := by decide +kernel
theorem dX4_takeFrame_50 : decode cX4_takeFrame 50 = .ok (.iastore, 1) := by decide +kernel
theorem dX4_takeFrame_51 : decode cX4_takeFrame 51 = .ok (.aload_n 0, 1) := by decide +kernel
theorem dX4_takeFrame_52 : decode cX4_takeFrame 52 = .ok (.getfield 18, 3) := by decide +kernel
theorem dX4_takeFrame_55 : decode cX4_takeFrame 55 = .ok (.aload_n 0, 1) := by decide +kernel
theorem dX4_takeFrame_56 : decode cX4_takeFrame 56 = .ok (.getfield 46, 3) := by decide +kernel
theorem dX4_takeFrame_59 : decode cX4_takeFrame 59 = .ok (.iconst 0, 1) := by decide +kernel
theorem dX4_takeFrame_60 : decode cX4_takeFrame 60 = .ok (.iastore, 1) := by decide +kernel
theorem dX4_takeFrame_61 : decode cX4_takeFrame 61 = .ok (.aload_n 0, 1) := by decide +kernel
theorem dX4_takeFrame_62 : decode cX4_takeFrame 62 = .ok (.getfield 21, 3) := by decide +kernel
theorem dX4_takeFrame_65 : decode cX4_takeFrame 65 = .ok (.aload_n 0, 1) := by decide +kernel
theorem dX4_takeFrame_66 : decode cX4_takeFrame 66 = .ok (.getfield 46, 3) := by decide +kernel
theorem dX4_takeFrame_69 : decode cX4_takeFrame 69 = .ok (.iconst 0, 1) := by decide +kernel
theorem dX4_takeFrame_70 : decode cX4_takeFrame 70 = .ok (.iastore, 1) := by decide +kernel
theorem dX4_takeFrame_71 : decode cX4_takeFrame 71 = .ok (.aload_n 0, 1) := by decide +kernel
theorem dX4_takeFrame_72 : decode cX4_takeFrame 72 = .ok (.dup, 1) := by decide +kernel
theorem dX4_takeFrame_73 : decode cX4_takeFrame 73 = .ok (.getfield 46, 3) := by decide +kernel
theorem dX4_takeFrame_76 : decode cX4_takeFrame 76 = .ok (.iconst 1, 1) := by decide +kernel
theorem dX4_takeFrame_77 : decode cX4_takeFrame 77 = .ok (.iadd, 1) := by decide +kernel
theorem dX4_takeFrame_78 : decode cX4_takeFrame 78 = .ok (.putfield 46, 3) := by decide +kernel
theorem dX4_takeFrame_81 : decode cX4_takeFrame 81 = .ok (.iconst 1, 1) := by decide +kernel
theorem dX4_takeFrame_82 : decode cX4_takeFrame 82 = .ok (.ireturn, 1) := by decide +kernel
theorem dX4_takeWire_0 : decode cX4_takeWire 0 = .ok (.iload_n 1, 1) := by decide +kernel
theorem dX4_takeWire_1 : decode cX4_takeWire 1 = .ok (.aload_n 0, 1) := by decide +kernel
theorem dX4_takeWire_2 : decode cX4_takeWire 2 = .ok (.getfield 46, 3) := by decide +kernel
theorem dX4_takeWire_5 : decode cX4_takeWire 5 = .ok (.invokestatic 79, 3) := by decide +kernel
theorem dX4_takeWire_8 : decode cX4_takeWire 8 = .ok (.ifCond .ne 12, 3) := by decide +kernel
theorem dX4_takeWire_11 : decode cX4_takeWire 11 = .ok (.iload_n 2, 1) := by decide +kernel
theorem dX4_takeWire_12 : decode cX4_takeWire 12 = .ok (.bipush 11, 2) := by decide +kernel
theorem dX4_takeWire_14 : decode cX4_takeWire 14 = .ok (.invokestatic 79, 3) := by decide +kernel
theorem dX4_takeWire_17 : decode cX4_takeWire 17 = .ok (.ifCond .eq 5, 3) := by decide +kernel
theorem dX4_takeWire_20 : decode cX4_takeWire 20 = .ok (.iconst 0, 1) := by decide +kernel
theorem dX4_takeWire_21 : decode cX4_takeWire 21 = .ok (.ireturn, 1) := by decide +kernel
theorem dX4_takeWire_22 : decode cX4_takeWire 22 = .ok (.aload_n 0, 1) := by decide +kernel
theorem dX4_takeWire_23 : decode cX4_takeWire 23 = .ok (.getfield 18, 3) := by decide +kernel
theorem dX4_takeWire_26 : decode cX4_takeWire 26 = .ok (.iload_n 1, 1) := by decide +kernel
theorem dX4_takeWire_27 : decode cX4_takeWire 27 = .ok (.iload_n 2, 1) := by decide +kernel
theorem dX4_takeWire_28 : decode cX4_takeWire 28 = .ok (.iconst 5, 1) := by decide +kernel
theorem dX4_takeWire_29 : decode cX4_takeWire 29 = .ok (.isub, 1) := by decide +kernel
theorem dX4_takeWire_30 : decode cX4_takeWire 30 = .ok (.iastore, 1) := by decide +kernel
theorem dX4_takeWire_31 : decode cX4_takeWire 31 = .ok (.iconst 1, 1) := by decide +kernel
theorem dX4_takeWire_32 : decode cX4_takeWire 32 = .ok (.ireturn, 1) := by decide +kernel
theorem dX4_takePatch_0 : decode cX4_takePatch 0 = .ok (.iload_n 1, 1) := by decide +kernel
theorem dX4_takePatch_1 : decode cX4_takePatch 1 = .ok (.aload_n 0, 1) := by decide +kernel
theorem dX4_takePatch_2 : decode cX4_takePatch 2 = .ok (.getfield 46, 3) := by decide +kernel
theorem dX4_takePatch_5 : decode cX4_takePatch 5 = .ok (.invokestatic 79, 3) := by decide +kernel
theorem dX4_takePatch_8 : decode cX4_takePatch 8 = .ok (.ifCond .ne 12, 3) := by decide +kernel
theorem dX4_takePatch_11 : decode cX4_takePatch 11 = .ok (.iload_n 2, 1) := by decide +kernel
theorem dX4_takePatch_12 : decode cX4_takePatch 12 = .ok (.bipush 41, 2) := by decide +kernel
theorem dX4_takePatch_14 : decode cX4_takePatch 14 = .ok (.invokestatic 79, 3) := by decide +kernel
theorem dX4_takePatch_17 : decode cX4_takePatch 17 = .ok (.ifCond .eq 5, 3) := by decide +kernel
theorem dX4_takePatch_20 : decode cX4_takePatch 20 = .ok (.iconst 0, 1) := by decide +kernel
theorem dX4_takePatch_21 : decode cX4_takePatch 21 = .ok (.ireturn, 1) := by decide +kernel
theorem dX4_takePatch_22 : decode cX4_takePatch 22 = .ok (.aload_n 0, 1) := by decide +kernel
theorem dX4_takePatch_23 : decode cX4_takePatch 23 = .ok (.getfield 21, 3) := by decide +kernel
theorem dX4_takePatch_26 : decode cX4_takePatch 26 = .ok (.iload_n 1, 1) := by decide +kernel
theorem dX4_takePatch_27 : decode cX4_takePatch 27 = .ok (.iload_n 2, 1) := by decide +kernel
theorem dX4_takePatch_28 : decode cX4_takePatch 28 = .ok (.bipush 20, 2) := by decide +kernel
theorem dX4_takePatch_30 : decode cX4_takePatch 30 = .ok (.isub, 1) := by decide +kernel
theorem dX4_takePatch_31 : decode cX4_takePatch 31 = .ok (.iastore, 1) := by decide +kernel
theorem dX4_takePatch_32 : decode cX4_takePatch 32 = .ok (.iconst 1, 1) := by decide +kernel
theorem dX4_takePatch_33 : decode cX4_takePatch 33 = .ok (.ireturn, 1) := by decide +kernel
theorem dX4_takePerson_0 : decode cX4_takePerson 0 = .ok (.aload_n 0, 1) := by decide +kernel
theorem dX4_takePerson_1 : decode cX4_takePerson 1 = .ok (.getfield 50, 3) := by decide +kernel
theorem dX4_takePerson_4 : decode cX4_takePerson 4 = .ok (.iconst 5, 1) := by decide +kernel
theorem dX4_takePerson_5 : decode cX4_takePerson 5 = .ok (.if_icmp .ge 20, 3) := by decide +kernel
theorem dX4_takePerson_8 : decode cX4_takePerson 8 = .ok (.iload_n 1, 1) := by decide +kernel
theorem dX4_takePerson_9 : decode cX4_takePerson 9 = .ok (.iconst 4, 1) := by decide +kernel
theorem dX4_takePerson_10 : decode cX4_takePerson 10 = .ok (.invokestatic 79, 3) := by decide +kernel
theorem dX4_takePerson_13 : decode cX4_takePerson 13 = .ok (.ifCond .ne 12, 3) := by decide +kernel
theorem dX4_takePerson_16 : decode cX4_takePerson 16 = .ok (.iload_n 2, 1) := by decide +kernel
theorem dX4_takePerson_17 : decode cX4_takePerson 17 = .ok (.bipush 21, 2) := by decide +kernel
theorem dX4_takePerson_19 : decode cX4_takePerson 19 = .ok (.invokestatic 79, 3) := by decide +kernel
theorem dX4_takePerson_22 : decode cX4_takePerson 22 = .ok (.ifCond .eq 5, 3) := by decide +kernel
theorem dX4_takePerson_25 : decode cX4_takePerson 25 = .ok (.iconst 0, 1) := by decide +kernel
theorem dX4_takePerson_26 : decode cX4_takePerson 26 = .ok (.ireturn, 1) := by decide +kernel
theorem dX4_takePerson_27 : decode cX4_takePerson 27 = .ok (.aload_n 0, 1) := by decide +kernel
theorem dX4_takePerson_28 : decode cX4_takePerson 28 = .ok (.getfield 24, 3) := by decide +kernel
theorem dX4_takePerson_31 : decode cX4_takePerson 31 = .ok (.aload_n 0, 1) := by decide +kernel
theorem dX4_takePerson_32 : decode cX4_takePerson 32 = .ok (.getfield 50, 3) := by decide +kernel
theorem dX4_takePerson_35 : decode cX4_takePerson 35 = .ok (.iload_n 1, 1) := by decide +kernel
theorem dX4_takePerson_36 : decode cX4_takePerson 36 = .ok (.iastore, 1) := by decide +kernel
theorem dX4_takePerson_37 : decode cX4_takePerson 37 = .ok (.aload_n 0, 1) := by decide +kernel
theorem dX4_takePerson_38 : decode cX4_takePerson 38 = .ok (.getfield 27, 3) := by decide +kernel
theorem dX4_takePerson_41 : decode cX4_takePerson 41 = .ok (.aload_n 0, 1) := by decide +kernel
theorem dX4_takePerson_42 : decode cX4_takePerson 42 = .ok (.getfield 50, 3) := by decide +kernel
theorem dX4_takePerson_45 : decode cX4_takePerson 45 = .ok (.iload_n 2, 1) := by decide +kernel
theorem dX4_takePerson_46 : decode cX4_takePerson 46 = .ok (.iastore, 1) := by decide +kernel
theorem dX4_takePerson_47 : decode cX4_takePerson 47 = .ok (.aload_n 0, 1) := by decide +kernel
theorem dX4_takePerson_48 : decode cX4_takePerson 48 = .ok (.dup, 1) := by decide +kernel
theorem dX4_takePerson_49 : decode cX4_takePerson 49 = .ok (.getfield 50, 3) := by decide +kernel
theorem dX4_takePerson_52 : decode cX4_takePerson 52 = .ok (.iconst 1, 1) := by decide +kernel
theorem dX4_takePerson_53 : decode cX4_takePerson 53 = .ok (.iadd, 1) := by decide +kernel
theorem dX4_takePerson_54 : decode cX4_takePerson 54 = .ok (.putfield 50, 3) := by decide +kernel
theorem dX4_takePerson_57 : decode cX4_takePerson 57 = .ok (.iconst 1, 1) := by decide +kernel
theorem dX4_takePerson_58 : decode cX4_takePerson 58 = .ok (.ireturn, 1) := by decide +kernel
theorem dX4_takeComing_0 : decode cX4_takeComing 0 = .ok (.aload_n 0, 1) := by decide +kernel
theorem dX4_takeComing_1 : decode cX4_takeComing 1 = .ok (.getfield 53, 3) := by decide +kernel
theorem dX4_takeComing_4 : decode cX4_takeComing 4 = .ok (.bipush 10, 2) := by decide +kernel
theorem dX4_takeComing_6 : decode cX4_takeComing 6 = .ok (.if_icmp .ge 31, 3) := by decide +kernel
theorem dX4_takeComing_9 : decode cX4_takeComing 9 = .ok (.iload_n 1, 1) := by decide +kernel
theorem dX4_takeComing_10 : decode cX4_takeComing 10 = .ok (.aload_n 0, 1) := by decide +kernel
theorem dX4_takeComing_11 : decode cX4_takeComing 11 = .ok (.getfield 50, 3) := by decide +kernel
theorem dX4_takeComing_14 : decode cX4_takeComing 14 = .ok (.invokestatic 79, 3) := by decide +kernel
theorem dX4_takeComing_17 : decode cX4_takeComing 17 = .ok (.ifCond .ne 20, 3) := by decide +kernel
theorem dX4_takeComing_20 : decode cX4_takeComing 20 = .ok (.iload_n 2, 1) := by decide +kernel
theorem dX4_takeComing_21 : decode cX4_takeComing 21 = .ok (.bipush 24, 2) := by decide +kernel
theorem dX4_takeComing_23 : decode cX4_takeComing 23 = .ok (.invokestatic 79, 3) := by decide +kernel
theorem dX4_takeComing_26 : decode cX4_takeComing 26 = .ok (.ifCond .ne 11, 3) := by decide +kernel
theorem dX4_takeComing_29 : decode cX4_takeComing 29 = .ok (.iload_n 3, 1) := by decide +kernel
theorem dX4_takeComing_30 : decode cX4_takeComing 30 = .ok (.iconst 4, 1) := by decide +kernel
theorem dX4_takeComing_31 : decode cX4_takeComing 31 = .ok (.invokestatic 79, 3) := by decide +kernel
theorem dX4_takeComing_34 : decode cX4_takeComing 34 = .ok (.ifCond .eq 5, 3) := by decide +kernel
theorem dX4_takeComing_37 : decode cX4_takeComing 37 = .ok (.iconst 0, 1) := by decide +kernel
theorem dX4_takeComing_38 : decode cX4_takeComing 38 = .ok (.ireturn, 1) := by decide +kernel
theorem dX4_takeComing_39 : decode cX4_takeComing 39 = .ok (.aload_n 0, 1) := by decide +kernel
theorem dX4_takeComing_40 : decode cX4_takeComing 40 = .ok (.getfield 53, 3) := by decide +kernel
theorem dX4_takeComing_43 : decode cX4_takeComing 43 = .ok (.istore 4, 2) := by decide +kernel
theorem dX4_takeComing_45 : decode cX4_takeComing 45 = .ok (.iload 4, 2) := by decide +kernel
theorem dX4_takeComing_47 : decode cX4_takeComing 47 = .ok (.ifCond .le 70, 3) := by decide +kernel
theorem dX4_takeComing_50 : decode cX4_takeComing 50 = .ok (.aload_n 0, 1) := by decide +kernel
theorem dX4_takeComing_51 : decode cX4_takeComing 51 = .ok (.getfield 33, 3) := by decide +kernel
theorem dX4_takeComing_54 : decode cX4_takeComing 54 = .ok (.iload 4, 2) := by decide +kernel
theorem dX4_takeComing_56 : decode cX4_takeComing 56 = .ok (.iconst 1, 1) := by decide +kernel
theorem dX4_takeComing_57 : decode cX4_takeComing 57 = .ok (.isub, 1) := by decide +kernel
theorem dX4_takeComing_58 : decode cX4_takeComing 58 = .ok (.iaload, 1) := by decide +kernel
theorem dX4_takeComing_59 : decode cX4_takeComing 59 = .ok (.iload_n 2, 1) := by decide +kernel
theorem dX4_takeComing_60 : decode cX4_takeComing 60 = .ok (.if_icmp .le 57, 3) := by decide +kernel
theorem dX4_takeComing_63 : decode cX4_takeComing 63 = .ok (.aload_n 0, 1) := by decide +kernel
theorem dX4_takeComing_64 : decode cX4_takeComing 64 = .ok (.getfield 30, 3) := by decide +kernel
theorem dX4_takeComing_67 : decode cX4_takeComing 67 = .ok (.iload 4, 2) := by decide +kernel
theorem dX4_takeComing_69 : decode cX4_takeComing 69 = .ok (.aload_n 0, 1) := by decide +kernel
theorem dX4_takeComing_70 : decode cX4_takeComing 70 = .ok (.getfield 30, 3) := by decide +kernel
theorem dX4_takeComing_73 : decode cX4_takeComing 73 = .ok (.iload 4, 2) := by decide +kernel
theorem dX4_takeComing_75 : decode cX4_takeComing 75 = .ok (.iconst 1, 1) := by decide +kernel
theorem dX4_takeComing_76 : decode cX4_takeComing 76 = .ok (.isub, 1) := by decide +kernel
theorem dX4_takeComing_77 : decode cX4_takeComing 77 = .ok (.iaload, 1) := by decide +kernel
theorem dX4_takeComing_78 : decode cX4_takeComing 78 = .ok (.iastore, 1) := by decide +kernel
theorem dX4_takeComing_79 : decode cX4_takeComing 79 = .ok (.aload_n 0, 1) := by decide +kernel
theorem dX4_takeComing_80 : decode cX4_takeComing 80 = .ok (.getfield 33, 3) := by decide +kernel
theorem dX4_takeComing_83 : decode cX4_takeComing 83 = .ok (.iload 4, 2) := by decide +kernel
theorem dX4_takeComing_85 : decode cX4_takeComing 85 = .ok (.aload_n 0, 1) := by decide +kernel
theorem dX4_takeComing_86 : decode cX4_takeComing 86 = .ok (.getfield 33, 3) := by decide +kernel
theorem dX4_takeComing_89 : decode cX4_takeComing 89 = .ok (.iload 4, 2) := by decide +kernel
theorem dX4_takeComing_91 : decode cX4_takeComing 91 = .ok (.iconst 1, 1) := by decide +kernel
theorem dX4_takeComing_92 : decode cX4_takeComing 92 = .ok (.isub, 1) := by decide +kernel
theorem dX4_takeComing_93 : decode cX4_takeComing 93 = .ok (.iaload, 1) := by decide +kernel
theorem dX4_takeComing_94 : decode cX4_takeComing 94 = .ok (.iastore, 1) := by decide +kernel
theorem dX4_takeComing_95 : decode cX4_takeComing 95 = .ok (.aload_n 0, 1) := by decide +kernel
theorem dX4_takeComing_96 : decode cX4_takeComing 96 = .ok (.getfield 36, 3) := by decide +kernel
theorem dX4_takeComing_99 : decode cX4_takeComing 99 = .ok (.iload 4, 2) := by decide +kernel
theorem dX4_takeComing_101 : decode cX4_takeComing 101 = .ok (.aload_n 0, 1) := by decide +kernel
theorem dX4_takeComing_102 : decode cX4_takeComing 102 = .ok (.getfield 36, 3) := by decide +kernel
theorem dX4_takeComing_105 : decode cX4_takeComing 105 = .ok (.iload 4, 2) := by decide +kernel
theorem dX4_takeComing_107 : decode cX4_takeComing 107 = .ok (.iconst 1, 1) := by decide +kernel
theorem dX4_takeComing_108 : decode cX4_takeComing 108 = .ok (.isub, 1) := by decide +kernel
theorem dX4_takeComing_109 : decode cX4_takeComing 109 = .ok (.iaload, 1) := by decide +kernel
theorem dX4_takeComing_110 : decode cX4_takeComing 110 = .ok (.iastore, 1) := by decide +kernel
theorem dX4_takeComing_111 : decode cX4_takeComing 111 = .ok (.iinc 4 (-1), 3) := by decide +kernel
theorem dX4_takeComing_114 : decode cX4_takeComing 114 = .ok (.goto (-69), 3) := by decide +kernel
theorem dX4_takeComing_117 : decode cX4_takeComing 117 = .ok (.aload_n 0, 1) := by decide +kernel
theorem dX4_takeComing_118 : decode cX4_takeComing 118 = .ok (.getfield 30, 3) := by decide +kernel
theorem dX4_takeComing_121 : decode cX4_takeComing 121 = .ok (.iload 4, 2) := by decide +kernel
theorem dX4_takeComing_123 : decode cX4_takeComing 123 = .ok (.iload_n 1, 1) := by decide +kernel
theorem dX4_takeComing_124 : decode cX4_takeComing 124 = .ok (.iastore, 1) := by decide +kernel
theorem dX4_takeComing_125 : decode cX4_takeComing 125 = .ok (.aload_n 0, 1) := by decide +kernel
theorem dX4_takeComing_126 : decode cX4_takeComing 126 = .ok (.getfield 33, 3) := by decide +kernel
theorem dX4_takeComing_129 : decode cX4_takeComing 129 = .ok (.iload 4, 2) := by decide +kernel
theorem dX4_takeComing_131 : decode cX4_takeComing 131 = .ok (.iload_n 2, 1) := by decide +kernel
theorem dX4_takeComing_132 : decode cX4_takeComing 132 = .ok (.iastore, 1) := by decide +kernel
theorem dX4_takeComing_133 : decode cX4_takeComing 133 = .ok (.aload_n 0, 1) := by decide +kernel
theorem dX4_takeComing_134 : decode cX4_takeComing 134 = .ok (.getfield 36, 3) := by decide +kernel
theorem dX4_takeComing_137 : decode cX4_takeComing 137 = .ok (.iload 4, 2) := by decide +kernel
theorem dX4_takeComing_139 : decode cX4_takeComing 139 = .ok (.iload_n 3, 1) := by decide +kernel
theorem dX4_takeComing_140 : decode cX4_takeComing 140 = .ok (.iastore, 1) := by decide +kernel
theorem dX4_takeComing_141 : decode cX4_takeComing 141 = .ok (.aload_n 0, 1) := by decide +kernel
theorem dX4_takeComing_142 : decode cX4_takeComing 142 = .ok (.dup, 1) := by decide +kernel
theorem dX4_takeComing_143 : decode cX4_takeComing 143 = .ok (.getfield 53, 3) := by decide +kernel
theorem dX4_takeComing_146 : decode cX4_takeComing 146 = .ok (.iconst 1, 1) := by decide +kernel
theorem dX4_takeComing_147 : decode cX4_takeComing 147 = .ok (.iadd, 1) := by decide +kernel
theorem dX4_takeComing_148 : decode cX4_takeComing 148 = .ok (.putfield 53, 3) := by decide +kernel
theorem dX4_takeComing_151 : decode cX4_takeComing 151 = .ok (.iconst 1, 1) := by decide +kernel
theorem dX4_takeComing_152 : decode cX4_takeComing 152 = .ok (.ireturn, 1) := by decide +kernel
theorem dX4_takeTurn_0 : decode cX4_takeTurn 0 = .ok (.aload_n 0, 1) := by decide +kernel
theorem dX4_takeTurn_1 : decode cX4_takeTurn 1 = .ok (.getfield 42, 3) := by decide +kernel
theorem dX4_takeTurn_4 : decode cX4_takeTurn 4 = .ok (.getfield 56, 3) := by decide +kernel
theorem dX4_takeTurn_7 : decode cX4_takeTurn 7 = .ok (.bipush 8, 2) := by decide +kernel
theorem dX4_takeTurn_9 : decode cX4_takeTurn 9 = .ok (.if_icmp .ge 32, 3) := by decide +kernel
theorem dX4_takeTurn_12 : decode cX4_takeTurn 12 = .ok (.iload_n 1, 1) := by decide +kernel
theorem dX4_takeTurn_13 : decode cX4_takeTurn 13 = .ok (.bipush 31, 2) := by decide +kernel
theorem dX4_takeTurn_15 : decode cX4_takeTurn 15 = .ok (.invokestatic 79, 3) := by decide +kernel
theorem dX4_takeTurn_18 : decode cX4_takeTurn 18 = .ok (.ifCond .ne 23, 3) := by decide +kernel
theorem dX4_takeTurn_21 : decode cX4_takeTurn 21 = .ok (.iload_n 2, 1) := by decide +kernel
theorem dX4_takeTurn_22 : decode cX4_takeTurn 22 = .ok (.aload_n 0, 1) := by decide +kernel
theorem dX4_takeTurn_23 : decode cX4_takeTurn 23 = .ok (.getfield 46, 3) := by decide +kernel
theorem dX4_takeTurn_26 : decode cX4_takeTurn 26 = .ok (.invokestatic 79, 3) := by decide +kernel
theorem dX4_takeTurn_29 : decode cX4_takeTurn 29 = .ok (.ifCond .ne 12, 3) := by decide +kernel
theorem dX4_takeTurn_32 : decode cX4_takeTurn 32 = .ok (.iload_n 3, 1) := by decide +kernel
theorem dX4_takeTurn_33 : decode cX4_takeTurn 33 = .ok (.bipush 41, 2) := by decide +kernel
theorem dX4_takeTurn_35 : decode cX4_takeTurn 35 = .ok (.invokestatic 79, 3) := by decide +kernel
theorem dX4_takeTurn_38 : decode cX4_takeTurn 38 = .ok (.ifCond .eq 5, 3) := by decide +kernel
theorem dX4_takeTurn_41 : decode cX4_takeTurn 41 = .ok (.iconst 0, 1) := by decide +kernel
theorem dX4_takeTurn_42 : decode cX4_takeTurn 42 = .ok (.ireturn, 1) := by decide +kernel
theorem dX4_takeTurn_43 : decode cX4_takeTurn 43 = .ok (.aload_n 0, 1) := by decide +kernel
theorem dX4_takeTurn_44 : decode cX4_takeTurn 44 = .ok (.getfield 42, 3) := by decide +kernel
theorem dX4_takeTurn_47 : decode cX4_takeTurn 47 = .ok (.iload_n 1, 1) := by decide +kernel
theorem dX4_takeTurn_48 : decode cX4_takeTurn 48 = .ok (.iload_n 2, 1) := by decide +kernel
theorem dX4_takeTurn_49 : decode cX4_takeTurn 49 = .ok (.iload_n 3, 1) := by decide +kernel
theorem dX4_takeTurn_50 : decode cX4_takeTurn 50 = .ok (.bipush 20, 2) := by decide +kernel
theorem dX4_takeTurn_52 : decode cX4_takeTurn 52 = .ok (.isub, 1) := by decide +kernel
theorem dX4_takeTurn_53 : decode cX4_takeTurn 53 = .ok (.invokevirtual 82, 3) := by decide +kernel
theorem dX4_takeTurn_56 : decode cX4_takeTurn 56 = .ok (.iconst 1, 1) := by decide +kernel
theorem dX4_takeTurn_57 : decode cX4_takeTurn 57 = .ok (.ireturn, 1) := by decide +kernel
theorem dX4_setBy_0 : decode cX4_setBy 0 = .ok (.aload_n 0, 1) := by decide +kernel
theorem dX4_setBy_1 : decode cX4_setBy 1 = .ok (.getfield 24, 3) := by decide +kernel
theorem dX4_setBy_4 : decode cX4_setBy 4 = .ok (.iload_n 1, 1) := by decide +kernel
theorem dX4_setBy_5 : decode cX4_setBy 5 = .ok (.iaload, 1) := by decide +kernel
theorem dX4_setBy_6 : decode cX4_setBy 6 = .ok (.aload_n 0, 1) := by decide +kernel
theorem dX4_setBy_7 : decode cX4_setBy 7 = .ok (.getfield 27, 3) := by decide +kernel
theorem dX4_setBy_10 : decode cX4_setBy 10 = .ok (.iload_n 1, 1) := by decide +kernel
theorem dX4_setBy_11 : decode cX4_setBy 11 = .ok (.iaload, 1) := by decide +kernel
theorem dX4_setBy_12 : decode cX4_setBy 12 = .ok (.iload_n 2, 1) := by decide +kernel
theorem dX4_setBy_13 : decode cX4_setBy 13 = .ok (.invokestatic 86, 3) := by decide +kernel
theorem dX4_setBy_16 : decode cX4_setBy 16 = .ok (.ireturn, 1) := by decide +kernel
theorem dX4_twist_0 : decode cX4_twist 0 = .ok (.iconst 0, 1) := by decide +kernel
theorem dX4_twist_1 : decode cX4_twist 1 = .ok (.istore_n 2, 1) := by decide +kernel
theorem dX4_twist_2 : decode cX4_twist 2 = .ok (.iload_n 2, 1) := by decide +kernel
theorem dX4_twist_3 : decode cX4_twist 3 = .ok (.aload_n 0, 1) := by decide +kernel
theorem dX4_twist_4 : decode cX4_twist 4 = .ok (.getfield 46, 3) := by decide +kernel
theorem dX4_twist_7 : decode cX4_twist 7 = .ok (.if_icmp .ge 25, 3) := by decide +kernel
theorem dX4_twist_10 : decode cX4_twist 10 = .ok (.aload_n 1, 1) := by decide +kernel
theorem dX4_twist_11 : decode cX4_twist 11 = .ok (.iload_n 2, 1) := by decide +kernel
theorem dX4_twist_12 : decode cX4_twist 12 = .ok (.aload_n 1, 1) := by decide +kernel
theorem dX4_twist_13 : decode cX4_twist 13 = .ok (.iload_n 2, 1) := by decide +kernel
theorem dX4_twist_14 : decode cX4_twist 14 = .ok (.iaload, 1) := by decide +kernel
theorem dX4_twist_15 : decode cX4_twist 15 = .ok (.aload_n 0, 1) := by decide +kernel
theorem dX4_twist_16 : decode cX4_twist 16 = .ok (.getfield 18, 3) := by decide +kernel
theorem dX4_twist_19 : decode cX4_twist 19 = .ok (.iload_n 2, 1) := by decide +kernel
theorem dX4_twist_20 : decode cX4_twist 20 = .ok (.iaload, 1) := by decide +kernel
theorem dX4_twist_21 : decode cX4_twist 21 = .ok (.iadd, 1) := by decide +kernel
theorem dX4_twist_22 : decode cX4_twist 22 = .ok (.invokestatic 92, 3) := by decide +kernel
theorem dX4_twist_25 : decode cX4_twist 25 = .ok (.iastore, 1) := by decide +kernel
theorem dX4_twist_26 : decode cX4_twist 26 = .ok (.iinc 2 1, 3) := by decide +kernel
theorem dX4_twist_29 : decode cX4_twist 29 = .ok (.goto (-27), 3) := by decide +kernel
theorem dX4_twist_32 : decode cX4_twist 32 = .ok (.return_, 1) := by decide +kernel
theorem dX4_letCome_0 : decode cX4_letCome 0 = .ok (.aload_n 2, 1) := by decide +kernel
theorem dX4_letCome_1 : decode cX4_letCome 1 = .ok (.bipush (-4), 2) := by decide +kernel
theorem dX4_letCome_3 : decode cX4_letCome 3 = .ok (.invokestatic 96, 3) := by decide +kernel
theorem dX4_letCome_6 : decode cX4_letCome 6 = .ok (.iconst 0, 1) := by decide +kernel
theorem dX4_letCome_7 : decode cX4_letCome 7 = .ok (.istore_n 3, 1) := by decide +kernel
theorem dX4_letCome_8 : decode cX4_letCome 8 = .ok (.iconst 0, 1) := by decide +kernel
theorem dX4_letCome_9 : decode cX4_letCome 9 = .ok (.istore 4, 2) := by decide +kernel
theorem dX4_letCome_11 : decode cX4_letCome 11 = .ok (.iload 4, 2) := by decide +kernel
theorem dX4_letCome_13 : decode cX4_letCome 13 = .ok (.aload_n 0, 1) := by decide +kernel
theorem dX4_letCome_14 : decode cX4_letCome 14 = .ok (.getfield 53, 3) := by decide +kernel
theorem dX4_letCome_17 : decode cX4_letCome 17 = .ok (.if_icmp .ge 82, 3) := by decide +kernel
theorem dX4_letCome_20 : decode cX4_letCome 20 = .ok (.aload_n 0, 1) := by decide +kernel
theorem dX4_letCome_21 : decode cX4_letCome 21 = .ok (.getfield 30, 3) := by decide +kernel
theorem dX4_letCome_24 : decode cX4_letCome 24 = .ok (.iload 4, 2) := by decide +kernel
theorem dX4_letCome_26 : decode cX4_letCome 26 = .ok (.iaload, 1) := by decide +kernel
theorem dX4_letCome_27 : decode cX4_letCome 27 = .ok (.istore 5, 2) := by decide +kernel
theorem dX4_letCome_29 : decode cX4_letCome 29 = .ok (.aload_n 2, 1) := by decide +kernel
theorem dX4_letCome_30 : decode cX4_letCome 30 = .ok (.iload 5, 2) := by decide +kernel
theorem dX4_letCome_32 : decode cX4_letCome 32 = .ok (.iaload, 1) := by decide +kernel
theorem dX4_letCome_33 : decode cX4_letCome 33 = .ok (.bipush (-4), 2) := by decide +kernel
theorem dX4_letCome_35 : decode cX4_letCome 35 = .ok (.if_icmp .ne 20, 3) := by decide +kernel
theorem dX4_letCome_38 : decode cX4_letCome 38 = .ok (.aload_n 0, 1) := by decide +kernel
theorem dX4_letCome_39 : decode cX4_letCome 39 = .ok (.iload 5, 2) := by decide +kernel
theorem dX4_letCome_41 : decode cX4_letCome 41 = .ok (.aload_n 0, 1) := by decide +kernel
theorem dX4_letCome_42 : decode cX4_letCome 42 = .ok (.getfield 36, 3) := by decide +kernel
theorem dX4_letCome_45 : decode cX4_letCome 45 = .ok (.iload 4, 2) := by decide +kernel
theorem dX4_letCome_47 : decode cX4_letCome 47 = .ok (.iaload, 1) := by decide +kernel
theorem dX4_letCome_48 : decode cX4_letCome 48 = .ok (.aload_n 1, 1) := by decide +kernel
theorem dX4_letCome_49 : decode cX4_letCome 49 = .ok (.invokevirtual 102, 3) := by decide +kernel
theorem dX4_letCome_52 : decode cX4_letCome 52 = .ok (.goto 5, 3) := by decide +kernel
theorem dX4_letCome_55 : decode cX4_letCome 55 = .ok (.bipush (-4), 2) := by decide +kernel
theorem dX4_letCome_57 : decode cX4_letCome 57 = .ok (.istore 6, 2) := by decide +kernel
theorem dX4_letCome_59 : decode cX4_letCome 59 = .ok (.iload 6, 2) := by decide +kernel
theorem dX4_letCome_61 : decode cX4_letCome 61 = .ok (.bipush (-4), 2) := by decide +kernel
theorem dX4_letCome_63 : decode cX4_letCome 63 = .ok (.if_icmp .eq 30, 3) := by decide +kernel
theorem dX4_letCome_66 : decode cX4_letCome 66 = .ok (.aload_n 1, 1) := by decide +kernel
theorem dX4_letCome_67 : decode cX4_letCome 67 = .ok (.iload 6, 2) := by decide +kernel
theorem dX4_letCome_69 : decode cX4_letCome 69 = .ok (.aload_n 0, 1) := by decide +kernel
theorem dX4_letCome_70 : decode cX4_letCome 70 = .ok (.iload 5, 2) := by decide +kernel
theorem dX4_letCome_72 : decode cX4_letCome 72 = .ok (.aload_n 1, 1) := by decide +kernel
theorem dX4_letCome_73 : decode cX4_letCome 73 = .ok (.iload 6, 2) := by decide +kernel
theorem dX4_letCome_75 : decode cX4_letCome 75 = .ok (.iaload, 1) := by decide +kernel
theorem dX4_letCome_76 : decode cX4_letCome 76 = .ok (.invokevirtual 106, 3) := by decide +kernel
theorem dX4_letCome_79 : decode cX4_letCome 79 = .ok (.iastore, 1) := by decide +kernel
theorem dX4_letCome_80 : decode cX4_letCome 80 = .ok (.aload_n 2, 1) := by decide +kernel
theorem dX4_letCome_81 : decode cX4_letCome 81 = .ok (.iload 5, 2) := by decide +kernel
theorem dX4_letCome_83 : decode cX4_letCome 83 = .ok (.iload 6, 2) := by decide +kernel
theorem dX4_letCome_85 : decode cX4_letCome 85 = .ok (.iastore, 1) := by decide +kernel
theorem dX4_letCome_86 : decode cX4_letCome 86 = .ok (.iload_n 3, 1) := by decide +kernel
theorem dX4_letCome_87 : decode cX4_letCome 87 = .ok (.iconst 1, 1) := by decide +kernel
theorem dX4_letCome_88 : decode cX4_letCome 88 = .ok (.iload 5, 2) := by decide +kernel
theorem dX4_letCome_90 : decode cX4_letCome 90 = .ok (.ishl, 1) := by decide +kernel
theorem dX4_letCome_91 : decode cX4_letCome 91 = .ok (.ior, 1) := by decide +kernel
theorem dX4_letCome_92 : decode cX4_letCome 92 = .ok (.istore_n 3, 1) := by decide +kernel
theorem dX4_letCome_93 : decode cX4_letCome 93 = .ok (.iinc 4 1, 3) := by decide +kernel
theorem dX4_letCome_96 : decode cX4_letCome 96 = .ok (.goto (-85), 3) := by decide +kernel
theorem dX4_letCome_99 : decode cX4_letCome 99 = .ok (.iload_n 3, 1) := by decide +kernel
theorem dX4_letCome_100 : decode cX4_letCome 100 = .ok (.ireturn, 1) := by decide +kernel
theorem dX4_firstTempting_0 : decode cX4_firstTempting 0 = .ok (.aload_n 0, 1) := by decide +kernel
theorem dX4_firstTempting_1 : decode cX4_firstTempting 1 = .ok (.getfield 24, 3) := by decide +kernel
theorem dX4_firstTempting_4 : decode cX4_firstTempting 4 = .ok (.iload_n 1, 1) := by decide +kernel
theorem dX4_firstTempting_5 : decode cX4_firstTempting 5 = .ok (.iaload, 1) := by decide +kernel
theorem dX4_firstTempting_6 : decode cX4_firstTempting 6 = .ok (.aload_n 0, 1) := by decide +kernel
theorem dX4_firstTempting_7 : decode cX4_firstTempting 7 = .ok (.getfield 27, 3) := by decide +kernel
theorem dX4_firstTempting_10 : decode cX4_firstTempting 10 = .ok (.iload_n 1, 1) := by decide +kernel
theorem dX4_firstTempting_11 : decode cX4_firstTempting 11 = .ok (.iaload, 1) := by decide +kernel
theorem dX4_firstTempting_12 : decode cX4_firstTempting 12 = .ok (.invokestatic 110, 3) := by decide +kernel
theorem dX4_firstTempting_15 : decode cX4_firstTempting 15 = .ok (.istore 4, 2) := by decide +kernel
theorem dX4_firstTempting_17 : decode cX4_firstTempting 17 = .ok (.iconst 0, 1) := by decide +kernel
theorem dX4_firstTempting_18 : decode cX4_firstTempting 18 = .ok (.istore 5, 2) := by decide +kernel
theorem dX4_firstTempting_20 : decode cX4_firstTempting 20 = .ok (.iload 5, 2) := by decide +kernel
theorem dX4_firstTempting_22 : decode cX4_firstTempting 22 = .ok (.aload_n 0, 1) := by decide +kernel
theorem dX4_firstTempting_23 : decode cX4_firstTempting 23 = .ok (.getfield 46, 3) := by decide +kernel
theorem dX4_firstTempting_26 : decode cX4_firstTempting 26 = .ok (.if_icmp .ge 35, 3) := by decide +kernel
theorem dX4_firstTempting_29 : decode cX4_firstTempting 29 = .ok (.aload_n 0, 1) := by decide +kernel
theorem dX4_firstTempting_30 : decode cX4_firstTempting 30 = .ok (.getfield 9, 3) := by decide +kernel
theorem dX4_firstTempting_33 : decode cX4_firstTempting 33 = .ok (.iload 5, 2) := by decide +kernel
theorem dX4_firstTempting_35 : decode cX4_firstTempting 35 = .ok (.iaload, 1) := by decide +kernel
theorem dX4_firstTempting_36 : decode cX4_firstTempting 36 = .ok (.iload_n 2, 1) := by decide +kernel
theorem dX4_firstTempting_37 : decode cX4_firstTempting 37 = .ok (.if_icmp .ne 18, 3) := by decide +kernel
theorem dX4_firstTempting_40 : decode cX4_firstTempting 40 = .ok (.aload_n 3, 1) := by decide +kernel
theorem dX4_firstTempting_41 : decode cX4_firstTempting 41 = .ok (.iload 5, 2) := by decide +kernel
theorem dX4_firstTempting_43 : decode cX4_firstTempting 43 = .ok (.iaload, 1) := by decide +kernel
theorem dX4_firstTempting_44 : decode cX4_firstTempting 44 = .ok (.invokestatic 113, 3) := by decide +kernel
theorem dX4_firstTempting_47 : decode cX4_firstTempting 47 = .ok (.iload 4, 2) := by decide +kernel
theorem dX4_firstTempting_49 : decode cX4_firstTempting 49 = .ok (.if_icmp .le 6, 3) := by decide +kernel
theorem dX4_firstTempting_52 : decode cX4_firstTempting 52 = .ok (.iload 5, 2) := by decide +kernel
theorem dX4_firstTempting_54 : decode cX4_firstTempting 54 = .ok (.ireturn, 1) := by decide +kernel
theorem dX4_firstTempting_55 : decode cX4_firstTempting 55 = .ok (.iinc 5 1, 3) := by decide +kernel
theorem dX4_firstTempting_58 : decode cX4_firstTempting 58 = .ok (.goto (-38), 3) := by decide +kernel
theorem dX4_firstTempting_61 : decode cX4_firstTempting 61 = .ok (.bipush (-4), 2) := by decide +kernel
theorem dX4_firstTempting_63 : decode cX4_firstTempting 63 = .ok (.ireturn, 1) := by decide +kernel
theorem dX4_farthestBorneIn_0 : decode cX4_farthestBorneIn 0 = .ok (.bipush 40, 2) := by decide +kernel
theorem dX4_farthestBorneIn_2 : decode cX4_farthestBorneIn 2 = .ok (.istore_n 2, 1) := by decide +kernel
theorem dX4_farthestBorneIn_3 : decode cX4_farthestBorneIn 3 = .ok (.iconst 0, 1) := by decide +kernel
theorem dX4_farthestBorneIn_4 : decode cX4_farthestBorneIn 4 = .ok (.istore_n 3, 1) := by decide +kernel
theorem dX4_farthestBorneIn_5 : decode cX4_farthestBorneIn 5 = .ok (.iload_n 3, 1) := by decide +kernel
theorem dX4_farthestBorneIn_6 : decode cX4_farthestBorneIn 6 = .ok (.aload_n 0, 1) := by decide +kernel
theorem dX4_farthestBorneIn_7 : decode cX4_farthestBorneIn 7 = .ok (.getfield 53, 3) := by decide +kernel
theorem dX4_farthestBorneIn_10 : decode cX4_farthestBorneIn 10 = .ok (.if_icmp .ge 49, 3) := by decide +kernel
theorem dX4_farthestBorneIn_13 : decode cX4_farthestBorneIn 13 = .ok (.aload_n 0, 1) := by decide +kernel
theorem dX4_farthestBorneIn_14 : decode cX4_farthestBorneIn 14 = .ok (.getfield 36, 3) := by decide +kernel
theorem dX4_farthestBorneIn_17 : decode cX4_farthestBorneIn 17 = .ok (.iload_n 3, 1) := by decide +kernel
theorem dX4_farthestBorneIn_18 : decode cX4_farthestBorneIn 18 = .ok (.iaload, 1) := by decide +kernel
theorem dX4_farthestBorneIn_19 : decode cX4_farthestBorneIn 19 = .ok (.iload_n 1, 1) := by decide +kernel
theorem dX4_farthestBorneIn_20 : decode cX4_farthestBorneIn 20 = .ok (.if_icmp .ne 33, 3) := by decide +kernel
theorem dX4_farthestBorneIn_23 : decode cX4_farthestBorneIn 23 = .ok (.aload_n 0, 1) := by decide +kernel
theorem dX4_farthestBorneIn_24 : decode cX4_farthestBorneIn 24 = .ok (.getfield 30, 3) := by decide +kernel
theorem dX4_farthestBorneIn_27 : decode cX4_farthestBorneIn 27 = .ok (.iload_n 3, 1) := by decide +kernel
theorem dX4_farthestBorneIn_28 : decode cX4_farthestBorneIn 28 = .ok (.iaload, 1) := by decide +kernel
theorem dX4_farthestBorneIn_29 : decode cX4_farthestBorneIn 29 = .ok (.istore 4, 2) := by decide +kernel
theorem dX4_farthestBorneIn_31 : decode cX4_farthestBorneIn 31 = .ok (.iload_n 2, 1) := by decide +kernel
theorem dX4_farthestBorneIn_32 : decode cX4_farthestBorneIn 32 = .ok (.aload_n 0, 1) := by decide +kernel
theorem dX4_farthestBorneIn_33 : decode cX4_farthestBorneIn 33 = .ok (.getfield 24, 3) := by decide +kernel
theorem dX4_farthestBorneIn_36 : decode cX4_farthestBorneIn 36 = .ok (.iload 4, 2) := by decide +kernel
theorem dX4_farthestBorneIn_38 : decode cX4_farthestBorneIn 38 = .ok (.iaload, 1) := by decide +kernel
theorem dX4_farthestBorneIn_39 : decode cX4_farthestBorneIn 39 = .ok (.aload_n 0, 1) := by decide +kernel
theorem dX4_farthestBorneIn_40 : decode cX4_farthestBorneIn 40 = .ok (.getfield 27, 3) := by decide +kernel
theorem dX4_farthestBorneIn_43 : decode cX4_farthestBorneIn 43 = .ok (.iload 4, 2) := by decide +kernel
theorem dX4_farthestBorneIn_45 : decode cX4_farthestBorneIn 45 = .ok (.iaload, 1) := by decide +kernel
theorem dX4_farthestBorneIn_46 : decode cX4_farthestBorneIn 46 = .ok (.invokestatic 110, 3) := by decide +kernel
theorem dX4_farthestBorneIn_49 : decode cX4_farthestBorneIn 49 = .ok (.invokestatic 118, 3) := by decide +kernel
theorem dX4_farthestBorneIn_52 : decode cX4_farthestBorneIn 52 = .ok (.istore_n 2, 1) := by decide +kernel
theorem dX4_farthestBorneIn_53 : decode cX4_farthestBorneIn 53 = .ok (.iinc 3 1, 3) := by decide +kernel
theorem dX4_farthestBorneIn_56 : decode cX4_farthestBorneIn 56 = .ok (.goto (-51), 3) := by decide +kernel
theorem dX4_farthestBorneIn_59 : decode cX4_farthestBorneIn 59 = .ok (.iload_n 2, 1) := by decide +kernel
theorem dX4_farthestBorneIn_60 : decode cX4_farthestBorneIn 60 = .ok (.ireturn, 1) := by decide +kernel
theorem dX5_init_0 : decode cX5_init 0 = .ok (.aload_n 0, 1) := by decide +kernel
theorem dX5_init_1 : decode cX5_init 1 = .ok (.invokespecial 3, 3) := by decide +kernel
theorem dX5_init_4 : decode cX5_init 4 = .ok (.aload_n 0, 1) := by decide +kernel
theorem dX5_init_5 : decode cX5_init 5 = .ok (.bipush 7, 2) := by decide +kernel
theorem dX5_init_7 : decode cX5_init 7 = .ok (.newarray .int, 2) := by decide +kernel
theorem dX5_init_9 : decode cX5_init 9 = .ok (.putfield 9, 3) := by decide +kernel
theorem dX5_init_12 : decode cX5_init 12 = .ok (.aload_n 0, 1) := by decide +kernel
theorem dX5_init_13 : decode cX5_init 13 = .ok (.iconst 5, 1) := by decide +kernel
theorem dX5_init_14 : decode cX5_init 14 = .ok (.newarray .int, 2) := by decide +kernel
theorem dX5_init_16 : decode cX5_init 16 = .ok (.putfield 15, 3) := by decide +kernel
theorem dX5_init_19 : decode cX5_init 19 = .ok (.aload_n 0, 1) := by decide +kernel
theorem dX5_init_20 : decode cX5_init 20 = .ok (.bipush 41, 2) := by decide +kernel
theorem dX5_init_22 : decode cX5_init 22 = .ok (.newarray .int, 2) := by decide +kernel
theorem dX5_init_24 : decode cX5_init 24 = .ok (.putfield 18, 3) := by decide +kernel
theorem dX5_init_27 : decode cX5_init 27 = .ok (.aload_n 0, 1) := by decide +kernel
theorem dX5_init_28 : decode cX5_init 28 = .ok (.bipush 7, 2) := by decide +kernel
theorem dX5_init_30 : decode cX5_init 30 = .ok (.bipush 41, 2) := by decide +kernel
theorem dX5_init_32 : decode cX5_init 32 = .ok (.multianewarray 21 2, 4) := by decide +kernel
theorem dX5_init_36 : decode cX5_init 36 = .ok (.putfield 23, 3) := by decide +kernel
theorem dX5_init_39 : decode cX5_init 39 = .ok (.aload_n 0, 1) := by decide +kernel
theorem dX5_init_40 : decode cX5_init 40 = .ok (.bipush 7, 2) := by decide +kernel
theorem dX5_init_42 : decode cX5_init 42 = .ok (.newarray .int, 2) := by decide +kernel
theorem dX5_init_44 : decode cX5_init 44 = .ok (.putfield 26, 3) := by decide +kernel
theorem dX5_init_47 : decode cX5_init 47 = .ok (.return_, 1) := by decide +kernel
theorem dX5_leastTurn_0 : decode cX5_leastTurn 0 = .ok (.iconst 1, 1) := by decide +kernel
theorem dX5_leastTurn_1 : decode cX5_leastTurn 1 = .ok (.istore 4, 2) := by decide +kernel
theorem dX5_leastTurn_3 : decode cX5_leastTurn 3 = .ok (.iload 4, 2) := by decide +kernel
theorem dX5_leastTurn_5 : decode cX5_leastTurn 5 = .ok (.bipush 20, 2) := by decide +kernel
theorem dX5_leastTurn_7 : decode cX5_leastTurn 7 = .ok (.if_icmp .gt 80, 3) := by decide +kernel
theorem dX5_leastTurn_10 : decode cX5_leastTurn 10 = .ok (.iconst 0, 1) := by decide +kernel
theorem dX5_leastTurn_11 : decode cX5_leastTurn 11 = .ok (.istore 5, 2) := by decide +kernel
theorem dX5_leastTurn_13 : decode cX5_leastTurn 13 = .ok (.iload 5, 2) := by decide +kernel
theorem dX5_leastTurn_15 : decode cX5_leastTurn 15 = .ok (.aload_n 1, 1) := by decide +kernel
theorem dX5_leastTurn_16 : decode cX5_leastTurn 16 = .ok (.getfield 29, 3) := by decide +kernel
theorem dX5_leastTurn_19 : decode cX5_leastTurn 19 = .ok (.if_icmp .ge 62, 3) := by decide +kernel
theorem dX5_leastTurn_22 : decode cX5_leastTurn 22 = .ok (.aload_n 0, 1) := by decide +kernel
theorem dX5_leastTurn_23 : decode cX5_leastTurn 23 = .ok (.aload_n 1, 1) := by decide +kernel
theorem dX5_leastTurn_24 : decode cX5_leastTurn 24 = .ok (.aload_n 2, 1) := by decide +kernel
theorem dX5_leastTurn_25 : decode cX5_leastTurn 25 = .ok (.iload 5, 2) := by decide +kernel
theorem dX5_leastTurn_27 : decode cX5_leastTurn 27 = .ok (.iload 4, 2) := by decide +kernel
theorem dX5_leastTurn_29 : decode cX5_leastTurn 29 = .ok (.iload_n 3, 1) := by decide +kernel
theorem dX5_leastTurn_30 : decode cX5_leastTurn 30 = .ok (.invokevirtual 35, 3) := by decide +kernel
theorem dX5_leastTurn_33 : decode cX5_leastTurn 33 = .ok (.ifCond .eq 15, 3) := by decide +kernel
theorem dX5_leastTurn_36 : decode cX5_leastTurn 36 = .ok (.bipush 100, 2) := by decide +kernel
theorem dX5_leastTurn_38 : decode cX5_leastTurn 38 = .ok (.iload 5, 2) := by decide +kernel
theorem dX5_leastTurn_40 : decode cX5_leastTurn 40 = .ok (.imul, 1) := by decide +kernel
theorem dX5_leastTurn_41 : decode cX5_leastTurn 41 = .ok (.bipush 20, 2) := by decide +kernel
theorem dX5_leastTurn_43 : decode cX5_leastTurn 43 = .ok (.iadd, 1) := by decide +kernel
theorem dX5_leastTurn_44 : decode cX5_leastTurn 44 = .ok (.iload 4, 2) := by decide +kernel
theorem dX5_leastTurn_46 : decode cX5_leastTurn 46 = .ok (.iadd, 1) := by decide +kernel
theorem dX5_leastTurn_47 : decode cX5_leastTurn 47 = .ok (.ireturn, 1) := by decide +kernel
theorem dX5_leastTurn_48 : decode cX5_leastTurn 48 = .ok (.aload_n 0, 1) := by decide +kernel
theorem dX5_leastTurn_49 : decode cX5_leastTurn 49 = .ok (.aload_n 1, 1) := by decide +kernel
theorem dX5_leastTurn_50 : decode cX5_leastTurn 50 = .ok (.aload_n 2, 1) := by decide +kernel
theorem dX5_leastTurn_51 : decode cX5_leastTurn 51 = .ok (.iload 5, 2) := by decide +kernel
theorem dX5_leastTurn_53 : decode cX5_leastTurn 53 = .ok (.iload 4, 2) := by decide +kernel
theorem dX5_leastTurn_55 : decode cX5_leastTurn 55 = .ok (.ineg, 1) := by decide +kernel
theorem dX5_leastTurn_56 : decode cX5_leastTurn 56 = .ok (.iload_n 3, 1) := by decide +kernel
theorem dX5_leastTurn_57 : decode cX5_leastTurn 57 = .ok (.invokevirtual 35, 3) := by decide +kernel
theorem dX5_leastTurn_60 : decode cX5_leastTurn 60 = .ok (.ifCond .eq 15, 3) := by decide +kernel
theorem dX5_leastTurn_63 : decode cX5_leastTurn 63 = .ok (.bipush 100, 2) := by decide +kernel
theorem dX5_leastTurn_65 : decode cX5_leastTurn 65 = .ok (.iload 5, 2) := by decide +kernel
theorem dX5_leastTurn_67 : decode cX5_leastTurn 67 = .ok (.imul, 1) := by decide +kernel
theorem dX5_leastTurn_68 : decode cX5_leastTurn 68 = .ok (.bipush 20, 2) := by decide +kernel
theorem dX5_leastTurn_70 : decode cX5_leastTurn 70 = .ok (.iadd, 1) := by decide +kernel
theorem dX5_leastTurn_71 : decode cX5_leastTurn 71 = .ok (.iload 4, 2) := by decide +kernel
theorem dX5_leastTurn_73 : decode cX5_leastTurn 73 = .ok (.isub, 1) := by decide +kernel
theorem dX5_leastTurn_74 : decode cX5_leastTurn 74 = .ok (.ireturn, 1) := by decide +kernel
theorem dX5_leastTurn_75 : decode cX5_leastTurn 75 = .ok (.iinc 5 1, 3) := by decide +kernel
theorem dX5_leastTurn_78 : decode cX5_leastTurn 78 = .ok (.goto (-65), 3) := by decide +kernel
theorem dX5_leastTurn_81 : decode cX5_leastTurn 81 = .ok (.iinc 4 1, 3) := by decide +kernel
theorem dX5_leastTurn_84 : decode cX5_leastTurn 84 = .ok (.goto (-81), 3) := by decide +kernel
theorem dX5_leastTurn_87 : decode cX5_leastTurn 87 = .ok (.bipush (-4), 2) := by decide +kernel
theorem dX5_leastTurn_89 : decode cX5_leastTurn 89 = .ok (.ireturn, 1) := by decide +kernel
theorem dX5_isWon_0 : decode cX5_isWon 0 = .ok (.aload_n 0, 1) := by decide +kernel
theorem dX5_isWon_1 : decode cX5_isWon 1 = .ok (.aload_n 1, 1) := by decide +kernel
theorem dX5_isWon_2 : decode cX5_isWon 2 = .ok (.aload_n 2, 1) := by decide +kernel
theorem dX5_isWon_3 : decode cX5_isWon 3 = .ok (.iload_n 3, 1) := by decide +kernel
theorem dX5_isWon_4 : decode cX5_isWon 4 = .ok (.aload_n 2, 1) := by decide +kernel
theorem dX5_isWon_5 : decode cX5_isWon 5 = .ok (.iload_n 3, 1) := by decide +kernel
theorem dX5_isWon_6 : decode cX5_isWon 6 = .ok (.iaload, 1) := by decide +kernel
theorem dX5_isWon_7 : decode cX5_isWon 7 = .ok (.iload 4, 2) := by decide +kernel
theorem dX5_isWon_9 : decode cX5_isWon 9 = .ok (.iadd, 1) := by decide +kernel
theorem dX5_isWon_10 : decode cX5_isWon 10 = .ok (.invokestatic 39, 3) := by decide +kernel
theorem dX5_isWon_13 : decode cX5_isWon 13 = .ok (.invokevirtual 43, 3) := by decide +kernel
theorem dX5_isWon_16 : decode cX5_isWon 16 = .ok (.istore 6, 2) := by decide +kernel
theorem dX5_isWon_18 : decode cX5_isWon 18 = .ok (.iload 6, 2) := by decide +kernel
theorem dX5_isWon_20 : decode cX5_isWon 20 = .ok (.iload 5, 2) := by decide +kernel
theorem dX5_isWon_22 : decode cX5_isWon 22 = .ok (.ishr, 1) := by decide +kernel
theorem dX5_isWon_23 : decode cX5_isWon 23 = .ok (.iconst 1, 1) := by decide +kernel
theorem dX5_isWon_24 : decode cX5_isWon 24 = .ok (.iand, 1) := by decide +kernel
theorem dX5_isWon_25 : decode cX5_isWon 25 = .ok (.iconst 1, 1) := by decide +kernel
theorem dX5_isWon_26 : decode cX5_isWon 26 = .ok (.if_icmp .ne 7, 3) := by decide +kernel
theorem dX5_isWon_29 : decode cX5_isWon 29 = .ok (.iconst 1, 1) := by decide +kernel
theorem dX5_isWon_30 : decode cX5_isWon 30 = .ok (.goto 4, 3) := by decide +kernel
theorem dX5_isWon_33 : decode cX5_isWon 33 = .ok (.iconst 0, 1) := by decide +kernel
theorem dX5_isWon_34 : decode cX5_isWon 34 = .ok (.ireturn, 1) := by decide +kernel
theorem dX5_anybodyByOne_0 : decode cX5_anybodyByOne 0 = .ok (.aload_n 0, 1) := by decide +kernel
theorem dX5_anybodyByOne_1 : decode cX5_anybodyByOne 1 = .ok (.aload_n 1, 1) := by decide +kernel
theorem dX5_anybodyByOne_2 : decode cX5_anybodyByOne 2 = .ok (.invokevirtual 47, 3) := by decide +kernel
theorem dX5_anybodyByOne_5 : decode cX5_anybodyByOne 5 = .ok (.aload_n 0, 1) := by decide +kernel
theorem dX5_anybodyByOne_6 : decode cX5_anybodyByOne 6 = .ok (.aload_n 1, 1) := by decide +kernel
theorem dX5_anybodyByOne_7 : decode cX5_anybodyByOne 7 = .ok (.aload_n 2, 1) := by decide +kernel
theorem dX5_anybodyByOne_8 : decode cX5_anybodyByOne 8 = .ok (.invokevirtual 51, 3) := by decide +kernel
theorem dX5_anybodyByOne_11 : decode cX5_anybodyByOne 11 = .ok (.iconst 0, 1) := by decide +kernel
theorem dX5_anybodyByOne_12 : decode cX5_anybodyByOne 12 = .ok (.istore_n 3, 1) := by decide +kernel
theorem dX5_anybodyByOne_13 : decode cX5_anybodyByOne 13 = .ok (.iconst 0, 1) := by decide +kernel
theorem dX5_anybodyByOne_14 : decode cX5_anybodyByOne 14 = .ok (.istore 4, 2) := by decide +kernel
theorem dX5_anybodyByOne_16 : decode cX5_anybodyByOne 16 = .ok (.iload 4, 2) := by decide +kernel
theorem dX5_anybodyByOne_18 : decode cX5_anybodyByOne 18 = .ok (.aload_n 1, 1) := by decide +kernel
theorem dX5_anybodyByOne_19 : decode cX5_anybodyByOne 19 = .ok (.getfield 29, 3) := by decide +kernel
theorem dX5_anybodyByOne_22 : decode cX5_anybodyByOne 22 = .ok (.if_icmp .ge 51, 3) := by decide +kernel
theorem dX5_anybodyByOne_25 : decode cX5_anybodyByOne 25 = .ok (.iconst 0, 1) := by decide +kernel
theorem dX5_anybodyByOne_26 : decode cX5_anybodyByOne 26 = .ok (.istore 5, 2) := by decide +kernel
theorem dX5_anybodyByOne_28 : decode cX5_anybodyByOne 28 = .ok (.iload 5, 2) := by decide +kernel
theorem dX5_anybodyByOne_30 : decode cX5_anybodyByOne 30 = .ok (.aload_n 0, 1) := by decide +kernel
theorem dX5_anybodyByOne_31 : decode cX5_anybodyByOne 31 = .ok (.getfield 26, 3) := by decide +kernel
theorem dX5_anybodyByOne_34 : decode cX5_anybodyByOne 34 = .ok (.iload 4, 2) := by decide +kernel
theorem dX5_anybodyByOne_36 : decode cX5_anybodyByOne 36 = .ok (.iaload, 1) := by decide +kernel
theorem dX5_anybodyByOne_37 : decode cX5_anybodyByOne 37 = .ok (.if_icmp .ge 30, 3) := by decide +kernel
theorem dX5_anybodyByOne_40 : decode cX5_anybodyByOne 40 = .ok (.iload_n 3, 1) := by decide +kernel
theorem dX5_anybodyByOne_41 : decode cX5_anybodyByOne 41 = .ok (.aload_n 0, 1) := by decide +kernel
theorem dX5_anybodyByOne_42 : decode cX5_anybodyByOne 42 = .ok (.aload_n 1, 1) := by decide +kernel
theorem dX5_anybodyByOne_43 : decode cX5_anybodyByOne 43 = .ok (.aload_n 2, 1) := by decide +kernel
theorem dX5_anybodyByOne_44 : decode cX5_anybodyByOne 44 = .ok (.iload 4, 2) := by decide +kernel
theorem dX5_anybodyByOne_46 : decode cX5_anybodyByOne 46 = .ok (.aload_n 0, 1) := by decide +kernel
theorem dX5_anybodyByOne_47 : decode cX5_anybodyByOne 47 = .ok (.getfield 23, 3) := by decide +kernel
theorem dX5_anybodyByOne_50 : decode cX5_anybodyByOne 50 = .ok (.iload 4, 2) := by decide +kernel
theorem dX5_anybodyByOne_52 : decode cX5_anybodyByOne 52 = .ok (.aaload, 1) := by decide +kernel
theorem dX5_anybodyByOne_53 : decode cX5_anybodyByOne 53 = .ok (.iload 5, 2) := by decide +kernel
theorem dX5_anybodyByOne_55 : decode cX5_anybodyByOne 55 = .ok (.iaload, 1) := by decide +kernel
theorem dX5_anybodyByOne_56 : decode cX5_anybodyByOne 56 = .ok (.invokevirtual 43, 3) := by decide +kernel
theorem dX5_anybodyByOne_59 : decode cX5_anybodyByOne 59 = .ok (.ior, 1) := by decide +kernel
theorem dX5_anybodyByOne_60 : decode cX5_anybodyByOne 60 = .ok (.istore_n 3, 1) := by decide +kernel
theorem dX5_anybodyByOne_61 : decode cX5_anybodyByOne 61 = .ok (.iinc 5 1, 3) := by decide +kernel
theorem dX5_anybodyByOne_64 : decode cX5_anybodyByOne 64 = .ok (.goto (-36), 3) := by decide +kernel
theorem dX5_anybodyByOne_67 : decode cX5_anybodyByOne 67 = .ok (.iinc 4 1, 3) := by decide +kernel
theorem dX5_anybodyByOne_70 : decode cX5_anybodyByOne 70 = .ok (.goto (-54), 3) := by decide +kernel
theorem dX5_anybodyByOne_73 : decode cX5_anybodyByOne 73 = .ok (.iload_n 3, 1) := by decide +kernel
theorem dX5_anybodyByOne_74 : decode cX5_anybodyByOne 74 = .ok (.ireturn, 1) := by decide +kernel
theorem dX5_oneOrTwo_0 : decode cX5_oneOrTwo 0 = .ok (.aload_n 0, 1) := by decide +kernel
theorem dX5_oneOrTwo_1 : decode cX5_oneOrTwo 1 = .ok (.aload_n 1, 1) := by decide +kernel
theorem dX5_oneOrTwo_2 : decode cX5_oneOrTwo 2 = .ok (.invokevirtual 47, 3) := by decide +kernel
theorem dX5_oneOrTwo_5 : decode cX5_oneOrTwo 5 = .ok (.aload_n 0, 1) := by decide +kernel
theorem dX5_oneOrTwo_6 : decode cX5_oneOrTwo 6 = .ok (.aload_n 1, 1) := by decide +kernel
theorem dX5_oneOrTwo_7 : decode cX5_oneOrTwo 7 = .ok (.aload_n 2, 1) := by decide +kernel
theorem dX5_oneOrTwo_8 : decode cX5_oneOrTwo 8 = .ok (.invokevirtual 51, 3) := by decide +kernel
theorem dX5_oneOrTwo_11 : decode cX5_oneOrTwo 11 = .ok (.iconst 0, 1) := by decide +kernel
theorem dX5_oneOrTwo_12 : decode cX5_oneOrTwo 12 = .ok (.istore 4, 2) := by decide +kernel
theorem dX5_oneOrTwo_14 : decode cX5_oneOrTwo 14 = .ok (.iload 4, 2) := by decide +kernel
theorem dX5_oneOrTwo_16 : decode cX5_oneOrTwo 16 = .ok (.aload_n 1, 1) := by decide +kernel
theorem dX5_oneOrTwo_17 : decode cX5_oneOrTwo 17 = .ok (.getfield 29, 3) := by decide +kernel
theorem dX5_oneOrTwo_20 : decode cX5_oneOrTwo 20 = .ok (.if_icmp .ge 23, 3) := by decide +kernel
theorem dX5_oneOrTwo_23 : decode cX5_oneOrTwo 23 = .ok (.aload_n 0, 1) := by decide +kernel
theorem dX5_oneOrTwo_24 : decode cX5_oneOrTwo 24 = .ok (.aload_n 1, 1) := by decide +kernel
theorem dX5_oneOrTwo_25 : decode cX5_oneOrTwo 25 = .ok (.aload_n 2, 1) := by decide +kernel
theorem dX5_oneOrTwo_26 : decode cX5_oneOrTwo 26 = .ok (.iload 4, 2) := by decide +kernel
theorem dX5_oneOrTwo_28 : decode cX5_oneOrTwo 28 = .ok (.iload_n 3, 1) := by decide +kernel
theorem dX5_oneOrTwo_29 : decode cX5_oneOrTwo 29 = .ok (.invokevirtual 55, 3) := by decide +kernel
theorem dX5_oneOrTwo_32 : decode cX5_oneOrTwo 32 = .ok (.ifCond .eq 5, 3) := by decide +kernel
theorem dX5_oneOrTwo_35 : decode cX5_oneOrTwo 35 = .ok (.iconst 1, 1) := by decide +kernel
theorem dX5_oneOrTwo_36 : decode cX5_oneOrTwo 36 = .ok (.ireturn, 1) := by decide +kernel
theorem dX5_oneOrTwo_37 : decode cX5_oneOrTwo 37 = .ok (.iinc 4 1, 3) := by decide +kernel
theorem dX5_oneOrTwo_40 : decode cX5_oneOrTwo 40 = .ok (.goto (-26), 3) := by decide +kernel
theorem dX5_oneOrTwo_43 : decode cX5_oneOrTwo 43 = .ok (.iconst 0, 1) := by decide +kernel
theorem dX5_oneOrTwo_44 : decode cX5_oneOrTwo 44 = .ok (.istore 4, 2) := by decide +kernel
theorem dX5_oneOrTwo_46 : decode cX5_oneOrTwo 46 = .ok (.iload 4, 2) := by decide +kernel
theorem dX5_oneOrTwo_48 : decode cX5_oneOrTwo 48 = .ok (.aload_n 1, 1) := by decide +kernel
theorem dX5_oneOrTwo_49 : decode cX5_oneOrTwo 49 = .ok (.getfield 29, 3) := by decide +kernel
theorem dX5_oneOrTwo_52 : decode cX5_oneOrTwo 52 = .ok (.if_icmp .ge 46, 3) := by decide +kernel
theorem dX5_oneOrTwo_55 : decode cX5_oneOrTwo 55 = .ok (.iload 4, 2) := by decide +kernel
theorem dX5_oneOrTwo_57 : decode cX5_oneOrTwo 57 = .ok (.iconst 1, 1) := by decide +kernel
