theorem dX12_sways_83 : decode cX12_sways 83 = .ok (.iinc 3 1, 3) := by decide +kernel
theorem dX12_sways_86 : decode cX12_sways 86 = .ok (.goto (-61), 3) := by decide +kernel
theorem dX12_sways_89 : decode cX12_sways 89 = .ok (.iinc 2 1, 3) := by decide +kernel
theorem dX12_sways_92 : decode cX12_sways 92 = .ok (.goto (-84), 3) := by decide +kernel
theorem dX12_sways_95 : decode cX12_sways 95 = .ok (.iload_n 1, 1) := by decide +kernel
theorem dX12_sways_96 : decode cX12_sways 96 = .ok (.invokestatic 212, 3) := by decide +kernel
theorem dX12_sways_99 : decode cX12_sways 99 = .ok (.ireturn, 1) := by decide +kernel
theorem dX12_told_0 : decode cX12_told 0 = .ok (.iload_n 1, 1) := by decide +kernel
theorem dX12_told_1 : decode cX12_told 1 = .ok (.iconst 0, 1) := by decide +kernel
theorem dX12_told_2 : decode cX12_told 2 = .ok (.aload_n 0, 1) := by decide +kernel
theorem dX12_told_3 : decode cX12_told 3 = .ok (.getfield 32, 3) := by decide +kernel
theorem dX12_told_6 : decode cX12_told 6 = .ok (.iconst 0, 1) := by decide +kernel
theorem dX12_told_7 : decode cX12_told 7 = .ok (.iaload, 1) := by decide +kernel
theorem dX12_told_8 : decode cX12_told 8 = .ok (.iconst 1, 1) := by decide +kernel
theorem dX12_told_9 : decode cX12_told 9 = .ok (.isub, 1) := by decide +kernel
theorem dX12_told_10 : decode cX12_told 10 = .ok (.invokestatic 87, 3) := by decide +kernel
theorem dX12_told_13 : decode cX12_told 13 = .ok (.ifCond .eq 12, 3) := by decide +kernel
theorem dX12_told_16 : decode cX12_told 16 = .ok (.iload_n 2, 1) := by decide +kernel
theorem dX12_told_17 : decode cX12_told 17 = .ok (.iconst 0, 1) := by decide +kernel
theorem dX12_told_18 : decode cX12_told 18 = .ok (.iconst 2, 1) := by decide +kernel
theorem dX12_told_19 : decode cX12_told 19 = .ok (.invokestatic 87, 3) := by decide +kernel
theorem dX12_told_22 : decode cX12_told 22 = .ok (.ifCond .ne 5, 3) := by decide +kernel
theorem dX12_told_25 : decode cX12_told 25 = .ok (.iconst (-1), 1) := by decide +kernel
theorem dX12_told_26 : decode cX12_told 26 = .ok (.ireturn, 1) := by decide +kernel
theorem dX12_told_27 : decode cX12_told 27 = .ok (.aload_n 0, 1) := by decide +kernel
theorem dX12_told_28 : decode cX12_told 28 = .ok (.getfield 32, 3) := by decide +kernel
theorem dX12_told_31 : decode cX12_told 31 = .ok (.iconst 1, 1) := by decide +kernel
theorem dX12_told_32 : decode cX12_told 32 = .ok (.iconst 3, 1) := by decide +kernel
theorem dX12_told_33 : decode cX12_told 33 = .ok (.iload_n 1, 1) := by decide +kernel
theorem dX12_told_34 : decode cX12_told 34 = .ok (.imul, 1) := by decide +kernel
theorem dX12_told_35 : decode cX12_told 35 = .ok (.iadd, 1) := by decide +kernel
theorem dX12_told_36 : decode cX12_told 36 = .ok (.iload_n 2, 1) := by decide +kernel
theorem dX12_told_37 : decode cX12_told 37 = .ok (.iadd, 1) := by decide +kernel
theorem dX12_told_38 : decode cX12_told 38 = .ok (.iaload, 1) := by decide +kernel
theorem dX12_told_39 : decode cX12_told 39 = .ok (.iload_n 2, 1) := by decide +kernel
theorem dX12_told_40 : decode cX12_told 40 = .ok (.iconst 2, 1) := by decide +kernel
theorem dX12_told_41 : decode cX12_told 41 = .ok (.if_icmp .ne 8, 3) := by decide +kernel
theorem dX12_told_44 : decode cX12_told 44 = .ok (.bipush 20, 2) := by decide +kernel
theorem dX12_told_46 : decode cX12_told 46 = .ok (.goto 4, 3) := by decide +kernel
theorem dX12_told_49 : decode cX12_told 49 = .ok (.iconst 0, 1) := by decide +kernel
theorem dX12_told_50 : decode cX12_told 50 = .ok (.iadd, 1) := by decide +kernel
theorem dX12_told_51 : decode cX12_told 51 = .ok (.ireturn, 1) := by decide +kernel
theorem dX12_remembers_0 : decode cX12_remembers 0 = .ok (.aload_n 0, 1) := by decide +kernel
theorem dX12_remembers_1 : decode cX12_remembers 1 = .ok (.getfield 150, 3) := by decide +kernel
theorem dX12_remembers_4 : decode cX12_remembers 4 = .ok (.bipush 8, 2) := by decide +kernel
theorem dX12_remembers_6 : decode cX12_remembers 6 = .ok (.if_icmp .ne 43, 3) := by decide +kernel
theorem dX12_remembers_9 : decode cX12_remembers 9 = .ok (.iconst 0, 1) := by decide +kernel
theorem dX12_remembers_10 : decode cX12_remembers 10 = .ok (.istore_n 1, 1) := by decide +kernel
theorem dX12_remembers_11 : decode cX12_remembers 11 = .ok (.iload_n 1, 1) := by decide +kernel
theorem dX12_remembers_12 : decode cX12_remembers 12 = .ok (.sipush 175, 3) := by decide +kernel
theorem dX12_remembers_15 : decode cX12_remembers 15 = .ok (.if_icmp .ge 24, 3) := by decide +kernel
theorem dX12_remembers_18 : decode cX12_remembers 18 = .ok (.aload_n 0, 1) := by decide +kernel
theorem dX12_remembers_19 : decode cX12_remembers 19 = .ok (.getfield 35, 3) := by decide +kernel
theorem dX12_remembers_22 : decode cX12_remembers 22 = .ok (.iload_n 1, 1) := by decide +kernel
theorem dX12_remembers_23 : decode cX12_remembers 23 = .ok (.aload_n 0, 1) := by decide +kernel
theorem dX12_remembers_24 : decode cX12_remembers 24 = .ok (.getfield 35, 3) := by decide +kernel
theorem dX12_remembers_27 : decode cX12_remembers 27 = .ok (.iload_n 1, 1) := by decide +kernel
theorem dX12_remembers_28 : decode cX12_remembers 28 = .ok (.bipush 25, 2) := by decide +kernel
theorem dX12_remembers_30 : decode cX12_remembers 30 = .ok (.iadd, 1) := by decide +kernel
theorem dX12_remembers_31 : decode cX12_remembers 31 = .ok (.iaload, 1) := by decide +kernel
theorem dX12_remembers_32 : decode cX12_remembers 32 = .ok (.iastore, 1) := by decide +kernel
theorem dX12_remembers_33 : decode cX12_remembers 33 = .ok (.iinc 1 1, 3) := by decide +kernel
theorem dX12_remembers_36 : decode cX12_remembers 36 = .ok (.goto (-25), 3) := by decide +kernel
theorem dX12_remembers_39 : decode cX12_remembers 39 = .ok (.aload_n 0, 1) := by decide +kernel
theorem dX12_remembers_40 : decode cX12_remembers 40 = .ok (.dup, 1) := by decide +kernel
theorem dX12_remembers_41 : decode cX12_remembers 41 = .ok (.getfield 150, 3) := by decide +kernel
theorem dX12_remembers_44 : decode cX12_remembers 44 = .ok (.iconst 1, 1) := by decide +kernel
theorem dX12_remembers_45 : decode cX12_remembers 45 = .ok (.isub, 1) := by decide +kernel
theorem dX12_remembers_46 : decode cX12_remembers 46 = .ok (.putfield 150, 3) := by decide +kernel
theorem dX12_remembers_49 : decode cX12_remembers 49 = .ok (.iconst 0, 1) := by decide +kernel
theorem dX12_remembers_50 : decode cX12_remembers 50 = .ok (.istore_n 1, 1) := by decide +kernel
theorem dX12_remembers_51 : decode cX12_remembers 51 = .ok (.iload_n 1, 1) := by decide +kernel
theorem dX12_remembers_52 : decode cX12_remembers 52 = .ok (.bipush 25, 2) := by decide +kernel
theorem dX12_remembers_54 : decode cX12_remembers 54 = .ok (.if_icmp .ge 29, 3) := by decide +kernel
theorem dX12_remembers_57 : decode cX12_remembers 57 = .ok (.aload_n 0, 1) := by decide +kernel
theorem dX12_remembers_58 : decode cX12_remembers 58 = .ok (.getfield 35, 3) := by decide +kernel
theorem dX12_remembers_61 : decode cX12_remembers 61 = .ok (.bipush 25, 2) := by decide +kernel
theorem dX12_remembers_63 : decode cX12_remembers 63 = .ok (.aload_n 0, 1) := by decide +kernel
theorem dX12_remembers_64 : decode cX12_remembers 64 = .ok (.getfield 150, 3) := by decide +kernel
theorem dX12_remembers_67 : decode cX12_remembers 67 = .ok (.imul, 1) := by decide +kernel
theorem dX12_remembers_68 : decode cX12_remembers 68 = .ok (.iload_n 1, 1) := by decide +kernel
theorem dX12_remembers_69 : decode cX12_remembers 69 = .ok (.iadd, 1) := by decide +kernel
theorem dX12_remembers_70 : decode cX12_remembers 70 = .ok (.aload_n 0, 1) := by decide +kernel
theorem dX12_remembers_71 : decode cX12_remembers 71 = .ok (.getfield 32, 3) := by decide +kernel
theorem dX12_remembers_74 : decode cX12_remembers 74 = .ok (.iload_n 1, 1) := by decide +kernel
theorem dX12_remembers_75 : decode cX12_remembers 75 = .ok (.iaload, 1) := by decide +kernel
theorem dX12_remembers_76 : decode cX12_remembers 76 = .ok (.iastore, 1) := by decide +kernel
theorem dX12_remembers_77 : decode cX12_remembers 77 = .ok (.iinc 1 1, 3) := by decide +kernel
theorem dX12_remembers_80 : decode cX12_remembers 80 = .ok (.goto (-29), 3) := by decide +kernel
theorem dX12_remembers_83 : decode cX12_remembers 83 = .ok (.aload_n 0, 1) := by decide +kernel
theorem dX12_remembers_84 : decode cX12_remembers 84 = .ok (.dup, 1) := by decide +kernel
theorem dX12_remembers_85 : decode cX12_remembers 85 = .ok (.getfield 150, 3) := by decide +kernel
theorem dX12_remembers_88 : decode cX12_remembers 88 = .ok (.iconst 1, 1) := by decide +kernel
theorem dX12_remembers_89 : decode cX12_remembers 89 = .ok (.iadd, 1) := by decide +kernel
theorem dX12_remembers_90 : decode cX12_remembers 90 = .ok (.putfield 150, 3) := by decide +kernel
theorem dX12_remembers_93 : decode cX12_remembers 93 = .ok (.return_, 1) := by decide +kernel
theorem dX12_turn_0 : decode cX12_turn 0 = .ok (.iload_n 1, 1) := by decide +kernel
theorem dX12_turn_1 : decode cX12_turn 1 = .ok (.invokestatic 206, 3) := by decide +kernel
theorem dX12_turn_4 : decode cX12_turn 4 = .ok (.ifCond .eq 21, 3) := by decide +kernel
theorem dX12_turn_7 : decode cX12_turn 7 = .ok (.aload_n 0, 1) := by decide +kernel
theorem dX12_turn_8 : decode cX12_turn 8 = .ok (.iload_n 2, 1) := by decide +kernel
theorem dX12_turn_9 : decode cX12_turn 9 = .ok (.invokevirtual 159, 3) := by decide +kernel
theorem dX12_turn_12 : decode cX12_turn 12 = .ok (.ifCond .eq 13, 3) := by decide +kernel
theorem dX12_turn_15 : decode cX12_turn 15 = .ok (.iload_n 3, 1) := by decide +kernel
theorem dX12_turn_16 : decode cX12_turn 16 = .ok (.iconst 0, 1) := by decide +kernel
theorem dX12_turn_17 : decode cX12_turn 17 = .ok (.bipush 40, 2) := by decide +kernel
theorem dX12_turn_19 : decode cX12_turn 19 = .ok (.invokestatic 87, 3) := by decide +kernel
theorem dX12_turn_22 : decode cX12_turn 22 = .ok (.ifCond .ne 5, 3) := by decide +kernel
theorem dX12_turn_25 : decode cX12_turn 25 = .ok (.iconst (-1), 1) := by decide +kernel
theorem dX12_turn_26 : decode cX12_turn 26 = .ok (.ireturn, 1) := by decide +kernel
theorem dX12_turn_27 : decode cX12_turn 27 = .ok (.aload_n 0, 1) := by decide +kernel
theorem dX12_turn_28 : decode cX12_turn 28 = .ok (.getfield 32, 3) := by decide +kernel
theorem dX12_turn_31 : decode cX12_turn 31 = .ok (.iconst 0, 1) := by decide +kernel
theorem dX12_turn_32 : decode cX12_turn 32 = .ok (.iaload, 1) := by decide +kernel
theorem dX12_turn_33 : decode cX12_turn 33 = .ok (.bipush 8, 2) := by decide +kernel
theorem dX12_turn_35 : decode cX12_turn 35 = .ok (.if_icmp .ne 6, 3) := by decide +kernel
theorem dX12_turn_38 : decode cX12_turn 38 = .ok (.bipush (-3), 2) := by decide +kernel
theorem dX12_turn_40 : decode cX12_turn 40 = .ok (.ireturn, 1) := by decide +kernel
theorem dX12_turn_41 : decode cX12_turn 41 = .ok (.aload_n 0, 1) := by decide +kernel
theorem dX12_turn_42 : decode cX12_turn 42 = .ok (.invokevirtual 215, 3) := by decide +kernel
theorem dX12_turn_45 : decode cX12_turn 45 = .ok (.aload_n 0, 1) := by decide +kernel
theorem dX12_turn_46 : decode cX12_turn 46 = .ok (.getfield 32, 3) := by decide +kernel
theorem dX12_turn_49 : decode cX12_turn 49 = .ok (.iconst 1, 1) := by decide +kernel
theorem dX12_turn_50 : decode cX12_turn 50 = .ok (.iconst 3, 1) := by decide +kernel
theorem dX12_turn_51 : decode cX12_turn 51 = .ok (.aload_n 0, 1) := by decide +kernel
theorem dX12_turn_52 : decode cX12_turn 52 = .ok (.getfield 32, 3) := by decide +kernel
theorem dX12_turn_55 : decode cX12_turn 55 = .ok (.iconst 0, 1) := by decide +kernel
theorem dX12_turn_56 : decode cX12_turn 56 = .ok (.iaload, 1) := by decide +kernel
theorem dX12_turn_57 : decode cX12_turn 57 = .ok (.imul, 1) := by decide +kernel
theorem dX12_turn_58 : decode cX12_turn 58 = .ok (.iadd, 1) := by decide +kernel
theorem dX12_turn_59 : decode cX12_turn 59 = .ok (.iload_n 1, 1) := by decide +kernel
theorem dX12_turn_60 : decode cX12_turn 60 = .ok (.iload_n 2, 1) := by decide +kernel
theorem dX12_turn_61 : decode cX12_turn 61 = .ok (.iload_n 3, 1) := by decide +kernel
theorem dX12_turn_62 : decode cX12_turn 62 = .ok (.bipush 20, 2) := by decide +kernel
theorem dX12_turn_64 : decode cX12_turn 64 = .ok (.isub, 1) := by decide +kernel
theorem dX12_turn_65 : decode cX12_turn 65 = .ok (.invokestatic 80, 3) := by decide +kernel
theorem dX12_turn_68 : decode cX12_turn 68 = .ok (.aload_n 0, 1) := by decide +kernel
theorem dX12_turn_69 : decode cX12_turn 69 = .ok (.getfield 32, 3) := by decide +kernel
theorem dX12_turn_72 : decode cX12_turn 72 = .ok (.iconst 0, 1) := by decide +kernel
theorem dX12_turn_73 : decode cX12_turn 73 = .ok (.dup2, 1) := by decide +kernel
theorem dX12_turn_74 : decode cX12_turn 74 = .ok (.iaload, 1) := by decide +kernel
theorem dX12_turn_75 : decode cX12_turn 75 = .ok (.iconst 1, 1) := by decide +kernel
theorem dX12_turn_76 : decode cX12_turn 76 = .ok (.iadd, 1) := by decide +kernel
theorem dX12_turn_77 : decode cX12_turn 77 = .ok (.iastore, 1) := by decide +kernel
theorem dX12_turn_78 : decode cX12_turn 78 = .ok (.aload_n 0, 1) := by decide +kernel
theorem dX12_turn_79 : decode cX12_turn 79 = .ok (.getfield 32, 3) := by decide +kernel
theorem dX12_turn_82 : decode cX12_turn 82 = .ok (.iconst 0, 1) := by decide +kernel
theorem dX12_turn_83 : decode cX12_turn 83 = .ok (.iaload, 1) := by decide +kernel
theorem dX12_turn_84 : decode cX12_turn 84 = .ok (.ireturn, 1) := by decide +kernel
theorem dX12_leave_0 : decode cX12_leave 0 = .ok (.iload_n 1, 1) := by decide +kernel
theorem dX12_leave_1 : decode cX12_leave 1 = .ok (.iconst 0, 1) := by decide +kernel
theorem dX12_leave_2 : decode cX12_leave 2 = .ok (.aload_n 0, 1) := by decide +kernel
theorem dX12_leave_3 : decode cX12_leave 3 = .ok (.getfield 32, 3) := by decide +kernel
theorem dX12_leave_6 : decode cX12_leave 6 = .ok (.iconst 0, 1) := by decide +kernel
theorem dX12_leave_7 : decode cX12_leave 7 = .ok (.iaload, 1) := by decide +kernel
theorem dX12_leave_8 : decode cX12_leave 8 = .ok (.iconst 1, 1) := by decide +kernel
theorem dX12_leave_9 : decode cX12_leave 9 = .ok (.isub, 1) := by decide +kernel
theorem dX12_leave_10 : decode cX12_leave 10 = .ok (.invokestatic 87, 3) := by decide +kernel
theorem dX12_leave_13 : decode cX12_leave 13 = .ok (.ifCond .ne 5, 3) := by decide +kernel
theorem dX12_leave_16 : decode cX12_leave 16 = .ok (.iconst (-1), 1) := by decide +kernel
theorem dX12_leave_17 : decode cX12_leave 17 = .ok (.ireturn, 1) := by decide +kernel
theorem dX12_leave_18 : decode cX12_leave 18 = .ok (.aload_n 0, 1) := by decide +kernel
theorem dX12_leave_19 : decode cX12_leave 19 = .ok (.invokevirtual 215, 3) := by decide +kernel
theorem dX12_leave_22 : decode cX12_leave 22 = .ok (.iconst 1, 1) := by decide +kernel
theorem dX12_leave_23 : decode cX12_leave 23 = .ok (.iconst 3, 1) := by decide +kernel
theorem dX12_leave_24 : decode cX12_leave 24 = .ok (.iload_n 1, 1) := by decide +kernel
theorem dX12_leave_25 : decode cX12_leave 25 = .ok (.imul, 1) := by decide +kernel
theorem dX12_leave_26 : decode cX12_leave 26 = .ok (.iadd, 1) := by decide +kernel
theorem dX12_leave_27 : decode cX12_leave 27 = .ok (.istore_n 2, 1) := by decide +kernel
theorem dX12_leave_28 : decode cX12_leave 28 = .ok (.iload_n 2, 1) := by decide +kernel
theorem dX12_leave_29 : decode cX12_leave 29 = .ok (.bipush 22, 2) := by decide +kernel
theorem dX12_leave_31 : decode cX12_leave 31 = .ok (.if_icmp .ge 23, 3) := by decide +kernel
theorem dX12_leave_34 : decode cX12_leave 34 = .ok (.aload_n 0, 1) := by decide +kernel
theorem dX12_leave_35 : decode cX12_leave 35 = .ok (.getfield 32, 3) := by decide +kernel
theorem dX12_leave_38 : decode cX12_leave 38 = .ok (.iload_n 2, 1) := by decide +kernel
theorem dX12_leave_39 : decode cX12_leave 39 = .ok (.aload_n 0, 1) := by decide +kernel
theorem dX12_leave_40 : decode cX12_leave 40 = .ok (.getfield 32, 3) := by decide +kernel
theorem dX12_leave_43 : decode cX12_leave 43 = .ok (.iload_n 2, 1) := by decide +kernel
theorem dX12_leave_44 : decode cX12_leave 44 = .ok (.iconst 3, 1) := by decide +kernel
theorem dX12_leave_45 : decode cX12_leave 45 = .ok (.iadd, 1) := by decide +kernel
theorem dX12_leave_46 : decode cX12_leave 46 = .ok (.iaload, 1) := by decide +kernel
theorem dX12_leave_47 : decode cX12_leave 47 = .ok (.iastore, 1) := by decide +kernel
theorem dX12_leave_48 : decode cX12_leave 48 = .ok (.iinc 2 1, 3) := by decide +kernel
theorem dX12_leave_51 : decode cX12_leave 51 = .ok (.goto (-23), 3) := by decide +kernel
theorem dX12_leave_54 : decode cX12_leave 54 = .ok (.aload_n 0, 1) := by decide +kernel
theorem dX12_leave_55 : decode cX12_leave 55 = .ok (.getfield 32, 3) := by decide +kernel
theorem dX12_leave_58 : decode cX12_leave 58 = .ok (.iconst 0, 1) := by decide +kernel
theorem dX12_leave_59 : decode cX12_leave 59 = .ok (.dup2, 1) := by decide +kernel
theorem dX12_leave_60 : decode cX12_leave 60 = .ok (.iaload, 1) := by decide +kernel
theorem dX12_leave_61 : decode cX12_leave 61 = .ok (.iconst 1, 1) := by decide +kernel
theorem dX12_leave_62 : decode cX12_leave 62 = .ok (.isub, 1) := by decide +kernel
theorem dX12_leave_63 : decode cX12_leave 63 = .ok (.iastore, 1) := by decide +kernel
theorem dX12_leave_64 : decode cX12_leave 64 = .ok (.aload_n 0, 1) := by decide +kernel
theorem dX12_leave_65 : decode cX12_leave 65 = .ok (.getfield 32, 3) := by decide +kernel
theorem dX12_leave_68 : decode cX12_leave 68 = .ok (.iconst 0, 1) := by decide +kernel
theorem dX12_leave_69 : decode cX12_leave 69 = .ok (.iaload, 1) := by decide +kernel
theorem dX12_leave_70 : decode cX12_leave 70 = .ok (.ireturn, 1) := by decide +kernel
theorem dX12_undo_0 : decode cX12_undo 0 = .ok (.aload_n 0, 1) := by decide +kernel
theorem dX12_undo_1 : decode cX12_undo 1 = .ok (.getfield 150, 3) := by decide +kernel
theorem dX12_undo_4 : decode cX12_undo 4 = .ok (.ifCond .ne 6, 3) := by decide +kernel
theorem dX12_undo_7 : decode cX12_undo 7 = .ok (.bipush (-2), 2) := by decide +kernel
theorem dX12_undo_9 : decode cX12_undo 9 = .ok (.ireturn, 1) := by decide +kernel
theorem dX12_undo_10 : decode cX12_undo 10 = .ok (.aload_n 0, 1) := by decide +kernel
theorem dX12_undo_11 : decode cX12_undo 11 = .ok (.dup, 1) := by decide +kernel
theorem dX12_undo_12 : decode cX12_undo 12 = .ok (.getfield 150, 3) := by decide +kernel
theorem dX12_undo_15 : decode cX12_undo 15 = .ok (.iconst 1, 1) := by decide +kernel
theorem dX12_undo_16 : decode cX12_undo 16 = .ok (.isub, 1) := by decide +kernel
theorem dX12_undo_17 : decode cX12_undo 17 = .ok (.putfield 150, 3) := by decide +kernel
theorem dX12_undo_20 : decode cX12_undo 20 = .ok (.iconst 0, 1) := by decide +kernel
theorem dX12_undo_21 : decode cX12_undo 21 = .ok (.istore_n 1, 1) := by decide +kernel
theorem dX12_undo_22 : decode cX12_undo 22 = .ok (.iload_n 1, 1) := by decide +kernel
theorem dX12_undo_23 : decode cX12_undo 23 = .ok (.bipush 25, 2) := by decide +kernel
theorem dX12_undo_25 : decode cX12_undo 25 = .ok (.if_icmp .ge 29, 3) := by decide +kernel
theorem dX12_undo_28 : decode cX12_undo 28 = .ok (.aload_n 0, 1) := by decide +kernel
theorem dX12_undo_29 : decode cX12_undo 29 = .ok (.getfield 32, 3) := by decide +kernel
theorem dX12_undo_32 : decode cX12_undo 32 = .ok (.iload_n 1, 1) := by decide +kernel
theorem dX12_undo_33 : decode cX12_undo 33 = .ok (.aload_n 0, 1) := by decide +kernel
theorem dX12_undo_34 : decode cX12_undo 34 = .ok (.getfield 35, 3) := by decide +kernel
theorem dX12_undo_37 : decode cX12_undo 37 = .ok (.bipush 25, 2) := by decide +kernel
theorem dX12_undo_39 : decode cX12_undo 39 = .ok (.aload_n 0, 1) := by decide +kernel
theorem dX12_undo_40 : decode cX12_undo 40 = .ok (.getfield 150, 3) := by decide +kernel
theorem dX12_undo_43 : decode cX12_undo 43 = .ok (.imul, 1) := by decide +kernel
theorem dX12_undo_44 : decode cX12_undo 44 = .ok (.iload_n 1, 1) := by decide +kernel
theorem dX12_undo_45 : decode cX12_undo 45 = .ok (.iadd, 1) := by decide +kernel
theorem dX12_undo_46 : decode cX12_undo 46 = .ok (.iaload, 1) := by decide +kernel
theorem dX12_undo_47 : decode cX12_undo 47 = .ok (.iastore, 1) := by decide +kernel
theorem dX12_undo_48 : decode cX12_undo 48 = .ok (.iinc 1 1, 3) := by decide +kernel
theorem dX12_undo_51 : decode cX12_undo 51 = .ok (.goto (-29), 3) := by decide +kernel
theorem dX12_undo_54 : decode cX12_undo 54 = .ok (.aload_n 0, 1) := by decide +kernel
theorem dX12_undo_55 : decode cX12_undo 55 = .ok (.getfield 150, 3) := by decide +kernel
theorem dX12_undo_58 : decode cX12_undo 58 = .ok (.ireturn, 1) := by decide +kernel
theorem dX12_fromDawn_0 : decode cX12_fromDawn 0 = .ok (.iconst 0, 1) := by decide +kernel
theorem dX12_fromDawn_1 : decode cX12_fromDawn 1 = .ok (.istore_n 1, 1) := by decide +kernel
theorem dX12_fromDawn_2 : decode cX12_fromDawn 2 = .ok (.iload_n 1, 1) := by decide +kernel
theorem dX12_fromDawn_3 : decode cX12_fromDawn 3 = .ok (.bipush 7, 2) := by decide +kernel
theorem dX12_fromDawn_5 : decode cX12_fromDawn 5 = .ok (.if_icmp .ge 21, 3) := by decide +kernel
theorem dX12_fromDawn_8 : decode cX12_fromDawn 8 = .ok (.aload_n 0, 1) := by decide +kernel
theorem dX12_fromDawn_9 : decode cX12_fromDawn 9 = .ok (.getfield 62, 3) := by decide +kernel
theorem dX12_fromDawn_12 : decode cX12_fromDawn 12 = .ok (.iload_n 1, 1) := by decide +kernel
theorem dX12_fromDawn_13 : decode cX12_fromDawn 13 = .ok (.aload_n 0, 1) := by decide +kernel
theorem dX12_fromDawn_14 : decode cX12_fromDawn 14 = .ok (.getfield 65, 3) := by decide +kernel
theorem dX12_fromDawn_17 : decode cX12_fromDawn 17 = .ok (.iload_n 1, 1) := by decide +kernel
theorem dX12_fromDawn_18 : decode cX12_fromDawn 18 = .ok (.iaload, 1) := by decide +kernel
theorem dX12_fromDawn_19 : decode cX12_fromDawn 19 = .ok (.iastore, 1) := by decide +kernel
theorem dX12_fromDawn_20 : decode cX12_fromDawn 20 = .ok (.iinc 1 1, 3) := by decide +kernel
theorem dX12_fromDawn_23 : decode cX12_fromDawn 23 = .ok (.goto (-21), 3) := by decide +kernel
theorem dX12_fromDawn_26 : decode cX12_fromDawn 26 = .ok (.return_, 1) := by decide +kernel
theorem dX12_tries_0 : decode cX12_tries 0 = .ok (.aload_n 0, 1) := by decide +kernel
theorem dX12_tries_1 : decode cX12_tries 1 = .ok (.invokevirtual 218, 3) := by decide +kernel
theorem dX12_tries_4 : decode cX12_tries 4 = .ok (.aload_n 0, 1) := by decide +kernel
theorem dX12_tries_5 : decode cX12_tries 5 = .ok (.iload_n 1, 1) := by decide +kernel
theorem dX12_tries_6 : decode cX12_tries 6 = .ok (.iconst 2, 1) := by decide +kernel
theorem dX12_tries_7 : decode cX12_tries 7 = .ok (.idiv, 1) := by decide +kernel
theorem dX12_tries_8 : decode cX12_tries 8 = .ok (.aload_n 0, 1) := by decide +kernel
theorem dX12_tries_9 : decode cX12_tries 9 = .ok (.getfield 7, 3) := by decide +kernel
theorem dX12_tries_12 : decode cX12_tries 12 = .ok (.irem, 1) := by decide +kernel
theorem dX12_tries_13 : decode cX12_tries 13 = .ok (.aload_n 0, 1) := by decide +kernel
theorem dX12_tries_14 : decode cX12_tries 14 = .ok (.iload_n 1, 1) := by decide +kernel
theorem dX12_tries_15 : decode cX12_tries 15 = .ok (.invokevirtual 221, 3) := by decide +kernel
theorem dX12_tries_18 : decode cX12_tries 18 = .ok (.invokevirtual 178, 3) := by decide +kernel
theorem dX12_tries_21 : decode cX12_tries 21 = .ok (.aload_n 0, 1) := by decide +kernel
theorem dX12_tries_22 : decode cX12_tries 22 = .ok (.invokevirtual 203, 3) := by decide +kernel
theorem dX12_tries_25 : decode cX12_tries 25 = .ok (.return_, 1) := by decide +kernel
theorem dX12_byOf_0 : decode cX12_byOf 0 = .ok (.iconst 1, 1) := by decide +kernel
theorem dX12_byOf_1 : decode cX12_byOf 1 = .ok (.iload_n 1, 1) := by decide +kernel
theorem dX12_byOf_2 : decode cX12_byOf 2 = .ok (.iconst 2, 1) := by decide +kernel
theorem dX12_byOf_3 : decode cX12_byOf 3 = .ok (.aload_n 0, 1) := by decide +kernel
theorem dX12_byOf_4 : decode cX12_byOf 4 = .ok (.getfield 7, 3) := by decide +kernel
theorem dX12_byOf_7 : decode cX12_byOf 7 = .ok (.imul, 1) := by decide +kernel
theorem dX12_byOf_8 : decode cX12_byOf 8 = .ok (.idiv, 1) := by decide +kernel
theorem dX12_byOf_9 : decode cX12_byOf 9 = .ok (.iadd, 1) := by decide +kernel
theorem dX12_byOf_10 : decode cX12_byOf 10 = .ok (.istore_n 2, 1) := by decide +kernel
theorem dX12_byOf_11 : decode cX12_byOf 11 = .ok (.iload_n 1, 1) := by decide +kernel
theorem dX12_byOf_12 : decode cX12_byOf 12 = .ok (.iconst 2, 1) := by decide +kernel
theorem dX12_byOf_13 : decode cX12_byOf 13 = .ok (.irem, 1) := by decide +kernel
theorem dX12_byOf_14 : decode cX12_byOf 14 = .ok (.ifCond .ne 7, 3) := by decide +kernel
theorem dX12_byOf_17 : decode cX12_byOf 17 = .ok (.iload_n 2, 1) := by decide +kernel
theorem dX12_byOf_18 : decode cX12_byOf 18 = .ok (.goto 5, 3) := by decide +kernel
theorem dX12_byOf_21 : decode cX12_byOf 21 = .ok (.iload_n 2, 1) := by decide +kernel
theorem dX12_byOf_22 : decode cX12_byOf 22 = .ok (.ineg, 1) := by decide +kernel
theorem dX12_byOf_23 : decode cX12_byOf 23 = .ok (.ireturn, 1) := by decide +kernel
theorem dX12_tempted_0 : decode cX12_tempted 0 = .ok (.iconst 0, 1) := by decide +kernel
theorem dX12_tempted_1 : decode cX12_tempted 1 = .ok (.istore_n 2, 1) := by decide +kernel
theorem dX12_tempted_2 : decode cX12_tempted 2 = .ok (.iload_n 2, 1) := by decide +kernel
theorem dX12_tempted_3 : decode cX12_tempted 3 = .ok (.bipush 40, 2) := by decide +kernel
theorem dX12_tempted_5 : decode cX12_tempted 5 = .ok (.aload_n 0, 1) := by decide +kernel
theorem dX12_tempted_6 : decode cX12_tempted 6 = .ok (.getfield 7, 3) := by decide +kernel
theorem dX12_tempted_9 : decode cX12_tempted 9 = .ok (.imul, 1) := by decide +kernel
theorem dX12_tempted_10 : decode cX12_tempted 10 = .ok (.if_icmp .ge 46, 3) := by decide +kernel
theorem dX12_tempted_13 : decode cX12_tempted 13 = .ok (.aload_n 0, 1) := by decide +kernel
theorem dX12_tempted_14 : decode cX12_tempted 14 = .ok (.iload_n 2, 1) := by decide +kernel
theorem dX12_tempted_15 : decode cX12_tempted 15 = .ok (.invokevirtual 224, 3) := by decide +kernel
theorem dX12_tempted_18 : decode cX12_tempted 18 = .ok (.aload_n 0, 1) := by decide +kernel
theorem dX12_tempted_19 : decode cX12_tempted 19 = .ok (.getfield 182, 3) := by decide +kernel
theorem dX12_tempted_22 : decode cX12_tempted 22 = .ok (.iload_n 1, 1) := by decide +kernel
theorem dX12_tempted_23 : decode cX12_tempted 23 = .ok (.invokestatic 185, 3) := by decide +kernel
theorem dX12_tempted_26 : decode cX12_tempted 26 = .ok (.ifCond .eq 24, 3) := by decide +kernel
theorem dX12_tempted_29 : decode cX12_tempted 29 = .ok (.bipush 100, 2) := by decide +kernel
theorem dX12_tempted_31 : decode cX12_tempted 31 = .ok (.iload_n 2, 1) := by decide +kernel
theorem dX12_tempted_32 : decode cX12_tempted 32 = .ok (.iconst 2, 1) := by decide +kernel
theorem dX12_tempted_33 : decode cX12_tempted 33 = .ok (.idiv, 1) := by decide +kernel
theorem dX12_tempted_34 : decode cX12_tempted 34 = .ok (.aload_n 0, 1) := by decide +kernel
theorem dX12_tempted_35 : decode cX12_tempted 35 = .ok (.getfield 7, 3) := by decide +kernel
theorem dX12_tempted_38 : decode cX12_tempted 38 = .ok (.irem, 1) := by decide +kernel
theorem dX12_tempted_39 : decode cX12_tempted 39 = .ok (.imul, 1) := by decide +kernel
theorem dX12_tempted_40 : decode cX12_tempted 40 = .ok (.aload_n 0, 1) := by decide +kernel
theorem dX12_tempted_41 : decode cX12_tempted 41 = .ok (.iload_n 2, 1) := by decide +kernel
theorem dX12_tempted_42 : decode cX12_tempted 42 = .ok (.invokevirtual 221, 3) := by decide +kernel
theorem dX12_tempted_45 : decode cX12_tempted 45 = .ok (.iadd, 1) := by decide +kernel
theorem dX12_tempted_46 : decode cX12_tempted 46 = .ok (.bipush 20, 2) := by decide +kernel
theorem dX12_tempted_48 : decode cX12_tempted 48 = .ok (.iadd, 1) := by decide +kernel
theorem dX12_tempted_49 : decode cX12_tempted 49 = .ok (.ireturn, 1) := by decide +kernel
theorem dX12_tempted_50 : decode cX12_tempted 50 = .ok (.iinc 2 1, 3) := by decide +kernel
theorem dX12_tempted_53 : decode cX12_tempted 53 = .ok (.goto (-51), 3) := by decide +kernel
theorem dX12_tempted_56 : decode cX12_tempted 56 = .ok (.bipush (-4), 2) := by decide +kernel
theorem dX12_tempted_58 : decode cX12_tempted 58 = .ok (.ireturn, 1) := by decide +kernel
theorem dX12_tempt_0 : decode cX12_tempt 0 = .ok (.aload_n 0, 1) := by decide +kernel
theorem dX12_tempt_1 : decode cX12_tempt 1 = .ok (.iload_n 1, 1) := by decide +kernel
theorem dX12_tempt_2 : decode cX12_tempt 2 = .ok (.invokevirtual 162, 3) := by decide +kernel
theorem dX12_tempt_5 : decode cX12_tempt 5 = .ok (.ifCond .eq 10, 3) := by decide +kernel
theorem dX12_tempt_8 : decode cX12_tempt 8 = .ok (.iload_n 2, 1) := by decide +kernel
theorem dX12_tempt_9 : decode cX12_tempt 9 = .ok (.invokestatic 206, 3) := by decide +kernel
theorem dX12_tempt_12 : decode cX12_tempt 12 = .ok (.ifCond .ne 5, 3) := by decide +kernel
theorem dX12_tempt_15 : decode cX12_tempt 15 = .ok (.iconst (-1), 1) := by decide +kernel
theorem dX12_tempt_16 : decode cX12_tempt 16 = .ok (.ireturn, 1) := by decide +kernel
theorem dX12_tempt_17 : decode cX12_tempt 17 = .ok (.aload_n 0, 1) := by decide +kernel
theorem dX12_tempt_18 : decode cX12_tempt 18 = .ok (.iload_n 2, 1) := by decide +kernel
theorem dX12_tempt_19 : decode cX12_tempt 19 = .ok (.invokevirtual 209, 3) := by decide +kernel
theorem dX12_tempt_22 : decode cX12_tempt 22 = .ok (.aload_n 0, 1) := by decide +kernel
theorem dX12_tempt_23 : decode cX12_tempt 23 = .ok (.iload_n 1, 1) := by decide +kernel
theorem dX12_tempt_24 : decode cX12_tempt 24 = .ok (.invokevirtual 227, 3) := by decide +kernel
theorem dX12_tempt_27 : decode cX12_tempt 27 = .ok (.ireturn, 1) := by decide +kernel
theorem dX12_fewest_0 : decode cX12_fewest 0 = .ok (.iload_n 1, 1) := by decide +kernel
theorem dX12_fewest_1 : decode cX12_fewest 1 = .ok (.iconst 0, 1) := by decide +kernel
theorem dX12_fewest_2 : decode cX12_fewest 2 = .ok (.iconst 1, 1) := by decide +kernel
theorem dX12_fewest_3 : decode cX12_fewest 3 = .ok (.aload_n 0, 1) := by decide +kernel
theorem dX12_fewest_4 : decode cX12_fewest 4 = .ok (.getfield 17, 3) := by decide +kernel
theorem dX12_fewest_7 : decode cX12_fewest 7 = .ok (.ishl, 1) := by decide +kernel
theorem dX12_fewest_8 : decode cX12_fewest 8 = .ok (.iconst 1, 1) := by decide +kernel
theorem dX12_fewest_9 : decode cX12_fewest 9 = .ok (.isub, 1) := by decide +kernel
theorem dX12_fewest_10 : decode cX12_fewest 10 = .ok (.invokestatic 87, 3) := by decide +kernel
theorem dX12_fewest_13 : decode cX12_fewest 13 = .ok (.ifCond .eq 10, 3) := by decide +kernel
theorem dX12_fewest_16 : decode cX12_fewest 16 = .ok (.iload_n 2, 1) := by decide +kernel
theorem dX12_fewest_17 : decode cX12_fewest 17 = .ok (.invokestatic 206, 3) := by decide +kernel
theorem dX12_fewest_20 : decode cX12_fewest 20 = .ok (.ifCond .ne 5, 3) := by decide +kernel
theorem dX12_fewest_23 : decode cX12_fewest 23 = .ok (.iconst (-1), 1) := by decide +kernel
theorem dX12_fewest_24 : decode cX12_fewest 24 = .ok (.ireturn, 1) := by decide +kernel
theorem dX12_fewest_25 : decode cX12_fewest 25 = .ok (.aload_n 0, 1) := by decide +kernel
theorem dX12_fewest_26 : decode cX12_fewest 26 = .ok (.iload_n 2, 1) := by decide +kernel
theorem dX12_fewest_27 : decode cX12_fewest 27 = .ok (.invokevirtual 209, 3) := by decide +kernel
theorem dX12_fewest_30 : decode cX12_fewest 30 = .ok (.iload_n 1, 1) := by decide +kernel
theorem dX12_fewest_31 : decode cX12_fewest 31 = .ok (.aload_n 0, 1) := by decide +kernel
theorem dX12_fewest_32 : decode cX12_fewest 32 = .ok (.getfield 182, 3) := by decide +kernel
theorem dX12_fewest_35 : decode cX12_fewest 35 = .ok (.iconst (-1), 1) := by decide +kernel
theorem dX12_fewest_36 : decode cX12_fewest 36 = .ok (.ixor, 1) := by decide +kernel
theorem dX12_fewest_37 : decode cX12_fewest 37 = .ok (.iand, 1) := by decide +kernel
theorem dX12_fewest_38 : decode cX12_fewest 38 = .ok (.ifCond .ne 5, 3) := by decide +kernel
theorem dX12_fewest_41 : decode cX12_fewest 41 = .ok (.iconst 0, 1) := by decide +kernel
theorem dX12_fewest_42 : decode cX12_fewest 42 = .ok (.ireturn, 1) := by decide +kernel
theorem dX12_fewest_43 : decode cX12_fewest 43 = .ok (.bipush 40, 2) := by decide +kernel
theorem dX12_fewest_45 : decode cX12_fewest 45 = .ok (.aload_n 0, 1) := by decide +kernel
theorem dX12_fewest_46 : decode cX12_fewest 46 = .ok (.getfield 7, 3) := by decide +kernel
theorem dX12_fewest_49 : decode cX12_fewest 49 = .ok (.imul, 1) := by decide +kernel
theorem dX12_fewest_50 : decode cX12_fewest 50 = .ok (.istore_n 3, 1) := by decide +kernel
theorem dX12_fewest_51 : decode cX12_fewest 51 = .ok (.iconst 0, 1) := by decide +kernel
theorem dX12_fewest_52 : decode cX12_fewest 52 = .ok (.istore 4, 2) := by decide +kernel
theorem dX12_fewest_54 : decode cX12_fewest 54 = .ok (.iload 4, 2) := by decide +kernel
theorem dX12_fewest_56 : decode cX12_fewest 56 = .ok (.iload_n 3, 1) := by decide +kernel
theorem dX12_fewest_57 : decode cX12_fewest 57 = .ok (.if_icmp .ge 28, 3) := by decide +kernel
theorem dX12_fewest_60 : decode cX12_fewest 60 = .ok (.aload_n 0, 1) := by decide +kernel
theorem dX12_fewest_61 : decode cX12_fewest 61 = .ok (.iload 4, 2) := by decide +kernel
theorem dX12_fewest_63 : decode cX12_fewest 63 = .ok (.invokevirtual 224, 3) := by decide +kernel
theorem dX12_fewest_66 : decode cX12_fewest 66 = .ok (.iload_n 1, 1) := by decide +kernel
theorem dX12_fewest_67 : decode cX12_fewest 67 = .ok (.aload_n 0, 1) := by decide +kernel
theorem dX12_fewest_68 : decode cX12_fewest 68 = .ok (.getfield 182, 3) := by decide +kernel
theorem dX12_fewest_71 : decode cX12_fewest 71 = .ok (.iconst (-1), 1) := by decide +kernel
theorem dX12_fewest_72 : decode cX12_fewest 72 = .ok (.ixor, 1) := by decide +kernel
theorem dX12_fewest_73 : decode cX12_fewest 73 = .ok (.iand, 1) := by decide +kernel
theorem dX12_fewest_74 : decode cX12_fewest 74 = .ok (.ifCond .ne 5, 3) := by decide +kernel
theorem dX12_fewest_77 : decode cX12_fewest 77 = .ok (.iconst 1, 1) := by decide +kernel
theorem dX12_fewest_78 : decode cX12_fewest 78 = .ok (.ireturn, 1) := by decide +kernel
theorem dX12_fewest_79 : decode cX12_fewest 79 = .ok (.iinc 4 1, 3) := by decide +kernel
theorem dX12_fewest_82 : decode cX12_fewest 82 = .ok (.goto (-28), 3) := by decide +kernel
theorem dX12_fewest_85 : decode cX12_fewest 85 = .ok (.iconst 0, 1) := by decide +kernel
theorem dX12_fewest_86 : decode cX12_fewest 86 = .ok (.istore 4, 2) := by decide +kernel
theorem dX12_fewest_88 : decode cX12_fewest 88 = .ok (.iload 4, 2) := by decide +kernel
theorem dX12_fewest_90 : decode cX12_fewest 90 = .ok (.iload_n 3, 1) := by decide +kernel
theorem dX12_fewest_91 : decode cX12_fewest 91 = .ok (.iload_n 3, 1) := by decide +kernel
theorem dX12_fewest_92 : decode cX12_fewest 92 = .ok (.imul, 1) := by decide +kernel
theorem dX12_fewest_93 : decode cX12_fewest 93 = .ok (.if_icmp .ge 76, 3) := by decide +kernel
theorem dX12_fewest_96 : decode cX12_fewest 96 = .ok (.aload_n 0, 1) := by decide +kernel
theorem dX12_fewest_97 : decode cX12_fewest 97 = .ok (.invokevirtual 218, 3) := by decide +kernel
theorem dX12_fewest_100 : decode cX12_fewest 100 = .ok (.aload_n 0, 1) := by decide +kernel
theorem dX12_fewest_101 : decode cX12_fewest 101 = .ok (.iload 4, 2) := by decide +kernel
theorem dX12_fewest_103 : decode cX12_fewest 103 = .ok (.iload_n 3, 1) := by decide +kernel
theorem dX12_fewest_104 : decode cX12_fewest 104 = .ok (.idiv, 1) := by decide +kernel
theorem dX12_fewest_105 : decode cX12_fewest 105 = .ok (.iconst 2, 1) := by decide +kernel
theorem dX12_fewest_106 : decode cX12_fewest 106 = .ok (.idiv, 1) := by decide +kernel
theorem dX12_fewest_107 : decode cX12_fewest 107 = .ok (.aload_n 0, 1) := by decide +kernel
theorem dX12_fewest_108 : decode cX12_fewest 108 = .ok (.getfield 7, 3) := by decide +kernel
theorem dX12_fewest_111 : decode cX12_fewest 111 = .ok (.irem, 1) := by decide +kernel
theorem dX12_fewest_112 : decode cX12_fewest 112 = .ok (.aload_n 0, 1) := by decide +kernel
theorem dX12_fewest_113 : decode cX12_fewest 113 = .ok (.iload 4, 2) := by decide +kernel
theorem dX12_fewest_115 : decode cX12_fewest 115 = .ok (.iload_n 3, 1) := by decide +kernel
theorem dX12_fewest_116 : decode cX12_fewest 116 = .ok (.idiv, 1) := by decide +kernel
theorem dX12_fewest_117 : decode cX12_fewest 117 = .ok (.invokevirtual 221, 3) := by decide +kernel
theorem dX12_fewest_120 : decode cX12_fewest 120 = .ok (.invokevirtual 178, 3) := by decide +kernel
theorem dX12_fewest_123 : decode cX12_fewest 123 = .ok (.aload_n 0, 1) := by decide +kernel
theorem dX12_fewest_124 : decode cX12_fewest 124 = .ok (.iload 4, 2) := by decide +kernel
theorem dX12_fewest_126 : decode cX12_fewest 126 = .ok (.iload_n 3, 1) := by decide +kernel
theorem dX12_fewest_127 : decode cX12_fewest 127 = .ok (.irem, 1) := by decide +kernel
theorem dX12_fewest_128 : decode cX12_fewest 128 = .ok (.iconst 2, 1) := by decide +kernel
theorem dX12_fewest_129 : decode cX12_fewest 129 = .ok (.idiv, 1) := by decide +kernel
theorem dX12_fewest_130 : decode cX12_fewest 130 = .ok (.aload_n 0, 1) := by decide +kernel
theorem dX12_fewest_131 : decode cX12_fewest 131 = .ok (.getfield 7, 3) := by decide +kernel
theorem dX12_fewest_134 : decode cX12_fewest 134 = .ok (.irem, 1) := by decide +kernel
theorem dX12_fewest_135 : decode cX12_fewest 135 = .ok (.aload_n 0, 1) := by decide +kernel
theorem dX12_fewest_136 : decode cX12_fewest 136 = .ok (.iload 4, 2) := by decide +kernel
theorem dX12_fewest_138 : decode cX12_fewest 138 = .ok (.iload_n 3, 1) := by decide +kernel
theorem dX12_fewest_139 : decode cX12_fewest 139 = .ok (.irem, 1) := by decide +kernel
theorem dX12_fewest_140 : decode cX12_fewest 140 = .ok (.invokevirtual 221, 3) := by decide +kernel
theorem dX12_fewest_143 : decode cX12_fewest 143 = .ok (.invokevirtual 178, 3) := by decide +kernel
theorem dX12_fewest_146 : decode cX12_fewest 146 = .ok (.aload_n 0, 1) := by decide +kernel
theorem dX12_fewest_147 : decode cX12_fewest 147 = .ok (.invokevirtual 203, 3) := by decide +kernel
theorem dX12_fewest_150 : decode cX12_fewest 150 = .ok (.iload_n 1, 1) := by decide +kernel
theorem dX12_fewest_151 : decode cX12_fewest 151 = .ok (.aload_n 0, 1) := by decide +kernel
theorem dX12_fewest_152 : decode cX12_fewest 152 = .ok (.getfield 182, 3) := by decide +kernel
theorem dX12_fewest_155 : decode cX12_fewest 155 = .ok (.iconst (-1), 1) := by decide +kernel
theorem dX12_fewest_156 : decode cX12_fewest 156 = .ok (.ixor, 1) := by decide +kernel
theorem dX12_fewest_157 : decode cX12_fewest 157 = .ok (.iand, 1) := by decide +kernel
theorem dX12_fewest_158 : decode cX12_fewest 158 = .ok (.ifCond .ne 5, 3) := by decide +kernel
theorem dX12_fewest_161 : decode cX12_fewest 161 = .ok (.iconst 2, 1) := by decide +kernel
theorem dX12_fewest_162 : decode cX12_fewest 162 = .ok (.ireturn, 1) := by decide +kernel
theorem dX12_fewest_163 : decode cX12_fewest 163 = .ok (.iinc 4 1, 3) := by decide +kernel
theorem dX12_fewest_166 : decode cX12_fewest 166 = .ok (.goto (-78), 3) := by decide +kernel
theorem dX12_fewest_169 : decode cX12_fewest 169 = .ok (.bipush (-4), 2) := by decide +kernel
theorem dX12_fewest_171 : decode cX12_fewest 171 = .ok (.ireturn, 1) := by decide +kernel
theorem dX12_safe_0 : decode cX12_safe 0 = .ok (.iload_n 1, 1) := by decide +kernel
theorem dX12_safe_1 : decode cX12_safe 1 = .ok (.invokestatic 206, 3) := by decide +kernel
theorem dX12_safe_4 : decode cX12_safe 4 = .ok (.ifCond .ne 5, 3) := by decide +kernel
theorem dX12_safe_7 : decode cX12_safe 7 = .ok (.iconst (-1), 1) := by decide +kernel
theorem dX12_safe_8 : decode cX12_safe 8 = .ok (.ireturn, 1) := by decide +kernel
theorem dX12_safe_9 : decode cX12_safe 9 = .ok (.aload_n 0, 1) := by decide +kernel
theorem dX12_safe_10 : decode cX12_safe 10 = .ok (.iload_n 1, 1) := by decide +kernel
theorem dX12_safe_11 : decode cX12_safe 11 = .ok (.invokevirtual 209, 3) := by decide +kernel
theorem dX12_safe_14 : decode cX12_safe 14 = .ok (.aload_n 0, 1) := by decide +kernel
theorem dX12_safe_15 : decode cX12_safe 15 = .ok (.getfield 182, 3) := by decide +kernel
theorem dX12_safe_18 : decode cX12_safe 18 = .ok (.istore_n 2, 1) := by decide +kernel
theorem dX12_safe_19 : decode cX12_safe 19 = .ok (.iconst 0, 1) := by decide +kernel
theorem dX12_safe_20 : decode cX12_safe 20 = .ok (.istore_n 3, 1) := by decide +kernel
theorem dX12_safe_21 : decode cX12_safe 21 = .ok (.iload_n 3, 1) := by decide +kernel
theorem dX12_safe_22 : decode cX12_safe 22 = .ok (.bipush 40, 2) := by decide +kernel
theorem dX12_safe_24 : decode cX12_safe 24 = .ok (.aload_n 0, 1) := by decide +kernel
theorem dX12_safe_25 : decode cX12_safe 25 = .ok (.getfield 7, 3) := by decide +kernel
theorem dX12_safe_28 : decode cX12_safe 28 = .ok (.imul, 1) := by decide +kernel
theorem dX12_safe_29 : decode cX12_safe 29 = .ok (.if_icmp .ge 21, 3) := by decide +kernel
theorem dX12_safe_32 : decode cX12_safe 32 = .ok (.aload_n 0, 1) := by decide +kernel
theorem dX12_safe_33 : decode cX12_safe 33 = .ok (.iload_n 3, 1) := by decide +kernel
theorem dX12_safe_34 : decode cX12_safe 34 = .ok (.invokevirtual 224, 3) := by decide +kernel
theorem dX12_safe_37 : decode cX12_safe 37 = .ok (.iload_n 2, 1) := by decide +kernel
theorem dX12_safe_38 : decode cX12_safe 38 = .ok (.aload_n 0, 1) := by decide +kernel
theorem dX12_safe_39 : decode cX12_safe 39 = .ok (.getfield 182, 3) := by decide +kernel
theorem dX12_safe_42 : decode cX12_safe 42 = .ok (.ior, 1) := by decide +kernel
theorem dX12_safe_43 : decode cX12_safe 43 = .ok (.istore_n 2, 1) := by decide +kernel
theorem dX12_safe_44 : decode cX12_safe 44 = .ok (.iinc 3 1, 3) := by decide +kernel
theorem dX12_safe_47 : decode cX12_safe 47 = .ok (.goto (-26), 3) := by decide +kernel
theorem dX12_safe_50 : decode cX12_safe 50 = .ok (.iconst 1, 1) := by decide +kernel
theorem dX12_safe_51 : decode cX12_safe 51 = .ok (.aload_n 0, 1) := by decide +kernel
theorem dX12_safe_52 : decode cX12_safe 52 = .ok (.getfield 17, 3) := by decide +kernel
theorem dX12_safe_55 : decode cX12_safe 55 = .ok (.ishl, 1) := by decide +kernel
theorem dX12_safe_56 : decode cX12_safe 56 = .ok (.iconst 1, 1) := by decide +kernel
theorem dX12_safe_57 : decode cX12_safe 57 = .ok (.isub, 1) := by decide +kernel
theorem dX12_safe_58 : decode cX12_safe 58 = .ok (.iload_n 2, 1) := by decide +kernel
theorem dX12_safe_59 : decode cX12_safe 59 = .ok (.iconst (-1), 1) := by decide +kernel
theorem dX12_safe_60 : decode cX12_safe 60 = .ok (.ixor, 1) := by decide +kernel
theorem dX12_safe_61 : decode cX12_safe 61 = .ok (.iand, 1) := by decide +kernel
theorem dX12_safe_62 : decode cX12_safe 62 = .ok (.ireturn, 1) := by decide +kernel
theorem dX12_borne_0 : decode cX12_borne 0 = .ok (.bipush 100, 2) := by decide +kernel
theorem dX12_borne_2 : decode cX12_borne 2 = .ok (.istore_n 2, 1) := by decide +kernel
theorem dX12_borne_3 : decode cX12_borne 3 = .ok (.iconst 0, 1) := by decide +kernel
theorem dX12_borne_4 : decode cX12_borne 4 = .ok (.istore_n 3, 1) := by decide +kernel
theorem dX12_borne_5 : decode cX12_borne 5 = .ok (.iload_n 3, 1) := by decide +kernel
theorem dX12_borne_6 : decode cX12_borne 6 = .ok (.aload_n 0, 1) := by decide +kernel
theorem dX12_borne_7 : decode cX12_borne 7 = .ok (.getfield 23, 3) := by decide +kernel
theorem dX12_borne_10 : decode cX12_borne 10 = .ok (.if_icmp .ge 88, 3) := by decide +kernel
theorem dX12_borne_13 : decode cX12_borne 13 = .ok (.aload_n 0, 1) := by decide +kernel
theorem dX12_borne_14 : decode cX12_borne 14 = .ok (.getfield 26, 3) := by decide +kernel
theorem dX12_borne_17 : decode cX12_borne 17 = .ok (.iconst 3, 1) := by decide +kernel
theorem dX12_borne_18 : decode cX12_borne 18 = .ok (.iload_n 3, 1) := by decide +kernel
theorem dX12_borne_19 : decode cX12_borne 19 = .ok (.imul, 1) := by decide +kernel
theorem dX12_borne_20 : decode cX12_borne 20 = .ok (.iaload, 1) := by decide +kernel
theorem dX12_borne_21 : decode cX12_borne 21 = .ok (.istore 4, 2) := by decide +kernel
theorem dX12_borne_23 : decode cX12_borne 23 = .ok (.aload_n 0, 1) := by decide +kernel
theorem dX12_borne_24 : decode cX12_borne 24 = .ok (.getfield 20, 3) := by decide +kernel
theorem dX12_borne_27 : decode cX12_borne 27 = .ok (.iconst 2, 1) := by decide +kernel
theorem dX12_borne_28 : decode cX12_borne 28 = .ok (.iload 4, 2) := by decide +kernel
theorem dX12_borne_30 : decode cX12_borne 30 = .ok (.imul, 1) := by decide +kernel
theorem dX12_borne_31 : decode cX12_borne 31 = .ok (.iaload, 1) := by decide +kernel
theorem dX12_borne_32 : decode cX12_borne 32 = .ok (.iconst 3, 1) := by decide +kernel
theorem dX12_borne_33 : decode cX12_borne 33 = .ok (.if_icmp .ne 19, 3) := by decide +kernel
theorem dX12_borne_36 : decode cX12_borne 36 = .ok (.iconst 2, 1) := by decide +kernel
theorem dX12_borne_37 : decode cX12_borne 37 = .ok (.aload_n 0, 1) := by decide +kernel
theorem dX12_borne_38 : decode cX12_borne 38 = .ok (.getfield 20, 3) := by decide +kernel
theorem dX12_borne_41 : decode cX12_borne 41 = .ok (.iconst 2, 1) := by decide +kernel
theorem dX12_borne_42 : decode cX12_borne 42 = .ok (.iload 4, 2) := by decide +kernel
theorem dX12_borne_44 : decode cX12_borne 44 = .ok (.imul, 1) := by decide +kernel
theorem dX12_borne_45 : decode cX12_borne 45 = .ok (.iconst 1, 1) := by decide +kernel
theorem dX12_borne_46 : decode cX12_borne 46 = .ok (.iadd, 1) := by decide +kernel
theorem dX12_borne_47 : decode cX12_borne 47 = .ok (.iaload, 1) := by decide +kernel
theorem dX12_borne_48 : decode cX12_borne 48 = .ok (.imul, 1) := by decide +kernel
theorem dX12_borne_49 : decode cX12_borne 49 = .ok (.goto 14, 3) := by decide +kernel
theorem dX12_borne_52 : decode cX12_borne 52 = .ok (.aload_n 0, 1) := by decide +kernel
theorem dX12_borne_53 : decode cX12_borne 53 = .ok (.getfield 20, 3) := by decide +kernel
theorem dX12_borne_56 : decode cX12_borne 56 = .ok (.iconst 2, 1) := by decide +kernel
theorem dX12_borne_57 : decode cX12_borne 57 = .ok (.iload 4, 2) := by decide +kernel
theorem dX12_borne_59 : decode cX12_borne 59 = .ok (.imul, 1) := by decide +kernel
theorem dX12_borne_60 : decode cX12_borne 60 = .ok (.iconst 1, 1) := by decide +kernel
theorem dX12_borne_61 : decode cX12_borne 61 = .ok (.iadd, 1) := by decide +kernel
theorem dX12_borne_62 : decode cX12_borne 62 = .ok (.iaload, 1) := by decide +kernel
theorem dX12_borne_63 : decode cX12_borne 63 = .ok (.istore 5, 2) := by decide +kernel
theorem dX12_borne_65 : decode cX12_borne 65 = .ok (.aload_n 0, 1) := by decide +kernel
theorem dX12_borne_66 : decode cX12_borne 66 = .ok (.getfield 26, 3) := by decide +kernel
theorem dX12_borne_69 : decode cX12_borne 69 = .ok (.iconst 3, 1) := by decide +kernel
theorem dX12_borne_70 : decode cX12_borne 70 = .ok (.iload_n 3, 1) := by decide +kernel
theorem dX12_borne_71 : decode cX12_borne 71 = .ok (.imul, 1) := by decide +kernel
theorem dX12_borne_72 : decode cX12_borne 72 = .ok (.iconst 2, 1) := by decide +kernel
theorem dX12_borne_73 : decode cX12_borne 73 = .ok (.iadd, 1) := by decide +kernel
theorem dX12_borne_74 : decode cX12_borne 74 = .ok (.iaload, 1) := by decide +kernel
theorem dX12_borne_75 : decode cX12_borne 75 = .ok (.iload_n 1, 1) := by decide +kernel
theorem dX12_borne_76 : decode cX12_borne 76 = .ok (.if_icmp .ne 14, 3) := by decide +kernel
theorem dX12_borne_79 : decode cX12_borne 79 = .ok (.iload 5, 2) := by decide +kernel
theorem dX12_borne_81 : decode cX12_borne 81 = .ok (.iload_n 2, 1) := by decide +kernel
theorem dX12_borne_82 : decode cX12_borne 82 = .ok (.if_icmp .ge 8, 3) := by decide +kernel
theorem dX12_borne_85 : decode cX12_borne 85 = .ok (.iload 5, 2) := by decide +kernel
theorem dX12_borne_87 : decode cX12_borne 87 = .ok (.goto 4, 3) := by decide +kernel
theorem dX12_borne_90 : decode cX12_borne 90 = .ok (.iload_n 2, 1) := by decide +kernel
theorem dX12_borne_91 : decode cX12_borne 91 = .ok (.istore_n 2, 1) := by decide +kernel
theorem dX12_borne_92 : decode cX12_borne 92 = .ok (.iinc 3 1, 3) := by decide +kernel
theorem dX12_borne_95 : decode cX12_borne 95 = .ok (.goto (-90), 3) := by decide +kernel
theorem dX12_borne_98 : decode cX12_borne 98 = .ok (.iload_n 2, 1) := by decide +kernel
theorem dX12_borne_99 : decode cX12_borne 99 = .ok (.ireturn, 1) := by decide +kernel
theorem dX12_hang_0 : decode cX12_hang 0 = .ok (.iload_n 1, 1) := by decide +kernel
theorem dX12_hang_1 : decode cX12_hang 1 = .ok (.iconst 0, 1) := by decide +kernel
theorem dX12_hang_2 : decode cX12_hang 2 = .ok (.iconst 1, 1) := by decide +kernel
theorem dX12_hang_3 : decode cX12_hang 3 = .ok (.invokestatic 87, 3) := by decide +kernel
theorem dX12_hang_6 : decode cX12_hang 6 = .ok (.ifCond .ne 5, 3) := by decide +kernel
theorem dX12_hang_9 : decode cX12_hang 9 = .ok (.iconst (-1), 1) := by decide +kernel
theorem dX12_hang_10 : decode cX12_hang 10 = .ok (.ireturn, 1) := by decide +kernel
theorem dX12_hang_11 : decode cX12_hang 11 = .ok (.iconst 0, 1) := by decide +kernel
theorem dX12_hang_12 : decode cX12_hang 12 = .ok (.istore_n 2, 1) := by decide +kernel
theorem dX12_hang_13 : decode cX12_hang 13 = .ok (.iconst 0, 1) := by decide +kernel
theorem dX12_hang_14 : decode cX12_hang 14 = .ok (.istore_n 3, 1) := by decide +kernel
theorem dX12_hang_15 : decode cX12_hang 15 = .ok (.iconst 0, 1) := by decide +kernel
theorem dX12_hang_16 : decode cX12_hang 16 = .ok (.istore 4, 2) := by decide +kernel
theorem dX12_hang_18 : decode cX12_hang 18 = .ok (.iload 4, 2) := by decide +kernel
theorem dX12_hang_20 : decode cX12_hang 20 = .ok (.aload_n 0, 1) := by decide +kernel
theorem dX12_hang_21 : decode cX12_hang 21 = .ok (.getfield 7, 3) := by decide +kernel
theorem dX12_hang_24 : decode cX12_hang 24 = .ok (.if_icmp .ge 66, 3) := by decide +kernel
theorem dX12_hang_27 : decode cX12_hang 27 = .ok (.aload_n 0, 1) := by decide +kernel
theorem dX12_hang_28 : decode cX12_hang 28 = .ok (.getfield 13, 3) := by decide +kernel
theorem dX12_hang_31 : decode cX12_hang 31 = .ok (.iconst 4, 1) := by decide +kernel
theorem dX12_hang_32 : decode cX12_hang 32 = .ok (.iload 4, 2) := by decide +kernel
theorem dX12_hang_34 : decode cX12_hang 34 = .ok (.imul, 1) := by decide +kernel
theorem dX12_hang_35 : decode cX12_hang 35 = .ok (.iconst 1, 1) := by decide +kernel
theorem dX12_hang_36 : decode cX12_hang 36 = .ok (.iadd, 1) := by decide +kernel
theorem dX12_hang_37 : decode cX12_hang 37 = .ok (.iaload, 1) := by decide +kernel
theorem dX12_hang_38 : decode cX12_hang 38 = .ok (.invokestatic 165, 3) := by decide +kernel
theorem dX12_hang_41 : decode cX12_hang 41 = .ok (.aload_n 0, 1) := by decide +kernel
theorem dX12_hang_42 : decode cX12_hang 42 = .ok (.aload_n 0, 1) := by decide +kernel
theorem dX12_hang_43 : decode cX12_hang 43 = .ok (.getfield 13, 3) := by decide +kernel
theorem dX12_hang_46 : decode cX12_hang 46 = .ok (.iconst 4, 1) := by decide +kernel
theorem dX12_hang_47 : decode cX12_hang 47 = .ok (.iload 4, 2) := by decide +kernel
theorem dX12_hang_49 : decode cX12_hang 49 = .ok (.imul, 1) := by decide +kernel
theorem dX12_hang_50 : decode cX12_hang 50 = .ok (.iaload, 1) := by decide +kernel
theorem dX12_hang_51 : decode cX12_hang 51 = .ok (.invokevirtual 230, 3) := by decide +kernel
theorem dX12_hang_54 : decode cX12_hang 54 = .ok (.isub, 1) := by decide +kernel
theorem dX12_hang_55 : decode cX12_hang 55 = .ok (.istore 5, 2) := by decide +kernel
theorem dX12_hang_57 : decode cX12_hang 57 = .ok (.iload_n 2, 1) := by decide +kernel
theorem dX12_hang_58 : decode cX12_hang 58 = .ok (.iload 5, 2) := by decide +kernel
theorem dX12_hang_60 : decode cX12_hang 60 = .ok (.ifCond .le 8, 3) := by decide +kernel
theorem dX12_hang_63 : decode cX12_hang 63 = .ok (.iload 5, 2) := by decide +kernel
theorem dX12_hang_65 : decode cX12_hang 65 = .ok (.goto 4, 3) := by decide +kernel
theorem dX12_hang_68 : decode cX12_hang 68 = .ok (.iconst 0, 1) := by decide +kernel
theorem dX12_hang_69 : decode cX12_hang 69 = .ok (.iadd, 1) := by decide +kernel
theorem dX12_hang_70 : decode cX12_hang 70 = .ok (.istore_n 2, 1) := by decide +kernel
theorem dX12_hang_71 : decode cX12_hang 71 = .ok (.iload_n 3, 1) := by decide +kernel
theorem dX12_hang_72 : decode cX12_hang 72 = .ok (.iload 5, 2) := by decide +kernel
theorem dX12_hang_74 : decode cX12_hang 74 = .ok (.ifCond .le 7, 3) := by decide +kernel
theorem dX12_hang_77 : decode cX12_hang 77 = .ok (.iconst 1, 1) := by decide +kernel
theorem dX12_hang_78 : decode cX12_hang 78 = .ok (.goto 4, 3) := by decide +kernel
theorem dX12_hang_81 : decode cX12_hang 81 = .ok (.iconst 0, 1) := by decide +kernel
theorem dX12_hang_82 : decode cX12_hang 82 = .ok (.iadd, 1) := by decide +kernel
theorem dX12_hang_83 : decode cX12_hang 83 = .ok (.istore_n 3, 1) := by decide +kernel
theorem dX12_hang_84 : decode cX12_hang 84 = .ok (.iinc 4 1, 3) := by decide +kernel
theorem dX12_hang_87 : decode cX12_hang 87 = .ok (.goto (-69), 3) := by decide +kernel
theorem dX12_hang_90 : decode cX12_hang 90 = .ok (.iload_n 1, 1) := by decide +kernel
theorem dX12_hang_91 : decode cX12_hang 91 = .ok (.ifCond .ne 7, 3) := by decide +kernel
theorem dX12_hang_94 : decode cX12_hang 94 = .ok (.iload_n 2, 1) := by decide +kernel
theorem dX12_hang_95 : decode cX12_hang 95 = .ok (.goto 4, 3) := by decide +kernel
theorem dX12_hang_98 : decode cX12_hang 98 = .ok (.iload_n 3, 1) := by decide +kernel
theorem dX12_hang_99 : decode cX12_hang 99 = .ok (.ireturn, 1) := by decide +kernel
theorem dX12_seen_0 : decode cX12_seen 0 = .ok (.iload_n 1, 1) := by decide +kernel
theorem dX12_seen_1 : decode cX12_seen 1 = .ok (.iconst 0, 1) := by decide +kernel
theorem dX12_seen_2 : decode cX12_seen 2 = .ok (.bipush 40, 2) := by decide +kernel
theorem dX12_seen_4 : decode cX12_seen 4 = .ok (.invokestatic 87, 3) := by decide +kernel
theorem dX12_seen_7 : decode cX12_seen 7 = .ok (.ifCond .eq 13, 3) := by decide +kernel
theorem dX12_seen_10 : decode cX12_seen 10 = .ok (.iload_n 2, 1) := by decide +kernel
theorem dX12_seen_11 : decode cX12_seen 11 = .ok (.iconst 0, 1) := by decide +kernel
theorem dX12_seen_12 : decode cX12_seen 12 = .ok (.bipush 40, 2) := by decide +kernel
theorem dX12_seen_14 : decode cX12_seen 14 = .ok (.invokestatic 87, 3) := by decide +kernel
theorem dX12_seen_17 : decode cX12_seen 17 = .ok (.ifCond .ne 5, 3) := by decide +kernel
theorem dX12_seen_20 : decode cX12_seen 20 = .ok (.iconst (-1), 1) := by decide +kernel
theorem dX12_seen_21 : decode cX12_seen 21 = .ok (.ireturn, 1) := by decide +kernel
theorem dX12_seen_22 : decode cX12_seen 22 = .ok (.aload_n 0, 1) := by decide +kernel
theorem dX12_seen_23 : decode cX12_seen 23 = .ok (.getfield 156, 3) := by decide +kernel
theorem dX12_seen_26 : decode cX12_seen 26 = .ok (.bipush 8, 2) := by decide +kernel
theorem dX12_seen_28 : decode cX12_seen 28 = .ok (.if_icmp .ne 6, 3) := by decide +kernel
theorem dX12_seen_31 : decode cX12_seen 31 = .ok (.bipush (-3), 2) := by decide +kernel
theorem dX12_seen_33 : decode cX12_seen 33 = .ok (.ireturn, 1) := by decide +kernel
theorem dX12_seen_34 : decode cX12_seen 34 = .ok (.aload_n 0, 1) := by decide +kernel
theorem dX12_seen_35 : decode cX12_seen 35 = .ok (.getfield 41, 3) := by decide +kernel
theorem dX12_seen_38 : decode cX12_seen 38 = .ok (.iconst 2, 1) := by decide +kernel
theorem dX12_seen_39 : decode cX12_seen 39 = .ok (.aload_n 0, 1) := by decide +kernel
theorem dX12_seen_40 : decode cX12_seen 40 = .ok (.getfield 156, 3) := by decide +kernel
theorem dX12_seen_43 : decode cX12_seen 43 = .ok (.imul, 1) := by decide +kernel
theorem dX12_seen_44 : decode cX12_seen 44 = .ok (.iload_n 1, 1) := by decide +kernel
theorem dX12_seen_45 : decode cX12_seen 45 = .ok (.bipush 20, 2) := by decide +kernel
theorem dX12_seen_47 : decode cX12_seen 47 = .ok (.isub, 1) := by decide +kernel
theorem dX12_seen_48 : decode cX12_seen 48 = .ok (.iastore, 1) := by decide +kernel
theorem dX12_seen_49 : decode cX12_seen 49 = .ok (.aload_n 0, 1) := by decide +kernel
theorem dX12_seen_50 : decode cX12_seen 50 = .ok (.getfield 41, 3) := by decide +kernel
theorem dX12_seen_53 : decode cX12_seen 53 = .ok (.iconst 2, 1) := by decide +kernel
theorem dX12_seen_54 : decode cX12_seen 54 = .ok (.aload_n 0, 1) := by decide +kernel
theorem dX12_seen_55 : decode cX12_seen 55 = .ok (.getfield 156, 3) := by decide +kernel
theorem dX12_seen_58 : decode cX12_seen 58 = .ok (.imul, 1) := by decide +kernel
theorem dX12_seen_59 : decode cX12_seen 59 = .ok (.iconst 1, 1) := by decide +kernel
theorem dX12_seen_60 : decode cX12_seen 60 = .ok (.iadd, 1) := by decide +kernel
theorem dX12_seen_61 : decode cX12_seen 61 = .ok (.iload_n 2, 1) := by decide +kernel
theorem dX12_seen_62 : decode cX12_seen 62 = .ok (.bipush 20, 2) := by decide +kernel
theorem dX12_seen_64 : decode cX12_seen 64 = .ok (.isub, 1) := by decide +kernel
theorem dX12_seen_65 : decode cX12_seen 65 = .ok (.iastore, 1) := by decide +kernel
theorem dX12_seen_66 : decode cX12_seen 66 = .ok (.aload_n 0, 1) := by decide +kernel
theorem dX12_seen_67 : decode cX12_seen 67 = .ok (.dup, 1) := by decide +kernel
theorem dX12_seen_68 : decode cX12_seen 68 = .ok (.getfield 156, 3) := by decide +kernel
theorem dX12_seen_71 : decode cX12_seen 71 = .ok (.iconst 1, 1) := by decide +kernel
theorem dX12_seen_72 : decode cX12_seen 72 = .ok (.iadd, 1) := by decide +kernel
theorem dX12_seen_73 : decode cX12_seen 73 = .ok (.putfield 156, 3) := by decide +kernel
theorem dX12_seen_76 : decode cX12_seen 76 = .ok (.aload_n 0, 1) := by decide +kernel
theorem dX12_seen_77 : decode cX12_seen 77 = .ok (.getfield 156, 3) := by decide +kernel
theorem dX12_seen_80 : decode cX12_seen 80 = .ok (.ireturn, 1) := by decide +kernel
theorem dX12_forget_0 : decode cX12_forget 0 = .ok (.aload_n 0, 1) := by decide +kernel
theorem dX12_forget_1 : decode cX12_forget 1 = .ok (.getfield 156, 3) := by decide +kernel
theorem dX12_forget_4 : decode cX12_forget 4 = .ok (.istore_n 1, 1) := by decide +kernel
theorem dX12_forget_5 : decode cX12_forget 5 = .ok (.aload_n 0, 1) := by decide +kernel
theorem dX12_forget_6 : decode cX12_forget 6 = .ok (.iconst 0, 1) := by decide +kernel
theorem dX12_forget_7 : decode cX12_forget 7 = .ok (.putfield 156, 3) := by decide +kernel
theorem dX12_forget_10 : decode cX12_forget 10 = .ok (.iload_n 1, 1) := by decide +kernel
theorem dX12_forget_11 : decode cX12_forget 11 = .ok (.ireturn, 1) := by decide +kernel
theorem dX12_bearsBy_0 : decode cX12_bearsBy 0 = .ok (.iconst 0, 1) := by decide +kernel
theorem dX12_bearsBy_1 : decode cX12_bearsBy 1 = .ok (.istore_n 2, 1) := by decide +kernel
theorem dX12_bearsBy_2 : decode cX12_bearsBy 2 = .ok (.iconst 0, 1) := by decide +kernel
theorem dX12_bearsBy_3 : decode cX12_bearsBy 3 = .ok (.istore_n 3, 1) := by decide +kernel
theorem dX12_bearsBy_4 : decode cX12_bearsBy 4 = .ok (.iload_n 3, 1) := by decide +kernel
theorem dX12_bearsBy_5 : decode cX12_bearsBy 5 = .ok (.bipush 20, 2) := by decide +kernel
theorem dX12_bearsBy_7 : decode cX12_bearsBy 7 = .ok (.if_icmp .gt 85, 3) := by decide +kernel
theorem dX12_bearsBy_10 : decode cX12_bearsBy 10 = .ok (.iconst 1, 1) := by decide +kernel
theorem dX12_bearsBy_11 : decode cX12_bearsBy 11 = .ok (.istore 4, 2) := by decide +kernel
theorem dX12_bearsBy_13 : decode cX12_bearsBy 13 = .ok (.iconst 0, 1) := by decide +kernel
theorem dX12_bearsBy_14 : decode cX12_bearsBy 14 = .ok (.istore 5, 2) := by decide +kernel
theorem dX12_bearsBy_16 : decode cX12_bearsBy 16 = .ok (.iload 5, 2) := by decide +kernel
theorem dX12_bearsBy_18 : decode cX12_bearsBy 18 = .ok (.aload_n 0, 1) := by decide +kernel
theorem dX12_bearsBy_19 : decode cX12_bearsBy 19 = .ok (.getfield 156, 3) := by decide +kernel
theorem dX12_bearsBy_22 : decode cX12_bearsBy 22 = .ok (.if_icmp .ge 49, 3) := by decide +kernel
theorem dX12_bearsBy_25 : decode cX12_bearsBy 25 = .ok (.iload 4, 2) := by decide +kernel
theorem dX12_bearsBy_27 : decode cX12_bearsBy 27 = .ok (.ifCond .eq 35, 3) := by decide +kernel
theorem dX12_bearsBy_30 : decode cX12_bearsBy 30 = .ok (.iload_n 1, 1) := by decide +kernel
theorem dX12_bearsBy_31 : decode cX12_bearsBy 31 = .ok (.iload_n 3, 1) := by decide +kernel
theorem dX12_bearsBy_32 : decode cX12_bearsBy 32 = .ok (.aload_n 0, 1) := by decide +kernel
theorem dX12_bearsBy_33 : decode cX12_bearsBy 33 = .ok (.getfield 41, 3) := by decide +kernel
theorem dX12_bearsBy_36 : decode cX12_bearsBy 36 = .ok (.iconst 2, 1) := by decide +kernel
theorem dX12_bearsBy_37 : decode cX12_bearsBy 37 = .ok (.iload 5, 2) := by decide +kernel
theorem dX12_bearsBy_39 : decode cX12_bearsBy 39 = .ok (.imul, 1) := by decide +kernel
theorem dX12_bearsBy_40 : decode cX12_bearsBy 40 = .ok (.iaload, 1) := by decide +kernel
theorem dX12_bearsBy_41 : decode cX12_bearsBy 41 = .ok (.invokestatic 168, 3) := by decide +kernel
theorem dX12_bearsBy_44 : decode cX12_bearsBy 44 = .ok (.aload_n 0, 1) := by decide +kernel
theorem dX12_bearsBy_45 : decode cX12_bearsBy 45 = .ok (.getfield 41, 3) := by decide +kernel
theorem dX12_bearsBy_48 : decode cX12_bearsBy 48 = .ok (.iconst 2, 1) := by decide +kernel
theorem dX12_bearsBy_49 : decode cX12_bearsBy 49 = .ok (.iload 5, 2) := by decide +kernel
theorem dX12_bearsBy_51 : decode cX12_bearsBy 51 = .ok (.imul, 1) := by decide +kernel
theorem dX12_bearsBy_52 : decode cX12_bearsBy 52 = .ok (.iconst 1, 1) := by decide +kernel
theorem dX12_bearsBy_53 : decode cX12_bearsBy 53 = .ok (.iadd, 1) := by decide +kernel
theorem dX12_bearsBy_54 : decode cX12_bearsBy 54 = .ok (.iaload, 1) := by decide +kernel
theorem dX12_bearsBy_55 : decode cX12_bearsBy 55 = .ok (.if_icmp .ne 7, 3) := by decide +kernel
theorem dX12_bearsBy_58 : decode cX12_bearsBy 58 = .ok (.iconst 1, 1) := by decide +kernel
theorem dX12_bearsBy_59 : decode cX12_bearsBy 59 = .ok (.goto 4, 3) := by decide +kernel
theorem dX12_bearsBy_62 : decode cX12_bearsBy 62 = .ok (.iconst 0, 1) := by decide +kernel
theorem dX12_bearsBy_63 : decode cX12_bearsBy 63 = .ok (.istore 4, 2) := by decide +kernel
theorem dX12_bearsBy_65 : decode cX12_bearsBy 65 = .ok (.iinc 5 1, 3) := by decide +kernel
theorem dX12_bearsBy_68 : decode cX12_bearsBy 68 = .ok (.goto (-52), 3) := by decide +kernel
theorem dX12_bearsBy_71 : decode cX12_bearsBy 71 = .ok (.iload_n 2, 1) := by decide +kernel
theorem dX12_bearsBy_72 : decode cX12_bearsBy 72 = .ok (.iload 4, 2) := by decide +kernel
theorem dX12_bearsBy_74 : decode cX12_bearsBy 74 = .ok (.ifCond .eq 9, 3) := by decide +kernel
theorem dX12_bearsBy_77 : decode cX12_bearsBy 77 = .ok (.iconst 1, 1) := by decide +kernel
theorem dX12_bearsBy_78 : decode cX12_bearsBy 78 = .ok (.iload_n 3, 1) := by decide +kernel
theorem dX12_bearsBy_79 : decode cX12_bearsBy 79 = .ok (.ishl, 1) := by decide +kernel
theorem dX12_bearsBy_80 : decode cX12_bearsBy 80 = .ok (.goto 4, 3) := by decide +kernel
theorem dX12_bearsBy_83 : decode cX12_bearsBy 83 = .ok (.iconst 0, 1) := by decide +kernel
theorem dX12_bearsBy_84 : decode cX12_bearsBy 84 = .ok (.ior, 1) := by decide +kernel
theorem dX12_bearsBy_85 : decode cX12_bearsBy 85 = .ok (.istore_n 2, 1) := by decide +kernel
theorem dX12_bearsBy_86 : decode cX12_bearsBy 86 = .ok (.iinc 3 1, 3) := by decide +kernel
theorem dX12_bearsBy_89 : decode cX12_bearsBy 89 = .ok (.goto (-85), 3) := by decide +kernel
theorem dX12_bearsBy_92 : decode cX12_bearsBy 92 = .ok (.iload_n 2, 1) := by decide +kernel
theorem dX12_bearsBy_93 : decode cX12_bearsBy 93 = .ok (.ireturn, 1) := by decide +kernel
theorem dX12_bears_0 : decode cX12_bears 0 = .ok (.iload_n 1, 1) := by decide +kernel
theorem dX12_bears_1 : decode cX12_bears 1 = .ok (.iconst 0, 1) := by decide +kernel
theorem dX12_bears_2 : decode cX12_bears 2 = .ok (.iconst 3, 1) := by decide +kernel
theorem dX12_bears_3 : decode cX12_bears 3 = .ok (.invokestatic 87, 3) := by decide +kernel
theorem dX12_bears_6 : decode cX12_bears 6 = .ok (.ifCond .eq 11, 3) := by decide +kernel
theorem dX12_bears_9 : decode cX12_bears 9 = .ok (.aload_n 0, 1) := by decide +kernel
theorem dX12_bears_10 : decode cX12_bears 10 = .ok (.iload_n 1, 1) := by decide +kernel
theorem dX12_bears_11 : decode cX12_bears 11 = .ok (.invokevirtual 233, 3) := by decide +kernel
theorem dX12_bears_14 : decode cX12_bears 14 = .ok (.goto 4, 3) := by decide +kernel
theorem dX12_bears_17 : decode cX12_bears 17 = .ok (.iconst (-1), 1) := by decide +kernel
theorem dX12_bears_18 : decode cX12_bears 18 = .ok (.ireturn, 1) := by decide +kernel
theorem dX12_alike_0 : decode cX12_alike 0 = .ok (.iconst 0, 1) := by decide +kernel
theorem dX12_alike_1 : decode cX12_alike 1 = .ok (.istore_n 3, 1) := by decide +kernel
theorem dX12_alike_2 : decode cX12_alike 2 = .ok (.iconst 0, 1) := by decide +kernel
theorem dX12_alike_3 : decode cX12_alike 3 = .ok (.istore 4, 2) := by decide +kernel
theorem dX12_alike_5 : decode cX12_alike 5 = .ok (.iload 4, 2) := by decide +kernel
theorem dX12_alike_7 : decode cX12_alike 7 = .ok (.bipush 20, 2) := by decide +kernel
theorem dX12_alike_9 : decode cX12_alike 9 = .ok (.if_icmp .gt 86, 3) := by decide +kernel
theorem dX12_alike_12 : decode cX12_alike 12 = .ok (.iconst 0, 1) := by decide +kernel
theorem dX12_alike_13 : decode cX12_alike 13 = .ok (.istore 5, 2) := by decide +kernel
theorem dX12_alike_15 : decode cX12_alike 15 = .ok (.iconst 0, 1) := by decide +kernel
theorem dX12_alike_16 : decode cX12_alike 16 = .ok (.istore 6, 2) := by decide +kernel
theorem dX12_alike_18 : decode cX12_alike 18 = .ok (.iload 6, 2) := by decide +kernel
theorem dX12_alike_20 : decode cX12_alike 20 = .ok (.bipush 20, 2) := by decide +kernel
theorem dX12_alike_22 : decode cX12_alike 22 = .ok (.if_icmp .gt 54, 3) := by decide +kernel
theorem dX12_alike_25 : decode cX12_alike 25 = .ok (.iload 5, 2) := by decide +kernel
theorem dX12_alike_27 : decode cX12_alike 27 = .ok (.iload_n 0, 1) := by decide +kernel
theorem dX12_alike_28 : decode cX12_alike 28 = .ok (.iload 4, 2) := by decide +kernel
theorem dX12_alike_30 : decode cX12_alike 30 = .ok (.invokestatic 185, 3) := by decide +kernel
theorem dX12_alike_33 : decode cX12_alike 33 = .ok (.ifCond .eq 33, 3) := by decide +kernel
theorem dX12_alike_36 : decode cX12_alike 36 = .ok (.iload_n 0, 1) := by decide +kernel
theorem dX12_alike_37 : decode cX12_alike 37 = .ok (.iload 6, 2) := by decide +kernel
theorem dX12_alike_39 : decode cX12_alike 39 = .ok (.invokestatic 185, 3) := by decide +kernel
theorem dX12_alike_42 : decode cX12_alike 42 = .ok (.ifCond .eq 24, 3) := by decide +kernel
theorem dX12_alike_45 : decode cX12_alike 45 = .ok (.iload_n 1, 1) := by decide +kernel
theorem dX12_alike_46 : decode cX12_alike 46 = .ok (.iload 4, 2) := by decide +kernel
theorem dX12_alike_48 : decode cX12_alike 48 = .ok (.iload_n 2, 1) := by decide +kernel
theorem dX12_alike_49 : decode cX12_alike 49 = .ok (.invokestatic 168, 3) := by decide +kernel
theorem dX12_alike_52 : decode cX12_alike 52 = .ok (.iload_n 1, 1) := by decide +kernel
theorem dX12_alike_53 : decode cX12_alike 53 = .ok (.iload 6, 2) := by decide +kernel
theorem dX12_alike_55 : decode cX12_alike 55 = .ok (.iload_n 2, 1) := by decide +kernel
theorem dX12_alike_56 : decode cX12_alike 56 = .ok (.invokestatic 168, 3) := by decide +kernel
theorem dX12_alike_59 : decode cX12_alike 59 = .ok (.if_icmp .ne 7, 3) := by decide +kernel
theorem dX12_alike_62 : decode cX12_alike 62 = .ok (.iconst 1, 1) := by decide +kernel
theorem dX12_alike_63 : decode cX12_alike 63 = .ok (.goto 4, 3) := by decide +kernel
theorem dX12_alike_66 : decode cX12_alike 66 = .ok (.iconst 0, 1) := by decide +kernel
theorem dX12_alike_67 : decode cX12_alike 67 = .ok (.iadd, 1) := by decide +kernel
theorem dX12_alike_68 : decode cX12_alike 68 = .ok (.istore 5, 2) := by decide +kernel
theorem dX12_alike_70 : decode cX12_alike 70 = .ok (.iinc 6 1, 3) := by decide +kernel
theorem dX12_alike_73 : decode cX12_alike 73 = .ok (.goto (-55), 3) := by decide +kernel
theorem dX12_alike_76 : decode cX12_alike 76 = .ok (.iload 5, 2) := by decide +kernel
theorem dX12_alike_78 : decode cX12_alike 78 = .ok (.iload_n 3, 1) := by decide +kernel
theorem dX12_alike_79 : decode cX12_alike 79 = .ok (.if_icmp .le 8, 3) := by decide +kernel
theorem dX12_alike_82 : decode cX12_alike 82 = .ok (.iload 5, 2) := by decide +kernel
theorem dX12_alike_84 : decode cX12_alike 84 = .ok (.goto 4, 3) := by decide +kernel
theorem dX12_alike_87 : decode cX12_alike 87 = .ok (.iload_n 3, 1) := by decide +kernel
theorem dX12_alike_88 : decode cX12_alike 88 = .ok (.istore_n 3, 1) := by decide +kernel
theorem dX12_alike_89 : decode cX12_alike 89 = .ok (.iinc 4 1, 3) := by decide +kernel
theorem dX12_alike_92 : decode cX12_alike 92 = .ok (.goto (-87), 3) := by decide +kernel
theorem dX12_alike_95 : decode cX12_alike 95 = .ok (.iload_n 3, 1) := by decide +kernel
theorem dX12_alike_96 : decode cX12_alike 96 = .ok (.ireturn, 1) := by decide +kernel
theorem dX12_look_0 : decode cX12_look 0 = .ok (.iload_n 1, 1) := by decide +kernel
theorem dX12_look_1 : decode cX12_look 1 = .ok (.iconst 0, 1) := by decide +kernel
theorem dX12_look_2 : decode cX12_look 2 = .ok (.iconst 3, 1) := by decide +kernel
theorem dX12_look_3 : decode cX12_look 3 = .ok (.invokestatic 87, 3) := by decide +kernel
theorem dX12_look_6 : decode cX12_look 6 = .ok (.ifCond .eq 12, 3) := by decide +kernel
theorem dX12_look_9 : decode cX12_look 9 = .ok (.iload_n 2, 1) := by decide +kernel
theorem dX12_look_10 : decode cX12_look 10 = .ok (.iconst 0, 1) := by decide +kernel
theorem dX12_look_11 : decode cX12_look 11 = .ok (.iconst 1, 1) := by decide +kernel
theorem dX12_look_12 : decode cX12_look 12 = .ok (.invokestatic 87, 3) := by decide +kernel
theorem dX12_look_15 : decode cX12_look 15 = .ok (.ifCond .ne 5, 3) := by decide +kernel
theorem dX12_look_18 : decode cX12_look 18 = .ok (.iconst (-1), 1) := by decide +kernel
theorem dX12_look_19 : decode cX12_look 19 = .ok (.ireturn, 1) := by decide +kernel
theorem dX12_look_20 : decode cX12_look 20 = .ok (.aload_n 0, 1) := by decide +kernel
theorem dX12_look_21 : decode cX12_look 21 = .ok (.iload_n 1, 1) := by decide +kernel
theorem dX12_look_22 : decode cX12_look 22 = .ok (.invokevirtual 233, 3) := by decide +kernel
theorem dX12_look_25 : decode cX12_look 25 = .ok (.istore_n 3, 1) := by decide +kernel
theorem dX12_look_26 : decode cX12_look 26 = .ok (.iload_n 3, 1) := by decide +kernel
theorem dX12_look_27 : decode cX12_look 27 = .ok (.ifCond .ne 6, 3) := by decide +kernel
theorem dX12_look_30 : decode cX12_look 30 = .ok (.bipush (-4), 2) := by decide +kernel
theorem dX12_look_32 : decode cX12_look 32 = .ok (.ireturn, 1) := by decide +kernel
theorem dX12_look_33 : decode cX12_look 33 = .ok (.iconst 0, 1) := by decide +kernel
theorem dX12_look_34 : decode cX12_look 34 = .ok (.istore 4, 2) := by decide +kernel
theorem dX12_look_36 : decode cX12_look 36 = .ok (.iconst 1, 1) := by decide +kernel
theorem dX12_look_37 : decode cX12_look 37 = .ok (.istore 5, 2) := by decide +kernel
theorem dX12_look_39 : decode cX12_look 39 = .ok (.iload 5, 2) := by decide +kernel
theorem dX12_look_41 : decode cX12_look 41 = .ok (.bipush 20, 2) := by decide +kernel
theorem dX12_look_43 : decode cX12_look 43 = .ok (.if_icmp .gt 35, 3) := by decide +kernel
theorem dX12_look_46 : decode cX12_look 46 = .ok (.iload_n 3, 1) := by decide +kernel
theorem dX12_look_47 : decode cX12_look 47 = .ok (.iload_n 1, 1) := by decide +kernel
theorem dX12_look_48 : decode cX12_look 48 = .ok (.iload 5, 2) := by decide +kernel
theorem dX12_look_50 : decode cX12_look 50 = .ok (.invokestatic 236, 3) := by decide +kernel
theorem dX12_look_53 : decode cX12_look 53 = .ok (.iload_n 3, 1) := by decide +kernel
theorem dX12_look_54 : decode cX12_look 54 = .ok (.iload_n 1, 1) := by decide +kernel
theorem dX12_look_55 : decode cX12_look 55 = .ok (.iload 4, 2) := by decide +kernel
theorem dX12_look_57 : decode cX12_look 57 = .ok (.invokestatic 236, 3) := by decide +kernel
theorem dX12_look_60 : decode cX12_look 60 = .ok (.if_icmp .ge 8, 3) := by decide +kernel
theorem dX12_look_63 : decode cX12_look 63 = .ok (.iload 5, 2) := by decide +kernel
theorem dX12_look_65 : decode cX12_look 65 = .ok (.goto 5, 3) := by decide +kernel
theorem dX12_look_68 : decode cX12_look 68 = .ok (.iload 4, 2) := by decide +kernel
theorem dX12_look_70 : decode cX12_look 70 = .ok (.istore 4, 2) := by decide +kernel
theorem dX12_look_72 : decode cX12_look 72 = .ok (.iinc 5 1, 3) := by decide +kernel
theorem dX12_look_75 : decode cX12_look 75 = .ok (.goto (-36), 3) := by decide +kernel
theorem dX12_look_78 : decode cX12_look 78 = .ok (.iload_n 2, 1) := by decide +kernel
theorem dX12_look_79 : decode cX12_look 79 = .ok (.ifCond .ne 8, 3) := by decide +kernel
theorem dX12_look_82 : decode cX12_look 82 = .ok (.iload 4, 2) := by decide +kernel
theorem dX12_look_84 : decode cX12_look 84 = .ok (.goto 10, 3) := by decide +kernel
theorem dX12_look_87 : decode cX12_look 87 = .ok (.iload_n 3, 1) := by decide +kernel
theorem dX12_look_88 : decode cX12_look 88 = .ok (.iload_n 1, 1) := by decide +kernel
theorem dX12_look_89 : decode cX12_look 89 = .ok (.iload 4, 2) := by decide +kernel
theorem dX12_look_91 : decode cX12_look 91 = .ok (.invokestatic 236, 3) := by decide +kernel
theorem dX12_look_94 : decode cX12_look 94 = .ok (.ireturn, 1) := by decide +kernel
theorem dX12_who_0 : decode cX12_who 0 = .ok (.iload_n 1, 1) := by decide +kernel
theorem dX12_who_1 : decode cX12_who 1 = .ok (.iconst 0, 1) := by decide +kernel
theorem dX12_who_2 : decode cX12_who 2 = .ok (.bipush 40, 2) := by decide +kernel
theorem dX12_who_4 : decode cX12_who 4 = .ok (.invokestatic 87, 3) := by decide +kernel
theorem dX12_who_7 : decode cX12_who 7 = .ok (.ifCond .eq 18, 3) := by decide +kernel
theorem dX12_who_10 : decode cX12_who 10 = .ok (.iload_n 2, 1) := by decide +kernel
theorem dX12_who_11 : decode cX12_who 11 = .ok (.iconst 0, 1) := by decide +kernel
theorem dX12_who_12 : decode cX12_who 12 = .ok (.bipush 40, 2) := by decide +kernel
theorem dX12_who_14 : decode cX12_who 14 = .ok (.invokestatic 87, 3) := by decide +kernel
theorem dX12_who_17 : decode cX12_who 17 = .ok (.ifCond .eq 8, 3) := by decide +kernel
theorem dX12_who_20 : decode cX12_who 20 = .ok (.iload_n 1, 1) := by decide +kernel
theorem dX12_who_21 : decode cX12_who 21 = .ok (.iload_n 2, 1) := by decide +kernel
theorem dX12_who_22 : decode cX12_who 22 = .ok (.if_icmp .ne 5, 3) := by decide +kernel
theorem dX12_who_25 : decode cX12_who 25 = .ok (.iconst (-1), 1) := by decide +kernel
theorem dX12_who_26 : decode cX12_who 26 = .ok (.ireturn, 1) := by decide +kernel
theorem dX12_who_27 : decode cX12_who 27 = .ok (.iconst 0, 1) := by decide +kernel
theorem dX12_who_28 : decode cX12_who 28 = .ok (.istore_n 3, 1) := by decide +kernel
theorem dX12_who_29 : decode cX12_who 29 = .ok (.iconst 0, 1) := by decide +kernel
theorem dX12_who_30 : decode cX12_who 30 = .ok (.istore 4, 2) := by decide +kernel
theorem dX12_who_32 : decode cX12_who 32 = .ok (.iload 4, 2) := by decide +kernel
theorem dX12_who_34 : decode cX12_who 34 = .ok (.aload_n 0, 1) := by decide +kernel
theorem dX12_who_35 : decode cX12_who 35 = .ok (.getfield 17, 3) := by decide +kernel
theorem dX12_who_38 : decode cX12_who 38 = .ok (.if_icmp .ge 37, 3) := by decide +kernel
theorem dX12_who_41 : decode cX12_who 41 = .ok (.iload_n 3, 1) := by decide +kernel
theorem dX12_who_42 : decode cX12_who 42 = .ok (.aload_n 0, 1) := by decide +kernel
theorem dX12_who_43 : decode cX12_who 43 = .ok (.iload 4, 2) := by decide +kernel
theorem dX12_who_45 : decode cX12_who 45 = .ok (.iload_n 1, 1) := by decide +kernel
theorem dX12_who_46 : decode cX12_who 46 = .ok (.bipush 20, 2) := by decide +kernel
theorem dX12_who_48 : decode cX12_who 48 = .ok (.isub, 1) := by decide +kernel
theorem dX12_who_49 : decode cX12_who 49 = .ok (.invokevirtual 189, 3) := by decide +kernel
theorem dX12_who_52 : decode cX12_who 52 = .ok (.iload_n 2, 1) := by decide +kernel
theorem dX12_who_53 : decode cX12_who 53 = .ok (.bipush 20, 2) := by decide +kernel
theorem dX12_who_55 : decode cX12_who 55 = .ok (.isub, 1) := by decide +kernel
theorem dX12_who_56 : decode cX12_who 56 = .ok (.if_icmp .ne 10, 3) := by decide +kernel
theorem dX12_who_59 : decode cX12_who 59 = .ok (.iconst 1, 1) := by decide +kernel
theorem dX12_who_60 : decode cX12_who 60 = .ok (.iload 4, 2) := by decide +kernel
theorem dX12_who_62 : decode cX12_who 62 = .ok (.ishl, 1) := by decide +kernel
theorem dX12_who_63 : decode cX12_who 63 = .ok (.goto 4, 3) := by decide +kernel
theorem dX12_who_66 : decode cX12_who 66 = .ok (.iconst 0, 1) := by decide +kernel
theorem dX12_who_67 : decode cX12_who 67 = .ok (.ior, 1) := by decide +kernel
theorem dX12_who_68 : decode cX12_who 68 = .ok (.istore_n 3, 1) := by decide +kernel
theorem dX12_who_69 : decode cX12_who 69 = .ok (.iinc 4 1, 3) := by decide +kernel
theorem dX12_who_72 : decode cX12_who 72 = .ok (.goto (-40), 3) := by decide +kernel
theorem dX12_who_75 : decode cX12_who 75 = .ok (.iload_n 3, 1) := by decide +kernel
theorem dX12_who_76 : decode cX12_who 76 = .ok (.ireturn, 1) := by decide +kernel
theorem dX12_ends_0 : decode cX12_ends 0 = .ok (.aload_n 0, 1) := by decide +kernel
theorem dX12_ends_1 : decode cX12_ends 1 = .ok (.iload_n 1, 1) := by decide +kernel
theorem dX12_ends_2 : decode cX12_ends 2 = .ok (.invokevirtual 162, 3) := by decide +kernel
theorem dX12_ends_5 : decode cX12_ends 5 = .ok (.ifCond .eq 31, 3) := by decide +kernel
theorem dX12_ends_8 : decode cX12_ends 8 = .ok (.aload_n 0, 1) := by decide +kernel
theorem dX12_ends_9 : decode cX12_ends 9 = .ok (.iload_n 2, 1) := by decide +kernel
theorem dX12_ends_10 : decode cX12_ends 10 = .ok (.invokevirtual 162, 3) := by decide +kernel
theorem dX12_ends_13 : decode cX12_ends 13 = .ok (.ifCond .eq 23, 3) := by decide +kernel
theorem dX12_ends_16 : decode cX12_ends 16 = .ok (.iload_n 3, 1) := by decide +kernel
theorem dX12_ends_17 : decode cX12_ends 17 = .ok (.iconst 0, 1) := by decide +kernel
theorem dX12_ends_18 : decode cX12_ends 18 = .ok (.bipush 40, 2) := by decide +kernel
theorem dX12_ends_20 : decode cX12_ends 20 = .ok (.invokestatic 87, 3) := by decide +kernel
theorem dX12_ends_23 : decode cX12_ends 23 = .ok (.ifCond .eq 13, 3) := by decide +kernel
theorem dX12_ends_26 : decode cX12_ends 26 = .ok (.iload 4, 2) := by decide +kernel
theorem dX12_ends_28 : decode cX12_ends 28 = .ok (.iconst 0, 1) := by decide +kernel
theorem dX12_ends_29 : decode cX12_ends 29 = .ok (.iconst 1, 1) := by decide +kernel
theorem dX12_ends_30 : decode cX12_ends 30 = .ok (.invokestatic 87, 3) := by decide +kernel
theorem dX12_ends_33 : decode cX12_ends 33 = .ok (.ifCond .ne 5, 3) := by decide +kernel
theorem dX12_ends_36 : decode cX12_ends 36 = .ok (.iconst (-1), 1) := by decide +kernel
theorem dX12_ends_37 : decode cX12_ends 37 = .ok (.ireturn, 1) := by decide +kernel
theorem dX12_ends_38 : decode cX12_ends 38 = .ok (.iload_n 3, 1) := by decide +kernel
theorem dX12_ends_39 : decode cX12_ends 39 = .ok (.bipush 20, 2) := by decide +kernel
theorem dX12_ends_41 : decode cX12_ends 41 = .ok (.isub, 1) := by decide +kernel
theorem dX12_ends_42 : decode cX12_ends 42 = .ok (.istore 5, 2) := by decide +kernel
theorem dX12_ends_44 : decode cX12_ends 44 = .ok (.iconst 0, 1) := by decide +kernel
theorem dX12_ends_45 : decode cX12_ends 45 = .ok (.istore 6, 2) := by decide +kernel
theorem dX12_ends_47 : decode cX12_ends 47 = .ok (.iload 6, 2) := by decide +kernel
theorem dX12_ends_49 : decode cX12_ends 49 = .ok (.sipush 200, 3) := by decide +kernel
theorem dX12_ends_52 : decode cX12_ends 52 = .ok (.if_icmp .ge 69, 3) := by decide +kernel
theorem dX12_ends_55 : decode cX12_ends 55 = .ok (.aload_n 0, 1) := by decide +kernel
theorem dX12_ends_56 : decode cX12_ends 56 = .ok (.iload_n 1, 1) := by decide +kernel
theorem dX12_ends_57 : decode cX12_ends 57 = .ok (.iload 5, 2) := by decide +kernel
theorem dX12_ends_59 : decode cX12_ends 59 = .ok (.invokevirtual 189, 3) := by decide +kernel
theorem dX12_ends_62 : decode cX12_ends 62 = .ok (.iload 5, 2) := by decide +kernel
theorem dX12_ends_64 : decode cX12_ends 64 = .ok (.if_icmp .ne 31, 3) := by decide +kernel
theorem dX12_ends_67 : decode cX12_ends 67 = .ok (.aload_n 0, 1) := by decide +kernel
theorem dX12_ends_68 : decode cX12_ends 68 = .ok (.iload_n 2, 1) := by decide +kernel
theorem dX12_ends_69 : decode cX12_ends 69 = .ok (.iload 5, 2) := by decide +kernel
theorem dX12_ends_71 : decode cX12_ends 71 = .ok (.invokevirtual 189, 3) := by decide +kernel
theorem dX12_ends_74 : decode cX12_ends 74 = .ok (.iload 5, 2) := by decide +kernel
theorem dX12_ends_76 : decode cX12_ends 76 = .ok (.if_icmp .ne 19, 3) := by decide +kernel
theorem dX12_ends_79 : decode cX12_ends 79 = .ok (.iload 4, 2) := by decide +kernel
theorem dX12_ends_81 : decode cX12_ends 81 = .ok (.ifCond .ne 11, 3) := by decide +kernel
theorem dX12_ends_84 : decode cX12_ends 84 = .ok (.iload 5, 2) := by decide +kernel
theorem dX12_ends_86 : decode cX12_ends 86 = .ok (.bipush 40, 2) := by decide +kernel
theorem dX12_ends_88 : decode cX12_ends 88 = .ok (.iadd, 1) := by decide +kernel
theorem dX12_ends_89 : decode cX12_ends 89 = .ok (.goto 5, 3) := by decide +kernel
theorem dX12_ends_92 : decode cX12_ends 92 = .ok (.iload 6, 2) := by decide +kernel
theorem dX12_ends_94 : decode cX12_ends 94 = .ok (.ireturn, 1) := by decide +kernel
theorem dX12_ends_95 : decode cX12_ends 95 = .ok (.aload_n 0, 1) := by decide +kernel
theorem dX12_ends_96 : decode cX12_ends 96 = .ok (.iload 6, 2) := by decide +kernel
theorem dX12_ends_98 : decode cX12_ends 98 = .ok (.iconst 2, 1) := by decide +kernel
theorem dX12_ends_99 : decode cX12_ends 99 = .ok (.irem, 1) := by decide +kernel
theorem dX12_ends_100 : decode cX12_ends 100 = .ok (.ifCond .ne 7, 3) := by decide +kernel
theorem dX12_ends_103 : decode cX12_ends 103 = .ok (.iload_n 1, 1) := by decide +kernel
theorem dX12_ends_104 : decode cX12_ends 104 = .ok (.goto 4, 3) := by decide +kernel
theorem dX12_ends_107 : decode cX12_ends 107 = .ok (.iload_n 2, 1) := by decide +kernel
theorem dX12_ends_108 : decode cX12_ends 108 = .ok (.iload 5, 2) := by decide +kernel
theorem dX12_ends_110 : decode cX12_ends 110 = .ok (.invokevirtual 189, 3) := by decide +kernel
theorem dX12_ends_113 : decode cX12_ends 113 = .ok (.istore 5, 2) := by decide +kernel
theorem dX12_ends_115 : decode cX12_ends 115 = .ok (.iinc 6 1, 3) := by decide +kernel
theorem dX12_ends_118 : decode cX12_ends 118 = .ok (.goto (-71), 3) := by decide +kernel
theorem dX12_ends_121 : decode cX12_ends 121 = .ok (.bipush (-4), 2) := by decide +kernel
theorem dX12_ends_123 : decode cX12_ends 123 = .ok (.ireturn, 1) := by decide +kernel
theorem dX12_wire_0 : decode cX12_wire 0 = .ok (.iload_n 1, 1) := by decide +kernel
theorem dX12_wire_1 : decode cX12_wire 1 = .ok (.iconst 0, 1) := by decide +kernel
theorem dX12_wire_2 : decode cX12_wire 2 = .ok (.bipush 40, 2) := by decide +kernel
theorem dX12_wire_4 : decode cX12_wire 4 = .ok (.invokestatic 87, 3) := by decide +kernel
theorem dX12_wire_7 : decode cX12_wire 7 = .ok (.ifCond .eq 65, 3) := by decide +kernel
theorem dX12_wire_10 : decode cX12_wire 10 = .ok (.iload_n 2, 1) := by decide +kernel
theorem dX12_wire_11 : decode cX12_wire 11 = .ok (.iconst 0, 1) := by decide +kernel
theorem dX12_wire_12 : decode cX12_wire 12 = .ok (.bipush 20, 2) := by decide +kernel
theorem dX12_wire_14 : decode cX12_wire 14 = .ok (.invokestatic 87, 3) := by decide +kernel
theorem dX12_wire_17 : decode cX12_wire 17 = .ok (.ifCond .eq 55, 3) := by decide +kernel
theorem dX12_wire_20 : decode cX12_wire 20 = .ok (.iload_n 3, 1) := by decide +kernel
theorem dX12_wire_21 : decode cX12_wire 21 = .ok (.iconst 0, 1) := by decide +kernel
theorem dX12_wire_22 : decode cX12_wire 22 = .ok (.bipush 6, 2) := by decide +kernel
theorem dX12_wire_24 : decode cX12_wire 24 = .ok (.invokestatic 87, 3) := by decide +kernel
theorem dX12_wire_27 : decode cX12_wire 27 = .ok (.ifCond .eq 45, 3) := by decide +kernel
theorem dX12_wire_30 : decode cX12_wire 30 = .ok (.iload 4, 2) := by decide +kernel
theorem dX12_wire_32 : decode cX12_wire 32 = .ok (.iconst 0, 1) := by decide +kernel
theorem dX12_wire_33 : decode cX12_wire 33 = .ok (.bipush 10, 2) := by decide +kernel
theorem dX12_wire_35 : decode cX12_wire 35 = .ok (.invokestatic 87, 3) := by decide +kernel
theorem dX12_wire_38 : decode cX12_wire 38 = .ok (.ifCond .eq 34, 3) := by decide +kernel
theorem dX12_wire_41 : decode cX12_wire 41 = .ok (.iload 5, 2) := by decide +kernel
theorem dX12_wire_43 : decode cX12_wire 43 = .ok (.iconst 0, 1) := by decide +kernel
theorem dX12_wire_44 : decode cX12_wire 44 = .ok (.bipush 10, 2) := by decide +kernel
theorem dX12_wire_46 : decode cX12_wire 46 = .ok (.invokestatic 87, 3) := by decide +kernel
theorem dX12_wire_49 : decode cX12_wire 49 = .ok (.ifCond .eq 23, 3) := by decide +kernel
theorem dX12_wire_52 : decode cX12_wire 52 = .ok (.iload 4, 2) := by decide +kernel
theorem dX12_wire_54 : decode cX12_wire 54 = .ok (.iload 5, 2) := by decide +kernel
theorem dX12_wire_56 : decode cX12_wire 56 = .ok (.iadd, 1) := by decide +kernel
theorem dX12_wire_57 : decode cX12_wire 57 = .ok (.bipush 10, 2) := by decide +kernel
theorem dX12_wire_59 : decode cX12_wire 59 = .ok (.if_icmp .gt 13, 3) := by decide +kernel
theorem dX12_wire_62 : decode cX12_wire 62 = .ok (.iload 6, 2) := by decide +kernel
theorem dX12_wire_64 : decode cX12_wire 64 = .ok (.iconst 0, 1) := by decide +kernel
theorem dX12_wire_65 : decode cX12_wire 65 = .ok (.iconst 1, 1) := by decide +kernel
theorem dX12_wire_66 : decode cX12_wire 66 = .ok (.invokestatic 87, 3) := by decide +kernel
theorem dX12_wire_69 : decode cX12_wire 69 = .ok (.ifCond .ne 5, 3) := by decide +kernel
theorem dX12_wire_72 : decode cX12_wire 72 = .ok (.iconst (-1), 1) := by decide +kernel
theorem dX12_wire_73 : decode cX12_wire 73 = .ok (.ireturn, 1) := by decide +kernel
theorem dX12_wire_74 : decode cX12_wire 74 = .ok (.iconst 1, 1) := by decide +kernel
theorem dX12_wire_75 : decode cX12_wire 75 = .ok (.istore 7, 2) := by decide +kernel
theorem dX12_wire_77 : decode cX12_wire 77 = .ok (.iconst 0, 1) := by decide +kernel
theorem dX12_wire_78 : decode cX12_wire 78 = .ok (.istore 8, 2) := by decide +kernel
theorem dX12_wire_80 : decode cX12_wire 80 = .ok (.iload 8, 2) := by decide +kernel
theorem dX12_wire_82 : decode cX12_wire 82 = .ok (.bipush 13, 2) := by decide +kernel
theorem dX12_wire_84 : decode cX12_wire 84 = .ok (.if_icmp .ge 28, 3) := by decide +kernel
theorem dX12_wire_87 : decode cX12_wire 87 = .ok (.aload_n 0, 1) := by decide +kernel
theorem dX12_wire_88 : decode cX12_wire 88 = .ok (.getfield 74, 3) := by decide +kernel
theorem dX12_wire_91 : decode cX12_wire 91 = .ok (.iload 8, 2) := by decide +kernel
theorem dX12_wire_93 : decode cX12_wire 93 = .ok (.iload 8, 2) := by decide +kernel
theorem dX12_wire_95 : decode cX12_wire 95 = .ok (.bipush 6, 2) := by decide +kernel
theorem dX12_wire_97 : decode cX12_wire 97 = .ok (.if_icmp .ne 7, 3) := by decide +kernel
theorem dX12_wire_100 : decode cX12_wire 100 = .ok (.iconst 1, 1) := by decide +kernel
theorem dX12_wire_101 : decode cX12_wire 101 = .ok (.goto 4, 3) := by decide +kernel
theorem dX12_wire_104 : decode cX12_wire 104 = .ok (.iconst 0, 1) := by decide +kernel
theorem dX12_wire_105 : decode cX12_wire 105 = .ok (.iastore, 1) := by decide +kernel
theorem dX12_wire_106 : decode cX12_wire 106 = .ok (.iinc 8 1, 3) := by decide +kernel
theorem dX12_wire_109 : decode cX12_wire 109 = .ok (.goto (-29), 3) := by decide +kernel
theorem dX12_wire_112 : decode cX12_wire 112 = .ok (.iconst 0, 1) := by decide +kernel
theorem dX12_wire_113 : decode cX12_wire 113 = .ok (.istore 8, 2) := by decide +kernel
theorem dX12_wire_115 : decode cX12_wire 115 = .ok (.iload 8, 2) := by decide +kernel
theorem dX12_wire_117 : decode cX12_wire 117 = .ok (.iload_n 3, 1) := by decide +kernel
theorem dX12_wire_118 : decode cX12_wire 118 = .ok (.if_icmp .ge 100, 3) := by decide +kernel
theorem dX12_wire_121 : decode cX12_wire 121 = .ok (.iload 7, 2) := by decide +kernel
theorem dX12_wire_123 : decode cX12_wire 123 = .ok (.bipush 10, 2) := by decide +kernel
theorem dX12_wire_125 : decode cX12_wire 125 = .ok (.imul, 1) := by decide +kernel
theorem dX12_wire_126 : decode cX12_wire 126 = .ok (.istore 7, 2) := by decide +kernel
theorem dX12_wire_128 : decode cX12_wire 128 = .ok (.iconst 0, 1) := by decide +kernel
theorem dX12_wire_129 : decode cX12_wire 129 = .ok (.istore 9, 2) := by decide +kernel
theorem dX12_wire_131 : decode cX12_wire 131 = .ok (.iconst 0, 1) := by decide +kernel
theorem dX12_wire_132 : decode cX12_wire 132 = .ok (.istore 10, 2) := by decide +kernel
theorem dX12_wire_134 : decode cX12_wire 134 = .ok (.iload 10, 2) := by decide +kernel
theorem dX12_wire_136 : decode cX12_wire 136 = .ok (.bipush 13, 2) := by decide +kernel
theorem dX12_wire_138 : decode cX12_wire 138 = .ok (.if_icmp .ge 74, 3) := by decide +kernel
theorem dX12_wire_141 : decode cX12_wire 141 = .ok (.iload 9, 2) := by decide +kernel
theorem dX12_wire_143 : decode cX12_wire 143 = .ok (.iload 4, 2) := by decide +kernel
theorem dX12_wire_145 : decode cX12_wire 145 = .ok (.imul, 1) := by decide +kernel
theorem dX12_wire_146 : decode cX12_wire 146 = .ok (.istore 11, 2) := by decide +kernel
theorem dX12_wire_148 : decode cX12_wire 148 = .ok (.iload 10, 2) := by decide +kernel
theorem dX12_wire_150 : decode cX12_wire 150 = .ok (.bipush 12, 2) := by decide +kernel
theorem dX12_wire_152 : decode cX12_wire 152 = .ok (.if_icmp .ge 18, 3) := by decide +kernel
theorem dX12_wire_155 : decode cX12_wire 155 = .ok (.aload_n 0, 1) := by decide +kernel
theorem dX12_wire_156 : decode cX12_wire 156 = .ok (.getfield 74, 3) := by decide +kernel
theorem dX12_wire_159 : decode cX12_wire 159 = .ok (.iload 10, 2) := by decide +kernel
theorem dX12_wire_161 : decode cX12_wire 161 = .ok (.iconst 1, 1) := by decide +kernel
theorem dX12_wire_162 : decode cX12_wire 162 = .ok (.iadd, 1) := by decide +kernel
theorem dX12_wire_163 : decode cX12_wire 163 = .ok (.iaload, 1) := by decide +kernel
theorem dX12_wire_164 : decode cX12_wire 164 = .ok (.iload 5, 2) := by decide +kernel
theorem dX12_wire_166 : decode cX12_wire 166 = .ok (.imul, 1) := by decide +kernel
theorem dX12_wire_167 : decode cX12_wire 167 = .ok (.goto 4, 3) := by decide +kernel
theorem dX12_wire_170 : decode cX12_wire 170 = .ok (.iconst 0, 1) := by decide +kernel
theorem dX12_wire_171 : decode cX12_wire 171 = .ok (.istore 12, 2) := by decide +kernel
theorem dX12_wire_173 : decode cX12_wire 173 = .ok (.aload_n 0, 1) := by decide +kernel
theorem dX12_wire_174 : decode cX12_wire 174 = .ok (.getfield 74, 3) := by decide +kernel
theorem dX12_wire_177 : decode cX12_wire 177 = .ok (.iload 10, 2) := by decide +kernel
theorem dX12_wire_179 : decode cX12_wire 179 = .ok (.iaload, 1) := by decide +kernel
theorem dX12_wire_180 : decode cX12_wire 180 = .ok (.istore 9, 2) := by decide +kernel
theorem dX12_wire_182 : decode cX12_wire 182 = .ok (.aload_n 0, 1) := by decide +kernel
theorem dX12_wire_183 : decode cX12_wire 183 = .ok (.getfield 74, 3) := by decide +kernel
theorem dX12_wire_186 : decode cX12_wire 186 = .ok (.iload 10, 2) := by decide +kernel
theorem dX12_wire_188 : decode cX12_wire 188 = .ok (.iload 11, 2) := by decide +kernel
theorem dX12_wire_190 : decode cX12_wire 190 = .ok (.iload 12, 2) := by decide +kernel
theorem dX12_wire_192 : decode cX12_wire 192 = .ok (.iadd, 1) := by decide +kernel
theorem dX12_wire_193 : decode cX12_wire 193 = .ok (.iload 9, 2) := by decide +kernel
theorem dX12_wire_195 : decode cX12_wire 195 = .ok (.bipush 10, 2) := by decide +kernel
theorem dX12_wire_197 : decode cX12_wire 197 = .ok (.iload 4, 2) := by decide +kernel
theorem dX12_wire_199 : decode cX12_wire 199 = .ok (.isub, 1) := by decide +kernel
theorem dX12_wire_200 : decode cX12_wire 200 = .ok (.iload 5, 2) := by decide +kernel
theorem dX12_wire_202 : decode cX12_wire 202 = .ok (.isub, 1) := by decide +kernel
theorem dX12_wire_203 : decode cX12_wire 203 = .ok (.imul, 1) := by decide +kernel
theorem dX12_wire_204 : decode cX12_wire 204 = .ok (.iadd, 1) := by decide +kernel
theorem dX12_wire_205 : decode cX12_wire 205 = .ok (.iastore, 1) := by decide +kernel
theorem dX12_wire_206 : decode cX12_wire 206 = .ok (.iinc 10 1, 3) := by decide +kernel
theorem dX12_wire_209 : decode cX12_wire 209 = .ok (.goto (-75), 3) := by decide +kernel
theorem dX12_wire_212 : decode cX12_wire 212 = .ok (.iinc 8 1, 3) := by decide +kernel
theorem dX12_wire_215 : decode cX12_wire 215 = .ok (.goto (-100), 3) := by decide +kernel
theorem dX12_wire_218 : decode cX12_wire 218 = .ok (.iconst 0, 1) := by decide +kernel
theorem dX12_wire_219 : decode cX12_wire 219 = .ok (.istore 8, 2) := by decide +kernel
theorem dX12_wire_221 : decode cX12_wire 221 = .ok (.iconst 0, 1) := by decide +kernel
theorem dX12_wire_222 : decode cX12_wire 222 = .ok (.istore 9, 2) := by decide +kernel
theorem dX12_wire_224 : decode cX12_wire 224 = .ok (.iload 9, 2) := by decide +kernel
theorem dX12_wire_226 : decode cX12_wire 226 = .ok (.bipush 13, 2) := by decide +kernel
theorem dX12_wire_228 : decode cX12_wire 228 = .ok (.if_icmp .ge 42, 3) := by decide +kernel
theorem dX12_wire_231 : decode cX12_wire 231 = .ok (.iload 8, 2) := by decide +kernel
theorem dX12_wire_233 : decode cX12_wire 233 = .ok (.iload_n 1, 1) := by decide +kernel
theorem dX12_wire_234 : decode cX12_wire 234 = .ok (.bipush 20, 2) := by decide +kernel
theorem dX12_wire_236 : decode cX12_wire 236 = .ok (.isub, 1) := by decide +kernel
theorem dX12_wire_237 : decode cX12_wire 237 = .ok (.iload 9, 2) := by decide +kernel
theorem dX12_wire_239 : decode cX12_wire 239 = .ok (.iadd, 1) := by decide +kernel
theorem dX12_wire_240 : decode cX12_wire 240 = .ok (.bipush 6, 2) := by decide +kernel
theorem dX12_wire_242 : decode cX12_wire 242 = .ok (.isub, 1) := by decide +kernel
theorem dX12_wire_243 : decode cX12_wire 243 = .ok (.invokestatic 165, 3) := by decide +kernel
theorem dX12_wire_246 : decode cX12_wire 246 = .ok (.iload_n 2, 1) := by decide +kernel
theorem dX12_wire_247 : decode cX12_wire 247 = .ok (.if_icmp .gt 13, 3) := by decide +kernel
theorem dX12_wire_250 : decode cX12_wire 250 = .ok (.aload_n 0, 1) := by decide +kernel
theorem dX12_wire_251 : decode cX12_wire 251 = .ok (.getfield 74, 3) := by decide +kernel
theorem dX12_wire_254 : decode cX12_wire 254 = .ok (.iload 9, 2) := by decide +kernel
theorem dX12_wire_256 : decode cX12_wire 256 = .ok (.iaload, 1) := by decide +kernel
theorem dX12_wire_257 : decode cX12_wire 257 = .ok (.goto 4, 3) := by decide +kernel
theorem dX12_wire_260 : decode cX12_wire 260 = .ok (.iconst 0, 1) := by decide +kernel
theorem dX12_wire_261 : decode cX12_wire 261 = .ok (.iadd, 1) := by decide +kernel
theorem dX12_wire_262 : decode cX12_wire 262 = .ok (.istore 8, 2) := by decide +kernel
theorem dX12_wire_264 : decode cX12_wire 264 = .ok (.iinc 9 1, 3) := by decide +kernel
theorem dX12_wire_267 : decode cX12_wire 267 = .ok (.goto (-43), 3) := by decide +kernel
theorem dX12_wire_270 : decode cX12_wire 270 = .ok (.iload 8, 2) := by decide +kernel
theorem dX12_wire_272 : decode cX12_wire 272 = .ok (.istore 9, 2) := by decide +kernel
theorem dX12_wire_274 : decode cX12_wire 274 = .ok (.iload 7, 2) := by decide +kernel
theorem dX12_wire_276 : decode cX12_wire 276 = .ok (.istore 10, 2) := by decide +kernel
theorem dX12_wire_278 : decode cX12_wire 278 = .ok (.iload 10, 2) := by decide +kernel
theorem dX12_wire_280 : decode cX12_wire 280 = .ok (.ifCond .le 21, 3) := by decide +kernel
theorem dX12_wire_283 : decode cX12_wire 283 = .ok (.iload 9, 2) := by decide +kernel
theorem dX12_wire_285 : decode cX12_wire 285 = .ok (.iload 10, 2) := by decide +kernel
theorem dX12_wire_287 : decode cX12_wire 287 = .ok (.irem, 1) := by decide +kernel
theorem dX12_wire_288 : decode cX12_wire 288 = .ok (.istore 11, 2) := by decide +kernel
theorem dX12_wire_290 : decode cX12_wire 290 = .ok (.iload 10, 2) := by decide +kernel
theorem dX12_wire_292 : decode cX12_wire 292 = .ok (.istore 9, 2) := by decide +kernel
theorem dX12_wire_294 : decode cX12_wire 294 = .ok (.iload 11, 2) := by decide +kernel
theorem dX12_wire_296 : decode cX12_wire 296 = .ok (.istore 10, 2) := by decide +kernel
theorem dX12_wire_298 : decode cX12_wire 298 = .ok (.goto (-20), 3) := by decide +kernel
theorem dX12_wire_301 : decode cX12_wire 301 = .ok (.iload 6, 2) := by decide +kernel
theorem dX12_wire_303 : decode cX12_wire 303 = .ok (.ifCond .ne 8, 3) := by decide +kernel
theorem dX12_wire_306 : decode cX12_wire 306 = .ok (.iload 8, 2) := by decide +kernel
theorem dX12_wire_308 : decode cX12_wire 308 = .ok (.goto 5, 3) := by decide +kernel
theorem dX12_wire_311 : decode cX12_wire 311 = .ok (.iload 7, 2) := by decide +kernel
theorem dX12_wire_313 : decode cX12_wire 313 = .ok (.iload 9, 2) := by decide +kernel
theorem dX12_wire_315 : decode cX12_wire 315 = .ok (.idiv, 1) := by decide +kernel
theorem dX12_wire_316 : decode cX12_wire 316 = .ok (.ireturn, 1) := by decide +kernel
theorem dX12_most_0 : decode cX12_most 0 = .ok (.iload_n 1, 1) := by decide +kernel
theorem dX12_most_1 : decode cX12_most 1 = .ok (.iconst 0, 1) := by decide +kernel
theorem dX12_most_2 : decode cX12_most 2 = .ok (.iconst 1, 1) := by decide +kernel
theorem dX12_most_3 : decode cX12_most 3 = .ok (.invokestatic 87, 3) := by decide +kernel
theorem dX12_most_6 : decode cX12_most 6 = .ok (.ifCond .ne 5, 3) := by decide +kernel
theorem dX12_most_9 : decode cX12_most 9 = .ok (.iconst (-1), 1) := by decide +kernel
theorem dX12_most_10 : decode cX12_most 10 = .ok (.ireturn, 1) := by decide +kernel
theorem dX12_most_11 : decode cX12_most 11 = .ok (.aload_n 0, 1) := by decide +kernel
theorem dX12_most_12 : decode cX12_most 12 = .ok (.getfield 17, 3) := by decide +kernel
theorem dX12_most_15 : decode cX12_most 15 = .ok (.ifCond .ne 6, 3) := by decide +kernel
theorem dX12_most_18 : decode cX12_most 18 = .ok (.bipush (-4), 2) := by decide +kernel
theorem dX12_most_20 : decode cX12_most 20 = .ok (.ireturn, 1) := by decide +kernel
theorem dX12_most_21 : decode cX12_most 21 = .ok (.iconst 0, 1) := by decide +kernel
theorem dX12_most_22 : decode cX12_most 22 = .ok (.istore_n 2, 1) := by decide +kernel
theorem dX12_most_23 : decode cX12_most 23 = .ok (.iload_n 2, 1) := by decide +kernel
theorem dX12_most_24 : decode cX12_most 24 = .ok (.iconst 5, 1) := by decide +kernel
theorem dX12_most_25 : decode cX12_most 25 = .ok (.if_icmp .ge 16, 3) := by decide +kernel
theorem dX12_most_28 : decode cX12_most 28 = .ok (.aload_n 0, 1) := by decide +kernel
theorem dX12_most_29 : decode cX12_most 29 = .ok (.getfield 77, 3) := by decide +kernel
theorem dX12_most_32 : decode cX12_most 32 = .ok (.iload_n 2, 1) := by decide +kernel
theorem dX12_most_33 : decode cX12_most 33 = .ok (.iconst 0, 1) := by decide +kernel
theorem dX12_most_34 : decode cX12_most 34 = .ok (.iastore, 1) := by decide +kernel
theorem dX12_most_35 : decode cX12_most 35 = .ok (.iinc 2 1, 3) := by decide +kernel
theorem dX12_most_38 : decode cX12_most 38 = .ok (.goto (-15), 3) := by decide +kernel
theorem dX12_most_41 : decode cX12_most 41 = .ok (.aload_n 0, 1) := by decide +kernel
theorem dX12_most_42 : decode cX12_most 42 = .ok (.invokevirtual 196, 3) := by decide +kernel
theorem dX12_most_45 : decode cX12_most 45 = .ok (.iconst 0, 1) := by decide +kernel
theorem dX12_most_46 : decode cX12_most 46 = .ok (.istore_n 2, 1) := by decide +kernel
theorem dX12_most_47 : decode cX12_most 47 = .ok (.iload_n 2, 1) := by decide +kernel
theorem dX12_most_48 : decode cX12_most 48 = .ok (.bipush 30, 2) := by decide +kernel
theorem dX12_most_50 : decode cX12_most 50 = .ok (.if_icmp .gt 59, 3) := by decide +kernel
theorem dX12_most_53 : decode cX12_most 53 = .ok (.aload_n 0, 1) := by decide +kernel
theorem dX12_most_54 : decode cX12_most 54 = .ok (.iload_n 2, 1) := by decide +kernel
theorem dX12_most_55 : decode cX12_most 55 = .ok (.invokevirtual 199, 3) := by decide +kernel
theorem dX12_most_58 : decode cX12_most 58 = .ok (.aload_n 0, 1) := by decide +kernel
theorem dX12_most_59 : decode cX12_most 59 = .ok (.invokevirtual 203, 3) := by decide +kernel
theorem dX12_most_62 : decode cX12_most 62 = .ok (.iconst 0, 1) := by decide +kernel
theorem dX12_most_63 : decode cX12_most 63 = .ok (.istore_n 3, 1) := by decide +kernel
theorem dX12_most_64 : decode cX12_most 64 = .ok (.iload_n 3, 1) := by decide +kernel
theorem dX12_most_65 : decode cX12_most 65 = .ok (.aload_n 0, 1) := by decide +kernel
theorem dX12_most_66 : decode cX12_most 66 = .ok (.getfield 17, 3) := by decide +kernel
theorem dX12_most_69 : decode cX12_most 69 = .ok (.if_icmp .ge 34, 3) := by decide +kernel
theorem dX12_most_72 : decode cX12_most 72 = .ok (.aload_n 0, 1) := by decide +kernel
theorem dX12_most_73 : decode cX12_most 73 = .ok (.getfield 77, 3) := by decide +kernel
theorem dX12_most_76 : decode cX12_most 76 = .ok (.iload_n 3, 1) := by decide +kernel
theorem dX12_most_77 : decode cX12_most 77 = .ok (.dup2, 1) := by decide +kernel
theorem dX12_most_78 : decode cX12_most 78 = .ok (.iaload, 1) := by decide +kernel
theorem dX12_most_79 : decode cX12_most 79 = .ok (.aload_n 0, 1) := by decide +kernel
theorem dX12_most_80 : decode cX12_most 80 = .ok (.getfield 182, 3) := by decide +kernel
theorem dX12_most_83 : decode cX12_most 83 = .ok (.iload_n 3, 1) := by decide +kernel
