theorem dX11_frame_8 : decode cX11_frame 8 = .ok (.invokestatic 119, 3) := by decide +kernel
theorem dX11_frame_11 : decode cX11_frame 11 = .ok (.ifCond .eq 5, 3) := by decide +kernel
theorem dX11_frame_14 : decode cX11_frame 14 = .ok (.iconst (-1), 1) := by decide +kernel
theorem dX11_frame_15 : decode cX11_frame 15 = .ok (.ireturn, 1) := by decide +kernel
theorem dX11_frame_16 : decode cX11_frame 16 = .ok (.iload_n 2, 1) := by decide +kernel
theorem dX11_frame_17 : decode cX11_frame 17 = .ok (.tableswitch 79 0 3 #[31, 41, 54, 66], 31) := by decide +kernel
theorem dX11_frame_48 : decode cX11_frame 48 = .ok (.aload_n 0, 1) := by decide +kernel
theorem dX11_frame_49 : decode cX11_frame 49 = .ok (.getfield 80, 3) := by decide +kernel
theorem dX11_frame_52 : decode cX11_frame 52 = .ok (.getfield 123, 3) := by decide +kernel
theorem dX11_frame_55 : decode cX11_frame 55 = .ok (.iload_n 1, 1) := by decide +kernel
theorem dX11_frame_56 : decode cX11_frame 56 = .ok (.iaload, 1) := by decide +kernel
theorem dX11_frame_57 : decode cX11_frame 57 = .ok (.ireturn, 1) := by decide +kernel
theorem dX11_frame_58 : decode cX11_frame 58 = .ok (.aload_n 0, 1) := by decide +kernel
theorem dX11_frame_59 : decode cX11_frame 59 = .ok (.getfield 80, 3) := by decide +kernel
theorem dX11_frame_62 : decode cX11_frame 62 = .ok (.getfield 127, 3) := by decide +kernel
theorem dX11_frame_65 : decode cX11_frame 65 = .ok (.iload_n 1, 1) := by decide +kernel
theorem dX11_frame_66 : decode cX11_frame 66 = .ok (.iaload, 1) := by decide +kernel
theorem dX11_frame_67 : decode cX11_frame 67 = .ok (.bipush 40, 2) := by decide +kernel
theorem dX11_frame_69 : decode cX11_frame 69 = .ok (.iadd, 1) := by decide +kernel
theorem dX11_frame_70 : decode cX11_frame 70 = .ok (.ireturn, 1) := by decide +kernel
theorem dX11_frame_71 : decode cX11_frame 71 = .ok (.aload_n 0, 1) := by decide +kernel
theorem dX11_frame_72 : decode cX11_frame 72 = .ok (.getfield 80, 3) := by decide +kernel
theorem dX11_frame_75 : decode cX11_frame 75 = .ok (.getfield 130, 3) := by decide +kernel
theorem dX11_frame_78 : decode cX11_frame 78 = .ok (.iload_n 1, 1) := by decide +kernel
theorem dX11_frame_79 : decode cX11_frame 79 = .ok (.iaload, 1) := by decide +kernel
theorem dX11_frame_80 : decode cX11_frame 80 = .ok (.iconst 5, 1) := by decide +kernel
theorem dX11_frame_81 : decode cX11_frame 81 = .ok (.iadd, 1) := by decide +kernel
theorem dX11_frame_82 : decode cX11_frame 82 = .ok (.ireturn, 1) := by decide +kernel
theorem dX11_frame_83 : decode cX11_frame 83 = .ok (.aload_n 0, 1) := by decide +kernel
theorem dX11_frame_84 : decode cX11_frame 84 = .ok (.getfield 80, 3) := by decide +kernel
theorem dX11_frame_87 : decode cX11_frame 87 = .ok (.getfield 133, 3) := by decide +kernel
theorem dX11_frame_90 : decode cX11_frame 90 = .ok (.iload_n 1, 1) := by decide +kernel
theorem dX11_frame_91 : decode cX11_frame 91 = .ok (.iaload, 1) := by decide +kernel
theorem dX11_frame_92 : decode cX11_frame 92 = .ok (.bipush 40, 2) := by decide +kernel
theorem dX11_frame_94 : decode cX11_frame 94 = .ok (.iadd, 1) := by decide +kernel
theorem dX11_frame_95 : decode cX11_frame 95 = .ok (.ireturn, 1) := by decide +kernel
theorem dX11_frame_96 : decode cX11_frame 96 = .ok (.iconst (-1), 1) := by decide +kernel
theorem dX11_frame_97 : decode cX11_frame 97 = .ok (.ireturn, 1) := by decide +kernel
theorem dX11_person_0 : decode cX11_person 0 = .ok (.iload_n 1, 1) := by decide +kernel
theorem dX11_person_1 : decode cX11_person 1 = .ok (.aload_n 0, 1) := by decide +kernel
theorem dX11_person_2 : decode cX11_person 2 = .ok (.getfield 80, 3) := by decide +kernel
theorem dX11_person_5 : decode cX11_person 5 = .ok (.getfield 136, 3) := by decide +kernel
theorem dX11_person_8 : decode cX11_person 8 = .ok (.invokestatic 119, 3) := by decide +kernel
theorem dX11_person_11 : decode cX11_person 11 = .ok (.ifCond .ne 11, 3) := by decide +kernel
theorem dX11_person_14 : decode cX11_person 14 = .ok (.iload_n 2, 1) := by decide +kernel
theorem dX11_person_15 : decode cX11_person 15 = .ok (.iconst 2, 1) := by decide +kernel
theorem dX11_person_16 : decode cX11_person 16 = .ok (.invokestatic 119, 3) := by decide +kernel
theorem dX11_person_19 : decode cX11_person 19 = .ok (.ifCond .eq 5, 3) := by decide +kernel
theorem dX11_person_22 : decode cX11_person 22 = .ok (.iconst (-1), 1) := by decide +kernel
theorem dX11_person_23 : decode cX11_person 23 = .ok (.ireturn, 1) := by decide +kernel
theorem dX11_person_24 : decode cX11_person 24 = .ok (.iload_n 2, 1) := by decide +kernel
theorem dX11_person_25 : decode cX11_person 25 = .ok (.ifCond .ne 15, 3) := by decide +kernel
theorem dX11_person_28 : decode cX11_person 28 = .ok (.aload_n 0, 1) := by decide +kernel
theorem dX11_person_29 : decode cX11_person 29 = .ok (.getfield 80, 3) := by decide +kernel
theorem dX11_person_32 : decode cX11_person 32 = .ok (.getfield 139, 3) := by decide +kernel
theorem dX11_person_35 : decode cX11_person 35 = .ok (.iload_n 1, 1) := by decide +kernel
theorem dX11_person_36 : decode cX11_person 36 = .ok (.iaload, 1) := by decide +kernel
theorem dX11_person_37 : decode cX11_person 37 = .ok (.goto 12, 3) := by decide +kernel
theorem dX11_person_40 : decode cX11_person 40 = .ok (.aload_n 0, 1) := by decide +kernel
theorem dX11_person_41 : decode cX11_person 41 = .ok (.getfield 80, 3) := by decide +kernel
theorem dX11_person_44 : decode cX11_person 44 = .ok (.getfield 142, 3) := by decide +kernel
theorem dX11_person_47 : decode cX11_person 47 = .ok (.iload_n 1, 1) := by decide +kernel
theorem dX11_person_48 : decode cX11_person 48 = .ok (.iaload, 1) := by decide +kernel
theorem dX11_person_49 : decode cX11_person 49 = .ok (.ireturn, 1) := by decide +kernel
theorem dX11_angle_0 : decode cX11_angle 0 = .ok (.iload_n 1, 1) := by decide +kernel
theorem dX11_angle_1 : decode cX11_angle 1 = .ok (.aload_n 0, 1) := by decide +kernel
theorem dX11_angle_2 : decode cX11_angle 2 = .ok (.getfield 80, 3) := by decide +kernel
theorem dX11_angle_5 : decode cX11_angle 5 = .ok (.getfield 116, 3) := by decide +kernel
theorem dX11_angle_8 : decode cX11_angle 8 = .ok (.invokestatic 119, 3) := by decide +kernel
theorem dX11_angle_11 : decode cX11_angle 11 = .ok (.ifCond .ne 12, 3) := by decide +kernel
theorem dX11_angle_14 : decode cX11_angle 14 = .ok (.iload_n 2, 1) := by decide +kernel
theorem dX11_angle_15 : decode cX11_angle 15 = .ok (.bipush 31, 2) := by decide +kernel
theorem dX11_angle_17 : decode cX11_angle 17 = .ok (.invokestatic 119, 3) := by decide +kernel
theorem dX11_angle_20 : decode cX11_angle 20 = .ok (.ifCond .eq 5, 3) := by decide +kernel
theorem dX11_angle_23 : decode cX11_angle 23 = .ok (.iconst (-1), 1) := by decide +kernel
theorem dX11_angle_24 : decode cX11_angle 24 = .ok (.ireturn, 1) := by decide +kernel
theorem dX11_angle_25 : decode cX11_angle 25 = .ok (.aload_n 0, 1) := by decide +kernel
theorem dX11_angle_26 : decode cX11_angle 26 = .ok (.invokevirtual 145, 3) := by decide +kernel
theorem dX11_angle_29 : decode cX11_angle 29 = .ok (.getfield 149, 3) := by decide +kernel
theorem dX11_angle_32 : decode cX11_angle 32 = .ok (.iload_n 2, 1) := by decide +kernel
theorem dX11_angle_33 : decode cX11_angle 33 = .ok (.aaload, 1) := by decide +kernel
theorem dX11_angle_34 : decode cX11_angle 34 = .ok (.iload_n 1, 1) := by decide +kernel
theorem dX11_angle_35 : decode cX11_angle 35 = .ok (.iaload, 1) := by decide +kernel
theorem dX11_angle_36 : decode cX11_angle 36 = .ok (.bipush 40, 2) := by decide +kernel
theorem dX11_angle_38 : decode cX11_angle 38 = .ok (.iadd, 1) := by decide +kernel
theorem dX11_angle_39 : decode cX11_angle 39 = .ok (.ireturn, 1) := by decide +kernel
theorem dX11_hers_0 : decode cX11_hers 0 = .ok (.iload_n 1, 1) := by decide +kernel
theorem dX11_hers_1 : decode cX11_hers 1 = .ok (.bipush 31, 2) := by decide +kernel
theorem dX11_hers_3 : decode cX11_hers 3 = .ok (.invokestatic 119, 3) := by decide +kernel
theorem dX11_hers_6 : decode cX11_hers 6 = .ok (.ifCond .eq 7, 3) := by decide +kernel
theorem dX11_hers_9 : decode cX11_hers 9 = .ok (.iconst (-1), 1) := by decide +kernel
theorem dX11_hers_10 : decode cX11_hers 10 = .ok (.goto 12, 3) := by decide +kernel
theorem dX11_hers_13 : decode cX11_hers 13 = .ok (.aload_n 0, 1) := by decide +kernel
theorem dX11_hers_14 : decode cX11_hers 14 = .ok (.invokevirtual 145, 3) := by decide +kernel
theorem dX11_hers_17 : decode cX11_hers 17 = .ok (.getfield 153, 3) := by decide +kernel
theorem dX11_hers_20 : decode cX11_hers 20 = .ok (.iload_n 1, 1) := by decide +kernel
theorem dX11_hers_21 : decode cX11_hers 21 = .ok (.iaload, 1) := by decide +kernel
theorem dX11_hers_22 : decode cX11_hers 22 = .ok (.ireturn, 1) := by decide +kernel
theorem dX11_sets_0 : decode cX11_sets 0 = .ok (.iload_n 1, 1) := by decide +kernel
theorem dX11_sets_1 : decode cX11_sets 1 = .ok (.aload_n 0, 1) := by decide +kernel
theorem dX11_sets_2 : decode cX11_sets 2 = .ok (.getfield 80, 3) := by decide +kernel
theorem dX11_sets_5 : decode cX11_sets 5 = .ok (.getfield 136, 3) := by decide +kernel
theorem dX11_sets_8 : decode cX11_sets 8 = .ok (.invokestatic 119, 3) := by decide +kernel
theorem dX11_sets_11 : decode cX11_sets 11 = .ok (.ifCond .ne 12, 3) := by decide +kernel
theorem dX11_sets_14 : decode cX11_sets 14 = .ok (.iload_n 2, 1) := by decide +kernel
theorem dX11_sets_15 : decode cX11_sets 15 = .ok (.bipush 31, 2) := by decide +kernel
theorem dX11_sets_17 : decode cX11_sets 17 = .ok (.invokestatic 119, 3) := by decide +kernel
theorem dX11_sets_20 : decode cX11_sets 20 = .ok (.ifCond .eq 5, 3) := by decide +kernel
theorem dX11_sets_23 : decode cX11_sets 23 = .ok (.iconst (-1), 1) := by decide +kernel
theorem dX11_sets_24 : decode cX11_sets 24 = .ok (.ireturn, 1) := by decide +kernel
theorem dX11_sets_25 : decode cX11_sets 25 = .ok (.aload_n 0, 1) := by decide +kernel
theorem dX11_sets_26 : decode cX11_sets 26 = .ok (.invokevirtual 145, 3) := by decide +kernel
theorem dX11_sets_29 : decode cX11_sets 29 = .ok (.getfield 156, 3) := by decide +kernel
theorem dX11_sets_32 : decode cX11_sets 32 = .ok (.iload_n 2, 1) := by decide +kernel
theorem dX11_sets_33 : decode cX11_sets 33 = .ok (.aaload, 1) := by decide +kernel
theorem dX11_sets_34 : decode cX11_sets 34 = .ok (.iload_n 1, 1) := by decide +kernel
theorem dX11_sets_35 : decode cX11_sets 35 = .ok (.iaload, 1) := by decide +kernel
theorem dX11_sets_36 : decode cX11_sets 36 = .ok (.ireturn, 1) := by decide +kernel
theorem dX11_rest_0 : decode cX11_rest 0 = .ok (.aload_n 0, 1) := by decide +kernel
theorem dX11_rest_1 : decode cX11_rest 1 = .ok (.invokevirtual 145, 3) := by decide +kernel
theorem dX11_rest_4 : decode cX11_rest 4 = .ok (.aload_n 0, 1) := by decide +kernel
theorem dX11_rest_5 : decode cX11_rest 5 = .ok (.getfield 80, 3) := by decide +kernel
theorem dX11_rest_8 : decode cX11_rest 8 = .ok (.invokevirtual 159, 3) := by decide +kernel
theorem dX11_rest_11 : decode cX11_rest 11 = .ok (.ireturn, 1) := by decide +kernel
theorem dX11_sways_0 : decode cX11_sways 0 = .ok (.aload_n 0, 1) := by decide +kernel
theorem dX11_sways_1 : decode cX11_sways 1 = .ok (.invokevirtual 145, 3) := by decide +kernel
theorem dX11_sways_4 : decode cX11_sways 4 = .ok (.aload_n 0, 1) := by decide +kernel
theorem dX11_sways_5 : decode cX11_sways 5 = .ok (.getfield 80, 3) := by decide +kernel
theorem dX11_sways_8 : decode cX11_sways 8 = .ok (.getfield 116, 3) := by decide +kernel
theorem dX11_sways_11 : decode cX11_sways 11 = .ok (.invokevirtual 163, 3) := by decide +kernel
theorem dX11_sways_14 : decode cX11_sways 14 = .ok (.ireturn, 1) := by decide +kernel
theorem dX11_told_0 : decode cX11_told 0 = .ok (.iload_n 1, 1) := by decide +kernel
theorem dX11_told_1 : decode cX11_told 1 = .ok (.aload_n 0, 1) := by decide +kernel
theorem dX11_told_2 : decode cX11_told 2 = .ok (.getfield 26, 3) := by decide +kernel
theorem dX11_told_5 : decode cX11_told 5 = .ok (.getfield 167, 3) := by decide +kernel
theorem dX11_told_8 : decode cX11_told 8 = .ok (.invokestatic 119, 3) := by decide +kernel
theorem dX11_told_11 : decode cX11_told 11 = .ok (.ifCond .eq 5, 3) := by decide +kernel
theorem dX11_told_14 : decode cX11_told 14 = .ok (.iconst (-1), 1) := by decide +kernel
theorem dX11_told_15 : decode cX11_told 15 = .ok (.ireturn, 1) := by decide +kernel
theorem dX11_told_16 : decode cX11_told 16 = .ok (.iload_n 2, 1) := by decide +kernel
theorem dX11_told_17 : decode cX11_told 17 = .ok (.tableswitch 60 0 2 #[27, 37, 47], 27) := by decide +kernel
theorem dX11_told_44 : decode cX11_told 44 = .ok (.aload_n 0, 1) := by decide +kernel
theorem dX11_told_45 : decode cX11_told 45 = .ok (.getfield 26, 3) := by decide +kernel
theorem dX11_told_48 : decode cX11_told 48 = .ok (.getfield 170, 3) := by decide +kernel
theorem dX11_told_51 : decode cX11_told 51 = .ok (.iload_n 1, 1) := by decide +kernel
theorem dX11_told_52 : decode cX11_told 52 = .ok (.iaload, 1) := by decide +kernel
theorem dX11_told_53 : decode cX11_told 53 = .ok (.ireturn, 1) := by decide +kernel
theorem dX11_told_54 : decode cX11_told 54 = .ok (.aload_n 0, 1) := by decide +kernel
theorem dX11_told_55 : decode cX11_told 55 = .ok (.getfield 26, 3) := by decide +kernel
theorem dX11_told_58 : decode cX11_told 58 = .ok (.getfield 173, 3) := by decide +kernel
theorem dX11_told_61 : decode cX11_told 61 = .ok (.iload_n 1, 1) := by decide +kernel
theorem dX11_told_62 : decode cX11_told 62 = .ok (.iaload, 1) := by decide +kernel
theorem dX11_told_63 : decode cX11_told 63 = .ok (.ireturn, 1) := by decide +kernel
theorem dX11_told_64 : decode cX11_told 64 = .ok (.aload_n 0, 1) := by decide +kernel
theorem dX11_told_65 : decode cX11_told 65 = .ok (.getfield 26, 3) := by decide +kernel
theorem dX11_told_68 : decode cX11_told 68 = .ok (.getfield 175, 3) := by decide +kernel
theorem dX11_told_71 : decode cX11_told 71 = .ok (.iload_n 1, 1) := by decide +kernel
theorem dX11_told_72 : decode cX11_told 72 = .ok (.iaload, 1) := by decide +kernel
theorem dX11_told_73 : decode cX11_told 73 = .ok (.bipush 20, 2) := by decide +kernel
theorem dX11_told_75 : decode cX11_told 75 = .ok (.iadd, 1) := by decide +kernel
theorem dX11_told_76 : decode cX11_told 76 = .ok (.ireturn, 1) := by decide +kernel
theorem dX11_told_77 : decode cX11_told 77 = .ok (.iconst (-1), 1) := by decide +kernel
theorem dX11_told_78 : decode cX11_told 78 = .ok (.ireturn, 1) := by decide +kernel
theorem dX11_turn_0 : decode cX11_turn 0 = .ok (.iload_n 1, 1) := by decide +kernel
theorem dX11_turn_1 : decode cX11_turn 1 = .ok (.bipush 31, 2) := by decide +kernel
theorem dX11_turn_3 : decode cX11_turn 3 = .ok (.invokestatic 119, 3) := by decide +kernel
theorem dX11_turn_6 : decode cX11_turn 6 = .ok (.ifCond .ne 26, 3) := by decide +kernel
theorem dX11_turn_9 : decode cX11_turn 9 = .ok (.iload_n 2, 1) := by decide +kernel
theorem dX11_turn_10 : decode cX11_turn 10 = .ok (.aload_n 0, 1) := by decide +kernel
theorem dX11_turn_11 : decode cX11_turn 11 = .ok (.getfield 80, 3) := by decide +kernel
theorem dX11_turn_14 : decode cX11_turn 14 = .ok (.getfield 116, 3) := by decide +kernel
theorem dX11_turn_17 : decode cX11_turn 17 = .ok (.invokestatic 119, 3) := by decide +kernel
theorem dX11_turn_20 : decode cX11_turn 20 = .ok (.ifCond .ne 12, 3) := by decide +kernel
theorem dX11_turn_23 : decode cX11_turn 23 = .ok (.iload_n 3, 1) := by decide +kernel
theorem dX11_turn_24 : decode cX11_turn 24 = .ok (.bipush 41, 2) := by decide +kernel
theorem dX11_turn_26 : decode cX11_turn 26 = .ok (.invokestatic 119, 3) := by decide +kernel
theorem dX11_turn_29 : decode cX11_turn 29 = .ok (.ifCond .eq 5, 3) := by decide +kernel
theorem dX11_turn_32 : decode cX11_turn 32 = .ok (.iconst (-1), 1) := by decide +kernel
theorem dX11_turn_33 : decode cX11_turn 33 = .ok (.ireturn, 1) := by decide +kernel
theorem dX11_turn_34 : decode cX11_turn 34 = .ok (.aload_n 0, 1) := by decide +kernel
theorem dX11_turn_35 : decode cX11_turn 35 = .ok (.getfield 26, 3) := by decide +kernel
theorem dX11_turn_38 : decode cX11_turn 38 = .ok (.getfield 167, 3) := by decide +kernel
theorem dX11_turn_41 : decode cX11_turn 41 = .ok (.bipush 8, 2) := by decide +kernel
theorem dX11_turn_43 : decode cX11_turn 43 = .ok (.if_icmp .lt 6, 3) := by decide +kernel
theorem dX11_turn_46 : decode cX11_turn 46 = .ok (.bipush (-3), 2) := by decide +kernel
theorem dX11_turn_48 : decode cX11_turn 48 = .ok (.ireturn, 1) := by decide +kernel
theorem dX11_turn_49 : decode cX11_turn 49 = .ok (.aload_n 0, 1) := by decide +kernel
theorem dX11_turn_50 : decode cX11_turn 50 = .ok (.getfield 35, 3) := by decide +kernel
theorem dX11_turn_53 : decode cX11_turn 53 = .ok (.aload_n 0, 1) := by decide +kernel
theorem dX11_turn_54 : decode cX11_turn 54 = .ok (.getfield 26, 3) := by decide +kernel
theorem dX11_turn_57 : decode cX11_turn 57 = .ok (.invokevirtual 178, 3) := by decide +kernel
theorem dX11_turn_60 : decode cX11_turn 60 = .ok (.aload_n 0, 1) := by decide +kernel
theorem dX11_turn_61 : decode cX11_turn 61 = .ok (.getfield 26, 3) := by decide +kernel
theorem dX11_turn_64 : decode cX11_turn 64 = .ok (.iload_n 1, 1) := by decide +kernel
theorem dX11_turn_65 : decode cX11_turn 65 = .ok (.iload_n 2, 1) := by decide +kernel
theorem dX11_turn_66 : decode cX11_turn 66 = .ok (.iload_n 3, 1) := by decide +kernel
theorem dX11_turn_67 : decode cX11_turn 67 = .ok (.bipush 20, 2) := by decide +kernel
theorem dX11_turn_69 : decode cX11_turn 69 = .ok (.isub, 1) := by decide +kernel
theorem dX11_turn_70 : decode cX11_turn 70 = .ok (.invokevirtual 182, 3) := by decide +kernel
theorem dX11_turn_73 : decode cX11_turn 73 = .ok (.aload_n 0, 1) := by decide +kernel
theorem dX11_turn_74 : decode cX11_turn 74 = .ok (.getfield 45, 3) := by decide +kernel
theorem dX11_turn_77 : decode cX11_turn 77 = .ok (.iconst 1, 1) := by decide +kernel
theorem dX11_turn_78 : decode cX11_turn 78 = .ok (.putfield 185, 3) := by decide +kernel
theorem dX11_turn_81 : decode cX11_turn 81 = .ok (.aload_n 0, 1) := by decide +kernel
theorem dX11_turn_82 : decode cX11_turn 82 = .ok (.getfield 26, 3) := by decide +kernel
theorem dX11_turn_85 : decode cX11_turn 85 = .ok (.getfield 167, 3) := by decide +kernel
theorem dX11_turn_88 : decode cX11_turn 88 = .ok (.ireturn, 1) := by decide +kernel
theorem dX11_leave_0 : decode cX11_leave 0 = .ok (.iload_n 1, 1) := by decide +kernel
theorem dX11_leave_1 : decode cX11_leave 1 = .ok (.aload_n 0, 1) := by decide +kernel
theorem dX11_leave_2 : decode cX11_leave 2 = .ok (.getfield 26, 3) := by decide +kernel
theorem dX11_leave_5 : decode cX11_leave 5 = .ok (.getfield 167, 3) := by decide +kernel
theorem dX11_leave_8 : decode cX11_leave 8 = .ok (.invokestatic 119, 3) := by decide +kernel
theorem dX11_leave_11 : decode cX11_leave 11 = .ok (.ifCond .eq 5, 3) := by decide +kernel
theorem dX11_leave_14 : decode cX11_leave 14 = .ok (.iconst (-1), 1) := by decide +kernel
theorem dX11_leave_15 : decode cX11_leave 15 = .ok (.ireturn, 1) := by decide +kernel
theorem dX11_leave_16 : decode cX11_leave 16 = .ok (.aload_n 0, 1) := by decide +kernel
theorem dX11_leave_17 : decode cX11_leave 17 = .ok (.getfield 35, 3) := by decide +kernel
theorem dX11_leave_20 : decode cX11_leave 20 = .ok (.aload_n 0, 1) := by decide +kernel
theorem dX11_leave_21 : decode cX11_leave 21 = .ok (.getfield 26, 3) := by decide +kernel
theorem dX11_leave_24 : decode cX11_leave 24 = .ok (.invokevirtual 178, 3) := by decide +kernel
theorem dX11_leave_27 : decode cX11_leave 27 = .ok (.aload_n 0, 1) := by decide +kernel
theorem dX11_leave_28 : decode cX11_leave 28 = .ok (.getfield 26, 3) := by decide +kernel
theorem dX11_leave_31 : decode cX11_leave 31 = .ok (.iload_n 1, 1) := by decide +kernel
theorem dX11_leave_32 : decode cX11_leave 32 = .ok (.invokevirtual 189, 3) := by decide +kernel
theorem dX11_leave_35 : decode cX11_leave 35 = .ok (.aload_n 0, 1) := by decide +kernel
theorem dX11_leave_36 : decode cX11_leave 36 = .ok (.getfield 45, 3) := by decide +kernel
theorem dX11_leave_39 : decode cX11_leave 39 = .ok (.iconst 1, 1) := by decide +kernel
theorem dX11_leave_40 : decode cX11_leave 40 = .ok (.putfield 185, 3) := by decide +kernel
theorem dX11_leave_43 : decode cX11_leave 43 = .ok (.aload_n 0, 1) := by decide +kernel
theorem dX11_leave_44 : decode cX11_leave 44 = .ok (.getfield 26, 3) := by decide +kernel
theorem dX11_leave_47 : decode cX11_leave 47 = .ok (.getfield 167, 3) := by decide +kernel
theorem dX11_leave_50 : decode cX11_leave 50 = .ok (.ireturn, 1) := by decide +kernel
theorem dX11_undo_0 : decode cX11_undo 0 = .ok (.aload_n 0, 1) := by decide +kernel
theorem dX11_undo_1 : decode cX11_undo 1 = .ok (.getfield 35, 3) := by decide +kernel
theorem dX11_undo_4 : decode cX11_undo 4 = .ok (.aload_n 0, 1) := by decide +kernel
theorem dX11_undo_5 : decode cX11_undo 5 = .ok (.getfield 26, 3) := by decide +kernel
theorem dX11_undo_8 : decode cX11_undo 8 = .ok (.invokevirtual 192, 3) := by decide +kernel
theorem dX11_undo_11 : decode cX11_undo 11 = .ok (.ifCond .ne 6, 3) := by decide +kernel
theorem dX11_undo_14 : decode cX11_undo 14 = .ok (.bipush (-2), 2) := by decide +kernel
theorem dX11_undo_16 : decode cX11_undo 16 = .ok (.ireturn, 1) := by decide +kernel
theorem dX11_undo_17 : decode cX11_undo 17 = .ok (.aload_n 0, 1) := by decide +kernel
theorem dX11_undo_18 : decode cX11_undo 18 = .ok (.getfield 45, 3) := by decide +kernel
theorem dX11_undo_21 : decode cX11_undo 21 = .ok (.iconst 1, 1) := by decide +kernel
theorem dX11_undo_22 : decode cX11_undo 22 = .ok (.putfield 185, 3) := by decide +kernel
theorem dX11_undo_25 : decode cX11_undo 25 = .ok (.aload_n 0, 1) := by decide +kernel
theorem dX11_undo_26 : decode cX11_undo 26 = .ok (.getfield 35, 3) := by decide +kernel
theorem dX11_undo_29 : decode cX11_undo 29 = .ok (.getfield 196, 3) := by decide +kernel
theorem dX11_undo_32 : decode cX11_undo 32 = .ok (.ireturn, 1) := by decide +kernel
theorem dX11_tempt_0 : decode cX11_tempt 0 = .ok (.iload_n 1, 1) := by decide +kernel
theorem dX11_tempt_1 : decode cX11_tempt 1 = .ok (.aload_n 0, 1) := by decide +kernel
theorem dX11_tempt_2 : decode cX11_tempt 2 = .ok (.getfield 80, 3) := by decide +kernel
theorem dX11_tempt_5 : decode cX11_tempt 5 = .ok (.getfield 136, 3) := by decide +kernel
theorem dX11_tempt_8 : decode cX11_tempt 8 = .ok (.invokestatic 119, 3) := by decide +kernel
theorem dX11_tempt_11 : decode cX11_tempt 11 = .ok (.ifCond .ne 12, 3) := by decide +kernel
theorem dX11_tempt_14 : decode cX11_tempt 14 = .ok (.iload_n 2, 1) := by decide +kernel
theorem dX11_tempt_15 : decode cX11_tempt 15 = .ok (.bipush 31, 2) := by decide +kernel
theorem dX11_tempt_17 : decode cX11_tempt 17 = .ok (.invokestatic 119, 3) := by decide +kernel
theorem dX11_tempt_20 : decode cX11_tempt 20 = .ok (.ifCond .eq 5, 3) := by decide +kernel
theorem dX11_tempt_23 : decode cX11_tempt 23 = .ok (.iconst (-1), 1) := by decide +kernel
theorem dX11_tempt_24 : decode cX11_tempt 24 = .ok (.ireturn, 1) := by decide +kernel
theorem dX11_tempt_25 : decode cX11_tempt 25 = .ok (.aload_n 0, 1) := by decide +kernel
theorem dX11_tempt_26 : decode cX11_tempt 26 = .ok (.getfield 52, 3) := by decide +kernel
theorem dX11_tempt_29 : decode cX11_tempt 29 = .ok (.aload_n 0, 1) := by decide +kernel
theorem dX11_tempt_30 : decode cX11_tempt 30 = .ok (.getfield 80, 3) := by decide +kernel
theorem dX11_tempt_33 : decode cX11_tempt 33 = .ok (.aload_n 0, 1) := by decide +kernel
theorem dX11_tempt_34 : decode cX11_tempt 34 = .ok (.invokevirtual 145, 3) := by decide +kernel
theorem dX11_tempt_37 : decode cX11_tempt 37 = .ok (.getfield 197, 3) := by decide +kernel
theorem dX11_tempt_40 : decode cX11_tempt 40 = .ok (.iload_n 2, 1) := by decide +kernel
theorem dX11_tempt_41 : decode cX11_tempt 41 = .ok (.aaload, 1) := by decide +kernel
theorem dX11_tempt_42 : decode cX11_tempt 42 = .ok (.iload_n 1, 1) := by decide +kernel
theorem dX11_tempt_43 : decode cX11_tempt 43 = .ok (.invokevirtual 200, 3) := by decide +kernel
theorem dX11_tempt_46 : decode cX11_tempt 46 = .ok (.ireturn, 1) := by decide +kernel
theorem dX11_fewest_0 : decode cX11_fewest 0 = .ok (.iload_n 1, 1) := by decide +kernel
theorem dX11_fewest_1 : decode cX11_fewest 1 = .ok (.iconst 1, 1) := by decide +kernel
theorem dX11_fewest_2 : decode cX11_fewest 2 = .ok (.aload_n 0, 1) := by decide +kernel
theorem dX11_fewest_3 : decode cX11_fewest 3 = .ok (.getfield 80, 3) := by decide +kernel
theorem dX11_fewest_6 : decode cX11_fewest 6 = .ok (.getfield 136, 3) := by decide +kernel
theorem dX11_fewest_9 : decode cX11_fewest 9 = .ok (.ishl, 1) := by decide +kernel
theorem dX11_fewest_10 : decode cX11_fewest 10 = .ok (.invokestatic 119, 3) := by decide +kernel
theorem dX11_fewest_13 : decode cX11_fewest 13 = .ok (.ifCond .ne 12, 3) := by decide +kernel
theorem dX11_fewest_16 : decode cX11_fewest 16 = .ok (.iload_n 2, 1) := by decide +kernel
theorem dX11_fewest_17 : decode cX11_fewest 17 = .ok (.bipush 31, 2) := by decide +kernel
theorem dX11_fewest_19 : decode cX11_fewest 19 = .ok (.invokestatic 119, 3) := by decide +kernel
theorem dX11_fewest_22 : decode cX11_fewest 22 = .ok (.ifCond .eq 5, 3) := by decide +kernel
theorem dX11_fewest_25 : decode cX11_fewest 25 = .ok (.iconst (-1), 1) := by decide +kernel
theorem dX11_fewest_26 : decode cX11_fewest 26 = .ok (.ireturn, 1) := by decide +kernel
theorem dX11_fewest_27 : decode cX11_fewest 27 = .ok (.aload_n 0, 1) := by decide +kernel
theorem dX11_fewest_28 : decode cX11_fewest 28 = .ok (.invokevirtual 145, 3) := by decide +kernel
theorem dX11_fewest_31 : decode cX11_fewest 31 = .ok (.getfield 153, 3) := by decide +kernel
theorem dX11_fewest_34 : decode cX11_fewest 34 = .ok (.iload_n 2, 1) := by decide +kernel
theorem dX11_fewest_35 : decode cX11_fewest 35 = .ok (.iaload, 1) := by decide +kernel
theorem dX11_fewest_36 : decode cX11_fewest 36 = .ok (.iload_n 1, 1) := by decide +kernel
theorem dX11_fewest_37 : decode cX11_fewest 37 = .ok (.iand, 1) := by decide +kernel
theorem dX11_fewest_38 : decode cX11_fewest 38 = .ok (.iload_n 1, 1) := by decide +kernel
theorem dX11_fewest_39 : decode cX11_fewest 39 = .ok (.if_icmp .ne 5, 3) := by decide +kernel
theorem dX11_fewest_42 : decode cX11_fewest 42 = .ok (.iconst 0, 1) := by decide +kernel
theorem dX11_fewest_43 : decode cX11_fewest 43 = .ok (.ireturn, 1) := by decide +kernel
theorem dX11_fewest_44 : decode cX11_fewest 44 = .ok (.aload_n 0, 1) := by decide +kernel
theorem dX11_fewest_45 : decode cX11_fewest 45 = .ok (.getfield 52, 3) := by decide +kernel
theorem dX11_fewest_48 : decode cX11_fewest 48 = .ok (.aload_n 0, 1) := by decide +kernel
theorem dX11_fewest_49 : decode cX11_fewest 49 = .ok (.getfield 80, 3) := by decide +kernel
theorem dX11_fewest_52 : decode cX11_fewest 52 = .ok (.aload_n 0, 1) := by decide +kernel
theorem dX11_fewest_53 : decode cX11_fewest 53 = .ok (.getfield 45, 3) := by decide +kernel
theorem dX11_fewest_56 : decode cX11_fewest 56 = .ok (.getfield 197, 3) := by decide +kernel
theorem dX11_fewest_59 : decode cX11_fewest 59 = .ok (.iload_n 2, 1) := by decide +kernel
theorem dX11_fewest_60 : decode cX11_fewest 60 = .ok (.aaload, 1) := by decide +kernel
theorem dX11_fewest_61 : decode cX11_fewest 61 = .ok (.iload_n 1, 1) := by decide +kernel
theorem dX11_fewest_62 : decode cX11_fewest 62 = .ok (.invokevirtual 204, 3) := by decide +kernel
theorem dX11_fewest_65 : decode cX11_fewest 65 = .ok (.ireturn, 1) := by decide +kernel
theorem dX11_safe_0 : decode cX11_safe 0 = .ok (.iload_n 1, 1) := by decide +kernel
theorem dX11_safe_1 : decode cX11_safe 1 = .ok (.bipush 31, 2) := by decide +kernel
theorem dX11_safe_3 : decode cX11_safe 3 = .ok (.invokestatic 119, 3) := by decide +kernel
theorem dX11_safe_6 : decode cX11_safe 6 = .ok (.ifCond .eq 5, 3) := by decide +kernel
theorem dX11_safe_9 : decode cX11_safe 9 = .ok (.iconst (-1), 1) := by decide +kernel
theorem dX11_safe_10 : decode cX11_safe 10 = .ok (.ireturn, 1) := by decide +kernel
theorem dX11_safe_11 : decode cX11_safe 11 = .ok (.aload_n 0, 1) := by decide +kernel
theorem dX11_safe_12 : decode cX11_safe 12 = .ok (.invokevirtual 145, 3) := by decide +kernel
theorem dX11_safe_15 : decode cX11_safe 15 = .ok (.getfield 153, 3) := by decide +kernel
theorem dX11_safe_18 : decode cX11_safe 18 = .ok (.iload_n 1, 1) := by decide +kernel
theorem dX11_safe_19 : decode cX11_safe 19 = .ok (.iaload, 1) := by decide +kernel
theorem dX11_safe_20 : decode cX11_safe 20 = .ok (.aload_n 0, 1) := by decide +kernel
theorem dX11_safe_21 : decode cX11_safe 21 = .ok (.getfield 52, 3) := by decide +kernel
theorem dX11_safe_24 : decode cX11_safe 24 = .ok (.aload_n 0, 1) := by decide +kernel
theorem dX11_safe_25 : decode cX11_safe 25 = .ok (.getfield 80, 3) := by decide +kernel
theorem dX11_safe_28 : decode cX11_safe 28 = .ok (.aload_n 0, 1) := by decide +kernel
theorem dX11_safe_29 : decode cX11_safe 29 = .ok (.getfield 45, 3) := by decide +kernel
theorem dX11_safe_32 : decode cX11_safe 32 = .ok (.getfield 197, 3) := by decide +kernel
theorem dX11_safe_35 : decode cX11_safe 35 = .ok (.iload_n 1, 1) := by decide +kernel
theorem dX11_safe_36 : decode cX11_safe 36 = .ok (.aaload, 1) := by decide +kernel
theorem dX11_safe_37 : decode cX11_safe 37 = .ok (.invokevirtual 207, 3) := by decide +kernel
theorem dX11_safe_40 : decode cX11_safe 40 = .ok (.ior, 1) := by decide +kernel
theorem dX11_safe_41 : decode cX11_safe 41 = .ok (.istore_n 2, 1) := by decide +kernel
theorem dX11_safe_42 : decode cX11_safe 42 = .ok (.iconst 1, 1) := by decide +kernel
theorem dX11_safe_43 : decode cX11_safe 43 = .ok (.aload_n 0, 1) := by decide +kernel
theorem dX11_safe_44 : decode cX11_safe 44 = .ok (.getfield 80, 3) := by decide +kernel
theorem dX11_safe_47 : decode cX11_safe 47 = .ok (.getfield 136, 3) := by decide +kernel
theorem dX11_safe_50 : decode cX11_safe 50 = .ok (.ishl, 1) := by decide +kernel
theorem dX11_safe_51 : decode cX11_safe 51 = .ok (.iconst 1, 1) := by decide +kernel
theorem dX11_safe_52 : decode cX11_safe 52 = .ok (.isub, 1) := by decide +kernel
theorem dX11_safe_53 : decode cX11_safe 53 = .ok (.iload_n 2, 1) := by decide +kernel
theorem dX11_safe_54 : decode cX11_safe 54 = .ok (.iconst (-1), 1) := by decide +kernel
theorem dX11_safe_55 : decode cX11_safe 55 = .ok (.ixor, 1) := by decide +kernel
theorem dX11_safe_56 : decode cX11_safe 56 = .ok (.iand, 1) := by decide +kernel
theorem dX11_safe_57 : decode cX11_safe 57 = .ok (.ireturn, 1) := by decide +kernel
theorem dX11_hang_0 : decode cX11_hang 0 = .ok (.iload_n 1, 1) := by decide +kernel
theorem dX11_hang_1 : decode cX11_hang 1 = .ok (.iconst 2, 1) := by decide +kernel
theorem dX11_hang_2 : decode cX11_hang 2 = .ok (.invokestatic 119, 3) := by decide +kernel
theorem dX11_hang_5 : decode cX11_hang 5 = .ok (.ifCond .eq 5, 3) := by decide +kernel
theorem dX11_hang_8 : decode cX11_hang 8 = .ok (.iconst (-1), 1) := by decide +kernel
theorem dX11_hang_9 : decode cX11_hang 9 = .ok (.ireturn, 1) := by decide +kernel
theorem dX11_hang_10 : decode cX11_hang 10 = .ok (.iconst 0, 1) := by decide +kernel
theorem dX11_hang_11 : decode cX11_hang 11 = .ok (.istore_n 2, 1) := by decide +kernel
theorem dX11_hang_12 : decode cX11_hang 12 = .ok (.iconst 0, 1) := by decide +kernel
theorem dX11_hang_13 : decode cX11_hang 13 = .ok (.istore_n 3, 1) := by decide +kernel
theorem dX11_hang_14 : decode cX11_hang 14 = .ok (.iload_n 3, 1) := by decide +kernel
theorem dX11_hang_15 : decode cX11_hang 15 = .ok (.aload_n 0, 1) := by decide +kernel
theorem dX11_hang_16 : decode cX11_hang 16 = .ok (.getfield 80, 3) := by decide +kernel
theorem dX11_hang_19 : decode cX11_hang 19 = .ok (.getfield 116, 3) := by decide +kernel
theorem dX11_hang_22 : decode cX11_hang 22 = .ok (.if_icmp .ge 58, 3) := by decide +kernel
theorem dX11_hang_25 : decode cX11_hang 25 = .ok (.aload_n 0, 1) := by decide +kernel
theorem dX11_hang_26 : decode cX11_hang 26 = .ok (.getfield 80, 3) := by decide +kernel
theorem dX11_hang_29 : decode cX11_hang 29 = .ok (.getfield 127, 3) := by decide +kernel
theorem dX11_hang_32 : decode cX11_hang 32 = .ok (.iload_n 3, 1) := by decide +kernel
theorem dX11_hang_33 : decode cX11_hang 33 = .ok (.iaload, 1) := by decide +kernel
theorem dX11_hang_34 : decode cX11_hang 34 = .ok (.invokestatic 211, 3) := by decide +kernel
theorem dX11_hang_37 : decode cX11_hang 37 = .ok (.aload_n 0, 1) := by decide +kernel
theorem dX11_hang_38 : decode cX11_hang 38 = .ok (.getfield 80, 3) := by decide +kernel
theorem dX11_hang_41 : decode cX11_hang 41 = .ok (.aload_n 0, 1) := by decide +kernel
theorem dX11_hang_42 : decode cX11_hang 42 = .ok (.getfield 80, 3) := by decide +kernel
theorem dX11_hang_45 : decode cX11_hang 45 = .ok (.getfield 123, 3) := by decide +kernel
theorem dX11_hang_48 : decode cX11_hang 48 = .ok (.iload_n 3, 1) := by decide +kernel
theorem dX11_hang_49 : decode cX11_hang 49 = .ok (.iaload, 1) := by decide +kernel
theorem dX11_hang_50 : decode cX11_hang 50 = .ok (.invokevirtual 216, 3) := by decide +kernel
theorem dX11_hang_53 : decode cX11_hang 53 = .ok (.isub, 1) := by decide +kernel
theorem dX11_hang_54 : decode cX11_hang 54 = .ok (.istore 4, 2) := by decide +kernel
theorem dX11_hang_56 : decode cX11_hang 56 = .ok (.iload 4, 2) := by decide +kernel
theorem dX11_hang_58 : decode cX11_hang 58 = .ok (.ifCond .le 16, 3) := by decide +kernel
theorem dX11_hang_61 : decode cX11_hang 61 = .ok (.iload_n 2, 1) := by decide +kernel
theorem dX11_hang_62 : decode cX11_hang 62 = .ok (.iload_n 1, 1) := by decide +kernel
theorem dX11_hang_63 : decode cX11_hang 63 = .ok (.ifCond .ne 8, 3) := by decide +kernel
theorem dX11_hang_66 : decode cX11_hang 66 = .ok (.iload 4, 2) := by decide +kernel
theorem dX11_hang_68 : decode cX11_hang 68 = .ok (.goto 4, 3) := by decide +kernel
theorem dX11_hang_71 : decode cX11_hang 71 = .ok (.iconst 1, 1) := by decide +kernel
theorem dX11_hang_72 : decode cX11_hang 72 = .ok (.iadd, 1) := by decide +kernel
theorem dX11_hang_73 : decode cX11_hang 73 = .ok (.istore_n 2, 1) := by decide +kernel
theorem dX11_hang_74 : decode cX11_hang 74 = .ok (.iinc 3 1, 3) := by decide +kernel
theorem dX11_hang_77 : decode cX11_hang 77 = .ok (.goto (-63), 3) := by decide +kernel
theorem dX11_hang_80 : decode cX11_hang 80 = .ok (.iload_n 2, 1) := by decide +kernel
theorem dX11_hang_81 : decode cX11_hang 81 = .ok (.ireturn, 1) := by decide +kernel
theorem dX11_seen_0 : decode cX11_seen 0 = .ok (.iload_n 1, 1) := by decide +kernel
theorem dX11_seen_1 : decode cX11_seen 1 = .ok (.bipush 41, 2) := by decide +kernel
theorem dX11_seen_3 : decode cX11_seen 3 = .ok (.invokestatic 119, 3) := by decide +kernel
theorem dX11_seen_6 : decode cX11_seen 6 = .ok (.ifCond .ne 12, 3) := by decide +kernel
theorem dX11_seen_9 : decode cX11_seen 9 = .ok (.iload_n 2, 1) := by decide +kernel
theorem dX11_seen_10 : decode cX11_seen 10 = .ok (.bipush 41, 2) := by decide +kernel
theorem dX11_seen_12 : decode cX11_seen 12 = .ok (.invokestatic 119, 3) := by decide +kernel
theorem dX11_seen_15 : decode cX11_seen 15 = .ok (.ifCond .eq 5, 3) := by decide +kernel
theorem dX11_seen_18 : decode cX11_seen 18 = .ok (.iconst (-1), 1) := by decide +kernel
theorem dX11_seen_19 : decode cX11_seen 19 = .ok (.ireturn, 1) := by decide +kernel
theorem dX11_seen_20 : decode cX11_seen 20 = .ok (.aload_n 0, 1) := by decide +kernel
theorem dX11_seen_21 : decode cX11_seen 21 = .ok (.getfield 59, 3) := by decide +kernel
theorem dX11_seen_24 : decode cX11_seen 24 = .ok (.iload_n 1, 1) := by decide +kernel
theorem dX11_seen_25 : decode cX11_seen 25 = .ok (.bipush 20, 2) := by decide +kernel
theorem dX11_seen_27 : decode cX11_seen 27 = .ok (.isub, 1) := by decide +kernel
theorem dX11_seen_28 : decode cX11_seen 28 = .ok (.iload_n 2, 1) := by decide +kernel
theorem dX11_seen_29 : decode cX11_seen 29 = .ok (.bipush 20, 2) := by decide +kernel
theorem dX11_seen_31 : decode cX11_seen 31 = .ok (.isub, 1) := by decide +kernel
theorem dX11_seen_32 : decode cX11_seen 32 = .ok (.invokevirtual 219, 3) := by decide +kernel
theorem dX11_seen_35 : decode cX11_seen 35 = .ok (.ifCond .eq 13, 3) := by decide +kernel
theorem dX11_seen_38 : decode cX11_seen 38 = .ok (.aload_n 0, 1) := by decide +kernel
theorem dX11_seen_39 : decode cX11_seen 39 = .ok (.getfield 59, 3) := by decide +kernel
theorem dX11_seen_42 : decode cX11_seen 42 = .ok (.getfield 221, 3) := by decide +kernel
theorem dX11_seen_45 : decode cX11_seen 45 = .ok (.goto 5, 3) := by decide +kernel
theorem dX11_seen_48 : decode cX11_seen 48 = .ok (.bipush (-3), 2) := by decide +kernel
theorem dX11_seen_50 : decode cX11_seen 50 = .ok (.ireturn, 1) := by decide +kernel
theorem dX11_forget_0 : decode cX11_forget 0 = .ok (.aload_n 0, 1) := by decide +kernel
theorem dX11_forget_1 : decode cX11_forget 1 = .ok (.getfield 59, 3) := by decide +kernel
theorem dX11_forget_4 : decode cX11_forget 4 = .ok (.invokevirtual 222, 3) := by decide +kernel
theorem dX11_forget_7 : decode cX11_forget 7 = .ok (.ireturn, 1) := by decide +kernel
theorem dX11_bears_0 : decode cX11_bears 0 = .ok (.iload_n 1, 1) := by decide +kernel
theorem dX11_bears_1 : decode cX11_bears 1 = .ok (.iconst 4, 1) := by decide +kernel
theorem dX11_bears_2 : decode cX11_bears 2 = .ok (.invokestatic 119, 3) := by decide +kernel
theorem dX11_bears_5 : decode cX11_bears 5 = .ok (.ifCond .eq 7, 3) := by decide +kernel
theorem dX11_bears_8 : decode cX11_bears 8 = .ok (.iconst (-1), 1) := by decide +kernel
theorem dX11_bears_9 : decode cX11_bears 9 = .ok (.goto 11, 3) := by decide +kernel
theorem dX11_bears_12 : decode cX11_bears 12 = .ok (.aload_n 0, 1) := by decide +kernel
theorem dX11_bears_13 : decode cX11_bears 13 = .ok (.getfield 59, 3) := by decide +kernel
theorem dX11_bears_16 : decode cX11_bears 16 = .ok (.iload_n 1, 1) := by decide +kernel
theorem dX11_bears_17 : decode cX11_bears 17 = .ok (.invokevirtual 223, 3) := by decide +kernel
theorem dX11_bears_20 : decode cX11_bears 20 = .ok (.ireturn, 1) := by decide +kernel
theorem dX11_look_0 : decode cX11_look 0 = .ok (.iload_n 1, 1) := by decide +kernel
theorem dX11_look_1 : decode cX11_look 1 = .ok (.iconst 4, 1) := by decide +kernel
theorem dX11_look_2 : decode cX11_look 2 = .ok (.invokestatic 119, 3) := by decide +kernel
theorem dX11_look_5 : decode cX11_look 5 = .ok (.ifCond .ne 11, 3) := by decide +kernel
theorem dX11_look_8 : decode cX11_look 8 = .ok (.iload_n 2, 1) := by decide +kernel
theorem dX11_look_9 : decode cX11_look 9 = .ok (.iconst 2, 1) := by decide +kernel
theorem dX11_look_10 : decode cX11_look 10 = .ok (.invokestatic 119, 3) := by decide +kernel
theorem dX11_look_13 : decode cX11_look 13 = .ok (.ifCond .eq 5, 3) := by decide +kernel
theorem dX11_look_16 : decode cX11_look 16 = .ok (.iconst (-1), 1) := by decide +kernel
theorem dX11_look_17 : decode cX11_look 17 = .ok (.ireturn, 1) := by decide +kernel
theorem dX11_look_18 : decode cX11_look 18 = .ok (.aload_n 0, 1) := by decide +kernel
theorem dX11_look_19 : decode cX11_look 19 = .ok (.getfield 59, 3) := by decide +kernel
theorem dX11_look_22 : decode cX11_look 22 = .ok (.iload_n 1, 1) := by decide +kernel
theorem dX11_look_23 : decode cX11_look 23 = .ok (.invokevirtual 223, 3) := by decide +kernel
theorem dX11_look_26 : decode cX11_look 26 = .ok (.istore_n 3, 1) := by decide +kernel
theorem dX11_look_27 : decode cX11_look 27 = .ok (.iload_n 3, 1) := by decide +kernel
theorem dX11_look_28 : decode cX11_look 28 = .ok (.ifCond .ne 6, 3) := by decide +kernel
theorem dX11_look_31 : decode cX11_look 31 = .ok (.bipush (-4), 2) := by decide +kernel
theorem dX11_look_33 : decode cX11_look 33 = .ok (.ireturn, 1) := by decide +kernel
theorem dX11_look_34 : decode cX11_look 34 = .ok (.aload_n 0, 1) := by decide +kernel
theorem dX11_look_35 : decode cX11_look 35 = .ok (.getfield 59, 3) := by decide +kernel
theorem dX11_look_38 : decode cX11_look 38 = .ok (.iload_n 1, 1) := by decide +kernel
theorem dX11_look_39 : decode cX11_look 39 = .ok (.iload_n 3, 1) := by decide +kernel
theorem dX11_look_40 : decode cX11_look 40 = .ok (.invokevirtual 226, 3) := by decide +kernel
theorem dX11_look_43 : decode cX11_look 43 = .ok (.istore 4, 2) := by decide +kernel
theorem dX11_look_45 : decode cX11_look 45 = .ok (.iload_n 2, 1) := by decide +kernel
theorem dX11_look_46 : decode cX11_look 46 = .ok (.ifCond .ne 8, 3) := by decide +kernel
theorem dX11_look_49 : decode cX11_look 49 = .ok (.iload 4, 2) := by decide +kernel
theorem dX11_look_51 : decode cX11_look 51 = .ok (.goto 14, 3) := by decide +kernel
theorem dX11_look_54 : decode cX11_look 54 = .ok (.aload_n 0, 1) := by decide +kernel
theorem dX11_look_55 : decode cX11_look 55 = .ok (.getfield 59, 3) := by decide +kernel
theorem dX11_look_58 : decode cX11_look 58 = .ok (.iload_n 1, 1) := by decide +kernel
theorem dX11_look_59 : decode cX11_look 59 = .ok (.iload_n 3, 1) := by decide +kernel
theorem dX11_look_60 : decode cX11_look 60 = .ok (.iload 4, 2) := by decide +kernel
theorem dX11_look_62 : decode cX11_look 62 = .ok (.invokevirtual 230, 3) := by decide +kernel
theorem dX11_look_65 : decode cX11_look 65 = .ok (.ireturn, 1) := by decide +kernel
theorem dX11_who_0 : decode cX11_who 0 = .ok (.iload_n 1, 1) := by decide +kernel
theorem dX11_who_1 : decode cX11_who 1 = .ok (.bipush 41, 2) := by decide +kernel
theorem dX11_who_3 : decode cX11_who 3 = .ok (.invokestatic 119, 3) := by decide +kernel
theorem dX11_who_6 : decode cX11_who 6 = .ok (.ifCond .ne 17, 3) := by decide +kernel
theorem dX11_who_9 : decode cX11_who 9 = .ok (.iload_n 2, 1) := by decide +kernel
theorem dX11_who_10 : decode cX11_who 10 = .ok (.bipush 41, 2) := by decide +kernel
theorem dX11_who_12 : decode cX11_who 12 = .ok (.invokestatic 119, 3) := by decide +kernel
theorem dX11_who_15 : decode cX11_who 15 = .ok (.ifCond .ne 8, 3) := by decide +kernel
theorem dX11_who_18 : decode cX11_who 18 = .ok (.iload_n 1, 1) := by decide +kernel
theorem dX11_who_19 : decode cX11_who 19 = .ok (.iload_n 2, 1) := by decide +kernel
theorem dX11_who_20 : decode cX11_who 20 = .ok (.if_icmp .ne 5, 3) := by decide +kernel
theorem dX11_who_23 : decode cX11_who 23 = .ok (.iconst (-1), 1) := by decide +kernel
theorem dX11_who_24 : decode cX11_who 24 = .ok (.ireturn, 1) := by decide +kernel
theorem dX11_who_25 : decode cX11_who 25 = .ok (.iconst 0, 1) := by decide +kernel
theorem dX11_who_26 : decode cX11_who 26 = .ok (.istore_n 3, 1) := by decide +kernel
theorem dX11_who_27 : decode cX11_who 27 = .ok (.iconst 0, 1) := by decide +kernel
theorem dX11_who_28 : decode cX11_who 28 = .ok (.istore 4, 2) := by decide +kernel
theorem dX11_who_30 : decode cX11_who 30 = .ok (.iload 4, 2) := by decide +kernel
theorem dX11_who_32 : decode cX11_who 32 = .ok (.aload_n 0, 1) := by decide +kernel
theorem dX11_who_33 : decode cX11_who 33 = .ok (.getfield 80, 3) := by decide +kernel
theorem dX11_who_36 : decode cX11_who 36 = .ok (.getfield 136, 3) := by decide +kernel
theorem dX11_who_39 : decode cX11_who 39 = .ok (.if_icmp .ge 36, 3) := by decide +kernel
theorem dX11_who_42 : decode cX11_who 42 = .ok (.aload_n 0, 1) := by decide +kernel
theorem dX11_who_43 : decode cX11_who 43 = .ok (.getfield 80, 3) := by decide +kernel
theorem dX11_who_46 : decode cX11_who 46 = .ok (.iload 4, 2) := by decide +kernel
theorem dX11_who_48 : decode cX11_who 48 = .ok (.iload_n 1, 1) := by decide +kernel
theorem dX11_who_49 : decode cX11_who 49 = .ok (.bipush 20, 2) := by decide +kernel
theorem dX11_who_51 : decode cX11_who 51 = .ok (.isub, 1) := by decide +kernel
theorem dX11_who_52 : decode cX11_who 52 = .ok (.invokevirtual 234, 3) := by decide +kernel
theorem dX11_who_55 : decode cX11_who 55 = .ok (.iload_n 2, 1) := by decide +kernel
theorem dX11_who_56 : decode cX11_who 56 = .ok (.bipush 20, 2) := by decide +kernel
theorem dX11_who_58 : decode cX11_who 58 = .ok (.isub, 1) := by decide +kernel
theorem dX11_who_59 : decode cX11_who 59 = .ok (.if_icmp .ne 10, 3) := by decide +kernel
theorem dX11_who_62 : decode cX11_who 62 = .ok (.iload_n 3, 1) := by decide +kernel
theorem dX11_who_63 : decode cX11_who 63 = .ok (.iconst 1, 1) := by decide +kernel
theorem dX11_who_64 : decode cX11_who 64 = .ok (.iload 4, 2) := by decide +kernel
theorem dX11_who_66 : decode cX11_who 66 = .ok (.ishl, 1) := by decide +kernel
theorem dX11_who_67 : decode cX11_who 67 = .ok (.ior, 1) := by decide +kernel
theorem dX11_who_68 : decode cX11_who 68 = .ok (.istore_n 3, 1) := by decide +kernel
theorem dX11_who_69 : decode cX11_who 69 = .ok (.iinc 4 1, 3) := by decide +kernel
theorem dX11_who_72 : decode cX11_who 72 = .ok (.goto (-42), 3) := by decide +kernel
theorem dX11_who_75 : decode cX11_who 75 = .ok (.iload_n 3, 1) := by decide +kernel
theorem dX11_who_76 : decode cX11_who 76 = .ok (.ireturn, 1) := by decide +kernel
theorem dX11_ends_0 : decode cX11_ends 0 = .ok (.iload_n 1, 1) := by decide +kernel
theorem dX11_ends_1 : decode cX11_ends 1 = .ok (.aload_n 0, 1) := by decide +kernel
theorem dX11_ends_2 : decode cX11_ends 2 = .ok (.getfield 80, 3) := by decide +kernel
theorem dX11_ends_5 : decode cX11_ends 5 = .ok (.getfield 136, 3) := by decide +kernel
theorem dX11_ends_8 : decode cX11_ends 8 = .ok (.invokestatic 119, 3) := by decide +kernel
theorem dX11_ends_11 : decode cX11_ends 11 = .ok (.ifCond .ne 35, 3) := by decide +kernel
theorem dX11_ends_14 : decode cX11_ends 14 = .ok (.iload_n 2, 1) := by decide +kernel
theorem dX11_ends_15 : decode cX11_ends 15 = .ok (.aload_n 0, 1) := by decide +kernel
theorem dX11_ends_16 : decode cX11_ends 16 = .ok (.getfield 80, 3) := by decide +kernel
theorem dX11_ends_19 : decode cX11_ends 19 = .ok (.getfield 136, 3) := by decide +kernel
theorem dX11_ends_22 : decode cX11_ends 22 = .ok (.invokestatic 119, 3) := by decide +kernel
theorem dX11_ends_25 : decode cX11_ends 25 = .ok (.ifCond .ne 21, 3) := by decide +kernel
theorem dX11_ends_28 : decode cX11_ends 28 = .ok (.iload_n 3, 1) := by decide +kernel
theorem dX11_ends_29 : decode cX11_ends 29 = .ok (.bipush 41, 2) := by decide +kernel
theorem dX11_ends_31 : decode cX11_ends 31 = .ok (.invokestatic 119, 3) := by decide +kernel
theorem dX11_ends_34 : decode cX11_ends 34 = .ok (.ifCond .ne 12, 3) := by decide +kernel
theorem dX11_ends_37 : decode cX11_ends 37 = .ok (.iload 4, 2) := by decide +kernel
theorem dX11_ends_39 : decode cX11_ends 39 = .ok (.iconst 2, 1) := by decide +kernel
theorem dX11_ends_40 : decode cX11_ends 40 = .ok (.invokestatic 119, 3) := by decide +kernel
theorem dX11_ends_43 : decode cX11_ends 43 = .ok (.ifCond .eq 5, 3) := by decide +kernel
theorem dX11_ends_46 : decode cX11_ends 46 = .ok (.iconst (-1), 1) := by decide +kernel
theorem dX11_ends_47 : decode cX11_ends 47 = .ok (.ireturn, 1) := by decide +kernel
theorem dX11_ends_48 : decode cX11_ends 48 = .ok (.iload_n 3, 1) := by decide +kernel
theorem dX11_ends_49 : decode cX11_ends 49 = .ok (.bipush 20, 2) := by decide +kernel
theorem dX11_ends_51 : decode cX11_ends 51 = .ok (.isub, 1) := by decide +kernel
theorem dX11_ends_52 : decode cX11_ends 52 = .ok (.istore 5, 2) := by decide +kernel
theorem dX11_ends_54 : decode cX11_ends 54 = .ok (.iconst 0, 1) := by decide +kernel
theorem dX11_ends_55 : decode cX11_ends 55 = .ok (.istore 6, 2) := by decide +kernel
theorem dX11_ends_57 : decode cX11_ends 57 = .ok (.iload 6, 2) := by decide +kernel
theorem dX11_ends_59 : decode cX11_ends 59 = .ok (.bipush 80, 2) := by decide +kernel
theorem dX11_ends_61 : decode cX11_ends 61 = .ok (.if_icmp .gt 78, 3) := by decide +kernel
theorem dX11_ends_64 : decode cX11_ends 64 = .ok (.aload_n 0, 1) := by decide +kernel
theorem dX11_ends_65 : decode cX11_ends 65 = .ok (.getfield 80, 3) := by decide +kernel
theorem dX11_ends_68 : decode cX11_ends 68 = .ok (.iload_n 1, 1) := by decide +kernel
theorem dX11_ends_69 : decode cX11_ends 69 = .ok (.iload 5, 2) := by decide +kernel
theorem dX11_ends_71 : decode cX11_ends 71 = .ok (.invokevirtual 234, 3) := by decide +kernel
theorem dX11_ends_74 : decode cX11_ends 74 = .ok (.iload 5, 2) := by decide +kernel
theorem dX11_ends_76 : decode cX11_ends 76 = .ok (.if_icmp .ne 34, 3) := by decide +kernel
theorem dX11_ends_79 : decode cX11_ends 79 = .ok (.aload_n 0, 1) := by decide +kernel
theorem dX11_ends_80 : decode cX11_ends 80 = .ok (.getfield 80, 3) := by decide +kernel
theorem dX11_ends_83 : decode cX11_ends 83 = .ok (.iload_n 2, 1) := by decide +kernel
theorem dX11_ends_84 : decode cX11_ends 84 = .ok (.iload 5, 2) := by decide +kernel
theorem dX11_ends_86 : decode cX11_ends 86 = .ok (.invokevirtual 234, 3) := by decide +kernel
theorem dX11_ends_89 : decode cX11_ends 89 = .ok (.iload 5, 2) := by decide +kernel
theorem dX11_ends_91 : decode cX11_ends 91 = .ok (.if_icmp .ne 19, 3) := by decide +kernel
theorem dX11_ends_94 : decode cX11_ends 94 = .ok (.iload 4, 2) := by decide +kernel
theorem dX11_ends_96 : decode cX11_ends 96 = .ok (.ifCond .ne 11, 3) := by decide +kernel
theorem dX11_ends_99 : decode cX11_ends 99 = .ok (.iload 5, 2) := by decide +kernel
theorem dX11_ends_101 : decode cX11_ends 101 = .ok (.bipush 40, 2) := by decide +kernel
theorem dX11_ends_103 : decode cX11_ends 103 = .ok (.iadd, 1) := by decide +kernel
theorem dX11_ends_104 : decode cX11_ends 104 = .ok (.goto 5, 3) := by decide +kernel
theorem dX11_ends_107 : decode cX11_ends 107 = .ok (.iload 6, 2) := by decide +kernel
theorem dX11_ends_109 : decode cX11_ends 109 = .ok (.ireturn, 1) := by decide +kernel
theorem dX11_ends_110 : decode cX11_ends 110 = .ok (.aload_n 0, 1) := by decide +kernel
theorem dX11_ends_111 : decode cX11_ends 111 = .ok (.getfield 80, 3) := by decide +kernel
theorem dX11_ends_114 : decode cX11_ends 114 = .ok (.iload 6, 2) := by decide +kernel
theorem dX11_ends_116 : decode cX11_ends 116 = .ok (.iconst 2, 1) := by decide +kernel
theorem dX11_ends_117 : decode cX11_ends 117 = .ok (.irem, 1) := by decide +kernel
theorem dX11_ends_118 : decode cX11_ends 118 = .ok (.ifCond .ne 7, 3) := by decide +kernel
theorem dX11_ends_121 : decode cX11_ends 121 = .ok (.iload_n 1, 1) := by decide +kernel
theorem dX11_ends_122 : decode cX11_ends 122 = .ok (.goto 4, 3) := by decide +kernel
theorem dX11_ends_125 : decode cX11_ends 125 = .ok (.iload_n 2, 1) := by decide +kernel
theorem dX11_ends_126 : decode cX11_ends 126 = .ok (.iload 5, 2) := by decide +kernel
theorem dX11_ends_128 : decode cX11_ends 128 = .ok (.invokevirtual 234, 3) := by decide +kernel
theorem dX11_ends_131 : decode cX11_ends 131 = .ok (.istore 5, 2) := by decide +kernel
theorem dX11_ends_133 : decode cX11_ends 133 = .ok (.iinc 6 1, 3) := by decide +kernel
theorem dX11_ends_136 : decode cX11_ends 136 = .ok (.goto (-79), 3) := by decide +kernel
theorem dX11_ends_139 : decode cX11_ends 139 = .ok (.bipush (-4), 2) := by decide +kernel
theorem dX11_ends_141 : decode cX11_ends 141 = .ok (.ireturn, 1) := by decide +kernel
theorem dX11_wire_0 : decode cX11_wire 0 = .ok (.iload_n 1, 1) := by decide +kernel
theorem dX11_wire_1 : decode cX11_wire 1 = .ok (.bipush 41, 2) := by decide +kernel
theorem dX11_wire_3 : decode cX11_wire 3 = .ok (.invokestatic 119, 3) := by decide +kernel
theorem dX11_wire_6 : decode cX11_wire 6 = .ok (.ifCond .ne 53, 3) := by decide +kernel
theorem dX11_wire_9 : decode cX11_wire 9 = .ok (.iload_n 2, 1) := by decide +kernel
theorem dX11_wire_10 : decode cX11_wire 10 = .ok (.bipush 21, 2) := by decide +kernel
theorem dX11_wire_12 : decode cX11_wire 12 = .ok (.invokestatic 119, 3) := by decide +kernel
theorem dX11_wire_15 : decode cX11_wire 15 = .ok (.ifCond .ne 44, 3) := by decide +kernel
theorem dX11_wire_18 : decode cX11_wire 18 = .ok (.iload_n 3, 1) := by decide +kernel
theorem dX11_wire_19 : decode cX11_wire 19 = .ok (.bipush 7, 2) := by decide +kernel
theorem dX11_wire_21 : decode cX11_wire 21 = .ok (.invokestatic 119, 3) := by decide +kernel
theorem dX11_wire_24 : decode cX11_wire 24 = .ok (.ifCond .ne 35, 3) := by decide +kernel
theorem dX11_wire_27 : decode cX11_wire 27 = .ok (.iload 4, 2) := by decide +kernel
theorem dX11_wire_29 : decode cX11_wire 29 = .ok (.bipush 11, 2) := by decide +kernel
theorem dX11_wire_31 : decode cX11_wire 31 = .ok (.invokestatic 119, 3) := by decide +kernel
theorem dX11_wire_34 : decode cX11_wire 34 = .ok (.ifCond .ne 25, 3) := by decide +kernel
theorem dX11_wire_37 : decode cX11_wire 37 = .ok (.iload 5, 2) := by decide +kernel
theorem dX11_wire_39 : decode cX11_wire 39 = .ok (.bipush 11, 2) := by decide +kernel
theorem dX11_wire_41 : decode cX11_wire 41 = .ok (.iload 4, 2) := by decide +kernel
theorem dX11_wire_43 : decode cX11_wire 43 = .ok (.isub, 1) := by decide +kernel
theorem dX11_wire_44 : decode cX11_wire 44 = .ok (.invokestatic 119, 3) := by decide +kernel
theorem dX11_wire_47 : decode cX11_wire 47 = .ok (.ifCond .ne 12, 3) := by decide +kernel
theorem dX11_wire_50 : decode cX11_wire 50 = .ok (.iload 6, 2) := by decide +kernel
theorem dX11_wire_52 : decode cX11_wire 52 = .ok (.iconst 2, 1) := by decide +kernel
theorem dX11_wire_53 : decode cX11_wire 53 = .ok (.invokestatic 119, 3) := by decide +kernel
theorem dX11_wire_56 : decode cX11_wire 56 = .ok (.ifCond .eq 5, 3) := by decide +kernel
theorem dX11_wire_59 : decode cX11_wire 59 = .ok (.iconst (-1), 1) := by decide +kernel
theorem dX11_wire_60 : decode cX11_wire 60 = .ok (.ireturn, 1) := by decide +kernel
theorem dX11_wire_61 : decode cX11_wire 61 = .ok (.aload_n 0, 1) := by decide +kernel
theorem dX11_wire_62 : decode cX11_wire 62 = .ok (.getfield 73, 3) := by decide +kernel
theorem dX11_wire_65 : decode cX11_wire 65 = .ok (.iload_n 3, 1) := by decide +kernel
theorem dX11_wire_66 : decode cX11_wire 66 = .ok (.iload 4, 2) := by decide +kernel
theorem dX11_wire_68 : decode cX11_wire 68 = .ok (.iload 5, 2) := by decide +kernel
theorem dX11_wire_70 : decode cX11_wire 70 = .ok (.invokevirtual 237, 3) := by decide +kernel
theorem dX11_wire_73 : decode cX11_wire 73 = .ok (.aload_n 0, 1) := by decide +kernel
theorem dX11_wire_74 : decode cX11_wire 74 = .ok (.getfield 73, 3) := by decide +kernel
theorem dX11_wire_77 : decode cX11_wire 77 = .ok (.iload_n 1, 1) := by decide +kernel
theorem dX11_wire_78 : decode cX11_wire 78 = .ok (.bipush 20, 2) := by decide +kernel
theorem dX11_wire_80 : decode cX11_wire 80 = .ok (.isub, 1) := by decide +kernel
theorem dX11_wire_81 : decode cX11_wire 81 = .ok (.iload_n 2, 1) := by decide +kernel
theorem dX11_wire_82 : decode cX11_wire 82 = .ok (.invokevirtual 240, 3) := by decide +kernel
theorem dX11_wire_85 : decode cX11_wire 85 = .ok (.istore 7, 2) := by decide +kernel
theorem dX11_wire_87 : decode cX11_wire 87 = .ok (.aload_n 0, 1) := by decide +kernel
theorem dX11_wire_88 : decode cX11_wire 88 = .ok (.getfield 73, 3) := by decide +kernel
theorem dX11_wire_91 : decode cX11_wire 91 = .ok (.iload_n 3, 1) := by decide +kernel
theorem dX11_wire_92 : decode cX11_wire 92 = .ok (.invokevirtual 243, 3) := by decide +kernel
theorem dX11_wire_95 : decode cX11_wire 95 = .ok (.istore 8, 2) := by decide +kernel
theorem dX11_wire_97 : decode cX11_wire 97 = .ok (.iload 7, 2) := by decide +kernel
theorem dX11_wire_99 : decode cX11_wire 99 = .ok (.iload 8, 2) := by decide +kernel
theorem dX11_wire_101 : decode cX11_wire 101 = .ok (.invokestatic 246, 3) := by decide +kernel
theorem dX11_wire_104 : decode cX11_wire 104 = .ok (.istore 9, 2) := by decide +kernel
theorem dX11_wire_106 : decode cX11_wire 106 = .ok (.iload 6, 2) := by decide +kernel
theorem dX11_wire_108 : decode cX11_wire 108 = .ok (.ifCond .ne 8, 3) := by decide +kernel
theorem dX11_wire_111 : decode cX11_wire 111 = .ok (.iload 7, 2) := by decide +kernel
theorem dX11_wire_113 : decode cX11_wire 113 = .ok (.goto 5, 3) := by decide +kernel
theorem dX11_wire_116 : decode cX11_wire 116 = .ok (.iload 8, 2) := by decide +kernel
theorem dX11_wire_118 : decode cX11_wire 118 = .ok (.istore 10, 2) := by decide +kernel
theorem dX11_wire_120 : decode cX11_wire 120 = .ok (.iload 9, 2) := by decide +kernel
theorem dX11_wire_122 : decode cX11_wire 122 = .ok (.ifCond .le 11, 3) := by decide +kernel
theorem dX11_wire_125 : decode cX11_wire 125 = .ok (.iload 10, 2) := by decide +kernel
theorem dX11_wire_127 : decode cX11_wire 127 = .ok (.iload 9, 2) := by decide +kernel
theorem dX11_wire_129 : decode cX11_wire 129 = .ok (.idiv, 1) := by decide +kernel
theorem dX11_wire_130 : decode cX11_wire 130 = .ok (.goto 5, 3) := by decide +kernel
theorem dX11_wire_133 : decode cX11_wire 133 = .ok (.iload 10, 2) := by decide +kernel
theorem dX11_wire_135 : decode cX11_wire 135 = .ok (.ireturn, 1) := by decide +kernel
theorem dX11_most_0 : decode cX11_most 0 = .ok (.iload_n 1, 1) := by decide +kernel
theorem dX11_most_1 : decode cX11_most 1 = .ok (.iconst 2, 1) := by decide +kernel
theorem dX11_most_2 : decode cX11_most 2 = .ok (.invokestatic 119, 3) := by decide +kernel
theorem dX11_most_5 : decode cX11_most 5 = .ok (.ifCond .eq 5, 3) := by decide +kernel
theorem dX11_most_8 : decode cX11_most 8 = .ok (.iconst (-1), 1) := by decide +kernel
theorem dX11_most_9 : decode cX11_most 9 = .ok (.ireturn, 1) := by decide +kernel
theorem dX11_most_10 : decode cX11_most 10 = .ok (.aload_n 0, 1) := by decide +kernel
theorem dX11_most_11 : decode cX11_most 11 = .ok (.getfield 80, 3) := by decide +kernel
theorem dX11_most_14 : decode cX11_most 14 = .ok (.getfield 136, 3) := by decide +kernel
theorem dX11_most_17 : decode cX11_most 17 = .ok (.ifCond .ne 6, 3) := by decide +kernel
theorem dX11_most_20 : decode cX11_most 20 = .ok (.bipush (-4), 2) := by decide +kernel
theorem dX11_most_22 : decode cX11_most 22 = .ok (.ireturn, 1) := by decide +kernel
theorem dX11_most_23 : decode cX11_most 23 = .ok (.iconst 0, 1) := by decide +kernel
theorem dX11_most_24 : decode cX11_most 24 = .ok (.istore_n 2, 1) := by decide +kernel
theorem dX11_most_25 : decode cX11_most 25 = .ok (.iconst 1, 1) := by decide +kernel
theorem dX11_most_26 : decode cX11_most 26 = .ok (.istore_n 3, 1) := by decide +kernel
theorem dX11_most_27 : decode cX11_most 27 = .ok (.iload_n 3, 1) := by decide +kernel
theorem dX11_most_28 : decode cX11_most 28 = .ok (.aload_n 0, 1) := by decide +kernel
theorem dX11_most_29 : decode cX11_most 29 = .ok (.getfield 80, 3) := by decide +kernel
theorem dX11_most_32 : decode cX11_most 32 = .ok (.getfield 136, 3) := by decide +kernel
theorem dX11_most_35 : decode cX11_most 35 = .ok (.if_icmp .ge 30, 3) := by decide +kernel
theorem dX11_most_38 : decode cX11_most 38 = .ok (.aload_n 0, 1) := by decide +kernel
theorem dX11_most_39 : decode cX11_most 39 = .ok (.invokevirtual 145, 3) := by decide +kernel
theorem dX11_most_42 : decode cX11_most 42 = .ok (.iload_n 3, 1) := by decide +kernel
theorem dX11_most_43 : decode cX11_most 43 = .ok (.invokevirtual 249, 3) := by decide +kernel
theorem dX11_most_46 : decode cX11_most 46 = .ok (.aload_n 0, 1) := by decide +kernel
theorem dX11_most_47 : decode cX11_most 47 = .ok (.invokevirtual 145, 3) := by decide +kernel
theorem dX11_most_50 : decode cX11_most 50 = .ok (.iload_n 2, 1) := by decide +kernel
theorem dX11_most_51 : decode cX11_most 51 = .ok (.invokevirtual 249, 3) := by decide +kernel
theorem dX11_most_54 : decode cX11_most 54 = .ok (.if_icmp .le 5, 3) := by decide +kernel
theorem dX11_most_57 : decode cX11_most 57 = .ok (.iload_n 3, 1) := by decide +kernel
theorem dX11_most_58 : decode cX11_most 58 = .ok (.istore_n 2, 1) := by decide +kernel
theorem dX11_most_59 : decode cX11_most 59 = .ok (.iinc 3 1, 3) := by decide +kernel
theorem dX11_most_62 : decode cX11_most 62 = .ok (.goto (-35), 3) := by decide +kernel
theorem dX11_most_65 : decode cX11_most 65 = .ok (.iload_n 1, 1) := by decide +kernel
theorem dX11_most_66 : decode cX11_most 66 = .ok (.ifCond .ne 7, 3) := by decide +kernel
theorem dX11_most_69 : decode cX11_most 69 = .ok (.iload_n 2, 1) := by decide +kernel
theorem dX11_most_70 : decode cX11_most 70 = .ok (.goto 11, 3) := by decide +kernel
theorem dX11_most_73 : decode cX11_most 73 = .ok (.aload_n 0, 1) := by decide +kernel
theorem dX11_most_74 : decode cX11_most 74 = .ok (.invokevirtual 145, 3) := by decide +kernel
theorem dX11_most_77 : decode cX11_most 77 = .ok (.iload_n 2, 1) := by decide +kernel
theorem dX11_most_78 : decode cX11_most 78 = .ok (.invokevirtual 249, 3) := by decide +kernel
theorem dX11_most_81 : decode cX11_most 81 = .ok (.ireturn, 1) := by decide +kernel
theorem dX11_patches_0 : decode cX11_patches 0 = .ok (.iload_n 1, 1) := by decide +kernel
theorem dX11_patches_1 : decode cX11_patches 1 = .ok (.bipush 31, 2) := by decide +kernel
theorem dX11_patches_3 : decode cX11_patches 3 = .ok (.invokestatic 119, 3) := by decide +kernel
theorem dX11_patches_6 : decode cX11_patches 6 = .ok (.ifCond .eq 5, 3) := by decide +kernel
theorem dX11_patches_9 : decode cX11_patches 9 = .ok (.iconst (-1), 1) := by decide +kernel
theorem dX11_patches_10 : decode cX11_patches 10 = .ok (.ireturn, 1) := by decide +kernel
theorem dX11_patches_11 : decode cX11_patches 11 = .ok (.iconst 0, 1) := by decide +kernel
theorem dX11_patches_12 : decode cX11_patches 12 = .ok (.istore_n 2, 1) := by decide +kernel
theorem dX11_patches_13 : decode cX11_patches 13 = .ok (.iconst 0, 1) := by decide +kernel
theorem dX11_patches_14 : decode cX11_patches 14 = .ok (.istore_n 3, 1) := by decide +kernel
theorem dX11_patches_15 : decode cX11_patches 15 = .ok (.iload_n 3, 1) := by decide +kernel
theorem dX11_patches_16 : decode cX11_patches 16 = .ok (.aload_n 0, 1) := by decide +kernel
theorem dX11_patches_17 : decode cX11_patches 17 = .ok (.getfield 80, 3) := by decide +kernel
theorem dX11_patches_20 : decode cX11_patches 20 = .ok (.getfield 116, 3) := by decide +kernel
theorem dX11_patches_23 : decode cX11_patches 23 = .ok (.if_icmp .ge 35, 3) := by decide +kernel
theorem dX11_patches_26 : decode cX11_patches 26 = .ok (.aload_n 0, 1) := by decide +kernel
theorem dX11_patches_27 : decode cX11_patches 27 = .ok (.invokevirtual 145, 3) := by decide +kernel
theorem dX11_patches_30 : decode cX11_patches 30 = .ok (.getfield 149, 3) := by decide +kernel
theorem dX11_patches_33 : decode cX11_patches 33 = .ok (.iload_n 1, 1) := by decide +kernel
theorem dX11_patches_34 : decode cX11_patches 34 = .ok (.aaload, 1) := by decide +kernel
theorem dX11_patches_35 : decode cX11_patches 35 = .ok (.iload_n 3, 1) := by decide +kernel
theorem dX11_patches_36 : decode cX11_patches 36 = .ok (.iaload, 1) := by decide +kernel
theorem dX11_patches_37 : decode cX11_patches 37 = .ok (.aload_n 0, 1) := by decide +kernel
theorem dX11_patches_38 : decode cX11_patches 38 = .ok (.getfield 80, 3) := by decide +kernel
theorem dX11_patches_41 : decode cX11_patches 41 = .ok (.getfield 133, 3) := by decide +kernel
theorem dX11_patches_44 : decode cX11_patches 44 = .ok (.iload_n 3, 1) := by decide +kernel
theorem dX11_patches_45 : decode cX11_patches 45 = .ok (.iaload, 1) := by decide +kernel
theorem dX11_patches_46 : decode cX11_patches 46 = .ok (.if_icmp .ne 6, 3) := by decide +kernel
theorem dX11_patches_49 : decode cX11_patches 49 = .ok (.iinc 2 1, 3) := by decide +kernel
theorem dX11_patches_52 : decode cX11_patches 52 = .ok (.iinc 3 1, 3) := by decide +kernel
theorem dX11_patches_55 : decode cX11_patches 55 = .ok (.goto (-40), 3) := by decide +kernel
theorem dX11_patches_58 : decode cX11_patches 58 = .ok (.iload_n 2, 1) := by decide +kernel
theorem dX11_patches_59 : decode cX11_patches 59 = .ok (.ireturn, 1) := by decide +kernel
theorem dX11_night_0 : decode cX11_night 0 = .ok (.iload_n 1, 1) := by decide +kernel
theorem dX11_night_1 : decode cX11_night 1 = .ok (.sipush 10000, 3) := by decide +kernel
theorem dX11_night_4 : decode cX11_night 4 = .ok (.invokestatic 119, 3) := by decide +kernel
theorem dX11_night_7 : decode cX11_night 7 = .ok (.ifCond .ne 11, 3) := by decide +kernel
theorem dX11_night_10 : decode cX11_night 10 = .ok (.iload_n 2, 1) := by decide +kernel
theorem dX11_night_11 : decode cX11_night 11 = .ok (.iconst 2, 1) := by decide +kernel
theorem dX11_night_12 : decode cX11_night 12 = .ok (.invokestatic 119, 3) := by decide +kernel
theorem dX11_night_15 : decode cX11_night 15 = .ok (.ifCond .eq 5, 3) := by decide +kernel
theorem dX11_night_18 : decode cX11_night 18 = .ok (.iconst (-1), 1) := by decide +kernel
theorem dX11_night_19 : decode cX11_night 19 = .ok (.ireturn, 1) := by decide +kernel
theorem dX11_night_20 : decode cX11_night 20 = .ok (.aload_n 0, 1) := by decide +kernel
theorem dX11_night_21 : decode cX11_night 21 = .ok (.getfield 66, 3) := by decide +kernel
theorem dX11_night_24 : decode cX11_night 24 = .ok (.aload_n 0, 1) := by decide +kernel
theorem dX11_night_25 : decode cX11_night 25 = .ok (.getfield 80, 3) := by decide +kernel
theorem dX11_night_28 : decode cX11_night 28 = .ok (.iload_n 1, 1) := by decide +kernel
theorem dX11_night_29 : decode cX11_night 29 = .ok (.invokevirtual 252, 3) := by decide +kernel
theorem dX11_night_32 : decode cX11_night 32 = .ok (.istore_n 3, 1) := by decide +kernel
theorem dX11_night_33 : decode cX11_night 33 = .ok (.iload_n 2, 1) := by decide +kernel
theorem dX11_night_34 : decode cX11_night 34 = .ok (.ifCond .ne 7, 3) := by decide +kernel
theorem dX11_night_37 : decode cX11_night 37 = .ok (.iload_n 3, 1) := by decide +kernel
theorem dX11_night_38 : decode cX11_night 38 = .ok (.goto 15, 3) := by decide +kernel
theorem dX11_night_41 : decode cX11_night 41 = .ok (.aload_n 0, 1) := by decide +kernel
theorem dX11_night_42 : decode cX11_night 42 = .ok (.getfield 66, 3) := by decide +kernel
theorem dX11_night_45 : decode cX11_night 45 = .ok (.getfield 256, 3) := by decide +kernel
theorem dX11_night_48 : decode cX11_night 48 = .ok (.iconst 0, 1) := by decide +kernel
theorem dX11_night_49 : decode cX11_night 49 = .ok (.iaload, 1) := by decide +kernel
theorem dX11_night_50 : decode cX11_night 50 = .ok (.bipush 40, 2) := by decide +kernel
theorem dX11_night_52 : decode cX11_night 52 = .ok (.iadd, 1) := by decide +kernel
theorem dX11_night_53 : decode cX11_night 53 = .ok (.ireturn, 1) := by decide +kernel
theorem dX11_keep_0 : decode cX11_keep 0 = .ok (.aload_n 0, 1) := by decide +kernel
theorem dX11_keep_1 : decode cX11_keep 1 = .ok (.getfield 39, 3) := by decide +kernel
theorem dX11_keep_4 : decode cX11_keep 4 = .ok (.getfield 196, 3) := by decide +kernel
theorem dX11_keep_7 : decode cX11_keep 7 = .ok (.iconst 2, 1) := by decide +kernel
theorem dX11_keep_8 : decode cX11_keep 8 = .ok (.if_icmp .lt 6, 3) := by decide +kernel
theorem dX11_keep_11 : decode cX11_keep 11 = .ok (.bipush (-3), 2) := by decide +kernel
theorem dX11_keep_13 : decode cX11_keep 13 = .ok (.ireturn, 1) := by decide +kernel
theorem dX11_keep_14 : decode cX11_keep 14 = .ok (.aload_n 0, 1) := by decide +kernel
theorem dX11_keep_15 : decode cX11_keep 15 = .ok (.getfield 39, 3) := by decide +kernel
theorem dX11_keep_18 : decode cX11_keep 18 = .ok (.aload_n 0, 1) := by decide +kernel
theorem dX11_keep_19 : decode cX11_keep 19 = .ok (.getfield 26, 3) := by decide +kernel
theorem dX11_keep_22 : decode cX11_keep 22 = .ok (.invokevirtual 178, 3) := by decide +kernel
theorem dX11_keep_25 : decode cX11_keep 25 = .ok (.aload_n 0, 1) := by decide +kernel
theorem dX11_keep_26 : decode cX11_keep 26 = .ok (.getfield 39, 3) := by decide +kernel
theorem dX11_keep_29 : decode cX11_keep 29 = .ok (.getfield 196, 3) := by decide +kernel
theorem dX11_keep_32 : decode cX11_keep 32 = .ok (.ireturn, 1) := by decide +kernel
theorem dX11_back_0 : decode cX11_back 0 = .ok (.aload_n 0, 1) := by decide +kernel
theorem dX11_back_1 : decode cX11_back 1 = .ok (.getfield 39, 3) := by decide +kernel
theorem dX11_back_4 : decode cX11_back 4 = .ok (.aload_n 0, 1) := by decide +kernel
theorem dX11_back_5 : decode cX11_back 5 = .ok (.getfield 26, 3) := by decide +kernel
theorem dX11_back_8 : decode cX11_back 8 = .ok (.invokevirtual 192, 3) := by decide +kernel
theorem dX11_back_11 : decode cX11_back 11 = .ok (.ifCond .ne 6, 3) := by decide +kernel
theorem dX11_back_14 : decode cX11_back 14 = .ok (.bipush (-2), 2) := by decide +kernel
theorem dX11_back_16 : decode cX11_back 16 = .ok (.ireturn, 1) := by decide +kernel
theorem dX11_back_17 : decode cX11_back 17 = .ok (.aload_n 0, 1) := by decide +kernel
theorem dX11_back_18 : decode cX11_back 18 = .ok (.getfield 35, 3) := by decide +kernel
theorem dX11_back_21 : decode cX11_back 21 = .ok (.iconst 0, 1) := by decide +kernel
theorem dX11_back_22 : decode cX11_back 22 = .ok (.putfield 196, 3) := by decide +kernel
theorem dX11_back_25 : decode cX11_back 25 = .ok (.aload_n 0, 1) := by decide +kernel
theorem dX11_back_26 : decode cX11_back 26 = .ok (.getfield 45, 3) := by decide +kernel
theorem dX11_back_29 : decode cX11_back 29 = .ok (.iconst 1, 1) := by decide +kernel
theorem dX11_back_30 : decode cX11_back 30 = .ok (.putfield 185, 3) := by decide +kernel
theorem dX11_back_33 : decode cX11_back 33 = .ok (.aload_n 0, 1) := by decide +kernel
theorem dX11_back_34 : decode cX11_back 34 = .ok (.getfield 39, 3) := by decide +kernel
theorem dX11_back_37 : decode cX11_back 37 = .ok (.getfield 196, 3) := by decide +kernel
theorem dX11_back_40 : decode cX11_back 40 = .ok (.ireturn, 1) := by decide +kernel
theorem dX11_count_0 : decode cX11_count 0 = .ok (.iload_n 1, 1) := by decide +kernel
theorem dX11_count_1 : decode cX11_count 1 = .ok (.tableswitch 111 0 7 #[47, 55, 63, 71, 79, 87, 95, 103], 47) := by decide +kernel
theorem dX11_count_48 : decode cX11_count 48 = .ok (.aload_n 0, 1) := by decide +kernel
theorem dX11_count_49 : decode cX11_count 49 = .ok (.getfield 80, 3) := by decide +kernel
theorem dX11_count_52 : decode cX11_count 52 = .ok (.getfield 116, 3) := by decide +kernel
theorem dX11_count_55 : decode cX11_count 55 = .ok (.ireturn, 1) := by decide +kernel
theorem dX11_count_56 : decode cX11_count 56 = .ok (.aload_n 0, 1) := by decide +kernel
theorem dX11_count_57 : decode cX11_count 57 = .ok (.getfield 80, 3) := by decide +kernel
theorem dX11_count_60 : decode cX11_count 60 = .ok (.getfield 136, 3) := by decide +kernel
theorem dX11_count_63 : decode cX11_count 63 = .ok (.ireturn, 1) := by decide +kernel
theorem dX11_count_64 : decode cX11_count 64 = .ok (.aload_n 0, 1) := by decide +kernel
theorem dX11_count_65 : decode cX11_count 65 = .ok (.getfield 80, 3) := by decide +kernel
theorem dX11_count_68 : decode cX11_count 68 = .ok (.getfield 259, 3) := by decide +kernel
theorem dX11_count_71 : decode cX11_count 71 = .ok (.ireturn, 1) := by decide +kernel
theorem dX11_count_72 : decode cX11_count 72 = .ok (.aload_n 0, 1) := by decide +kernel
theorem dX11_count_73 : decode cX11_count 73 = .ok (.getfield 26, 3) := by decide +kernel
theorem dX11_count_76 : decode cX11_count 76 = .ok (.getfield 167, 3) := by decide +kernel
theorem dX11_count_79 : decode cX11_count 79 = .ok (.ireturn, 1) := by decide +kernel
theorem dX11_count_80 : decode cX11_count 80 = .ok (.aload_n 0, 1) := by decide +kernel
theorem dX11_count_81 : decode cX11_count 81 = .ok (.getfield 59, 3) := by decide +kernel
theorem dX11_count_84 : decode cX11_count 84 = .ok (.getfield 221, 3) := by decide +kernel
theorem dX11_count_87 : decode cX11_count 87 = .ok (.ireturn, 1) := by decide +kernel
theorem dX11_count_88 : decode cX11_count 88 = .ok (.aload_n 0, 1) := by decide +kernel
theorem dX11_count_89 : decode cX11_count 89 = .ok (.getfield 35, 3) := by decide +kernel
theorem dX11_count_92 : decode cX11_count 92 = .ok (.getfield 196, 3) := by decide +kernel
theorem dX11_count_95 : decode cX11_count 95 = .ok (.ireturn, 1) := by decide +kernel
theorem dX11_count_96 : decode cX11_count 96 = .ok (.aload_n 0, 1) := by decide +kernel
theorem dX11_count_97 : decode cX11_count 97 = .ok (.getfield 39, 3) := by decide +kernel
theorem dX11_count_100 : decode cX11_count 100 = .ok (.getfield 196, 3) := by decide +kernel
theorem dX11_count_103 : decode cX11_count 103 = .ok (.ireturn, 1) := by decide +kernel
theorem dX11_count_104 : decode cX11_count 104 = .ok (.aload_n 0, 1) := by decide +kernel
theorem dX11_count_105 : decode cX11_count 105 = .ok (.getfield 10, 3) := by decide +kernel
theorem dX11_count_108 : decode cX11_count 108 = .ok (.getfield 113, 3) := by decide +kernel
theorem dX11_count_111 : decode cX11_count 111 = .ok (.ireturn, 1) := by decide +kernel
theorem dX11_count_112 : decode cX11_count 112 = .ok (.iconst (-1), 1) := by decide +kernel
theorem dX11_count_113 : decode cX11_count 113 = .ok (.ireturn, 1) := by decide +kernel
theorem dX11_moveIn_0 : decode cX11_moveIn 0 = .ok (.aload_n 0, 1) := by decide +kernel
theorem dX11_moveIn_1 : decode cX11_moveIn 1 = .ok (.getfield 80, 3) := by decide +kernel
theorem dX11_moveIn_4 : decode cX11_moveIn 4 = .ok (.astore_n 1, 1) := by decide +kernel
theorem dX11_moveIn_5 : decode cX11_moveIn 5 = .ok (.aload_n 0, 1) := by decide +kernel
theorem dX11_moveIn_6 : decode cX11_moveIn 6 = .ok (.aload_n 0, 1) := by decide +kernel
theorem dX11_moveIn_7 : decode cX11_moveIn 7 = .ok (.getfield 84, 3) := by decide +kernel
theorem dX11_moveIn_10 : decode cX11_moveIn 10 = .ok (.putfield 80, 3) := by decide +kernel
theorem dX11_moveIn_13 : decode cX11_moveIn 13 = .ok (.aload_n 0, 1) := by decide +kernel
theorem dX11_moveIn_14 : decode cX11_moveIn 14 = .ok (.aload_n 1, 1) := by decide +kernel
theorem dX11_moveIn_15 : decode cX11_moveIn 15 = .ok (.putfield 84, 3) := by decide +kernel
theorem dX11_moveIn_18 : decode cX11_moveIn 18 = .ok (.aload_n 0, 1) := by decide +kernel
theorem dX11_moveIn_19 : decode cX11_moveIn 19 = .ok (.getfield 26, 3) := by decide +kernel
theorem dX11_moveIn_22 : decode cX11_moveIn 22 = .ok (.aload_n 0, 1) := by decide +kernel
theorem dX11_moveIn_23 : decode cX11_moveIn 23 = .ok (.getfield 80, 3) := by decide +kernel
theorem dX11_moveIn_26 : decode cX11_moveIn 26 = .ok (.getfield 262, 3) := by decide +kernel
theorem dX11_moveIn_29 : decode cX11_moveIn 29 = .ok (.invokevirtual 265, 3) := by decide +kernel
theorem dX11_moveIn_32 : decode cX11_moveIn 32 = .ok (.aload_n 0, 1) := by decide +kernel
theorem dX11_moveIn_33 : decode cX11_moveIn 33 = .ok (.getfield 35, 3) := by decide +kernel
theorem dX11_moveIn_36 : decode cX11_moveIn 36 = .ok (.iconst 0, 1) := by decide +kernel
theorem dX11_moveIn_37 : decode cX11_moveIn 37 = .ok (.putfield 196, 3) := by decide +kernel
theorem dX11_moveIn_40 : decode cX11_moveIn 40 = .ok (.aload_n 0, 1) := by decide +kernel
theorem dX11_moveIn_41 : decode cX11_moveIn 41 = .ok (.getfield 39, 3) := by decide +kernel
theorem dX11_moveIn_44 : decode cX11_moveIn 44 = .ok (.iconst 0, 1) := by decide +kernel
theorem dX11_moveIn_45 : decode cX11_moveIn 45 = .ok (.putfield 196, 3) := by decide +kernel
theorem dX11_moveIn_48 : decode cX11_moveIn 48 = .ok (.aload_n 0, 1) := by decide +kernel
theorem dX11_moveIn_49 : decode cX11_moveIn 49 = .ok (.getfield 59, 3) := by decide +kernel
theorem dX11_moveIn_52 : decode cX11_moveIn 52 = .ok (.invokevirtual 222, 3) := by decide +kernel
theorem dX11_moveIn_55 : decode cX11_moveIn 55 = .ok (.pop, 1) := by decide +kernel
theorem dX11_moveIn_56 : decode cX11_moveIn 56 = .ok (.aload_n 0, 1) := by decide +kernel
theorem dX11_moveIn_57 : decode cX11_moveIn 57 = .ok (.getfield 45, 3) := by decide +kernel
theorem dX11_moveIn_60 : decode cX11_moveIn 60 = .ok (.iconst 1, 1) := by decide +kernel
theorem dX11_moveIn_61 : decode cX11_moveIn 61 = .ok (.putfield 185, 3) := by decide +kernel
theorem dX11_moveIn_64 : decode cX11_moveIn 64 = .ok (.return_, 1) := by decide +kernel
theorem dX11_daysNow_0 : decode cX11_daysNow 0 = .ok (.aload_n 0, 1) := by decide +kernel
theorem dX11_daysNow_1 : decode cX11_daysNow 1 = .ok (.getfield 45, 3) := by decide +kernel
theorem dX11_daysNow_4 : decode cX11_daysNow 4 = .ok (.getfield 185, 3) := by decide +kernel
theorem dX11_daysNow_7 : decode cX11_daysNow 7 = .ok (.ifCond .eq 18, 3) := by decide +kernel
theorem dX11_daysNow_10 : decode cX11_daysNow 10 = .ok (.aload_n 0, 1) := by decide +kernel
theorem dX11_daysNow_11 : decode cX11_daysNow 11 = .ok (.getfield 45, 3) := by decide +kernel
theorem dX11_daysNow_14 : decode cX11_daysNow 14 = .ok (.aload_n 0, 1) := by decide +kernel
theorem dX11_daysNow_15 : decode cX11_daysNow 15 = .ok (.getfield 80, 3) := by decide +kernel
theorem dX11_daysNow_18 : decode cX11_daysNow 18 = .ok (.aload_n 0, 1) := by decide +kernel
theorem dX11_daysNow_19 : decode cX11_daysNow 19 = .ok (.getfield 26, 3) := by decide +kernel
theorem dX11_daysNow_22 : decode cX11_daysNow 22 = .ok (.invokevirtual 268, 3) := by decide +kernel
theorem dX11_daysNow_25 : decode cX11_daysNow 25 = .ok (.aload_n 0, 1) := by decide +kernel
theorem dX11_daysNow_26 : decode cX11_daysNow 26 = .ok (.getfield 45, 3) := by decide +kernel
theorem dX11_daysNow_29 : decode cX11_daysNow 29 = .ok (.areturn, 1) := by decide +kernel
theorem dX11_outside_0 : decode cX11_outside 0 = .ok (.iload_n 0, 1) := by decide +kernel
theorem dX11_outside_1 : decode cX11_outside 1 = .ok (.ifCond .lt 8, 3) := by decide +kernel
theorem dX11_outside_4 : decode cX11_outside 4 = .ok (.iload_n 0, 1) := by decide +kernel
theorem dX11_outside_5 : decode cX11_outside 5 = .ok (.iload_n 1, 1) := by decide +kernel
theorem dX11_outside_6 : decode cX11_outside 6 = .ok (.if_icmp .lt 7, 3) := by decide +kernel
theorem dX11_outside_9 : decode cX11_outside 9 = .ok (.iconst 1, 1) := by decide +kernel
theorem dX11_outside_10 : decode cX11_outside 10 = .ok (.goto 4, 3) := by decide +kernel
theorem dX11_outside_13 : decode cX11_outside 13 = .ok (.iconst 0, 1) := by decide +kernel
theorem dX11_outside_14 : decode cX11_outside 14 = .ok (.ireturn, 1) := by decide +kernel
theorem dX11_keptWithin_0 : decode cX11_keptWithin 0 = .ok (.bipush (-40), 2) := by decide +kernel
theorem dX11_keptWithin_2 : decode cX11_keptWithin 2 = .ok (.bipush 40, 2) := by decide +kernel
theorem dX11_keptWithin_4 : decode cX11_keptWithin 4 = .ok (.iload_n 0, 1) := by decide +kernel
theorem dX11_keptWithin_5 : decode cX11_keptWithin 5 = .ok (.invokestatic 271, 3) := by decide +kernel
theorem dX11_keptWithin_8 : decode cX11_keptWithin 8 = .ok (.invokestatic 274, 3) := by decide +kernel
theorem dX11_keptWithin_11 : decode cX11_keptWithin 11 = .ok (.ireturn, 1) := by decide +kernel
theorem dX12_init_0 : decode cX12_init 0 = .ok (.aload_n 0, 1) := by decide +kernel
theorem dX12_init_1 : decode cX12_init 1 = .ok (.invokespecial 1, 3) := by decide +kernel
theorem dX12_init_4 : decode cX12_init 4 = .ok (.aload_n 0, 1) := by decide +kernel
theorem dX12_init_5 : decode cX12_init 5 = .ok (.iconst 4, 1) := by decide +kernel
theorem dX12_init_6 : decode cX12_init 6 = .ok (.putfield 7, 3) := by decide +kernel
theorem dX12_init_9 : decode cX12_init 9 = .ok (.aload_n 0, 1) := by decide +kernel
theorem dX12_init_10 : decode cX12_init 10 = .ok (.bipush 28, 2) := by decide +kernel
theorem dX12_init_12 : decode cX12_init 12 = .ok (.newarray .int, 2) := by decide +kernel
theorem dX12_init_14 : decode cX12_init 14 = .ok (.putfield 13, 3) := by decide +kernel
theorem dX12_init_17 : decode cX12_init 17 = .ok (.aload_n 0, 1) := by decide +kernel
theorem dX12_init_18 : decode cX12_init 18 = .ok (.iconst 3, 1) := by decide +kernel
theorem dX12_init_19 : decode cX12_init 19 = .ok (.putfield 17, 3) := by decide +kernel
theorem dX12_init_22 : decode cX12_init 22 = .ok (.aload_n 0, 1) := by decide +kernel
theorem dX12_init_23 : decode cX12_init 23 = .ok (.bipush 10, 2) := by decide +kernel
theorem dX12_init_25 : decode cX12_init 25 = .ok (.newarray .int, 2) := by decide +kernel
theorem dX12_init_27 : decode cX12_init 27 = .ok (.putfield 20, 3) := by decide +kernel
theorem dX12_init_30 : decode cX12_init 30 = .ok (.aload_n 0, 1) := by decide +kernel
theorem dX12_init_31 : decode cX12_init 31 = .ok (.iconst 4, 1) := by decide +kernel
theorem dX12_init_32 : decode cX12_init 32 = .ok (.putfield 23, 3) := by decide +kernel
theorem dX12_init_35 : decode cX12_init 35 = .ok (.aload_n 0, 1) := by decide +kernel
theorem dX12_init_36 : decode cX12_init 36 = .ok (.bipush 30, 2) := by decide +kernel
theorem dX12_init_38 : decode cX12_init 38 = .ok (.newarray .int, 2) := by decide +kernel
theorem dX12_init_40 : decode cX12_init 40 = .ok (.putfield 26, 3) := by decide +kernel
theorem dX12_init_43 : decode cX12_init 43 = .ok (.aload_n 0, 1) := by decide +kernel
theorem dX12_init_44 : decode cX12_init 44 = .ok (.bipush 10, 2) := by decide +kernel
theorem dX12_init_46 : decode cX12_init 46 = .ok (.newarray .int, 2) := by decide +kernel
theorem dX12_init_48 : decode cX12_init 48 = .ok (.putfield 29, 3) := by decide +kernel
theorem dX12_init_51 : decode cX12_init 51 = .ok (.aload_n 0, 1) := by decide +kernel
theorem dX12_init_52 : decode cX12_init 52 = .ok (.bipush 25, 2) := by decide +kernel
theorem dX12_init_54 : decode cX12_init 54 = .ok (.newarray .int, 2) := by decide +kernel
theorem dX12_init_56 : decode cX12_init 56 = .ok (.putfield 32, 3) := by decide +kernel
theorem dX12_init_59 : decode cX12_init 59 = .ok (.aload_n 0, 1) := by decide +kernel
theorem dX12_init_60 : decode cX12_init 60 = .ok (.sipush 200, 3) := by decide +kernel
theorem dX12_init_63 : decode cX12_init 63 = .ok (.newarray .int, 2) := by decide +kernel
theorem dX12_init_65 : decode cX12_init 65 = .ok (.putfield 35, 3) := by decide +kernel
theorem dX12_init_68 : decode cX12_init 68 = .ok (.aload_n 0, 1) := by decide +kernel
theorem dX12_init_69 : decode cX12_init 69 = .ok (.bipush 50, 2) := by decide +kernel
theorem dX12_init_71 : decode cX12_init 71 = .ok (.newarray .int, 2) := by decide +kernel
theorem dX12_init_73 : decode cX12_init 73 = .ok (.putfield 38, 3) := by decide +kernel
theorem dX12_init_76 : decode cX12_init 76 = .ok (.aload_n 0, 1) := by decide +kernel
theorem dX12_init_77 : decode cX12_init 77 = .ok (.bipush 16, 2) := by decide +kernel
theorem dX12_init_79 : decode cX12_init 79 = .ok (.newarray .int, 2) := by decide +kernel
theorem dX12_init_81 : decode cX12_init 81 = .ok (.putfield 41, 3) := by decide +kernel
theorem dX12_init_84 : decode cX12_init 84 = .ok (.aload_n 0, 1) := by decide +kernel
theorem dX12_init_85 : decode cX12_init 85 = .ok (.sipush 200, 3) := by decide +kernel
theorem dX12_init_88 : decode cX12_init 88 = .ok (.newarray .int, 2) := by decide +kernel
theorem dX12_init_90 : decode cX12_init 90 = .ok (.putfield 44, 3) := by decide +kernel
theorem dX12_init_93 : decode cX12_init 93 = .ok (.aload_n 0, 1) := by decide +kernel
theorem dX12_init_94 : decode cX12_init 94 = .ok (.iconst 4, 1) := by decide +kernel
theorem dX12_init_95 : decode cX12_init 95 = .ok (.newarray .int, 2) := by decide +kernel
theorem dX12_init_97 : decode cX12_init 97 = .ok (.putfield 47, 3) := by decide +kernel
theorem dX12_init_100 : decode cX12_init 100 = .ok (.aload_n 0, 1) := by decide +kernel
theorem dX12_init_101 : decode cX12_init 101 = .ok (.bipush 28, 2) := by decide +kernel
theorem dX12_init_103 : decode cX12_init 103 = .ok (.newarray .int, 2) := by decide +kernel
theorem dX12_init_105 : decode cX12_init 105 = .ok (.putfield 50, 3) := by decide +kernel
theorem dX12_init_108 : decode cX12_init 108 = .ok (.aload_n 0, 1) := by decide +kernel
theorem dX12_init_109 : decode cX12_init 109 = .ok (.bipush 10, 2) := by decide +kernel
theorem dX12_init_111 : decode cX12_init 111 = .ok (.newarray .int, 2) := by decide +kernel
theorem dX12_init_113 : decode cX12_init 113 = .ok (.putfield 53, 3) := by decide +kernel
theorem dX12_init_116 : decode cX12_init 116 = .ok (.aload_n 0, 1) := by decide +kernel
theorem dX12_init_117 : decode cX12_init 117 = .ok (.bipush 30, 2) := by decide +kernel
theorem dX12_init_119 : decode cX12_init 119 = .ok (.newarray .int, 2) := by decide +kernel
theorem dX12_init_121 : decode cX12_init 121 = .ok (.putfield 56, 3) := by decide +kernel
theorem dX12_init_124 : decode cX12_init 124 = .ok (.aload_n 0, 1) := by decide +kernel
theorem dX12_init_125 : decode cX12_init 125 = .ok (.bipush 25, 2) := by decide +kernel
theorem dX12_init_127 : decode cX12_init 127 = .ok (.newarray .int, 2) := by decide +kernel
theorem dX12_init_129 : decode cX12_init 129 = .ok (.putfield 59, 3) := by decide +kernel
theorem dX12_init_132 : decode cX12_init 132 = .ok (.aload_n 0, 1) := by decide +kernel
theorem dX12_init_133 : decode cX12_init 133 = .ok (.bipush 7, 2) := by decide +kernel
theorem dX12_init_135 : decode cX12_init 135 = .ok (.newarray .int, 2) := by decide +kernel
theorem dX12_init_137 : decode cX12_init 137 = .ok (.putfield 62, 3) := by decide +kernel
theorem dX12_init_140 : decode cX12_init 140 = .ok (.aload_n 0, 1) := by decide +kernel
theorem dX12_init_141 : decode cX12_init 141 = .ok (.bipush 7, 2) := by decide +kernel
theorem dX12_init_143 : decode cX12_init 143 = .ok (.newarray .int, 2) := by decide +kernel
theorem dX12_init_145 : decode cX12_init 145 = .ok (.putfield 65, 3) := by decide +kernel
theorem dX12_init_148 : decode cX12_init 148 = .ok (.aload_n 0, 1) := by decide +kernel
theorem dX12_init_149 : decode cX12_init 149 = .ok (.iconst 5, 1) := by decide +kernel
theorem dX12_init_150 : decode cX12_init 150 = .ok (.newarray .int, 2) := by decide +kernel
theorem dX12_init_152 : decode cX12_init 152 = .ok (.putfield 68, 3) := by decide +kernel
theorem dX12_init_155 : decode cX12_init 155 = .ok (.aload_n 0, 1) := by decide +kernel
theorem dX12_init_156 : decode cX12_init 156 = .ok (.bipush 7, 2) := by decide +kernel
theorem dX12_init_158 : decode cX12_init 158 = .ok (.newarray .int, 2) := by decide +kernel
theorem dX12_init_160 : decode cX12_init 160 = .ok (.putfield 71, 3) := by decide +kernel
theorem dX12_init_163 : decode cX12_init 163 = .ok (.aload_n 0, 1) := by decide +kernel
theorem dX12_init_164 : decode cX12_init 164 = .ok (.bipush 13, 2) := by decide +kernel
theorem dX12_init_166 : decode cX12_init 166 = .ok (.newarray .int, 2) := by decide +kernel
theorem dX12_init_168 : decode cX12_init 168 = .ok (.putfield 74, 3) := by decide +kernel
theorem dX12_init_171 : decode cX12_init 171 = .ok (.aload_n 0, 1) := by decide +kernel
theorem dX12_init_172 : decode cX12_init 172 = .ok (.iconst 5, 1) := by decide +kernel
theorem dX12_init_173 : decode cX12_init 173 = .ok (.newarray .int, 2) := by decide +kernel
theorem dX12_init_175 : decode cX12_init 175 = .ok (.putfield 77, 3) := by decide +kernel
theorem dX12_init_178 : decode cX12_init 178 = .ok (.aload_n 0, 1) := by decide +kernel
theorem dX12_init_179 : decode cX12_init 179 = .ok (.getfield 13, 3) := by decide +kernel
theorem dX12_init_182 : decode cX12_init 182 = .ok (.iconst 0, 1) := by decide +kernel
theorem dX12_init_183 : decode cX12_init 183 = .ok (.iconst 0, 1) := by decide +kernel
theorem dX12_init_184 : decode cX12_init 184 = .ok (.iconst 3, 1) := by decide +kernel
theorem dX12_init_185 : decode cX12_init 185 = .ok (.iconst 1, 1) := by decide +kernel
theorem dX12_init_186 : decode cX12_init 186 = .ok (.invokestatic 80, 3) := by decide +kernel
theorem dX12_init_189 : decode cX12_init 189 = .ok (.aload_n 0, 1) := by decide +kernel
theorem dX12_init_190 : decode cX12_init 190 = .ok (.getfield 13, 3) := by decide +kernel
theorem dX12_init_193 : decode cX12_init 193 = .ok (.iconst 4, 1) := by decide +kernel
theorem dX12_init_194 : decode cX12_init 194 = .ok (.iconst 0, 1) := by decide +kernel
theorem dX12_init_195 : decode cX12_init 195 = .ok (.iconst 0, 1) := by decide +kernel
theorem dX12_init_196 : decode cX12_init 196 = .ok (.iconst 0, 1) := by decide +kernel
theorem dX12_init_197 : decode cX12_init 197 = .ok (.invokestatic 80, 3) := by decide +kernel
theorem dX12_init_200 : decode cX12_init 200 = .ok (.aload_n 0, 1) := by decide +kernel
theorem dX12_init_201 : decode cX12_init 201 = .ok (.getfield 13, 3) := by decide +kernel
theorem dX12_init_204 : decode cX12_init 204 = .ok (.bipush 8, 2) := by decide +kernel
theorem dX12_init_206 : decode cX12_init 206 = .ok (.iconst 1, 1) := by decide +kernel
theorem dX12_init_207 : decode cX12_init 207 = .ok (.bipush (-5), 2) := by decide +kernel
theorem dX12_init_209 : decode cX12_init 209 = .ok (.iconst 0, 1) := by decide +kernel
theorem dX12_init_210 : decode cX12_init 210 = .ok (.invokestatic 80, 3) := by decide +kernel
theorem dX12_init_213 : decode cX12_init 213 = .ok (.aload_n 0, 1) := by decide +kernel
theorem dX12_init_214 : decode cX12_init 214 = .ok (.getfield 13, 3) := by decide +kernel
theorem dX12_init_217 : decode cX12_init 217 = .ok (.bipush 12, 2) := by decide +kernel
theorem dX12_init_219 : decode cX12_init 219 = .ok (.iconst 1, 1) := by decide +kernel
theorem dX12_init_220 : decode cX12_init 220 = .ok (.bipush 6, 2) := by decide +kernel
theorem dX12_init_222 : decode cX12_init 222 = .ok (.iconst (-1), 1) := by decide +kernel
theorem dX12_init_223 : decode cX12_init 223 = .ok (.invokestatic 80, 3) := by decide +kernel
theorem dX12_init_226 : decode cX12_init 226 = .ok (.aload_n 0, 1) := by decide +kernel
theorem dX12_init_227 : decode cX12_init 227 = .ok (.getfield 13, 3) := by decide +kernel
theorem dX12_init_230 : decode cX12_init 230 = .ok (.bipush 11, 2) := by decide +kernel
theorem dX12_init_232 : decode cX12_init 232 = .ok (.bipush (-4), 2) := by decide +kernel
theorem dX12_init_234 : decode cX12_init 234 = .ok (.iastore, 1) := by decide +kernel
theorem dX12_init_235 : decode cX12_init 235 = .ok (.aload_n 0, 1) := by decide +kernel
theorem dX12_init_236 : decode cX12_init 236 = .ok (.getfield 20, 3) := by decide +kernel
theorem dX12_init_239 : decode cX12_init 239 = .ok (.iconst 0, 1) := by decide +kernel
theorem dX12_init_240 : decode cX12_init 240 = .ok (.iconst 0, 1) := by decide +kernel
theorem dX12_init_241 : decode cX12_init 241 = .ok (.iconst 2, 1) := by decide +kernel
theorem dX12_init_242 : decode cX12_init 242 = .ok (.iconst 1, 1) := by decide +kernel
theorem dX12_init_243 : decode cX12_init 243 = .ok (.invokestatic 80, 3) := by decide +kernel
theorem dX12_init_246 : decode cX12_init 246 = .ok (.aload_n 0, 1) := by decide +kernel
theorem dX12_init_247 : decode cX12_init 247 = .ok (.getfield 20, 3) := by decide +kernel
theorem dX12_init_250 : decode cX12_init 250 = .ok (.iconst 3, 1) := by decide +kernel
theorem dX12_init_251 : decode cX12_init 251 = .ok (.iconst 1, 1) := by decide +kernel
theorem dX12_init_252 : decode cX12_init 252 = .ok (.iconst 2, 1) := by decide +kernel
theorem dX12_init_253 : decode cX12_init 253 = .ok (.iconst 3, 1) := by decide +kernel
theorem dX12_init_254 : decode cX12_init 254 = .ok (.invokestatic 80, 3) := by decide +kernel
theorem dX12_init_257 : decode cX12_init 257 = .ok (.aload_n 0, 1) := by decide +kernel
theorem dX12_init_258 : decode cX12_init 258 = .ok (.getfield 26, 3) := by decide +kernel
theorem dX12_init_261 : decode cX12_init 261 = .ok (.iconst 0, 1) := by decide +kernel
theorem dX12_init_262 : decode cX12_init 262 = .ok (.iconst 0, 1) := by decide +kernel
theorem dX12_init_263 : decode cX12_init 263 = .ok (.bipush 8, 2) := by decide +kernel
theorem dX12_init_265 : decode cX12_init 265 = .ok (.iconst 0, 1) := by decide +kernel
theorem dX12_init_266 : decode cX12_init 266 = .ok (.invokestatic 80, 3) := by decide +kernel
theorem dX12_init_269 : decode cX12_init 269 = .ok (.aload_n 0, 1) := by decide +kernel
theorem dX12_init_270 : decode cX12_init 270 = .ok (.getfield 26, 3) := by decide +kernel
theorem dX12_init_273 : decode cX12_init 273 = .ok (.iconst 3, 1) := by decide +kernel
theorem dX12_init_274 : decode cX12_init 274 = .ok (.iconst 1, 1) := by decide +kernel
theorem dX12_init_275 : decode cX12_init 275 = .ok (.bipush 9, 2) := by decide +kernel
theorem dX12_init_277 : decode cX12_init 277 = .ok (.iconst 0, 1) := by decide +kernel
theorem dX12_init_278 : decode cX12_init 278 = .ok (.invokestatic 80, 3) := by decide +kernel
theorem dX12_init_281 : decode cX12_init 281 = .ok (.aload_n 0, 1) := by decide +kernel
theorem dX12_init_282 : decode cX12_init 282 = .ok (.getfield 26, 3) := by decide +kernel
theorem dX12_init_285 : decode cX12_init 285 = .ok (.bipush 6, 2) := by decide +kernel
theorem dX12_init_287 : decode cX12_init 287 = .ok (.iconst 1, 1) := by decide +kernel
theorem dX12_init_288 : decode cX12_init 288 = .ok (.bipush 10, 2) := by decide +kernel
theorem dX12_init_290 : decode cX12_init 290 = .ok (.iconst 1, 1) := by decide +kernel
theorem dX12_init_291 : decode cX12_init 291 = .ok (.invokestatic 80, 3) := by decide +kernel
theorem dX12_init_294 : decode cX12_init 294 = .ok (.aload_n 0, 1) := by decide +kernel
theorem dX12_init_295 : decode cX12_init 295 = .ok (.getfield 26, 3) := by decide +kernel
theorem dX12_init_298 : decode cX12_init 298 = .ok (.bipush 9, 2) := by decide +kernel
theorem dX12_init_300 : decode cX12_init 300 = .ok (.iconst 2, 1) := by decide +kernel
theorem dX12_init_301 : decode cX12_init 301 = .ok (.bipush 8, 2) := by decide +kernel
theorem dX12_init_303 : decode cX12_init 303 = .ok (.iconst 1, 1) := by decide +kernel
theorem dX12_init_304 : decode cX12_init 304 = .ok (.invokestatic 80, 3) := by decide +kernel
theorem dX12_init_307 : decode cX12_init 307 = .ok (.aload_n 0, 1) := by decide +kernel
theorem dX12_init_308 : decode cX12_init 308 = .ok (.getfield 32, 3) := by decide +kernel
theorem dX12_init_311 : decode cX12_init 311 = .ok (.iconst 0, 1) := by decide +kernel
theorem dX12_init_312 : decode cX12_init 312 = .ok (.iconst 2, 1) := by decide +kernel
theorem dX12_init_313 : decode cX12_init 313 = .ok (.iastore, 1) := by decide +kernel
theorem dX12_init_314 : decode cX12_init 314 = .ok (.aload_n 0, 1) := by decide +kernel
theorem dX12_init_315 : decode cX12_init 315 = .ok (.getfield 32, 3) := by decide +kernel
theorem dX12_init_318 : decode cX12_init 318 = .ok (.iconst 1, 1) := by decide +kernel
theorem dX12_init_319 : decode cX12_init 319 = .ok (.iconst 1, 1) := by decide +kernel
theorem dX12_init_320 : decode cX12_init 320 = .ok (.iconst 1, 1) := by decide +kernel
theorem dX12_init_321 : decode cX12_init 321 = .ok (.iconst 4, 1) := by decide +kernel
theorem dX12_init_322 : decode cX12_init 322 = .ok (.invokestatic 80, 3) := by decide +kernel
theorem dX12_init_325 : decode cX12_init 325 = .ok (.aload_n 0, 1) := by decide +kernel
theorem dX12_init_326 : decode cX12_init 326 = .ok (.getfield 32, 3) := by decide +kernel
theorem dX12_init_329 : decode cX12_init 329 = .ok (.iconst 4, 1) := by decide +kernel
theorem dX12_init_330 : decode cX12_init 330 = .ok (.iconst 2, 1) := by decide +kernel
theorem dX12_init_331 : decode cX12_init 331 = .ok (.iconst 2, 1) := by decide +kernel
theorem dX12_init_332 : decode cX12_init 332 = .ok (.bipush (-2), 2) := by decide +kernel
theorem dX12_init_334 : decode cX12_init 334 = .ok (.invokestatic 80, 3) := by decide +kernel
theorem dX12_init_337 : decode cX12_init 337 = .ok (.aload_n 0, 1) := by decide +kernel
theorem dX12_init_338 : decode cX12_init 338 = .ok (.invokevirtual 84, 3) := by decide +kernel
theorem dX12_init_341 : decode cX12_init 341 = .ok (.return_, 1) := by decide +kernel
theorem dX12_lays_0 : decode cX12_lays 0 = .ok (.aload_n 0, 1) := by decide +kernel
theorem dX12_lays_1 : decode cX12_lays 1 = .ok (.iload_n 1, 1) := by decide +kernel
theorem dX12_lays_2 : decode cX12_lays 2 = .ok (.iload_n 2, 1) := by decide +kernel
theorem dX12_lays_3 : decode cX12_lays 3 = .ok (.iastore, 1) := by decide +kernel
theorem dX12_lays_4 : decode cX12_lays 4 = .ok (.aload_n 0, 1) := by decide +kernel
theorem dX12_lays_5 : decode cX12_lays 5 = .ok (.iload_n 1, 1) := by decide +kernel
theorem dX12_lays_6 : decode cX12_lays 6 = .ok (.iconst 1, 1) := by decide +kernel
theorem dX12_lays_7 : decode cX12_lays 7 = .ok (.iadd, 1) := by decide +kernel
theorem dX12_lays_8 : decode cX12_lays 8 = .ok (.iload_n 3, 1) := by decide +kernel
theorem dX12_lays_9 : decode cX12_lays 9 = .ok (.iastore, 1) := by decide +kernel
theorem dX12_lays_10 : decode cX12_lays 10 = .ok (.aload_n 0, 1) := by decide +kernel
theorem dX12_lays_11 : decode cX12_lays 11 = .ok (.iload_n 1, 1) := by decide +kernel
theorem dX12_lays_12 : decode cX12_lays 12 = .ok (.iconst 2, 1) := by decide +kernel
theorem dX12_lays_13 : decode cX12_lays 13 = .ok (.iadd, 1) := by decide +kernel
theorem dX12_lays_14 : decode cX12_lays 14 = .ok (.iload 4, 2) := by decide +kernel
theorem dX12_lays_16 : decode cX12_lays 16 = .ok (.iastore, 1) := by decide +kernel
theorem dX12_lays_17 : decode cX12_lays 17 = .ok (.return_, 1) := by decide +kernel
theorem dX12_in_0 : decode cX12_in 0 = .ok (.iload_n 0, 1) := by decide +kernel
theorem dX12_in_1 : decode cX12_in 1 = .ok (.iload_n 1, 1) := by decide +kernel
theorem dX12_in_2 : decode cX12_in 2 = .ok (.if_icmp .lt 12, 3) := by decide +kernel
theorem dX12_in_5 : decode cX12_in 5 = .ok (.iload_n 0, 1) := by decide +kernel
theorem dX12_in_6 : decode cX12_in 6 = .ok (.iload_n 2, 1) := by decide +kernel
theorem dX12_in_7 : decode cX12_in 7 = .ok (.if_icmp .gt 7, 3) := by decide +kernel
theorem dX12_in_10 : decode cX12_in 10 = .ok (.iconst 1, 1) := by decide +kernel
theorem dX12_in_11 : decode cX12_in 11 = .ok (.goto 4, 3) := by decide +kernel
theorem dX12_in_14 : decode cX12_in 14 = .ok (.iconst 0, 1) := by decide +kernel
theorem dX12_in_15 : decode cX12_in 15 = .ok (.ireturn, 1) := by decide +kernel
theorem dX12_has_0 : decode cX12_has 0 = .ok (.iload_n 0, 1) := by decide +kernel
theorem dX12_has_1 : decode cX12_has 1 = .ok (.iload_n 1, 1) := by decide +kernel
theorem dX12_has_2 : decode cX12_has 2 = .ok (.ishr, 1) := by decide +kernel
theorem dX12_has_3 : decode cX12_has 3 = .ok (.iconst 1, 1) := by decide +kernel
theorem dX12_has_4 : decode cX12_has 4 = .ok (.iand, 1) := by decide +kernel
theorem dX12_has_5 : decode cX12_has 5 = .ok (.iconst 1, 1) := by decide +kernel
theorem dX12_has_6 : decode cX12_has 6 = .ok (.if_icmp .ne 7, 3) := by decide +kernel
theorem dX12_has_9 : decode cX12_has 9 = .ok (.iconst 1, 1) := by decide +kernel
theorem dX12_has_10 : decode cX12_has 10 = .ok (.goto 4, 3) := by decide +kernel
theorem dX12_has_13 : decode cX12_has 13 = .ok (.iconst 0, 1) := by decide +kernel
theorem dX12_has_14 : decode cX12_has 14 = .ok (.ireturn, 1) := by decide +kernel
theorem dX12_bits_0 : decode cX12_bits 0 = .ok (.iconst 0, 1) := by decide +kernel
theorem dX12_bits_1 : decode cX12_bits 1 = .ok (.istore_n 1, 1) := by decide +kernel
theorem dX12_bits_2 : decode cX12_bits 2 = .ok (.iload_n 0, 1) := by decide +kernel
theorem dX12_bits_3 : decode cX12_bits 3 = .ok (.istore_n 2, 1) := by decide +kernel
theorem dX12_bits_4 : decode cX12_bits 4 = .ok (.iload_n 2, 1) := by decide +kernel
theorem dX12_bits_5 : decode cX12_bits 5 = .ok (.ifCond .le 15, 3) := by decide +kernel
theorem dX12_bits_8 : decode cX12_bits 8 = .ok (.iinc 1 1, 3) := by decide +kernel
theorem dX12_bits_11 : decode cX12_bits 11 = .ok (.iload_n 2, 1) := by decide +kernel
theorem dX12_bits_12 : decode cX12_bits 12 = .ok (.iload_n 2, 1) := by decide +kernel
theorem dX12_bits_13 : decode cX12_bits 13 = .ok (.iconst 1, 1) := by decide +kernel
theorem dX12_bits_14 : decode cX12_bits 14 = .ok (.isub, 1) := by decide +kernel
theorem dX12_bits_15 : decode cX12_bits 15 = .ok (.iand, 1) := by decide +kernel
theorem dX12_bits_16 : decode cX12_bits 16 = .ok (.istore_n 2, 1) := by decide +kernel
theorem dX12_bits_17 : decode cX12_bits 17 = .ok (.goto (-13), 3) := by decide +kernel
theorem dX12_bits_20 : decode cX12_bits 20 = .ok (.iload_n 1, 1) := by decide +kernel
theorem dX12_bits_21 : decode cX12_bits 21 = .ok (.ireturn, 1) := by decide +kernel
theorem dX12_size_0 : decode cX12_size 0 = .ok (.iload_n 0, 1) := by decide +kernel
theorem dX12_size_1 : decode cX12_size 1 = .ok (.ifCond .ge 8, 3) := by decide +kernel
theorem dX12_size_4 : decode cX12_size 4 = .ok (.iload_n 0, 1) := by decide +kernel
theorem dX12_size_5 : decode cX12_size 5 = .ok (.ineg, 1) := by decide +kernel
theorem dX12_size_6 : decode cX12_size 6 = .ok (.goto 4, 3) := by decide +kernel
theorem dX12_size_9 : decode cX12_size 9 = .ok (.iload_n 0, 1) := by decide +kernel
theorem dX12_size_10 : decode cX12_size 10 = .ok (.ireturn, 1) := by decide +kernel
theorem dX12_within_0 : decode cX12_within 0 = .ok (.iload_n 0, 1) := by decide +kernel
theorem dX12_within_1 : decode cX12_within 1 = .ok (.bipush (-40), 2) := by decide +kernel
theorem dX12_within_3 : decode cX12_within 3 = .ok (.if_icmp .ge 8, 3) := by decide +kernel
theorem dX12_within_6 : decode cX12_within 6 = .ok (.bipush (-40), 2) := by decide +kernel
theorem dX12_within_8 : decode cX12_within 8 = .ok (.goto 15, 3) := by decide +kernel
theorem dX12_within_11 : decode cX12_within 11 = .ok (.iload_n 0, 1) := by decide +kernel
theorem dX12_within_12 : decode cX12_within 12 = .ok (.bipush 40, 2) := by decide +kernel
theorem dX12_within_14 : decode cX12_within 14 = .ok (.if_icmp .le 8, 3) := by decide +kernel
theorem dX12_within_17 : decode cX12_within 17 = .ok (.bipush 40, 2) := by decide +kernel
theorem dX12_within_19 : decode cX12_within 19 = .ok (.goto 4, 3) := by decide +kernel
theorem dX12_within_22 : decode cX12_within 22 = .ok (.iload_n 0, 1) := by decide +kernel
theorem dX12_within_23 : decode cX12_within 23 = .ok (.ireturn, 1) := by decide +kernel
theorem dX12_isFrame_0 : decode cX12_isFrame 0 = .ok (.iload_n 1, 1) := by decide +kernel
theorem dX12_isFrame_1 : decode cX12_isFrame 1 = .ok (.iconst 0, 1) := by decide +kernel
theorem dX12_isFrame_2 : decode cX12_isFrame 2 = .ok (.aload_n 0, 1) := by decide +kernel
theorem dX12_isFrame_3 : decode cX12_isFrame 3 = .ok (.getfield 7, 3) := by decide +kernel
theorem dX12_isFrame_6 : decode cX12_isFrame 6 = .ok (.iconst 1, 1) := by decide +kernel
theorem dX12_isFrame_7 : decode cX12_isFrame 7 = .ok (.isub, 1) := by decide +kernel
