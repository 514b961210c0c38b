theorem d_CT_init_0 : decode c_CT_init 0 = .ok (.aload_n 0, 1) := by decide +kernel
theorem d_CT_init_1 : decode c_CT_init 1 = .ok (.invokespecial 1, 3) := by decide +kernel
theorem d_CT_init_4 : decode c_CT_init 4 = .ok (.aload_n 0, 1) := by decide +kernel
theorem d_CT_init_5 : decode c_CT_init 5 = .ok (.new 7, 3) := by decide +kernel
theorem d_CT_init_8 : decode c_CT_init 8 = .ok (.dup, 1) := by decide +kernel
theorem d_CT_init_9 : decode c_CT_init 9 = .ok (.invokespecial 9, 3) := by decide +kernel
theorem d_CT_init_12 : decode c_CT_init 12 = .ok (.putfield 10, 3) := by decide +kernel
theorem d_CT_init_15 : decode c_CT_init 15 = .ok (.aload_n 0, 1) := by decide +kernel
theorem d_CT_init_16 : decode c_CT_init 16 = .ok (.new 16, 3) := by decide +kernel
theorem d_CT_init_19 : decode c_CT_init 19 = .ok (.dup, 1) := by decide +kernel
theorem d_CT_init_20 : decode c_CT_init 20 = .ok (.invokespecial 18, 3) := by decide +kernel
theorem d_CT_init_23 : decode c_CT_init 23 = .ok (.putfield 19, 3) := by decide +kernel
theorem d_CT_init_26 : decode c_CT_init 26 = .ok (.aload_n 0, 1) := by decide +kernel
theorem d_CT_init_27 : decode c_CT_init 27 = .ok (.new 23, 3) := by decide +kernel
theorem d_CT_init_30 : decode c_CT_init 30 = .ok (.dup, 1) := by decide +kernel
theorem d_CT_init_31 : decode c_CT_init 31 = .ok (.invokespecial 25, 3) := by decide +kernel
theorem d_CT_init_34 : decode c_CT_init 34 = .ok (.putfield 26, 3) := by decide +kernel
theorem d_CT_init_37 : decode c_CT_init 37 = .ok (.aload_n 0, 1) := by decide +kernel
theorem d_CT_init_38 : decode c_CT_init 38 = .ok (.new 16, 3) := by decide +kernel
theorem d_CT_init_41 : decode c_CT_init 41 = .ok (.dup, 1) := by decide +kernel
theorem d_CT_init_42 : decode c_CT_init 42 = .ok (.invokespecial 18, 3) := by decide +kernel
theorem d_CT_init_45 : decode c_CT_init 45 = .ok (.putfield 30, 3) := by decide +kernel
theorem d_CT_init_48 : decode c_CT_init 48 = .ok (.aload_n 0, 1) := by decide +kernel
theorem d_CT_init_49 : decode c_CT_init 49 = .ok (.iconst 0, 1) := by decide +kernel
theorem d_CT_init_50 : decode c_CT_init 50 = .ok (.putfield 33, 3) := by decide +kernel
theorem d_CT_init_53 : decode c_CT_init 53 = .ok (.aload_n 0, 1) := by decide +kernel
theorem d_CT_init_54 : decode c_CT_init 54 = .ok (.new 37, 3) := by decide +kernel
theorem d_CT_init_57 : decode c_CT_init 57 = .ok (.dup, 1) := by decide +kernel
theorem d_CT_init_58 : decode c_CT_init 58 = .ok (.invokespecial 39, 3) := by decide +kernel
theorem d_CT_init_61 : decode c_CT_init 61 = .ok (.putfield 40, 3) := by decide +kernel
theorem d_CT_init_64 : decode c_CT_init 64 = .ok (.aload_n 0, 1) := by decide +kernel
theorem d_CT_init_65 : decode c_CT_init 65 = .ok (.new 44, 3) := by decide +kernel
theorem d_CT_init_68 : decode c_CT_init 68 = .ok (.dup, 1) := by decide +kernel
theorem d_CT_init_69 : decode c_CT_init 69 = .ok (.invokespecial 46, 3) := by decide +kernel
theorem d_CT_init_72 : decode c_CT_init 72 = .ok (.putfield 47, 3) := by decide +kernel
theorem d_CT_init_75 : decode c_CT_init 75 = .ok (.aload_n 0, 1) := by decide +kernel
theorem d_CT_init_76 : decode c_CT_init 76 = .ok (.new 51, 3) := by decide +kernel
theorem d_CT_init_79 : decode c_CT_init 79 = .ok (.dup, 1) := by decide +kernel
theorem d_CT_init_80 : decode c_CT_init 80 = .ok (.invokespecial 53, 3) := by decide +kernel
theorem d_CT_init_83 : decode c_CT_init 83 = .ok (.putfield 54, 3) := by decide +kernel
theorem d_CT_init_86 : decode c_CT_init 86 = .ok (.aload_n 0, 1) := by decide +kernel
theorem d_CT_init_87 : decode c_CT_init 87 = .ok (.new 58, 3) := by decide +kernel
theorem d_CT_init_90 : decode c_CT_init 90 = .ok (.dup, 1) := by decide +kernel
theorem d_CT_init_91 : decode c_CT_init 91 = .ok (.invokespecial 60, 3) := by decide +kernel
theorem d_CT_init_94 : decode c_CT_init 94 = .ok (.putfield 61, 3) := by decide +kernel
theorem d_CT_init_97 : decode c_CT_init 97 = .ok (.aload_n 0, 1) := by decide +kernel
theorem d_CT_init_98 : decode c_CT_init 98 = .ok (.new 65, 3) := by decide +kernel
theorem d_CT_init_101 : decode c_CT_init 101 = .ok (.dup, 1) := by decide +kernel
theorem d_CT_init_102 : decode c_CT_init 102 = .ok (.invokespecial 67, 3) := by decide +kernel
theorem d_CT_init_105 : decode c_CT_init 105 = .ok (.putfield 68, 3) := by decide +kernel
theorem d_CT_init_108 : decode c_CT_init 108 = .ok (.aload_n 0, 1) := by decide +kernel
theorem d_CT_init_109 : decode c_CT_init 109 = .ok (.new 72, 3) := by decide +kernel
theorem d_CT_init_112 : decode c_CT_init 112 = .ok (.dup, 1) := by decide +kernel
theorem d_CT_init_113 : decode c_CT_init 113 = .ok (.invokespecial 74, 3) := by decide +kernel
theorem d_CT_init_116 : decode c_CT_init 116 = .ok (.putfield 75, 3) := by decide +kernel
theorem d_CT_init_119 : decode c_CT_init 119 = .ok (.aload_n 0, 1) := by decide +kernel
theorem d_CT_init_120 : decode c_CT_init 120 = .ok (.new 79, 3) := by decide +kernel
theorem d_CT_init_123 : decode c_CT_init 123 = .ok (.dup, 1) := by decide +kernel
theorem d_CT_init_124 : decode c_CT_init 124 = .ok (.invokespecial 81, 3) := by decide +kernel
theorem d_CT_init_127 : decode c_CT_init 127 = .ok (.putfield 82, 3) := by decide +kernel
theorem d_CT_init_130 : decode c_CT_init 130 = .ok (.return_, 1) := by decide +kernel
theorem d_CT_submit_0 : decode c_CT_submit 0 = .ok (.iload_n 1, 1) := by decide +kernel
theorem d_CT_submit_1 : decode c_CT_submit 1 = .ok (.bipush 10, 2) := by decide +kernel
theorem d_CT_submit_3 : decode c_CT_submit 3 = .ok (.invokestatic 86, 3) := by decide +kernel
theorem d_CT_submit_6 : decode c_CT_submit 6 = .ok (.ifCond .ne 5, 3) := by decide +kernel
theorem d_CT_submit_9 : decode c_CT_submit 9 = .ok (.iconst (-1), 1) := by decide +kernel
theorem d_CT_submit_10 : decode c_CT_submit 10 = .ok (.ireturn, 1) := by decide +kernel
theorem d_CT_submit_11 : decode c_CT_submit 11 = .ok (.aload_n 0, 1) := by decide +kernel
theorem d_CT_submit_12 : decode c_CT_submit 12 = .ok (.getfield 10, 3) := by decide +kernel
theorem d_CT_submit_15 : decode c_CT_submit 15 = .ok (.invokevirtual 90, 3) := by decide +kernel
theorem d_CT_submit_18 : decode c_CT_submit 18 = .ok (.istore_n 2, 1) := by decide +kernel
theorem d_CT_submit_19 : decode c_CT_submit 19 = .ok (.iload_n 2, 1) := by decide +kernel
theorem d_CT_submit_20 : decode c_CT_submit 20 = .ok (.iconst (-1), 1) := by decide +kernel
theorem d_CT_submit_21 : decode c_CT_submit 21 = .ok (.if_icmp .eq 8, 3) := by decide +kernel
theorem d_CT_submit_24 : decode c_CT_submit 24 = .ok (.bipush (-100), 2) := by decide +kernel
theorem d_CT_submit_26 : decode c_CT_submit 26 = .ok (.iload_n 2, 1) := by decide +kernel
theorem d_CT_submit_27 : decode c_CT_submit 27 = .ok (.isub, 1) := by decide +kernel
theorem d_CT_submit_28 : decode c_CT_submit 28 = .ok (.ireturn, 1) := by decide +kernel
theorem d_CT_submit_29 : decode c_CT_submit 29 = .ok (.aload_n 0, 1) := by decide +kernel
theorem d_CT_submit_30 : decode c_CT_submit 30 = .ok (.getfield 19, 3) := by decide +kernel
theorem d_CT_submit_33 : decode c_CT_submit 33 = .ok (.invokevirtual 94, 3) := by decide +kernel
theorem d_CT_submit_36 : decode c_CT_submit 36 = .ok (.bipush 20, 2) := by decide +kernel
theorem d_CT_submit_38 : decode c_CT_submit 38 = .ok (.if_icmp .lt 6, 3) := by decide +kernel
theorem d_CT_submit_41 : decode c_CT_submit 41 = .ok (.bipush (-3), 2) := by decide +kernel
theorem d_CT_submit_43 : decode c_CT_submit 43 = .ok (.ireturn, 1) := by decide +kernel
theorem d_CT_submit_44 : decode c_CT_submit 44 = .ok (.aload_n 0, 1) := by decide +kernel
theorem d_CT_submit_45 : decode c_CT_submit 45 = .ok (.getfield 26, 3) := by decide +kernel
theorem d_CT_submit_48 : decode c_CT_submit 48 = .ok (.aload_n 0, 1) := by decide +kernel
theorem d_CT_submit_49 : decode c_CT_submit 49 = .ok (.getfield 19, 3) := by decide +kernel
theorem d_CT_submit_52 : decode c_CT_submit 52 = .ok (.invokevirtual 97, 3) := by decide +kernel
theorem d_CT_submit_55 : decode c_CT_submit 55 = .ok (.aload_n 0, 1) := by decide +kernel
theorem d_CT_submit_56 : decode c_CT_submit 56 = .ok (.getfield 19, 3) := by decide +kernel
theorem d_CT_submit_59 : decode c_CT_submit 59 = .ok (.iload_n 1, 1) := by decide +kernel
theorem d_CT_submit_60 : decode c_CT_submit 60 = .ok (.aload_n 0, 1) := by decide +kernel
theorem d_CT_submit_61 : decode c_CT_submit 61 = .ok (.getfield 10, 3) := by decide +kernel
theorem d_CT_submit_64 : decode c_CT_submit 64 = .ok (.invokevirtual 101, 3) := by decide +kernel
theorem d_CT_submit_67 : decode c_CT_submit 67 = .ok (.ireturn, 1) := by decide +kernel
theorem d_CT_withdraw_0 : decode c_CT_withdraw 0 = .ok (.aload_n 0, 1) := by decide +kernel
theorem d_CT_withdraw_1 : decode c_CT_withdraw 1 = .ok (.getfield 19, 3) := by decide +kernel
theorem d_CT_withdraw_4 : decode c_CT_withdraw 4 = .ok (.iload_n 1, 1) := by decide +kernel
theorem d_CT_withdraw_5 : decode c_CT_withdraw 5 = .ok (.invokevirtual 105, 3) := by decide +kernel
theorem d_CT_withdraw_8 : decode c_CT_withdraw 8 = .ok (.ifCond .ne 5, 3) := by decide +kernel
theorem d_CT_withdraw_11 : decode c_CT_withdraw 11 = .ok (.iconst (-1), 1) := by decide +kernel
theorem d_CT_withdraw_12 : decode c_CT_withdraw 12 = .ok (.ireturn, 1) := by decide +kernel
theorem d_CT_withdraw_13 : decode c_CT_withdraw 13 = .ok (.aload_n 0, 1) := by decide +kernel
theorem d_CT_withdraw_14 : decode c_CT_withdraw 14 = .ok (.getfield 26, 3) := by decide +kernel
theorem d_CT_withdraw_17 : decode c_CT_withdraw 17 = .ok (.aload_n 0, 1) := by decide +kernel
theorem d_CT_withdraw_18 : decode c_CT_withdraw 18 = .ok (.getfield 19, 3) := by decide +kernel
theorem d_CT_withdraw_21 : decode c_CT_withdraw 21 = .ok (.invokevirtual 97, 3) := by decide +kernel
theorem d_CT_withdraw_24 : decode c_CT_withdraw 24 = .ok (.aload_n 0, 1) := by decide +kernel
theorem d_CT_withdraw_25 : decode c_CT_withdraw 25 = .ok (.getfield 19, 3) := by decide +kernel
theorem d_CT_withdraw_28 : decode c_CT_withdraw 28 = .ok (.iload_n 1, 1) := by decide +kernel
theorem d_CT_withdraw_29 : decode c_CT_withdraw 29 = .ok (.invokevirtual 109, 3) := by decide +kernel
theorem d_CT_withdraw_32 : decode c_CT_withdraw 32 = .ok (.aload_n 0, 1) := by decide +kernel
theorem d_CT_withdraw_33 : decode c_CT_withdraw 33 = .ok (.getfield 19, 3) := by decide +kernel
theorem d_CT_withdraw_36 : decode c_CT_withdraw 36 = .ok (.invokevirtual 113, 3) := by decide +kernel
theorem d_CT_withdraw_39 : decode c_CT_withdraw 39 = .ok (.ireturn, 1) := by decide +kernel
theorem d_CT_join_0 : decode c_CT_join 0 = .ok (.aload_n 0, 1) := by decide +kernel
theorem d_CT_join_1 : decode c_CT_join 1 = .ok (.getfield 19, 3) := by decide +kernel
theorem d_CT_join_4 : decode c_CT_join 4 = .ok (.iload_n 1, 1) := by decide +kernel
theorem d_CT_join_5 : decode c_CT_join 5 = .ok (.invokevirtual 105, 3) := by decide +kernel
theorem d_CT_join_8 : decode c_CT_join 8 = .ok (.ifCond .eq 14, 3) := by decide +kernel
theorem d_CT_join_11 : decode c_CT_join 11 = .ok (.aload_n 0, 1) := by decide +kernel
theorem d_CT_join_12 : decode c_CT_join 12 = .ok (.getfield 19, 3) := by decide +kernel
theorem d_CT_join_15 : decode c_CT_join 15 = .ok (.iload_n 2, 1) := by decide +kernel
theorem d_CT_join_16 : decode c_CT_join 16 = .ok (.invokevirtual 105, 3) := by decide +kernel
theorem d_CT_join_19 : decode c_CT_join 19 = .ok (.ifCond .ne 5, 3) := by decide +kernel
theorem d_CT_join_22 : decode c_CT_join 22 = .ok (.iconst (-1), 1) := by decide +kernel
theorem d_CT_join_23 : decode c_CT_join 23 = .ok (.ireturn, 1) := by decide +kernel
theorem d_CT_join_24 : decode c_CT_join 24 = .ok (.iload_n 1, 1) := by decide +kernel
theorem d_CT_join_25 : decode c_CT_join 25 = .ok (.iload_n 2, 1) := by decide +kernel
theorem d_CT_join_26 : decode c_CT_join 26 = .ok (.if_icmp .ne 6, 3) := by decide +kernel
theorem d_CT_join_29 : decode c_CT_join 29 = .ok (.bipush (-2), 2) := by decide +kernel
theorem d_CT_join_31 : decode c_CT_join 31 = .ok (.ireturn, 1) := by decide +kernel
theorem d_CT_join_32 : decode c_CT_join 32 = .ok (.aload_n 0, 1) := by decide +kernel
theorem d_CT_join_33 : decode c_CT_join 33 = .ok (.getfield 40, 3) := by decide +kernel
theorem d_CT_join_36 : decode c_CT_join 36 = .ok (.aload_n 0, 1) := by decide +kernel
theorem d_CT_join_37 : decode c_CT_join 37 = .ok (.getfield 19, 3) := by decide +kernel
theorem d_CT_join_40 : decode c_CT_join 40 = .ok (.invokevirtual 116, 3) := by decide +kernel
theorem d_CT_join_43 : decode c_CT_join 43 = .ok (.aload_n 0, 1) := by decide +kernel
theorem d_CT_join_44 : decode c_CT_join 44 = .ok (.getfield 40, 3) := by decide +kernel
theorem d_CT_join_47 : decode c_CT_join 47 = .ok (.iload_n 1, 1) := by decide +kernel
theorem d_CT_join_48 : decode c_CT_join 48 = .ok (.invokevirtual 119, 3) := by decide +kernel
theorem d_CT_join_51 : decode c_CT_join 51 = .ok (.aload_n 0, 1) := by decide +kernel
theorem d_CT_join_52 : decode c_CT_join 52 = .ok (.getfield 40, 3) := by decide +kernel
theorem d_CT_join_55 : decode c_CT_join 55 = .ok (.iload_n 2, 1) := by decide +kernel
theorem d_CT_join_56 : decode c_CT_join 56 = .ok (.invokevirtual 119, 3) := by decide +kernel
theorem d_CT_join_59 : decode c_CT_join 59 = .ok (.if_icmp .ne 6, 3) := by decide +kernel
theorem d_CT_join_62 : decode c_CT_join 62 = .ok (.bipush (-5), 2) := by decide +kernel
theorem d_CT_join_64 : decode c_CT_join 64 = .ok (.ireturn, 1) := by decide +kernel
theorem d_CT_join_65 : decode c_CT_join 65 = .ok (.aload_n 0, 1) := by decide +kernel
theorem d_CT_join_66 : decode c_CT_join 66 = .ok (.getfield 26, 3) := by decide +kernel
theorem d_CT_join_69 : decode c_CT_join 69 = .ok (.aload_n 0, 1) := by decide +kernel
theorem d_CT_join_70 : decode c_CT_join 70 = .ok (.getfield 19, 3) := by decide +kernel
theorem d_CT_join_73 : decode c_CT_join 73 = .ok (.invokevirtual 97, 3) := by decide +kernel
theorem d_CT_join_76 : decode c_CT_join 76 = .ok (.aload_n 0, 1) := by decide +kernel
theorem d_CT_join_77 : decode c_CT_join 77 = .ok (.getfield 19, 3) := by decide +kernel
theorem d_CT_join_80 : decode c_CT_join 80 = .ok (.iload_n 1, 1) := by decide +kernel
theorem d_CT_join_81 : decode c_CT_join 81 = .ok (.iload_n 2, 1) := by decide +kernel
theorem d_CT_join_82 : decode c_CT_join 82 = .ok (.invokevirtual 123, 3) := by decide +kernel
theorem d_CT_join_85 : decode c_CT_join 85 = .ok (.aload_n 0, 1) := by decide +kernel
theorem d_CT_join_86 : decode c_CT_join 86 = .ok (.getfield 40, 3) := by decide +kernel
theorem d_CT_join_89 : decode c_CT_join 89 = .ok (.aload_n 0, 1) := by decide +kernel
theorem d_CT_join_90 : decode c_CT_join 90 = .ok (.getfield 19, 3) := by decide +kernel
theorem d_CT_join_93 : decode c_CT_join 93 = .ok (.invokevirtual 116, 3) := by decide +kernel
theorem d_CT_join_96 : decode c_CT_join 96 = .ok (.aload_n 0, 1) := by decide +kernel
theorem d_CT_join_97 : decode c_CT_join 97 = .ok (.getfield 40, 3) := by decide +kernel
theorem d_CT_join_100 : decode c_CT_join 100 = .ok (.iload_n 1, 1) := by decide +kernel
theorem d_CT_join_101 : decode c_CT_join 101 = .ok (.invokevirtual 119, 3) := by decide +kernel
theorem d_CT_join_104 : decode c_CT_join 104 = .ok (.ireturn, 1) := by decide +kernel
theorem d_CT_part_0 : decode c_CT_part 0 = .ok (.aload_n 0, 1) := by decide +kernel
theorem d_CT_part_1 : decode c_CT_part 1 = .ok (.getfield 19, 3) := by decide +kernel
theorem d_CT_part_4 : decode c_CT_part 4 = .ok (.iload_n 1, 1) := by decide +kernel
theorem d_CT_part_5 : decode c_CT_part 5 = .ok (.invokevirtual 105, 3) := by decide +kernel
theorem d_CT_part_8 : decode c_CT_part 8 = .ok (.ifCond .ne 5, 3) := by decide +kernel
theorem d_CT_part_11 : decode c_CT_part 11 = .ok (.iconst (-1), 1) := by decide +kernel
theorem d_CT_part_12 : decode c_CT_part 12 = .ok (.ireturn, 1) := by decide +kernel
theorem d_CT_part_13 : decode c_CT_part 13 = .ok (.aload_n 0, 1) := by decide +kernel
theorem d_CT_part_14 : decode c_CT_part 14 = .ok (.getfield 19, 3) := by decide +kernel
theorem d_CT_part_17 : decode c_CT_part 17 = .ok (.iload_n 1, 1) := by decide +kernel
theorem d_CT_part_18 : decode c_CT_part 18 = .ok (.invokevirtual 127, 3) := by decide +kernel
theorem d_CT_part_21 : decode c_CT_part 21 = .ok (.ifCond .ne 6, 3) := by decide +kernel
theorem d_CT_part_24 : decode c_CT_part 24 = .ok (.bipush (-5), 2) := by decide +kernel
theorem d_CT_part_26 : decode c_CT_part 26 = .ok (.ireturn, 1) := by decide +kernel
theorem d_CT_part_27 : decode c_CT_part 27 = .ok (.aload_n 0, 1) := by decide +kernel
theorem d_CT_part_28 : decode c_CT_part 28 = .ok (.getfield 26, 3) := by decide +kernel
theorem d_CT_part_31 : decode c_CT_part 31 = .ok (.aload_n 0, 1) := by decide +kernel
theorem d_CT_part_32 : decode c_CT_part 32 = .ok (.getfield 19, 3) := by decide +kernel
theorem d_CT_part_35 : decode c_CT_part 35 = .ok (.invokevirtual 97, 3) := by decide +kernel
theorem d_CT_part_38 : decode c_CT_part 38 = .ok (.aload_n 0, 1) := by decide +kernel
theorem d_CT_part_39 : decode c_CT_part 39 = .ok (.getfield 19, 3) := by decide +kernel
theorem d_CT_part_42 : decode c_CT_part 42 = .ok (.iload_n 1, 1) := by decide +kernel
theorem d_CT_part_43 : decode c_CT_part 43 = .ok (.invokevirtual 130, 3) := by decide +kernel
theorem d_CT_part_46 : decode c_CT_part 46 = .ok (.aload_n 0, 1) := by decide +kernel
theorem d_CT_part_47 : decode c_CT_part 47 = .ok (.getfield 40, 3) := by decide +kernel
theorem d_CT_part_50 : decode c_CT_part 50 = .ok (.aload_n 0, 1) := by decide +kernel
theorem d_CT_part_51 : decode c_CT_part 51 = .ok (.getfield 19, 3) := by decide +kernel
theorem d_CT_part_54 : decode c_CT_part 54 = .ok (.invokevirtual 116, 3) := by decide +kernel
theorem d_CT_part_57 : decode c_CT_part 57 = .ok (.aload_n 0, 1) := by decide +kernel
theorem d_CT_part_58 : decode c_CT_part 58 = .ok (.getfield 40, 3) := by decide +kernel
theorem d_CT_part_61 : decode c_CT_part 61 = .ok (.iload_n 1, 1) := by decide +kernel
theorem d_CT_part_62 : decode c_CT_part 62 = .ok (.invokevirtual 119, 3) := by decide +kernel
theorem d_CT_part_65 : decode c_CT_part 65 = .ok (.ireturn, 1) := by decide +kernel
theorem d_CT_vote_0 : decode c_CT_vote 0 = .ok (.iload_n 1, 1) := by decide +kernel
theorem d_CT_vote_1 : decode c_CT_vote 1 = .ok (.bipush 12, 2) := by decide +kernel
theorem d_CT_vote_3 : decode c_CT_vote 3 = .ok (.invokestatic 86, 3) := by decide +kernel
theorem d_CT_vote_6 : decode c_CT_vote 6 = .ok (.ifCond .ne 5, 3) := by decide +kernel
theorem d_CT_vote_9 : decode c_CT_vote 9 = .ok (.iconst (-1), 1) := by decide +kernel
theorem d_CT_vote_10 : decode c_CT_vote 10 = .ok (.ireturn, 1) := by decide +kernel
theorem d_CT_vote_11 : decode c_CT_vote 11 = .ok (.aload_n 0, 1) := by decide +kernel
theorem d_CT_vote_12 : decode c_CT_vote 12 = .ok (.iload_n 2, 1) := by decide +kernel
theorem d_CT_vote_13 : decode c_CT_vote 13 = .ok (.invokevirtual 133, 3) := by decide +kernel
theorem d_CT_vote_16 : decode c_CT_vote 16 = .ok (.ifCond .eq 20, 3) := by decide +kernel
theorem d_CT_vote_19 : decode c_CT_vote 19 = .ok (.aload_n 0, 1) := by decide +kernel
theorem d_CT_vote_20 : decode c_CT_vote 20 = .ok (.iload_n 3, 1) := by decide +kernel
theorem d_CT_vote_21 : decode c_CT_vote 21 = .ok (.invokevirtual 133, 3) := by decide +kernel
theorem d_CT_vote_24 : decode c_CT_vote 24 = .ok (.ifCond .eq 12, 3) := by decide +kernel
theorem d_CT_vote_27 : decode c_CT_vote 27 = .ok (.aload_n 0, 1) := by decide +kernel
theorem d_CT_vote_28 : decode c_CT_vote 28 = .ok (.iload 4, 2) := by decide +kernel
theorem d_CT_vote_30 : decode c_CT_vote 30 = .ok (.invokevirtual 133, 3) := by decide +kernel
theorem d_CT_vote_33 : decode c_CT_vote 33 = .ok (.ifCond .ne 5, 3) := by decide +kernel
theorem d_CT_vote_36 : decode c_CT_vote 36 = .ok (.iconst (-1), 1) := by decide +kernel
theorem d_CT_vote_37 : decode c_CT_vote 37 = .ok (.ireturn, 1) := by decide +kernel
theorem d_CT_vote_38 : decode c_CT_vote 38 = .ok (.iload_n 2, 1) := by decide +kernel
theorem d_CT_vote_39 : decode c_CT_vote 39 = .ok (.iload_n 3, 1) := by decide +kernel
theorem d_CT_vote_40 : decode c_CT_vote 40 = .ok (.iload 4, 2) := by decide +kernel
theorem d_CT_vote_42 : decode c_CT_vote 42 = .ok (.invokestatic 136, 3) := by decide +kernel
theorem d_CT_vote_45 : decode c_CT_vote 45 = .ok (.ifCond .ne 13, 3) := by decide +kernel
theorem d_CT_vote_48 : decode c_CT_vote 48 = .ok (.iload_n 2, 1) := by decide +kernel
theorem d_CT_vote_49 : decode c_CT_vote 49 = .ok (.iload_n 3, 1) := by decide +kernel
theorem d_CT_vote_50 : decode c_CT_vote 50 = .ok (.iload 4, 2) := by decide +kernel
theorem d_CT_vote_52 : decode c_CT_vote 52 = .ok (.invokestatic 140, 3) := by decide +kernel
theorem d_CT_vote_55 : decode c_CT_vote 55 = .ok (.ifCond .eq 6, 3) := by decide +kernel
theorem d_CT_vote_58 : decode c_CT_vote 58 = .ok (.bipush (-2), 2) := by decide +kernel
theorem d_CT_vote_60 : decode c_CT_vote 60 = .ok (.ireturn, 1) := by decide +kernel
theorem d_CT_vote_61 : decode c_CT_vote 61 = .ok (.aload_n 0, 1) := by decide +kernel
theorem d_CT_vote_62 : decode c_CT_vote 62 = .ok (.getfield 19, 3) := by decide +kernel
theorem d_CT_vote_65 : decode c_CT_vote 65 = .ok (.iload_n 1, 1) := by decide +kernel
theorem d_CT_vote_66 : decode c_CT_vote 66 = .ok (.iload_n 2, 1) := by decide +kernel
theorem d_CT_vote_67 : decode c_CT_vote 67 = .ok (.iload_n 3, 1) := by decide +kernel
theorem d_CT_vote_68 : decode c_CT_vote 68 = .ok (.iload 4, 2) := by decide +kernel
theorem d_CT_vote_70 : decode c_CT_vote 70 = .ok (.invokevirtual 143, 3) := by decide +kernel
theorem d_CT_vote_73 : decode c_CT_vote 73 = .ok (.ifCond .eq 6, 3) := by decide +kernel
theorem d_CT_vote_76 : decode c_CT_vote 76 = .ok (.bipush (-5), 2) := by decide +kernel
theorem d_CT_vote_78 : decode c_CT_vote 78 = .ok (.ireturn, 1) := by decide +kernel
theorem d_CT_vote_79 : decode c_CT_vote 79 = .ok (.aload_n 0, 1) := by decide +kernel
theorem d_CT_vote_80 : decode c_CT_vote 80 = .ok (.getfield 26, 3) := by decide +kernel
theorem d_CT_vote_83 : decode c_CT_vote 83 = .ok (.aload_n 0, 1) := by decide +kernel
theorem d_CT_vote_84 : decode c_CT_vote 84 = .ok (.getfield 19, 3) := by decide +kernel
theorem d_CT_vote_87 : decode c_CT_vote 87 = .ok (.invokevirtual 97, 3) := by decide +kernel
theorem d_CT_vote_90 : decode c_CT_vote 90 = .ok (.aload_n 0, 1) := by decide +kernel
theorem d_CT_vote_91 : decode c_CT_vote 91 = .ok (.getfield 19, 3) := by decide +kernel
theorem d_CT_vote_94 : decode c_CT_vote 94 = .ok (.iload_n 1, 1) := by decide +kernel
theorem d_CT_vote_95 : decode c_CT_vote 95 = .ok (.iload_n 2, 1) := by decide +kernel
theorem d_CT_vote_96 : decode c_CT_vote 96 = .ok (.iload_n 3, 1) := by decide +kernel
theorem d_CT_vote_97 : decode c_CT_vote 97 = .ok (.iload 4, 2) := by decide +kernel
theorem d_CT_vote_99 : decode c_CT_vote 99 = .ok (.invokevirtual 147, 3) := by decide +kernel
theorem d_CT_vote_102 : decode c_CT_vote 102 = .ok (.aload_n 0, 1) := by decide +kernel
theorem d_CT_vote_103 : decode c_CT_vote 103 = .ok (.getfield 19, 3) := by decide +kernel
theorem d_CT_vote_106 : decode c_CT_vote 106 = .ok (.iload_n 1, 1) := by decide +kernel
theorem d_CT_vote_107 : decode c_CT_vote 107 = .ok (.invokevirtual 151, 3) := by decide +kernel
theorem d_CT_vote_110 : decode c_CT_vote 110 = .ok (.ireturn, 1) := by decide +kernel
theorem d_CT_score_0 : decode c_CT_score 0 = .ok (.iload_n 1, 1) := by decide +kernel
theorem d_CT_score_1 : decode c_CT_score 1 = .ok (.iconst 3, 1) := by decide +kernel
theorem d_CT_score_2 : decode c_CT_score 2 = .ok (.invokestatic 86, 3) := by decide +kernel
theorem d_CT_score_5 : decode c_CT_score 5 = .ok (.ifCond .eq 14, 3) := by decide +kernel
theorem d_CT_score_8 : decode c_CT_score 8 = .ok (.aload_n 0, 1) := by decide +kernel
theorem d_CT_score_9 : decode c_CT_score 9 = .ok (.getfield 19, 3) := by decide +kernel
theorem d_CT_score_12 : decode c_CT_score 12 = .ok (.iload_n 2, 1) := by decide +kernel
theorem d_CT_score_13 : decode c_CT_score 13 = .ok (.invokevirtual 105, 3) := by decide +kernel
theorem d_CT_score_16 : decode c_CT_score 16 = .ok (.ifCond .ne 5, 3) := by decide +kernel
theorem d_CT_score_19 : decode c_CT_score 19 = .ok (.iconst (-1), 1) := by decide +kernel
theorem d_CT_score_20 : decode c_CT_score 20 = .ok (.ireturn, 1) := by decide +kernel
theorem d_CT_score_21 : decode c_CT_score 21 = .ok (.iload_n 3, 1) := by decide +kernel
theorem d_CT_score_22 : decode c_CT_score 22 = .ok (.ifCond .lt 9, 3) := by decide +kernel
theorem d_CT_score_25 : decode c_CT_score 25 = .ok (.iload_n 3, 1) := by decide +kernel
theorem d_CT_score_26 : decode c_CT_score 26 = .ok (.bipush 10, 2) := by decide +kernel
theorem d_CT_score_28 : decode c_CT_score 28 = .ok (.if_icmp .le 6, 3) := by decide +kernel
theorem d_CT_score_31 : decode c_CT_score 31 = .ok (.bipush (-2), 2) := by decide +kernel
theorem d_CT_score_33 : decode c_CT_score 33 = .ok (.ireturn, 1) := by decide +kernel
theorem d_CT_score_34 : decode c_CT_score 34 = .ok (.aload_n 0, 1) := by decide +kernel
theorem d_CT_score_35 : decode c_CT_score 35 = .ok (.getfield 19, 3) := by decide +kernel
theorem d_CT_score_38 : decode c_CT_score 38 = .ok (.iload_n 1, 1) := by decide +kernel
theorem d_CT_score_39 : decode c_CT_score 39 = .ok (.iload_n 2, 1) := by decide +kernel
theorem d_CT_score_40 : decode c_CT_score 40 = .ok (.invokevirtual 154, 3) := by decide +kernel
theorem d_CT_score_43 : decode c_CT_score 43 = .ok (.iload_n 3, 1) := by decide +kernel
theorem d_CT_score_44 : decode c_CT_score 44 = .ok (.if_icmp .ne 6, 3) := by decide +kernel
theorem d_CT_score_47 : decode c_CT_score 47 = .ok (.bipush (-5), 2) := by decide +kernel
theorem d_CT_score_49 : decode c_CT_score 49 = .ok (.ireturn, 1) := by decide +kernel
theorem d_CT_score_50 : decode c_CT_score 50 = .ok (.aload_n 0, 1) := by decide +kernel
theorem d_CT_score_51 : decode c_CT_score 51 = .ok (.getfield 26, 3) := by decide +kernel
theorem d_CT_score_54 : decode c_CT_score 54 = .ok (.aload_n 0, 1) := by decide +kernel
theorem d_CT_score_55 : decode c_CT_score 55 = .ok (.getfield 19, 3) := by decide +kernel
theorem d_CT_score_58 : decode c_CT_score 58 = .ok (.invokevirtual 97, 3) := by decide +kernel
theorem d_CT_score_61 : decode c_CT_score 61 = .ok (.aload_n 0, 1) := by decide +kernel
theorem d_CT_score_62 : decode c_CT_score 62 = .ok (.getfield 19, 3) := by decide +kernel
theorem d_CT_score_65 : decode c_CT_score 65 = .ok (.iload_n 1, 1) := by decide +kernel
theorem d_CT_score_66 : decode c_CT_score 66 = .ok (.iload_n 2, 1) := by decide +kernel
theorem d_CT_score_67 : decode c_CT_score 67 = .ok (.iload_n 3, 1) := by decide +kernel
theorem d_CT_score_68 : decode c_CT_score 68 = .ok (.invokevirtual 158, 3) := by decide +kernel
theorem d_CT_score_71 : decode c_CT_score 71 = .ok (.aload_n 0, 1) := by decide +kernel
theorem d_CT_score_72 : decode c_CT_score 72 = .ok (.getfield 40, 3) := by decide +kernel
theorem d_CT_score_75 : decode c_CT_score 75 = .ok (.aload_n 0, 1) := by decide +kernel
theorem d_CT_score_76 : decode c_CT_score 76 = .ok (.getfield 19, 3) := by decide +kernel
theorem d_CT_score_79 : decode c_CT_score 79 = .ok (.invokevirtual 116, 3) := by decide +kernel
theorem d_CT_score_82 : decode c_CT_score 82 = .ok (.aload_n 0, 1) := by decide +kernel
theorem d_CT_score_83 : decode c_CT_score 83 = .ok (.getfield 54, 3) := by decide +kernel
theorem d_CT_score_86 : decode c_CT_score 86 = .ok (.aload_n 0, 1) := by decide +kernel
theorem d_CT_score_87 : decode c_CT_score 87 = .ok (.getfield 19, 3) := by decide +kernel
theorem d_CT_score_90 : decode c_CT_score 90 = .ok (.aload_n 0, 1) := by decide +kernel
theorem d_CT_score_91 : decode c_CT_score 91 = .ok (.getfield 40, 3) := by decide +kernel
theorem d_CT_score_94 : decode c_CT_score 94 = .ok (.invokevirtual 162, 3) := by decide +kernel
theorem d_CT_score_97 : decode c_CT_score 97 = .ok (.aload_n 0, 1) := by decide +kernel
theorem d_CT_score_98 : decode c_CT_score 98 = .ok (.getfield 54, 3) := by decide +kernel
theorem d_CT_score_101 : decode c_CT_score 101 = .ok (.iload_n 1, 1) := by decide +kernel
theorem d_CT_score_102 : decode c_CT_score 102 = .ok (.aload_n 0, 1) := by decide +kernel
theorem d_CT_score_103 : decode c_CT_score 103 = .ok (.getfield 40, 3) := by decide +kernel
theorem d_CT_score_106 : decode c_CT_score 106 = .ok (.iload_n 2, 1) := by decide +kernel
theorem d_CT_score_107 : decode c_CT_score 107 = .ok (.invokevirtual 119, 3) := by decide +kernel
theorem d_CT_score_110 : decode c_CT_score 110 = .ok (.invokevirtual 166, 3) := by decide +kernel
theorem d_CT_score_113 : decode c_CT_score 113 = .ok (.ireturn, 1) := by decide +kernel
theorem d_CT_set_0 : decode c_CT_set 0 = .ok (.iload_n 1, 1) := by decide +kernel
theorem d_CT_set_1 : decode c_CT_set 1 = .ok (.iconst 3, 1) := by decide +kernel
theorem d_CT_set_2 : decode c_CT_set 2 = .ok (.invokestatic 86, 3) := by decide +kernel
theorem d_CT_set_5 : decode c_CT_set 5 = .ok (.ifCond .eq 15, 3) := by decide +kernel
theorem d_CT_set_8 : decode c_CT_set 8 = .ok (.iload_n 2, 1) := by decide +kernel
theorem d_CT_set_9 : decode c_CT_set 9 = .ok (.ifCond .lt 11, 3) := by decide +kernel
theorem d_CT_set_12 : decode c_CT_set 12 = .ok (.iload_n 2, 1) := by decide +kernel
theorem d_CT_set_13 : decode c_CT_set 13 = .ok (.iload_n 1, 1) := by decide +kernel
theorem d_CT_set_14 : decode c_CT_set 14 = .ok (.invokestatic 169, 3) := by decide +kernel
theorem d_CT_set_17 : decode c_CT_set 17 = .ok (.if_icmp .le 6, 3) := by decide +kernel
theorem d_CT_set_20 : decode c_CT_set 20 = .ok (.bipush (-2), 2) := by decide +kernel
theorem d_CT_set_22 : decode c_CT_set 22 = .ok (.ireturn, 1) := by decide +kernel
theorem d_CT_set_23 : decode c_CT_set 23 = .ok (.aload_n 0, 1) := by decide +kernel
theorem d_CT_set_24 : decode c_CT_set 24 = .ok (.getfield 19, 3) := by decide +kernel
theorem d_CT_set_27 : decode c_CT_set 27 = .ok (.iload_n 1, 1) := by decide +kernel
theorem d_CT_set_28 : decode c_CT_set 28 = .ok (.invokevirtual 172, 3) := by decide +kernel
theorem d_CT_set_31 : decode c_CT_set 31 = .ok (.istore_n 3, 1) := by decide +kernel
theorem d_CT_set_32 : decode c_CT_set 32 = .ok (.iload_n 3, 1) := by decide +kernel
theorem d_CT_set_33 : decode c_CT_set 33 = .ok (.iload_n 2, 1) := by decide +kernel
theorem d_CT_set_34 : decode c_CT_set 34 = .ok (.if_icmp .ne 6, 3) := by decide +kernel
theorem d_CT_set_37 : decode c_CT_set 37 = .ok (.bipush (-5), 2) := by decide +kernel
theorem d_CT_set_39 : decode c_CT_set 39 = .ok (.ireturn, 1) := by decide +kernel
theorem d_CT_set_40 : decode c_CT_set 40 = .ok (.aload_n 0, 1) := by decide +kernel
theorem d_CT_set_41 : decode c_CT_set 41 = .ok (.getfield 26, 3) := by decide +kernel
theorem d_CT_set_44 : decode c_CT_set 44 = .ok (.aload_n 0, 1) := by decide +kernel
theorem d_CT_set_45 : decode c_CT_set 45 = .ok (.getfield 19, 3) := by decide +kernel
theorem d_CT_set_48 : decode c_CT_set 48 = .ok (.invokevirtual 97, 3) := by decide +kernel
theorem d_CT_set_51 : decode c_CT_set 51 = .ok (.aload_n 0, 1) := by decide +kernel
theorem d_CT_set_52 : decode c_CT_set 52 = .ok (.getfield 19, 3) := by decide +kernel
theorem d_CT_set_55 : decode c_CT_set 55 = .ok (.iload_n 1, 1) := by decide +kernel
theorem d_CT_set_56 : decode c_CT_set 56 = .ok (.iload_n 2, 1) := by decide +kernel
theorem d_CT_set_57 : decode c_CT_set 57 = .ok (.invokevirtual 175, 3) := by decide +kernel
theorem d_CT_set_60 : decode c_CT_set 60 = .ok (.iload_n 3, 1) := by decide +kernel
theorem d_CT_set_61 : decode c_CT_set 61 = .ok (.ireturn, 1) := by decide +kernel
theorem d_CT_prize_0 : decode c_CT_prize 0 = .ok (.iload_n 1, 1) := by decide +kernel
theorem d_CT_prize_1 : decode c_CT_prize 1 = .ok (.iconst 1, 1) := by decide +kernel
theorem d_CT_prize_2 : decode c_CT_prize 2 = .ok (.if_icmp .lt 19, 3) := by decide +kernel
theorem d_CT_prize_5 : decode c_CT_prize 5 = .ok (.iload_n 1, 1) := by decide +kernel
theorem d_CT_prize_6 : decode c_CT_prize 6 = .ok (.iconst 5, 1) := by decide +kernel
theorem d_CT_prize_7 : decode c_CT_prize 7 = .ok (.if_icmp .gt 14, 3) := by decide +kernel
theorem d_CT_prize_10 : decode c_CT_prize 10 = .ok (.iload_n 2, 1) := by decide +kernel
theorem d_CT_prize_11 : decode c_CT_prize 11 = .ok (.ifCond .lt 10, 3) := by decide +kernel
theorem d_CT_prize_14 : decode c_CT_prize 14 = .ok (.iload_n 2, 1) := by decide +kernel
theorem d_CT_prize_15 : decode c_CT_prize 15 = .ok (.sipush 999, 3) := by decide +kernel
theorem d_CT_prize_18 : decode c_CT_prize 18 = .ok (.if_icmp .le 6, 3) := by decide +kernel
theorem d_CT_prize_21 : decode c_CT_prize 21 = .ok (.bipush (-2), 2) := by decide +kernel
theorem d_CT_prize_23 : decode c_CT_prize 23 = .ok (.ireturn, 1) := by decide +kernel
theorem d_CT_prize_24 : decode c_CT_prize 24 = .ok (.aload_n 0, 1) := by decide +kernel
theorem d_CT_prize_25 : decode c_CT_prize 25 = .ok (.getfield 19, 3) := by decide +kernel
theorem d_CT_prize_28 : decode c_CT_prize 28 = .ok (.iload_n 1, 1) := by decide +kernel
theorem d_CT_prize_29 : decode c_CT_prize 29 = .ok (.invokevirtual 178, 3) := by decide +kernel
theorem d_CT_prize_32 : decode c_CT_prize 32 = .ok (.istore_n 3, 1) := by decide +kernel
theorem d_CT_prize_33 : decode c_CT_prize 33 = .ok (.iload_n 3, 1) := by decide +kernel
theorem d_CT_prize_34 : decode c_CT_prize 34 = .ok (.iload_n 2, 1) := by decide +kernel
theorem d_CT_prize_35 : decode c_CT_prize 35 = .ok (.if_icmp .ne 6, 3) := by decide +kernel
theorem d_CT_prize_38 : decode c_CT_prize 38 = .ok (.bipush (-5), 2) := by decide +kernel
theorem d_CT_prize_40 : decode c_CT_prize 40 = .ok (.ireturn, 1) := by decide +kernel
theorem d_CT_prize_41 : decode c_CT_prize 41 = .ok (.aload_n 0, 1) := by decide +kernel
theorem d_CT_prize_42 : decode c_CT_prize 42 = .ok (.getfield 26, 3) := by decide +kernel
theorem d_CT_prize_45 : decode c_CT_prize 45 = .ok (.aload_n 0, 1) := by decide +kernel
theorem d_CT_prize_46 : decode c_CT_prize 46 = .ok (.getfield 19, 3) := by decide +kernel
theorem d_CT_prize_49 : decode c_CT_prize 49 = .ok (.invokevirtual 97, 3) := by decide +kernel
theorem d_CT_prize_52 : decode c_CT_prize 52 = .ok (.aload_n 0, 1) := by decide +kernel
theorem d_CT_prize_53 : decode c_CT_prize 53 = .ok (.getfield 19, 3) := by decide +kernel
theorem d_CT_prize_56 : decode c_CT_prize 56 = .ok (.iload_n 1, 1) := by decide +kernel
theorem d_CT_prize_57 : decode c_CT_prize 57 = .ok (.iload_n 2, 1) := by decide +kernel
theorem d_CT_prize_58 : decode c_CT_prize 58 = .ok (.invokevirtual 181, 3) := by decide +kernel
theorem d_CT_prize_61 : decode c_CT_prize 61 = .ok (.iload_n 3, 1) := by decide +kernel
theorem d_CT_prize_62 : decode c_CT_prize 62 = .ok (.ireturn, 1) := by decide +kernel
theorem d_CT_type_0 : decode c_CT_type 0 = .ok (.aload_n 0, 1) := by decide +kernel
theorem d_CT_type_1 : decode c_CT_type 1 = .ok (.getfield 10, 3) := by decide +kernel
theorem d_CT_type_4 : decode c_CT_type 4 = .ok (.invokevirtual 184, 3) := by decide +kernel
theorem d_CT_type_7 : decode c_CT_type 7 = .ok (.bipush 60, 2) := by decide +kernel
theorem d_CT_type_9 : decode c_CT_type 9 = .ok (.if_icmp .lt 6, 3) := by decide +kernel
theorem d_CT_type_12 : decode c_CT_type 12 = .ok (.bipush (-3), 2) := by decide +kernel
theorem d_CT_type_14 : decode c_CT_type 14 = .ok (.ireturn, 1) := by decide +kernel
theorem d_CT_type_15 : decode c_CT_type 15 = .ok (.aload_n 0, 1) := by decide +kernel
theorem d_CT_type_16 : decode c_CT_type 16 = .ok (.getfield 10, 3) := by decide +kernel
theorem d_CT_type_19 : decode c_CT_type 19 = .ok (.iload_n 1, 1) := by decide +kernel
theorem d_CT_type_20 : decode c_CT_type 20 = .ok (.invokevirtual 187, 3) := by decide +kernel
theorem d_CT_type_23 : decode c_CT_type 23 = .ok (.aload_n 0, 1) := by decide +kernel
theorem d_CT_type_24 : decode c_CT_type 24 = .ok (.getfield 10, 3) := by decide +kernel
theorem d_CT_type_27 : decode c_CT_type 27 = .ok (.invokevirtual 184, 3) := by decide +kernel
theorem d_CT_type_30 : decode c_CT_type 30 = .ok (.ireturn, 1) := by decide +kernel
theorem d_CT_clearText_0 : decode c_CT_clearText 0 = .ok (.aload_n 0, 1) := by decide +kernel
theorem d_CT_clearText_1 : decode c_CT_clearText 1 = .ok (.getfield 10, 3) := by decide +kernel
theorem d_CT_clearText_4 : decode c_CT_clearText 4 = .ok (.invokevirtual 184, 3) := by decide +kernel
theorem d_CT_clearText_7 : decode c_CT_clearText 7 = .ok (.istore_n 1, 1) := by decide +kernel
theorem d_CT_clearText_8 : decode c_CT_clearText 8 = .ok (.aload_n 0, 1) := by decide +kernel
theorem d_CT_clearText_9 : decode c_CT_clearText 9 = .ok (.getfield 10, 3) := by decide +kernel
theorem d_CT_clearText_12 : decode c_CT_clearText 12 = .ok (.invokevirtual 191, 3) := by decide +kernel
theorem d_CT_clearText_15 : decode c_CT_clearText 15 = .ok (.iload_n 1, 1) := by decide +kernel
theorem d_CT_clearText_16 : decode c_CT_clearText 16 = .ok (.ireturn, 1) := by decide +kernel
theorem d_CT_undo_0 : decode c_CT_undo 0 = .ok (.aload_n 0, 1) := by decide +kernel
theorem d_CT_undo_1 : decode c_CT_undo 1 = .ok (.getfield 26, 3) := by decide +kernel
theorem d_CT_undo_4 : decode c_CT_undo 4 = .ok (.invokevirtual 194, 3) := by decide +kernel
theorem d_CT_undo_7 : decode c_CT_undo 7 = .ok (.ifCond .ne 6, 3) := by decide +kernel
theorem d_CT_undo_10 : decode c_CT_undo 10 = .ok (.bipush (-5), 2) := by decide +kernel
theorem d_CT_undo_12 : decode c_CT_undo 12 = .ok (.ireturn, 1) := by decide +kernel
theorem d_CT_undo_13 : decode c_CT_undo 13 = .ok (.aload_n 0, 1) := by decide +kernel
theorem d_CT_undo_14 : decode c_CT_undo 14 = .ok (.getfield 26, 3) := by decide +kernel
theorem d_CT_undo_17 : decode c_CT_undo 17 = .ok (.aload_n 0, 1) := by decide +kernel
theorem d_CT_undo_18 : decode c_CT_undo 18 = .ok (.getfield 19, 3) := by decide +kernel
theorem d_CT_undo_21 : decode c_CT_undo 21 = .ok (.invokevirtual 197, 3) := by decide +kernel
theorem d_CT_undo_24 : decode c_CT_undo 24 = .ok (.aload_n 0, 1) := by decide +kernel
theorem d_CT_undo_25 : decode c_CT_undo 25 = .ok (.getfield 26, 3) := by decide +kernel
theorem d_CT_undo_28 : decode c_CT_undo 28 = .ok (.invokevirtual 194, 3) := by decide +kernel
theorem d_CT_undo_31 : decode c_CT_undo 31 = .ok (.ireturn, 1) := by decide +kernel
theorem d_CT_keep_0 : decode c_CT_keep 0 = .ok (.aload_n 0, 1) := by decide +kernel
theorem d_CT_keep_1 : decode c_CT_keep 1 = .ok (.getfield 30, 3) := by decide +kernel
theorem d_CT_keep_4 : decode c_CT_keep 4 = .ok (.aload_n 0, 1) := by decide +kernel
theorem d_CT_keep_5 : decode c_CT_keep 5 = .ok (.getfield 19, 3) := by decide +kernel
theorem d_CT_keep_8 : decode c_CT_keep 8 = .ok (.invokevirtual 200, 3) := by decide +kernel
theorem d_CT_keep_11 : decode c_CT_keep 11 = .ok (.aload_n 0, 1) := by decide +kernel
theorem d_CT_keep_12 : decode c_CT_keep 12 = .ok (.iconst 1, 1) := by decide +kernel
theorem d_CT_keep_13 : decode c_CT_keep 13 = .ok (.putfield 33, 3) := by decide +kernel
theorem d_CT_keep_16 : decode c_CT_keep 16 = .ok (.aload_n 0, 1) := by decide +kernel
theorem d_CT_keep_17 : decode c_CT_keep 17 = .ok (.getfield 19, 3) := by decide +kernel
theorem d_CT_keep_20 : decode c_CT_keep 20 = .ok (.invokevirtual 113, 3) := by decide +kernel
theorem d_CT_keep_23 : decode c_CT_keep 23 = .ok (.ireturn, 1) := by decide +kernel
theorem d_CT_restore_0 : decode c_CT_restore 0 = .ok (.aload_n 0, 1) := by decide +kernel
theorem d_CT_restore_1 : decode c_CT_restore 1 = .ok (.getfield 33, 3) := by decide +kernel
theorem d_CT_restore_4 : decode c_CT_restore 4 = .ok (.ifCond .ne 6, 3) := by decide +kernel
theorem d_CT_restore_7 : decode c_CT_restore 7 = .ok (.bipush (-5), 2) := by decide +kernel
theorem d_CT_restore_9 : decode c_CT_restore 9 = .ok (.ireturn, 1) := by decide +kernel
theorem d_CT_restore_10 : decode c_CT_restore 10 = .ok (.aload_n 0, 1) := by decide +kernel
theorem d_CT_restore_11 : decode c_CT_restore 11 = .ok (.getfield 26, 3) := by decide +kernel
theorem d_CT_restore_14 : decode c_CT_restore 14 = .ok (.aload_n 0, 1) := by decide +kernel
theorem d_CT_restore_15 : decode c_CT_restore 15 = .ok (.getfield 19, 3) := by decide +kernel
theorem d_CT_restore_18 : decode c_CT_restore 18 = .ok (.invokevirtual 97, 3) := by decide +kernel
theorem d_CT_restore_21 : decode c_CT_restore 21 = .ok (.aload_n 0, 1) := by decide +kernel
theorem d_CT_restore_22 : decode c_CT_restore 22 = .ok (.getfield 19, 3) := by decide +kernel
theorem d_CT_restore_25 : decode c_CT_restore 25 = .ok (.aload_n 0, 1) := by decide +kernel
theorem d_CT_restore_26 : decode c_CT_restore 26 = .ok (.getfield 30, 3) := by decide +kernel
theorem d_CT_restore_29 : decode c_CT_restore 29 = .ok (.invokevirtual 200, 3) := by decide +kernel
theorem d_CT_restore_32 : decode c_CT_restore 32 = .ok (.aload_n 0, 1) := by decide +kernel
theorem d_CT_restore_33 : decode c_CT_restore 33 = .ok (.getfield 19, 3) := by decide +kernel
theorem d_CT_restore_36 : decode c_CT_restore 36 = .ok (.invokevirtual 113, 3) := by decide +kernel
theorem d_CT_restore_39 : decode c_CT_restore 39 = .ok (.ireturn, 1) := by decide +kernel
theorem d_CT_caption_0 : decode c_CT_caption 0 = .ok (.aload_n 0, 1) := by decide +kernel
theorem d_CT_caption_1 : decode c_CT_caption 1 = .ok (.getfield 19, 3) := by decide +kernel
theorem d_CT_caption_4 : decode c_CT_caption 4 = .ok (.iload_n 1, 1) := by decide +kernel
theorem d_CT_caption_5 : decode c_CT_caption 5 = .ok (.invokevirtual 105, 3) := by decide +kernel
theorem d_CT_caption_8 : decode c_CT_caption 8 = .ok (.ifCond .ne 5, 3) := by decide +kernel
theorem d_CT_caption_11 : decode c_CT_caption 11 = .ok (.iconst (-1), 1) := by decide +kernel
theorem d_CT_caption_12 : decode c_CT_caption 12 = .ok (.ireturn, 1) := by decide +kernel
theorem d_CT_caption_13 : decode c_CT_caption 13 = .ok (.iload_n 2, 1) := by decide +kernel
theorem d_CT_caption_14 : decode c_CT_caption 14 = .ok (.tableswitch 120 0 6 #[42, 51, 71, 80, 89, 98, 111], 42) := by decide +kernel
theorem d_CT_caption_56 : decode c_CT_caption 56 = .ok (.aload_n 0, 1) := by decide +kernel
theorem d_CT_caption_57 : decode c_CT_caption 57 = .ok (.getfield 19, 3) := by decide +kernel
theorem d_CT_caption_60 : decode c_CT_caption 60 = .ok (.iload_n 1, 1) := by decide +kernel
theorem d_CT_caption_61 : decode c_CT_caption 61 = .ok (.invokevirtual 203, 3) := by decide +kernel
theorem d_CT_caption_64 : decode c_CT_caption 64 = .ok (.ireturn, 1) := by decide +kernel
theorem d_CT_caption_65 : decode c_CT_caption 65 = .ok (.aload_n 0, 1) := by decide +kernel
theorem d_CT_caption_66 : decode c_CT_caption 66 = .ok (.getfield 40, 3) := by decide +kernel
theorem d_CT_caption_69 : decode c_CT_caption 69 = .ok (.aload_n 0, 1) := by decide +kernel
theorem d_CT_caption_70 : decode c_CT_caption 70 = .ok (.getfield 19, 3) := by decide +kernel
theorem d_CT_caption_73 : decode c_CT_caption 73 = .ok (.invokevirtual 116, 3) := by decide +kernel
theorem d_CT_caption_76 : decode c_CT_caption 76 = .ok (.aload_n 0, 1) := by decide +kernel
theorem d_CT_caption_77 : decode c_CT_caption 77 = .ok (.getfield 40, 3) := by decide +kernel
theorem d_CT_caption_80 : decode c_CT_caption 80 = .ok (.iload_n 1, 1) := by decide +kernel
theorem d_CT_caption_81 : decode c_CT_caption 81 = .ok (.invokevirtual 119, 3) := by decide +kernel
theorem d_CT_caption_84 : decode c_CT_caption 84 = .ok (.ireturn, 1) := by decide +kernel
theorem d_CT_caption_85 : decode c_CT_caption 85 = .ok (.aload_n 0, 1) := by decide +kernel
theorem d_CT_caption_86 : decode c_CT_caption 86 = .ok (.getfield 19, 3) := by decide +kernel
theorem d_CT_caption_89 : decode c_CT_caption 89 = .ok (.iload_n 1, 1) := by decide +kernel
theorem d_CT_caption_90 : decode c_CT_caption 90 = .ok (.invokevirtual 206, 3) := by decide +kernel
theorem d_CT_caption_93 : decode c_CT_caption 93 = .ok (.ireturn, 1) := by decide +kernel
theorem d_CT_caption_94 : decode c_CT_caption 94 = .ok (.aload_n 0, 1) := by decide +kernel
theorem d_CT_caption_95 : decode c_CT_caption 95 = .ok (.getfield 19, 3) := by decide +kernel
theorem d_CT_caption_98 : decode c_CT_caption 98 = .ok (.iload_n 1, 1) := by decide +kernel
theorem d_CT_caption_99 : decode c_CT_caption 99 = .ok (.invokevirtual 209, 3) := by decide +kernel
theorem d_CT_caption_102 : decode c_CT_caption 102 = .ok (.ireturn, 1) := by decide +kernel
theorem d_CT_caption_103 : decode c_CT_caption 103 = .ok (.aload_n 0, 1) := by decide +kernel
theorem d_CT_caption_104 : decode c_CT_caption 104 = .ok (.getfield 19, 3) := by decide +kernel
theorem d_CT_caption_107 : decode c_CT_caption 107 = .ok (.iload_n 1, 1) := by decide +kernel
theorem d_CT_caption_108 : decode c_CT_caption 108 = .ok (.invokevirtual 212, 3) := by decide +kernel
theorem d_CT_caption_111 : decode c_CT_caption 111 = .ok (.ireturn, 1) := by decide +kernel
theorem d_CT_caption_112 : decode c_CT_caption 112 = .ok (.aload_n 0, 1) := by decide +kernel
theorem d_CT_caption_113 : decode c_CT_caption 113 = .ok (.invokevirtual 215, 3) := by decide +kernel
theorem d_CT_caption_116 : decode c_CT_caption 116 = .ok (.aload_n 0, 1) := by decide +kernel
theorem d_CT_caption_117 : decode c_CT_caption 117 = .ok (.getfield 75, 3) := by decide +kernel
theorem d_CT_caption_120 : decode c_CT_caption 120 = .ok (.iload_n 1, 1) := by decide +kernel
theorem d_CT_caption_121 : decode c_CT_caption 121 = .ok (.invokevirtual 218, 3) := by decide +kernel
theorem d_CT_caption_124 : decode c_CT_caption 124 = .ok (.ireturn, 1) := by decide +kernel
theorem d_CT_caption_125 : decode c_CT_caption 125 = .ok (.aload_n 0, 1) := by decide +kernel
theorem d_CT_caption_126 : decode c_CT_caption 126 = .ok (.getfield 19, 3) := by decide +kernel
theorem d_CT_caption_129 : decode c_CT_caption 129 = .ok (.iload_n 1, 1) := by decide +kernel
theorem d_CT_caption_130 : decode c_CT_caption 130 = .ok (.invokevirtual 221, 3) := by decide +kernel
theorem d_CT_caption_133 : decode c_CT_caption 133 = .ok (.ireturn, 1) := by decide +kernel
theorem d_CT_caption_134 : decode c_CT_caption 134 = .ok (.bipush (-2), 2) := by decide +kernel
theorem d_CT_caption_136 : decode c_CT_caption 136 = .ok (.ireturn, 1) := by decide +kernel
theorem d_CT_letter_0 : decode c_CT_letter 0 = .ok (.aload_n 0, 1) := by decide +kernel
theorem d_CT_letter_1 : decode c_CT_letter 1 = .ok (.getfield 19, 3) := by decide +kernel
theorem d_CT_letter_4 : decode c_CT_letter 4 = .ok (.iload_n 1, 1) := by decide +kernel
theorem d_CT_letter_5 : decode c_CT_letter 5 = .ok (.invokevirtual 105, 3) := by decide +kernel
theorem d_CT_letter_8 : decode c_CT_letter 8 = .ok (.ifCond .ne 5, 3) := by decide +kernel
theorem d_CT_letter_11 : decode c_CT_letter 11 = .ok (.iconst (-1), 1) := by decide +kernel
theorem d_CT_letter_12 : decode c_CT_letter 12 = .ok (.ireturn, 1) := by decide +kernel
theorem d_CT_letter_13 : decode c_CT_letter 13 = .ok (.iload_n 2, 1) := by decide +kernel
theorem d_CT_letter_14 : decode c_CT_letter 14 = .ok (.ifCond .ge 6, 3) := by decide +kernel
theorem d_CT_letter_17 : decode c_CT_letter 17 = .ok (.bipush (-2), 2) := by decide +kernel
theorem d_CT_letter_19 : decode c_CT_letter 19 = .ok (.ireturn, 1) := by decide +kernel
theorem d_CT_letter_20 : decode c_CT_letter 20 = .ok (.aload_n 0, 1) := by decide +kernel
theorem d_CT_letter_21 : decode c_CT_letter 21 = .ok (.getfield 19, 3) := by decide +kernel
theorem d_CT_letter_24 : decode c_CT_letter 24 = .ok (.iload_n 1, 1) := by decide +kernel
theorem d_CT_letter_25 : decode c_CT_letter 25 = .ok (.iload_n 2, 1) := by decide +kernel
theorem d_CT_letter_26 : decode c_CT_letter 26 = .ok (.invokevirtual 224, 3) := by decide +kernel
theorem d_CT_letter_29 : decode c_CT_letter 29 = .ok (.ireturn, 1) := by decide +kernel
theorem d_CT_group_0 : decode c_CT_group 0 = .ok (.aload_n 0, 1) := by decide +kernel
theorem d_CT_group_1 : decode c_CT_group 1 = .ok (.getfield 19, 3) := by decide +kernel
theorem d_CT_group_4 : decode c_CT_group 4 = .ok (.iload_n 1, 1) := by decide +kernel
theorem d_CT_group_5 : decode c_CT_group 5 = .ok (.invokevirtual 105, 3) := by decide +kernel
theorem d_CT_group_8 : decode c_CT_group 8 = .ok (.ifCond .ne 5, 3) := by decide +kernel
theorem d_CT_group_11 : decode c_CT_group 11 = .ok (.iconst (-1), 1) := by decide +kernel
theorem d_CT_group_12 : decode c_CT_group 12 = .ok (.ireturn, 1) := by decide +kernel
theorem d_CT_group_13 : decode c_CT_group 13 = .ok (.aload_n 0, 1) := by decide +kernel
theorem d_CT_group_14 : decode c_CT_group 14 = .ok (.invokevirtual 215, 3) := by decide +kernel
theorem d_CT_group_17 : decode c_CT_group 17 = .ok (.aload_n 0, 1) := by decide +kernel
theorem d_CT_group_18 : decode c_CT_group 18 = .ok (.getfield 40, 3) := by decide +kernel
theorem d_CT_group_21 : decode c_CT_group 21 = .ok (.iload_n 1, 1) := by decide +kernel
theorem d_CT_group_22 : decode c_CT_group 22 = .ok (.invokevirtual 119, 3) := by decide +kernel
theorem d_CT_group_25 : decode c_CT_group 25 = .ok (.istore_n 3, 1) := by decide +kernel
theorem d_CT_group_26 : decode c_CT_group 26 = .ok (.iload_n 2, 1) := by decide +kernel
theorem d_CT_group_27 : decode c_CT_group 27 = .ok (.tableswitch 118 0 7 #[45, 54, 63, 72, 81, 91, 100, 109], 45) := by decide +kernel
theorem d_CT_group_72 : decode c_CT_group 72 = .ok (.aload_n 0, 1) := by decide +kernel
theorem d_CT_group_73 : decode c_CT_group 73 = .ok (.getfield 40, 3) := by decide +kernel
theorem d_CT_group_76 : decode c_CT_group 76 = .ok (.iload_n 3, 1) := by decide +kernel
theorem d_CT_group_77 : decode c_CT_group 77 = .ok (.invokevirtual 227, 3) := by decide +kernel
theorem d_CT_group_80 : decode c_CT_group 80 = .ok (.ireturn, 1) := by decide +kernel
theorem d_CT_group_81 : decode c_CT_group 81 = .ok (.aload_n 0, 1) := by decide +kernel
theorem d_CT_group_82 : decode c_CT_group 82 = .ok (.getfield 47, 3) := by decide +kernel
theorem d_CT_group_85 : decode c_CT_group 85 = .ok (.iload_n 3, 1) := by decide +kernel
theorem d_CT_group_86 : decode c_CT_group 86 = .ok (.invokevirtual 230, 3) := by decide +kernel
theorem d_CT_group_89 : decode c_CT_group 89 = .ok (.ireturn, 1) := by decide +kernel
theorem d_CT_group_90 : decode c_CT_group 90 = .ok (.aload_n 0, 1) := by decide +kernel
theorem d_CT_group_91 : decode c_CT_group 91 = .ok (.getfield 47, 3) := by decide +kernel
theorem d_CT_group_94 : decode c_CT_group 94 = .ok (.iload_n 3, 1) := by decide +kernel
theorem d_CT_group_95 : decode c_CT_group 95 = .ok (.invokevirtual 233, 3) := by decide +kernel
theorem d_CT_group_98 : decode c_CT_group 98 = .ok (.ireturn, 1) := by decide +kernel
theorem d_CT_group_99 : decode c_CT_group 99 = .ok (.aload_n 0, 1) := by decide +kernel
theorem d_CT_group_100 : decode c_CT_group 100 = .ok (.getfield 54, 3) := by decide +kernel
theorem d_CT_group_103 : decode c_CT_group 103 = .ok (.iload_n 3, 1) := by decide +kernel
theorem d_CT_group_104 : decode c_CT_group 104 = .ok (.invokevirtual 236, 3) := by decide +kernel
theorem d_CT_group_107 : decode c_CT_group 107 = .ok (.ireturn, 1) := by decide +kernel
theorem d_CT_group_108 : decode c_CT_group 108 = .ok (.sipush 1000, 3) := by decide +kernel
theorem d_CT_group_111 : decode c_CT_group 111 = .ok (.aload_n 0, 1) := by decide +kernel
theorem d_CT_group_112 : decode c_CT_group 112 = .ok (.iload_n 3, 1) := by decide +kernel
theorem d_CT_group_113 : decode c_CT_group 113 = .ok (.invokevirtual 239, 3) := by decide +kernel
theorem d_CT_group_116 : decode c_CT_group 116 = .ok (.iadd, 1) := by decide +kernel
theorem d_CT_group_117 : decode c_CT_group 117 = .ok (.ireturn, 1) := by decide +kernel
theorem d_CT_group_118 : decode c_CT_group 118 = .ok (.aload_n 0, 1) := by decide +kernel
theorem d_CT_group_119 : decode c_CT_group 119 = .ok (.getfield 68, 3) := by decide +kernel
theorem d_CT_group_122 : decode c_CT_group 122 = .ok (.iload_n 3, 1) := by decide +kernel
theorem d_CT_group_123 : decode c_CT_group 123 = .ok (.invokevirtual 242, 3) := by decide +kernel
theorem d_CT_group_126 : decode c_CT_group 126 = .ok (.ireturn, 1) := by decide +kernel
theorem d_CT_group_127 : decode c_CT_group 127 = .ok (.aload_n 0, 1) := by decide +kernel
theorem d_CT_group_128 : decode c_CT_group 128 = .ok (.getfield 75, 3) := by decide +kernel
theorem d_CT_group_131 : decode c_CT_group 131 = .ok (.iload_n 3, 1) := by decide +kernel
theorem d_CT_group_132 : decode c_CT_group 132 = .ok (.invokevirtual 245, 3) := by decide +kernel
theorem d_CT_group_135 : decode c_CT_group 135 = .ok (.ireturn, 1) := by decide +kernel
theorem d_CT_group_136 : decode c_CT_group 136 = .ok (.aload_n 0, 1) := by decide +kernel
theorem d_CT_group_137 : decode c_CT_group 137 = .ok (.getfield 61, 3) := by decide +kernel
theorem d_CT_group_140 : decode c_CT_group 140 = .ok (.iload_n 3, 1) := by decide +kernel
theorem d_CT_group_141 : decode c_CT_group 141 = .ok (.invokevirtual 248, 3) := by decide +kernel
theorem d_CT_group_144 : decode c_CT_group 144 = .ok (.ireturn, 1) := by decide +kernel
theorem d_CT_group_145 : decode c_CT_group 145 = .ok (.bipush (-2), 2) := by decide +kernel
theorem d_CT_group_147 : decode c_CT_group 147 = .ok (.ireturn, 1) := by decide +kernel
theorem d_CT_judged_0 : decode c_CT_judged 0 = .ok (.iload_n 1, 1) := by decide +kernel
theorem d_CT_judged_1 : decode c_CT_judged 1 = .ok (.iconst 3, 1) := by decide +kernel
theorem d_CT_judged_2 : decode c_CT_judged 2 = .ok (.invokestatic 86, 3) := by decide +kernel
theorem d_CT_judged_5 : decode c_CT_judged 5 = .ok (.ifCond .eq 14, 3) := by decide +kernel
theorem d_CT_judged_8 : decode c_CT_judged 8 = .ok (.aload_n 0, 1) := by decide +kernel
theorem d_CT_judged_9 : decode c_CT_judged 9 = .ok (.getfield 19, 3) := by decide +kernel
theorem d_CT_judged_12 : decode c_CT_judged 12 = .ok (.iload_n 2, 1) := by decide +kernel
theorem d_CT_judged_13 : decode c_CT_judged 13 = .ok (.invokevirtual 105, 3) := by decide +kernel
theorem d_CT_judged_16 : decode c_CT_judged 16 = .ok (.ifCond .ne 5, 3) := by decide +kernel
theorem d_CT_judged_19 : decode c_CT_judged 19 = .ok (.iconst (-1), 1) := by decide +kernel
theorem d_CT_judged_20 : decode c_CT_judged 20 = .ok (.ireturn, 1) := by decide +kernel
theorem d_CT_judged_21 : decode c_CT_judged 21 = .ok (.aload_n 0, 1) := by decide +kernel
theorem d_CT_judged_22 : decode c_CT_judged 22 = .ok (.getfield 40, 3) := by decide +kernel
theorem d_CT_judged_25 : decode c_CT_judged 25 = .ok (.aload_n 0, 1) := by decide +kernel
theorem d_CT_judged_26 : decode c_CT_judged 26 = .ok (.getfield 19, 3) := by decide +kernel
theorem d_CT_judged_29 : decode c_CT_judged 29 = .ok (.invokevirtual 116, 3) := by decide +kernel
theorem d_CT_judged_32 : decode c_CT_judged 32 = .ok (.aload_n 0, 1) := by decide +kernel
theorem d_CT_judged_33 : decode c_CT_judged 33 = .ok (.getfield 54, 3) := by decide +kernel
theorem d_CT_judged_36 : decode c_CT_judged 36 = .ok (.aload_n 0, 1) := by decide +kernel
theorem d_CT_judged_37 : decode c_CT_judged 37 = .ok (.getfield 19, 3) := by decide +kernel
theorem d_CT_judged_40 : decode c_CT_judged 40 = .ok (.aload_n 0, 1) := by decide +kernel
theorem d_CT_judged_41 : decode c_CT_judged 41 = .ok (.getfield 40, 3) := by decide +kernel
theorem d_CT_judged_44 : decode c_CT_judged 44 = .ok (.invokevirtual 162, 3) := by decide +kernel
theorem d_CT_judged_47 : decode c_CT_judged 47 = .ok (.aload_n 0, 1) := by decide +kernel
theorem d_CT_judged_48 : decode c_CT_judged 48 = .ok (.getfield 40, 3) := by decide +kernel
theorem d_CT_judged_51 : decode c_CT_judged 51 = .ok (.iload_n 2, 1) := by decide +kernel
theorem d_CT_judged_52 : decode c_CT_judged 52 = .ok (.invokevirtual 119, 3) := by decide +kernel
theorem d_CT_judged_55 : decode c_CT_judged 55 = .ok (.istore 4, 2) := by decide +kernel
theorem d_CT_judged_57 : decode c_CT_judged 57 = .ok (.iload_n 3, 1) := by decide +kernel
theorem d_CT_judged_58 : decode c_CT_judged 58 = .ok (.tableswitch 58 0 2 #[26, 36, 47], 26) := by decide +kernel
theorem d_CT_judged_84 : decode c_CT_judged 84 = .ok (.aload_n 0, 1) := by decide +kernel
theorem d_CT_judged_85 : decode c_CT_judged 85 = .ok (.getfield 19, 3) := by decide +kernel
theorem d_CT_judged_88 : decode c_CT_judged 88 = .ok (.iload_n 1, 1) := by decide +kernel
theorem d_CT_judged_89 : decode c_CT_judged 89 = .ok (.iload_n 2, 1) := by decide +kernel
theorem d_CT_judged_90 : decode c_CT_judged 90 = .ok (.invokevirtual 154, 3) := by decide +kernel
theorem d_CT_judged_93 : decode c_CT_judged 93 = .ok (.ireturn, 1) := by decide +kernel
theorem d_CT_judged_94 : decode c_CT_judged 94 = .ok (.aload_n 0, 1) := by decide +kernel
theorem d_CT_judged_95 : decode c_CT_judged 95 = .ok (.getfield 54, 3) := by decide +kernel
theorem d_CT_judged_98 : decode c_CT_judged 98 = .ok (.iload_n 1, 1) := by decide +kernel
theorem d_CT_judged_99 : decode c_CT_judged 99 = .ok (.iload 4, 2) := by decide +kernel
theorem d_CT_judged_101 : decode c_CT_judged 101 = .ok (.invokevirtual 251, 3) := by decide +kernel
theorem d_CT_judged_104 : decode c_CT_judged 104 = .ok (.ireturn, 1) := by decide +kernel
theorem d_CT_judged_105 : decode c_CT_judged 105 = .ok (.aload_n 0, 1) := by decide +kernel
theorem d_CT_judged_106 : decode c_CT_judged 106 = .ok (.getfield 54, 3) := by decide +kernel
theorem d_CT_judged_109 : decode c_CT_judged 109 = .ok (.iload_n 1, 1) := by decide +kernel
theorem d_CT_judged_110 : decode c_CT_judged 110 = .ok (.iload 4, 2) := by decide +kernel
theorem d_CT_judged_112 : decode c_CT_judged 112 = .ok (.invokevirtual 166, 3) := by decide +kernel
theorem d_CT_judged_115 : decode c_CT_judged 115 = .ok (.ireturn, 1) := by decide +kernel
theorem d_CT_judged_116 : decode c_CT_judged 116 = .ok (.bipush (-2), 2) := by decide +kernel
theorem d_CT_judged_118 : decode c_CT_judged 118 = .ok (.ireturn, 1) := by decide +kernel
theorem d_CT_ballot_0 : decode c_CT_ballot 0 = .ok (.iload_n 1, 1) := by decide +kernel
theorem d_CT_ballot_1 : decode c_CT_ballot 1 = .ok (.bipush 12, 2) := by decide +kernel
theorem d_CT_ballot_3 : decode c_CT_ballot 3 = .ok (.invokestatic 86, 3) := by decide +kernel
theorem d_CT_ballot_6 : decode c_CT_ballot 6 = .ok (.ifCond .ne 5, 3) := by decide +kernel
theorem d_CT_ballot_9 : decode c_CT_ballot 9 = .ok (.iconst (-1), 1) := by decide +kernel
theorem d_CT_ballot_10 : decode c_CT_ballot 10 = .ok (.ireturn, 1) := by decide +kernel
theorem d_CT_ballot_11 : decode c_CT_ballot 11 = .ok (.iload_n 2, 1) := by decide +kernel
theorem d_CT_ballot_12 : decode c_CT_ballot 12 = .ok (.iconst 3, 1) := by decide +kernel
theorem d_CT_ballot_13 : decode c_CT_ballot 13 = .ok (.invokestatic 86, 3) := by decide +kernel
theorem d_CT_ballot_16 : decode c_CT_ballot 16 = .ok (.ifCond .ne 6, 3) := by decide +kernel
theorem d_CT_ballot_19 : decode c_CT_ballot 19 = .ok (.bipush (-2), 2) := by decide +kernel
theorem d_CT_ballot_21 : decode c_CT_ballot 21 = .ok (.ireturn, 1) := by decide +kernel
theorem d_CT_ballot_22 : decode c_CT_ballot 22 = .ok (.iload_n 3, 1) := by decide +kernel
theorem d_CT_ballot_23 : decode c_CT_ballot 23 = .ok (.ifCond .ne 13, 3) := by decide +kernel
theorem d_CT_ballot_26 : decode c_CT_ballot 26 = .ok (.aload_n 0, 1) := by decide +kernel
theorem d_CT_ballot_27 : decode c_CT_ballot 27 = .ok (.getfield 19, 3) := by decide +kernel
theorem d_CT_ballot_30 : decode c_CT_ballot 30 = .ok (.iload_n 1, 1) := by decide +kernel
theorem d_CT_ballot_31 : decode c_CT_ballot 31 = .ok (.iload_n 2, 1) := by decide +kernel
theorem d_CT_ballot_32 : decode c_CT_ballot 32 = .ok (.invokevirtual 252, 3) := by decide +kernel
theorem d_CT_ballot_35 : decode c_CT_ballot 35 = .ok (.ireturn, 1) := by decide +kernel
theorem d_CT_ballot_36 : decode c_CT_ballot 36 = .ok (.aload_n 0, 1) := by decide +kernel
theorem d_CT_ballot_37 : decode c_CT_ballot 37 = .ok (.getfield 40, 3) := by decide +kernel
theorem d_CT_ballot_40 : decode c_CT_ballot 40 = .ok (.aload_n 0, 1) := by decide +kernel
theorem d_CT_ballot_41 : decode c_CT_ballot 41 = .ok (.getfield 19, 3) := by decide +kernel
theorem d_CT_ballot_44 : decode c_CT_ballot 44 = .ok (.invokevirtual 116, 3) := by decide +kernel
theorem d_CT_ballot_47 : decode c_CT_ballot 47 = .ok (.aload_n 0, 1) := by decide +kernel
theorem d_CT_ballot_48 : decode c_CT_ballot 48 = .ok (.getfield 47, 3) := by decide +kernel
theorem d_CT_ballot_51 : decode c_CT_ballot 51 = .ok (.aload_n 0, 1) := by decide +kernel
theorem d_CT_ballot_52 : decode c_CT_ballot 52 = .ok (.getfield 19, 3) := by decide +kernel
theorem d_CT_ballot_55 : decode c_CT_ballot 55 = .ok (.aload_n 0, 1) := by decide +kernel
theorem d_CT_ballot_56 : decode c_CT_ballot 56 = .ok (.getfield 40, 3) := by decide +kernel
theorem d_CT_ballot_59 : decode c_CT_ballot 59 = .ok (.invokevirtual 255, 3) := by decide +kernel
theorem d_CT_ballot_62 : decode c_CT_ballot 62 = .ok (.aload_n 0, 1) := by decide +kernel
theorem d_CT_ballot_63 : decode c_CT_ballot 63 = .ok (.getfield 47, 3) := by decide +kernel
theorem d_CT_ballot_66 : decode c_CT_ballot 66 = .ok (.iload_n 1, 1) := by decide +kernel
theorem d_CT_ballot_67 : decode c_CT_ballot 67 = .ok (.iload_n 2, 1) := by decide +kernel
theorem d_CT_ballot_68 : decode c_CT_ballot 68 = .ok (.invokevirtual 256, 3) := by decide +kernel
theorem d_CT_ballot_71 : decode c_CT_ballot 71 = .ok (.ireturn, 1) := by decide +kernel
theorem d_CT_ranked_0 : decode c_CT_ranked 0 = .ok (.iload_n 1, 1) := by decide +kernel
theorem d_CT_ranked_1 : decode c_CT_ranked 1 = .ok (.ifCond .ge 6, 3) := by decide +kernel
theorem d_CT_ranked_4 : decode c_CT_ranked 4 = .ok (.bipush (-2), 2) := by decide +kernel
theorem d_CT_ranked_6 : decode c_CT_ranked 6 = .ok (.ireturn, 1) := by decide +kernel
theorem d_CT_ranked_7 : decode c_CT_ranked 7 = .ok (.aload_n 0, 1) := by decide +kernel
theorem d_CT_ranked_8 : decode c_CT_ranked 8 = .ok (.invokevirtual 215, 3) := by decide +kernel
theorem d_CT_ranked_11 : decode c_CT_ranked 11 = .ok (.aload_n 0, 1) := by decide +kernel
theorem d_CT_ranked_12 : decode c_CT_ranked 12 = .ok (.getfield 68, 3) := by decide +kernel
theorem d_CT_ranked_15 : decode c_CT_ranked 15 = .ok (.iload_n 1, 1) := by decide +kernel
theorem d_CT_ranked_16 : decode c_CT_ranked 16 = .ok (.invokevirtual 257, 3) := by decide +kernel
theorem d_CT_ranked_19 : decode c_CT_ranked 19 = .ok (.ireturn, 1) := by decide +kernel
theorem d_CT_round_0 : decode c_CT_round 0 = .ok (.iload_n 1, 1) := by decide +kernel
theorem d_CT_round_1 : decode c_CT_round 1 = .ok (.ifCond .lt 11, 3) := by decide +kernel
theorem d_CT_round_4 : decode c_CT_round 4 = .ok (.iload_n 2, 1) := by decide +kernel
theorem d_CT_round_5 : decode c_CT_round 5 = .ok (.iconst 3, 1) := by decide +kernel
theorem d_CT_round_6 : decode c_CT_round 6 = .ok (.invokestatic 86, 3) := by decide +kernel
theorem d_CT_round_9 : decode c_CT_round 9 = .ok (.ifCond .ne 6, 3) := by decide +kernel
theorem d_CT_round_12 : decode c_CT_round 12 = .ok (.bipush (-2), 2) := by decide +kernel
theorem d_CT_round_14 : decode c_CT_round 14 = .ok (.ireturn, 1) := by decide +kernel
theorem d_CT_round_15 : decode c_CT_round 15 = .ok (.aload_n 0, 1) := by decide +kernel
theorem d_CT_round_16 : decode c_CT_round 16 = .ok (.invokevirtual 215, 3) := by decide +kernel
theorem d_CT_round_19 : decode c_CT_round 19 = .ok (.iload_n 1, 1) := by decide +kernel
theorem d_CT_round_20 : decode c_CT_round 20 = .ok (.aload_n 0, 1) := by decide +kernel
theorem d_CT_round_21 : decode c_CT_round 21 = .ok (.getfield 61, 3) := by decide +kernel
theorem d_CT_round_24 : decode c_CT_round 24 = .ok (.invokevirtual 260, 3) := by decide +kernel
theorem d_CT_round_27 : decode c_CT_round 27 = .ok (.if_icmp .lt 6, 3) := by decide +kernel
theorem d_CT_round_30 : decode c_CT_round 30 = .ok (.bipush (-5), 2) := by decide +kernel
theorem d_CT_round_32 : decode c_CT_round 32 = .ok (.ireturn, 1) := by decide +kernel
theorem d_CT_round_33 : decode c_CT_round 33 = .ok (.iload_n 2, 1) := by decide +kernel
theorem d_CT_round_34 : decode c_CT_round 34 = .ok (.lookupswitch 44 #[(0, 26), (1, 35)], 26) := by decide +kernel
theorem d_CT_round_60 : decode c_CT_round 60 = .ok (.aload_n 0, 1) := by decide +kernel
theorem d_CT_round_61 : decode c_CT_round 61 = .ok (.getfield 61, 3) := by decide +kernel
theorem d_CT_round_64 : decode c_CT_round 64 = .ok (.iload_n 1, 1) := by decide +kernel
theorem d_CT_round_65 : decode c_CT_round 65 = .ok (.invokevirtual 263, 3) := by decide +kernel
theorem d_CT_round_68 : decode c_CT_round 68 = .ok (.ireturn, 1) := by decide +kernel
theorem d_CT_round_69 : decode c_CT_round 69 = .ok (.aload_n 0, 1) := by decide +kernel
theorem d_CT_round_70 : decode c_CT_round 70 = .ok (.getfield 61, 3) := by decide +kernel
theorem d_CT_round_73 : decode c_CT_round 73 = .ok (.iload_n 1, 1) := by decide +kernel
theorem d_CT_round_74 : decode c_CT_round 74 = .ok (.invokevirtual 266, 3) := by decide +kernel
theorem d_CT_round_77 : decode c_CT_round 77 = .ok (.ireturn, 1) := by decide +kernel
theorem d_CT_round_78 : decode c_CT_round 78 = .ok (.aload_n 0, 1) := by decide +kernel
theorem d_CT_round_79 : decode c_CT_round 79 = .ok (.getfield 61, 3) := by decide +kernel
theorem d_CT_round_82 : decode c_CT_round 82 = .ok (.iload_n 1, 1) := by decide +kernel
theorem d_CT_round_83 : decode c_CT_round 83 = .ok (.invokevirtual 269, 3) := by decide +kernel
theorem d_CT_round_86 : decode c_CT_round 86 = .ok (.ireturn, 1) := by decide +kernel
theorem d_CT_distance_0 : decode c_CT_distance 0 = .ok (.aload_n 0, 1) := by decide +kernel
theorem d_CT_distance_1 : decode c_CT_distance 1 = .ok (.getfield 19, 3) := by decide +kernel
theorem d_CT_distance_4 : decode c_CT_distance 4 = .ok (.iload_n 1, 1) := by decide +kernel
theorem d_CT_distance_5 : decode c_CT_distance 5 = .ok (.invokevirtual 105, 3) := by decide +kernel
theorem d_CT_distance_8 : decode c_CT_distance 8 = .ok (.ifCond .eq 14, 3) := by decide +kernel
theorem d_CT_distance_11 : decode c_CT_distance 11 = .ok (.aload_n 0, 1) := by decide +kernel
theorem d_CT_distance_12 : decode c_CT_distance 12 = .ok (.getfield 19, 3) := by decide +kernel
theorem d_CT_distance_15 : decode c_CT_distance 15 = .ok (.iload_n 2, 1) := by decide +kernel
theorem d_CT_distance_16 : decode c_CT_distance 16 = .ok (.invokevirtual 105, 3) := by decide +kernel
theorem d_CT_distance_19 : decode c_CT_distance 19 = .ok (.ifCond .ne 5, 3) := by decide +kernel
theorem d_CT_distance_22 : decode c_CT_distance 22 = .ok (.iconst (-1), 1) := by decide +kernel
theorem d_CT_distance_23 : decode c_CT_distance 23 = .ok (.ireturn, 1) := by decide +kernel
theorem d_CT_distance_24 : decode c_CT_distance 24 = .ok (.aload_n 0, 1) := by decide +kernel
theorem d_CT_distance_25 : decode c_CT_distance 25 = .ok (.getfield 82, 3) := by decide +kernel
theorem d_CT_distance_28 : decode c_CT_distance 28 = .ok (.aload_n 0, 1) := by decide +kernel
theorem d_CT_distance_29 : decode c_CT_distance 29 = .ok (.getfield 19, 3) := by decide +kernel
theorem d_CT_distance_32 : decode c_CT_distance 32 = .ok (.iload_n 1, 1) := by decide +kernel
theorem d_CT_distance_33 : decode c_CT_distance 33 = .ok (.iload_n 2, 1) := by decide +kernel
theorem d_CT_distance_34 : decode c_CT_distance 34 = .ok (.invokevirtual 272, 3) := by decide +kernel
theorem d_CT_distance_37 : decode c_CT_distance 37 = .ok (.ireturn, 1) := by decide +kernel
theorem d_CT_near_0 : decode c_CT_near 0 = .ok (.iload_n 1, 1) := by decide +kernel
theorem d_CT_near_1 : decode c_CT_near 1 = .ok (.ifCond .lt 11, 3) := by decide +kernel
theorem d_CT_near_4 : decode c_CT_near 4 = .ok (.iload_n 2, 1) := by decide +kernel
theorem d_CT_near_5 : decode c_CT_near 5 = .ok (.iconst 3, 1) := by decide +kernel
theorem d_CT_near_6 : decode c_CT_near 6 = .ok (.invokestatic 86, 3) := by decide +kernel
theorem d_CT_near_9 : decode c_CT_near 9 = .ok (.ifCond .ne 6, 3) := by decide +kernel
theorem d_CT_near_12 : decode c_CT_near 12 = .ok (.bipush (-2), 2) := by decide +kernel
theorem d_CT_near_14 : decode c_CT_near 14 = .ok (.ireturn, 1) := by decide +kernel
theorem d_CT_near_15 : decode c_CT_near 15 = .ok (.aload_n 0, 1) := by decide +kernel
theorem d_CT_near_16 : decode c_CT_near 16 = .ok (.getfield 40, 3) := by decide +kernel
theorem d_CT_near_19 : decode c_CT_near 19 = .ok (.aload_n 0, 1) := by decide +kernel
theorem d_CT_near_20 : decode c_CT_near 20 = .ok (.getfield 19, 3) := by decide +kernel
theorem d_CT_near_23 : decode c_CT_near 23 = .ok (.invokevirtual 116, 3) := by decide +kernel
theorem d_CT_near_26 : decode c_CT_near 26 = .ok (.aload_n 0, 1) := by decide +kernel
theorem d_CT_near_27 : decode c_CT_near 27 = .ok (.getfield 82, 3) := by decide +kernel
theorem d_CT_near_30 : decode c_CT_near 30 = .ok (.aload_n 0, 1) := by decide +kernel
theorem d_CT_near_31 : decode c_CT_near 31 = .ok (.getfield 19, 3) := by decide +kernel
theorem d_CT_near_34 : decode c_CT_near 34 = .ok (.aload_n 0, 1) := by decide +kernel
theorem d_CT_near_35 : decode c_CT_near 35 = .ok (.getfield 40, 3) := by decide +kernel
theorem d_CT_near_38 : decode c_CT_near 38 = .ok (.invokevirtual 276, 3) := by decide +kernel
theorem d_CT_near_41 : decode c_CT_near 41 = .ok (.aload_n 0, 1) := by decide +kernel
theorem d_CT_near_42 : decode c_CT_near 42 = .ok (.getfield 82, 3) := by decide +kernel
theorem d_CT_near_45 : decode c_CT_near 45 = .ok (.iload_n 1, 1) := by decide +kernel
theorem d_CT_near_46 : decode c_CT_near 46 = .ok (.invokevirtual 277, 3) := by decide +kernel
theorem d_CT_near_49 : decode c_CT_near 49 = .ok (.istore_n 3, 1) := by decide +kernel
theorem d_CT_near_50 : decode c_CT_near 50 = .ok (.iload_n 3, 1) := by decide +kernel
theorem d_CT_near_51 : decode c_CT_near 51 = .ok (.bipush (-5), 2) := by decide +kernel
theorem d_CT_near_53 : decode c_CT_near 53 = .ok (.if_icmp .ne 6, 3) := by decide +kernel
theorem d_CT_near_56 : decode c_CT_near 56 = .ok (.bipush (-5), 2) := by decide +kernel
theorem d_CT_near_58 : decode c_CT_near 58 = .ok (.ireturn, 1) := by decide +kernel
theorem d_CT_near_59 : decode c_CT_near 59 = .ok (.iload_n 2, 1) := by decide +kernel
theorem d_CT_near_60 : decode c_CT_near 60 = .ok (.lookupswitch 38 #[(0, 28), (1, 33)], 28) := by decide +kernel
theorem d_CT_near_88 : decode c_CT_near 88 = .ok (.iload_n 3, 1) := by decide +kernel
theorem d_CT_near_89 : decode c_CT_near 89 = .ok (.bipush 20, 2) := by decide +kernel
theorem d_CT_near_91 : decode c_CT_near 91 = .ok (.idiv, 1) := by decide +kernel
theorem d_CT_near_92 : decode c_CT_near 92 = .ok (.ireturn, 1) := by decide +kernel
theorem d_CT_near_93 : decode c_CT_near 93 = .ok (.iload_n 3, 1) := by decide +kernel
theorem d_CT_near_94 : decode c_CT_near 94 = .ok (.bipush 20, 2) := by decide +kernel
theorem d_CT_near_96 : decode c_CT_near 96 = .ok (.irem, 1) := by decide +kernel
theorem d_CT_near_97 : decode c_CT_near 97 = .ok (.ireturn, 1) := by decide +kernel
theorem d_CT_near_98 : decode c_CT_near 98 = .ok (.aload_n 0, 1) := by decide +kernel
theorem d_CT_near_99 : decode c_CT_near 99 = .ok (.getfield 82, 3) := by decide +kernel
theorem d_CT_near_102 : decode c_CT_near 102 = .ok (.iload_n 3, 1) := by decide +kernel
theorem d_CT_near_103 : decode c_CT_near 103 = .ok (.invokevirtual 280, 3) := by decide +kernel
theorem d_CT_near_106 : decode c_CT_near 106 = .ok (.ireturn, 1) := by decide +kernel
theorem d_CT_author_0 : decode c_CT_author 0 = .ok (.iload_n 1, 1) := by decide +kernel
theorem d_CT_author_1 : decode c_CT_author 1 = .ok (.bipush 10, 2) := by decide +kernel
theorem d_CT_author_3 : decode c_CT_author 3 = .ok (.invokestatic 86, 3) := by decide +kernel
theorem d_CT_author_6 : decode c_CT_author 6 = .ok (.ifCond .ne 5, 3) := by decide +kernel
theorem d_CT_author_9 : decode c_CT_author 9 = .ok (.iconst (-1), 1) := by decide +kernel
theorem d_CT_author_10 : decode c_CT_author 10 = .ok (.ireturn, 1) := by decide +kernel
theorem d_CT_author_11 : decode c_CT_author 11 = .ok (.iload_n 2, 1) := by decide +kernel
theorem d_CT_author_12 : decode c_CT_author 12 = .ok (.tableswitch 54 0 2 #[28, 34, 44], 28) := by decide +kernel
theorem d_CT_author_40 : decode c_CT_author 40 = .ok (.aload_n 0, 1) := by decide +kernel
theorem d_CT_author_41 : decode c_CT_author 41 = .ok (.iload_n 1, 1) := by decide +kernel
theorem d_CT_author_42 : decode c_CT_author 42 = .ok (.invokevirtual 283, 3) := by decide +kernel
theorem d_CT_author_45 : decode c_CT_author 45 = .ok (.ireturn, 1) := by decide +kernel
theorem d_CT_author_46 : decode c_CT_author 46 = .ok (.aload_n 0, 1) := by decide +kernel
theorem d_CT_author_47 : decode c_CT_author 47 = .ok (.invokevirtual 215, 3) := by decide +kernel
theorem d_CT_author_50 : decode c_CT_author 50 = .ok (.aload_n 0, 1) := by decide +kernel
theorem d_CT_author_51 : decode c_CT_author 51 = .ok (.iload_n 1, 1) := by decide +kernel
theorem d_CT_author_52 : decode c_CT_author 52 = .ok (.invokevirtual 286, 3) := by decide +kernel
theorem d_CT_author_55 : decode c_CT_author 55 = .ok (.ireturn, 1) := by decide +kernel
theorem d_CT_author_56 : decode c_CT_author 56 = .ok (.aload_n 0, 1) := by decide +kernel
theorem d_CT_author_57 : decode c_CT_author 57 = .ok (.invokevirtual 215, 3) := by decide +kernel
theorem d_CT_author_60 : decode c_CT_author 60 = .ok (.aload_n 0, 1) := by decide +kernel
theorem d_CT_author_61 : decode c_CT_author 61 = .ok (.iload_n 1, 1) := by decide +kernel
theorem d_CT_author_62 : decode c_CT_author 62 = .ok (.invokevirtual 289, 3) := by decide +kernel
theorem d_CT_author_65 : decode c_CT_author 65 = .ok (.ireturn, 1) := by decide +kernel
theorem d_CT_author_66 : decode c_CT_author 66 = .ok (.bipush (-2), 2) := by decide +kernel
theorem d_CT_author_68 : decode c_CT_author 68 = .ok (.ireturn, 1) := by decide +kernel
theorem d_CT_count_0 : decode c_CT_count 0 = .ok (.iload_n 1, 1) := by decide +kernel
theorem d_CT_count_1 : decode c_CT_count 1 = .ok (.bipush 7, 2) := by decide +kernel
theorem d_CT_count_3 : decode c_CT_count 3 = .ok (.if_icmp .lt 21, 3) := by decide +kernel
theorem d_CT_count_6 : decode c_CT_count 6 = .ok (.iload_n 1, 1) := by decide +kernel
theorem d_CT_count_7 : decode c_CT_count 7 = .ok (.bipush 9, 2) := by decide +kernel
theorem d_CT_count_9 : decode c_CT_count 9 = .ok (.if_icmp .gt 15, 3) := by decide +kernel
theorem d_CT_count_12 : decode c_CT_count 12 = .ok (.aload_n 0, 1) := by decide +kernel
theorem d_CT_count_13 : decode c_CT_count 13 = .ok (.getfield 19, 3) := by decide +kernel
theorem d_CT_count_16 : decode c_CT_count 16 = .ok (.iload_n 1, 1) := by decide +kernel
theorem d_CT_count_17 : decode c_CT_count 17 = .ok (.bipush 7, 2) := by decide +kernel
theorem d_CT_count_19 : decode c_CT_count 19 = .ok (.isub, 1) := by decide +kernel
theorem d_CT_count_20 : decode c_CT_count 20 = .ok (.invokevirtual 172, 3) := by decide +kernel
theorem d_CT_count_23 : decode c_CT_count 23 = .ok (.ireturn, 1) := by decide +kernel
theorem d_CT_count_24 : decode c_CT_count 24 = .ok (.iload_n 1, 1) := by decide +kernel
theorem d_CT_count_25 : decode c_CT_count 25 = .ok (.bipush 21, 2) := by decide +kernel
theorem d_CT_count_27 : decode c_CT_count 27 = .ok (.if_icmp .lt 21, 3) := by decide +kernel
theorem d_CT_count_30 : decode c_CT_count 30 = .ok (.iload_n 1, 1) := by decide +kernel
theorem d_CT_count_31 : decode c_CT_count 31 = .ok (.bipush 25, 2) := by decide +kernel
theorem d_CT_count_33 : decode c_CT_count 33 = .ok (.if_icmp .gt 15, 3) := by decide +kernel
theorem d_CT_count_36 : decode c_CT_count 36 = .ok (.aload_n 0, 1) := by decide +kernel
theorem d_CT_count_37 : decode c_CT_count 37 = .ok (.getfield 19, 3) := by decide +kernel
theorem d_CT_count_40 : decode c_CT_count 40 = .ok (.iload_n 1, 1) := by decide +kernel
theorem d_CT_count_41 : decode c_CT_count 41 = .ok (.bipush 20, 2) := by decide +kernel
theorem d_CT_count_43 : decode c_CT_count 43 = .ok (.isub, 1) := by decide +kernel
theorem d_CT_count_44 : decode c_CT_count 44 = .ok (.invokevirtual 178, 3) := by decide +kernel
theorem d_CT_count_47 : decode c_CT_count 47 = .ok (.ireturn, 1) := by decide +kernel
theorem d_CT_count_48 : decode c_CT_count 48 = .ok (.aload_n 0, 1) := by decide +kernel
theorem d_CT_count_49 : decode c_CT_count 49 = .ok (.invokevirtual 215, 3) := by decide +kernel
theorem d_CT_count_52 : decode c_CT_count 52 = .ok (.iload_n 1, 1) := by decide +kernel
theorem d_CT_count_53 : decode c_CT_count 53 = .ok (.tableswitch 147 0 12 #[67, 75, 83, 91, 99, 107, 115, 147, 147, 147, 123, 131, 139], 67) := by decide +kernel
theorem d_CT_count_120 : decode c_CT_count 120 = .ok (.aload_n 0, 1) := by decide +kernel
theorem d_CT_count_121 : decode c_CT_count 121 = .ok (.getfield 19, 3) := by decide +kernel
theorem d_CT_count_124 : decode c_CT_count 124 = .ok (.invokevirtual 113, 3) := by decide +kernel
theorem d_CT_count_127 : decode c_CT_count 127 = .ok (.ireturn, 1) := by decide +kernel
theorem d_CT_count_128 : decode c_CT_count 128 = .ok (.aload_n 0, 1) := by decide +kernel
theorem d_CT_count_129 : decode c_CT_count 129 = .ok (.getfield 19, 3) := by decide +kernel
theorem d_CT_count_132 : decode c_CT_count 132 = .ok (.invokevirtual 94, 3) := by decide +kernel
theorem d_CT_count_135 : decode c_CT_count 135 = .ok (.ireturn, 1) := by decide +kernel
theorem d_CT_count_136 : decode c_CT_count 136 = .ok (.aload_n 0, 1) := by decide +kernel
theorem d_CT_count_137 : decode c_CT_count 137 = .ok (.getfield 40, 3) := by decide +kernel
theorem d_CT_count_140 : decode c_CT_count 140 = .ok (.invokevirtual 292, 3) := by decide +kernel
theorem d_CT_count_143 : decode c_CT_count 143 = .ok (.ireturn, 1) := by decide +kernel
theorem d_CT_count_144 : decode c_CT_count 144 = .ok (.aload_n 0, 1) := by decide +kernel
theorem d_CT_count_145 : decode c_CT_count 145 = .ok (.getfield 19, 3) := by decide +kernel
theorem d_CT_count_148 : decode c_CT_count 148 = .ok (.invokevirtual 293, 3) := by decide +kernel
theorem d_CT_count_151 : decode c_CT_count 151 = .ok (.ireturn, 1) := by decide +kernel
theorem d_CT_count_152 : decode c_CT_count 152 = .ok (.aload_n 0, 1) := by decide +kernel
theorem d_CT_count_153 : decode c_CT_count 153 = .ok (.getfield 47, 3) := by decide +kernel
theorem d_CT_count_156 : decode c_CT_count 156 = .ok (.invokevirtual 296, 3) := by decide +kernel
theorem d_CT_count_159 : decode c_CT_count 159 = .ok (.ireturn, 1) := by decide +kernel
theorem d_CT_count_160 : decode c_CT_count 160 = .ok (.aload_n 0, 1) := by decide +kernel
theorem d_CT_count_161 : decode c_CT_count 161 = .ok (.getfield 47, 3) := by decide +kernel
theorem d_CT_count_164 : decode c_CT_count 164 = .ok (.invokevirtual 299, 3) := by decide +kernel
theorem d_CT_count_167 : decode c_CT_count 167 = .ok (.ireturn, 1) := by decide +kernel
theorem d_CT_count_168 : decode c_CT_count 168 = .ok (.aload_n 0, 1) := by decide +kernel
theorem d_CT_count_169 : decode c_CT_count 169 = .ok (.getfield 75, 3) := by decide +kernel
theorem d_CT_count_172 : decode c_CT_count 172 = .ok (.invokevirtual 302, 3) := by decide +kernel
theorem d_CT_count_175 : decode c_CT_count 175 = .ok (.ireturn, 1) := by decide +kernel
theorem d_CT_count_176 : decode c_CT_count 176 = .ok (.aload_n 0, 1) := by decide +kernel
theorem d_CT_count_177 : decode c_CT_count 177 = .ok (.getfield 68, 3) := by decide +kernel
theorem d_CT_count_180 : decode c_CT_count 180 = .ok (.invokevirtual 305, 3) := by decide +kernel
theorem d_CT_count_183 : decode c_CT_count 183 = .ok (.ireturn, 1) := by decide +kernel
theorem d_CT_count_184 : decode c_CT_count 184 = .ok (.aload_n 0, 1) := by decide +kernel
theorem d_CT_count_185 : decode c_CT_count 185 = .ok (.getfield 26, 3) := by decide +kernel
theorem d_CT_count_188 : decode c_CT_count 188 = .ok (.invokevirtual 194, 3) := by decide +kernel
theorem d_CT_count_191 : decode c_CT_count 191 = .ok (.ireturn, 1) := by decide +kernel
theorem d_CT_count_192 : decode c_CT_count 192 = .ok (.aload_n 0, 1) := by decide +kernel
theorem d_CT_count_193 : decode c_CT_count 193 = .ok (.getfield 10, 3) := by decide +kernel
theorem d_CT_count_196 : decode c_CT_count 196 = .ok (.invokevirtual 184, 3) := by decide +kernel
theorem d_CT_count_199 : decode c_CT_count 199 = .ok (.ireturn, 1) := by decide +kernel
theorem d_CT_count_200 : decode c_CT_count 200 = .ok (.bipush (-2), 2) := by decide +kernel
theorem d_CT_count_202 : decode c_CT_count 202 = .ok (.ireturn, 1) := by decide +kernel
theorem d_CT_tally_0 : decode c_CT_tally 0 = .ok (.aload_n 0, 1) := by decide +kernel
theorem d_CT_tally_1 : decode c_CT_tally 1 = .ok (.getfield 40, 3) := by decide +kernel
theorem d_CT_tally_4 : decode c_CT_tally 4 = .ok (.aload_n 0, 1) := by decide +kernel
theorem d_CT_tally_5 : decode c_CT_tally 5 = .ok (.getfield 19, 3) := by decide +kernel
theorem d_CT_tally_8 : decode c_CT_tally 8 = .ok (.invokevirtual 116, 3) := by decide +kernel
theorem d_CT_tally_11 : decode c_CT_tally 11 = .ok (.aload_n 0, 1) := by decide +kernel
theorem d_CT_tally_12 : decode c_CT_tally 12 = .ok (.getfield 47, 3) := by decide +kernel
theorem d_CT_tally_15 : decode c_CT_tally 15 = .ok (.aload_n 0, 1) := by decide +kernel
theorem d_CT_tally_16 : decode c_CT_tally 16 = .ok (.getfield 19, 3) := by decide +kernel
theorem d_CT_tally_19 : decode c_CT_tally 19 = .ok (.aload_n 0, 1) := by decide +kernel
theorem d_CT_tally_20 : decode c_CT_tally 20 = .ok (.getfield 40, 3) := by decide +kernel
theorem d_CT_tally_23 : decode c_CT_tally 23 = .ok (.invokevirtual 255, 3) := by decide +kernel
theorem d_CT_tally_26 : decode c_CT_tally 26 = .ok (.aload_n 0, 1) := by decide +kernel
theorem d_CT_tally_27 : decode c_CT_tally 27 = .ok (.getfield 54, 3) := by decide +kernel
theorem d_CT_tally_30 : decode c_CT_tally 30 = .ok (.aload_n 0, 1) := by decide +kernel
theorem d_CT_tally_31 : decode c_CT_tally 31 = .ok (.getfield 19, 3) := by decide +kernel
theorem d_CT_tally_34 : decode c_CT_tally 34 = .ok (.aload_n 0, 1) := by decide +kernel
theorem d_CT_tally_35 : decode c_CT_tally 35 = .ok (.getfield 40, 3) := by decide +kernel
theorem d_CT_tally_38 : decode c_CT_tally 38 = .ok (.invokevirtual 162, 3) := by decide +kernel
theorem d_CT_tally_41 : decode c_CT_tally 41 = .ok (.aload_n 0, 1) := by decide +kernel
theorem d_CT_tally_42 : decode c_CT_tally 42 = .ok (.getfield 61, 3) := by decide +kernel
theorem d_CT_tally_45 : decode c_CT_tally 45 = .ok (.aload_n 0, 1) := by decide +kernel
theorem d_CT_tally_46 : decode c_CT_tally 46 = .ok (.getfield 19, 3) := by decide +kernel
theorem d_CT_tally_49 : decode c_CT_tally 49 = .ok (.aload_n 0, 1) := by decide +kernel
theorem d_CT_tally_50 : decode c_CT_tally 50 = .ok (.getfield 40, 3) := by decide +kernel
theorem d_CT_tally_53 : decode c_CT_tally 53 = .ok (.aload_n 0, 1) := by decide +kernel
theorem d_CT_tally_54 : decode c_CT_tally 54 = .ok (.getfield 54, 3) := by decide +kernel
theorem d_CT_tally_57 : decode c_CT_tally 57 = .ok (.invokevirtual 308, 3) := by decide +kernel
theorem d_CT_tally_60 : decode c_CT_tally 60 = .ok (.aload_n 0, 1) := by decide +kernel
theorem d_CT_tally_61 : decode c_CT_tally 61 = .ok (.invokevirtual 312, 3) := by decide +kernel
theorem d_CT_tally_64 : decode c_CT_tally 64 = .ok (.aload_n 0, 1) := by decide +kernel
theorem d_CT_tally_65 : decode c_CT_tally 65 = .ok (.getfield 68, 3) := by decide +kernel
theorem d_CT_tally_68 : decode c_CT_tally 68 = .ok (.invokevirtual 315, 3) := by decide +kernel
theorem d_CT_tally_71 : decode c_CT_tally 71 = .ok (.aload_n 0, 1) := by decide +kernel
theorem d_CT_tally_72 : decode c_CT_tally 72 = .ok (.getfield 75, 3) := by decide +kernel
theorem d_CT_tally_75 : decode c_CT_tally 75 = .ok (.aload_n 0, 1) := by decide +kernel
theorem d_CT_tally_76 : decode c_CT_tally 76 = .ok (.getfield 19, 3) := by decide +kernel
theorem d_CT_tally_79 : decode c_CT_tally 79 = .ok (.aload_n 0, 1) := by decide +kernel
theorem d_CT_tally_80 : decode c_CT_tally 80 = .ok (.getfield 40, 3) := by decide +kernel
theorem d_CT_tally_83 : decode c_CT_tally 83 = .ok (.aload_n 0, 1) := by decide +kernel
theorem d_CT_tally_84 : decode c_CT_tally 84 = .ok (.getfield 68, 3) := by decide +kernel
theorem d_CT_tally_87 : decode c_CT_tally 87 = .ok (.invokevirtual 317, 3) := by decide +kernel
theorem d_CT_tally_90 : decode c_CT_tally 90 = .ok (.return_, 1) := by decide +kernel
theorem d_CT_fillKeys_0 : decode c_CT_fillKeys 0 = .ok (.aload_n 0, 1) := by decide +kernel
theorem d_CT_fillKeys_1 : decode c_CT_fillKeys 1 = .ok (.getfield 68, 3) := by decide +kernel
theorem d_CT_fillKeys_4 : decode c_CT_fillKeys 4 = .ok (.invokevirtual 320, 3) := by decide +kernel
theorem d_CT_fillKeys_7 : decode c_CT_fillKeys 7 = .ok (.iconst 0, 1) := by decide +kernel
theorem d_CT_fillKeys_8 : decode c_CT_fillKeys 8 = .ok (.istore_n 1, 1) := by decide +kernel
theorem d_CT_fillKeys_9 : decode c_CT_fillKeys 9 = .ok (.iload_n 1, 1) := by decide +kernel
theorem d_CT_fillKeys_10 : decode c_CT_fillKeys 10 = .ok (.bipush 20, 2) := by decide +kernel
theorem d_CT_fillKeys_12 : decode c_CT_fillKeys 12 = .ok (.if_icmp .ge 33, 3) := by decide +kernel
theorem d_CT_fillKeys_15 : decode c_CT_fillKeys 15 = .ok (.aload_n 0, 1) := by decide +kernel
theorem d_CT_fillKeys_16 : decode c_CT_fillKeys 16 = .ok (.getfield 40, 3) := by decide +kernel
theorem d_CT_fillKeys_19 : decode c_CT_fillKeys 19 = .ok (.iload_n 1, 1) := by decide +kernel
theorem d_CT_fillKeys_20 : decode c_CT_fillKeys 20 = .ok (.invokevirtual 323, 3) := by decide +kernel
theorem d_CT_fillKeys_23 : decode c_CT_fillKeys 23 = .ok (.ifCond .eq 16, 3) := by decide +kernel
theorem d_CT_fillKeys_26 : decode c_CT_fillKeys 26 = .ok (.aload_n 0, 1) := by decide +kernel
theorem d_CT_fillKeys_27 : decode c_CT_fillKeys 27 = .ok (.getfield 68, 3) := by decide +kernel
theorem d_CT_fillKeys_30 : decode c_CT_fillKeys 30 = .ok (.iload_n 1, 1) := by decide +kernel
theorem d_CT_fillKeys_31 : decode c_CT_fillKeys 31 = .ok (.aload_n 0, 1) := by decide +kernel
theorem d_CT_fillKeys_32 : decode c_CT_fillKeys 32 = .ok (.iload_n 1, 1) := by decide +kernel
theorem d_CT_fillKeys_33 : decode c_CT_fillKeys 33 = .ok (.invokevirtual 326, 3) := by decide +kernel
theorem d_CT_fillKeys_36 : decode c_CT_fillKeys 36 = .ok (.invokevirtual 329, 3) := by decide +kernel
theorem d_CT_fillKeys_39 : decode c_CT_fillKeys 39 = .ok (.iinc 1 1, 3) := by decide +kernel
theorem d_CT_fillKeys_42 : decode c_CT_fillKeys 42 = .ok (.goto (-33), 3) := by decide +kernel
theorem d_CT_fillKeys_45 : decode c_CT_fillKeys 45 = .ok (.return_, 1) := by decide +kernel
theorem d_CT_keyOf_0 : decode c_CT_keyOf 0 = .ok (.aload_n 0, 1) := by decide +kernel
theorem d_CT_keyOf_1 : decode c_CT_keyOf 1 = .ok (.getfield 19, 3) := by decide +kernel
theorem d_CT_keyOf_4 : decode c_CT_keyOf 4 = .ok (.iconst 0, 1) := by decide +kernel
theorem d_CT_keyOf_5 : decode c_CT_keyOf 5 = .ok (.invokevirtual 172, 3) := by decide +kernel
theorem d_CT_keyOf_8 : decode c_CT_keyOf 8 = .ok (.iconst 1, 1) := by decide +kernel
theorem d_CT_keyOf_9 : decode c_CT_keyOf 9 = .ok (.if_icmp .ne 25, 3) := by decide +kernel
theorem d_CT_keyOf_12 : decode c_CT_keyOf 12 = .ok (.aload_n 0, 1) := by decide +kernel
theorem d_CT_keyOf_13 : decode c_CT_keyOf 13 = .ok (.getfield 61, 3) := by decide +kernel
theorem d_CT_keyOf_16 : decode c_CT_keyOf 16 = .ok (.iload_n 1, 1) := by decide +kernel
theorem d_CT_keyOf_17 : decode c_CT_keyOf 17 = .ok (.invokevirtual 248, 3) := by decide +kernel
theorem d_CT_keyOf_20 : decode c_CT_keyOf 20 = .ok (.istore_n 2, 1) := by decide +kernel
theorem d_CT_keyOf_21 : decode c_CT_keyOf 21 = .ok (.iload_n 2, 1) := by decide +kernel
theorem d_CT_keyOf_22 : decode c_CT_keyOf 22 = .ok (.bipush (-5), 2) := by decide +kernel
theorem d_CT_keyOf_24 : decode c_CT_keyOf 24 = .ok (.if_icmp .ne 8, 3) := by decide +kernel
theorem d_CT_keyOf_27 : decode c_CT_keyOf 27 = .ok (.bipush 20, 2) := by decide +kernel
theorem d_CT_keyOf_29 : decode c_CT_keyOf 29 = .ok (.goto 4, 3) := by decide +kernel
theorem d_CT_keyOf_32 : decode c_CT_keyOf 32 = .ok (.iload_n 2, 1) := by decide +kernel
theorem d_CT_keyOf_33 : decode c_CT_keyOf 33 = .ok (.ireturn, 1) := by decide +kernel
theorem d_CT_keyOf_34 : decode c_CT_keyOf 34 = .ok (.aload_n 0, 1) := by decide +kernel
theorem d_CT_keyOf_35 : decode c_CT_keyOf 35 = .ok (.iload_n 1, 1) := by decide +kernel
theorem d_CT_keyOf_36 : decode c_CT_keyOf 36 = .ok (.invokevirtual 239, 3) := by decide +kernel
theorem d_CT_keyOf_39 : decode c_CT_keyOf 39 = .ok (.istore_n 2, 1) := by decide +kernel
theorem d_CT_keyOf_40 : decode c_CT_keyOf 40 = .ok (.aload_n 0, 1) := by decide +kernel
theorem d_CT_keyOf_41 : decode c_CT_keyOf 41 = .ok (.getfield 19, 3) := by decide +kernel
theorem d_CT_keyOf_44 : decode c_CT_keyOf 44 = .ok (.iconst 2, 1) := by decide +kernel
theorem d_CT_keyOf_45 : decode c_CT_keyOf 45 = .ok (.invokevirtual 172, 3) := by decide +kernel
theorem d_CT_keyOf_48 : decode c_CT_keyOf 48 = .ok (.ifCond .ne 5, 3) := by decide +kernel
theorem d_CT_keyOf_51 : decode c_CT_keyOf 51 = .ok (.iload_n 2, 1) := by decide +kernel
theorem d_CT_keyOf_52 : decode c_CT_keyOf 52 = .ok (.ireturn, 1) := by decide +kernel
theorem d_CT_keyOf_53 : decode c_CT_keyOf 53 = .ok (.bipush 60, 2) := by decide +kernel
theorem d_CT_keyOf_55 : decode c_CT_keyOf 55 = .ok (.istore_n 3, 1) := by decide +kernel
theorem d_CT_keyOf_56 : decode c_CT_keyOf 56 = .ok (.iload_n 2, 1) := by decide +kernel
theorem d_CT_keyOf_57 : decode c_CT_keyOf 57 = .ok (.bipush 13, 2) := by decide +kernel
theorem d_CT_keyOf_59 : decode c_CT_keyOf 59 = .ok (.imul, 1) := by decide +kernel
theorem d_CT_keyOf_60 : decode c_CT_keyOf 60 = .ok (.aload_n 0, 1) := by decide +kernel
theorem d_CT_keyOf_61 : decode c_CT_keyOf 61 = .ok (.getfield 47, 3) := by decide +kernel
theorem d_CT_keyOf_64 : decode c_CT_keyOf 64 = .ok (.iload_n 1, 1) := by decide +kernel
theorem d_CT_keyOf_65 : decode c_CT_keyOf 65 = .ok (.invokevirtual 233, 3) := by decide +kernel
theorem d_CT_keyOf_68 : decode c_CT_keyOf 68 = .ok (.iadd, 1) := by decide +kernel
theorem d_CT_keyOf_69 : decode c_CT_keyOf 69 = .ok (.istore_n 2, 1) := by decide +kernel
theorem d_CT_keyOf_70 : decode c_CT_keyOf 70 = .ok (.iload_n 2, 1) := by decide +kernel
theorem d_CT_keyOf_71 : decode c_CT_keyOf 71 = .ok (.iload_n 3, 1) := by decide +kernel
theorem d_CT_keyOf_72 : decode c_CT_keyOf 72 = .ok (.iconst 1, 1) := by decide +kernel
theorem d_CT_keyOf_73 : decode c_CT_keyOf 73 = .ok (.iadd, 1) := by decide +kernel
theorem d_CT_keyOf_74 : decode c_CT_keyOf 74 = .ok (.imul, 1) := by decide +kernel
theorem d_CT_keyOf_75 : decode c_CT_keyOf 75 = .ok (.iload_n 3, 1) := by decide +kernel
theorem d_CT_keyOf_76 : decode c_CT_keyOf 76 = .ok (.iadd, 1) := by decide +kernel
theorem d_CT_keyOf_77 : decode c_CT_keyOf 77 = .ok (.aload_n 0, 1) := by decide +kernel
theorem d_CT_keyOf_78 : decode c_CT_keyOf 78 = .ok (.getfield 54, 3) := by decide +kernel
theorem d_CT_keyOf_81 : decode c_CT_keyOf 81 = .ok (.iload_n 1, 1) := by decide +kernel
theorem d_CT_keyOf_82 : decode c_CT_keyOf 82 = .ok (.invokevirtual 236, 3) := by decide +kernel
theorem d_CT_keyOf_85 : decode c_CT_keyOf 85 = .ok (.isub, 1) := by decide +kernel
theorem d_CT_keyOf_86 : decode c_CT_keyOf 86 = .ok (.istore_n 2, 1) := by decide +kernel
theorem d_CT_keyOf_87 : decode c_CT_keyOf 87 = .ok (.iload_n 2, 1) := by decide +kernel
theorem d_CT_keyOf_88 : decode c_CT_keyOf 88 = .ok (.bipush 20, 2) := by decide +kernel
theorem d_CT_keyOf_90 : decode c_CT_keyOf 90 = .ok (.imul, 1) := by decide +kernel
theorem d_CT_keyOf_91 : decode c_CT_keyOf 91 = .ok (.bipush 20, 2) := by decide +kernel
theorem d_CT_keyOf_93 : decode c_CT_keyOf 93 = .ok (.iadd, 1) := by decide +kernel
theorem d_CT_keyOf_94 : decode c_CT_keyOf 94 = .ok (.iconst 1, 1) := by decide +kernel
theorem d_CT_keyOf_95 : decode c_CT_keyOf 95 = .ok (.isub, 1) := by decide +kernel
theorem d_CT_keyOf_96 : decode c_CT_keyOf 96 = .ok (.iload_n 1, 1) := by decide +kernel
theorem d_CT_keyOf_97 : decode c_CT_keyOf 97 = .ok (.isub, 1) := by decide +kernel
theorem d_CT_keyOf_98 : decode c_CT_keyOf 98 = .ok (.ireturn, 1) := by decide +kernel
theorem d_CT_scoreOf_0 : decode c_CT_scoreOf 0 = .ok (.bipush 10, 2) := by decide +kernel
theorem d_CT_scoreOf_2 : decode c_CT_scoreOf 2 = .ok (.aload_n 0, 1) := by decide +kernel
theorem d_CT_scoreOf_3 : decode c_CT_scoreOf 3 = .ok (.getfield 47, 3) := by decide +kernel
theorem d_CT_scoreOf_6 : decode c_CT_scoreOf 6 = .ok (.iload_n 1, 1) := by decide +kernel
theorem d_CT_scoreOf_7 : decode c_CT_scoreOf 7 = .ok (.invokevirtual 230, 3) := by decide +kernel
theorem d_CT_scoreOf_10 : decode c_CT_scoreOf 10 = .ok (.imul, 1) := by decide +kernel
theorem d_CT_scoreOf_11 : decode c_CT_scoreOf 11 = .ok (.aload_n 0, 1) := by decide +kernel
theorem d_CT_scoreOf_12 : decode c_CT_scoreOf 12 = .ok (.getfield 54, 3) := by decide +kernel
theorem d_CT_scoreOf_15 : decode c_CT_scoreOf 15 = .ok (.iload_n 1, 1) := by decide +kernel
theorem d_CT_scoreOf_16 : decode c_CT_scoreOf 16 = .ok (.invokevirtual 236, 3) := by decide +kernel
theorem d_CT_scoreOf_19 : decode c_CT_scoreOf 19 = .ok (.isub, 1) := by decide +kernel
theorem d_CT_scoreOf_20 : decode c_CT_scoreOf 20 = .ok (.ireturn, 1) := by decide +kernel
theorem d_CT_isWish_0 : decode c_CT_isWish 0 = .ok (.iload_n 1, 1) := by decide +kernel
theorem d_CT_isWish_1 : decode c_CT_isWish 1 = .ok (.bipush (-5), 2) := by decide +kernel
theorem d_CT_isWish_3 : decode c_CT_isWish 3 = .ok (.if_icmp .eq 14, 3) := by decide +kernel
theorem d_CT_isWish_6 : decode c_CT_isWish 6 = .ok (.aload_n 0, 1) := by decide +kernel
theorem d_CT_isWish_7 : decode c_CT_isWish 7 = .ok (.getfield 19, 3) := by decide +kernel
theorem d_CT_isWish_10 : decode c_CT_isWish 10 = .ok (.iload_n 1, 1) := by decide +kernel
theorem d_CT_isWish_11 : decode c_CT_isWish 11 = .ok (.invokevirtual 105, 3) := by decide +kernel
theorem d_CT_isWish_14 : decode c_CT_isWish 14 = .ok (.ifCond .eq 7, 3) := by decide +kernel
theorem d_CT_isWish_17 : decode c_CT_isWish 17 = .ok (.iconst 1, 1) := by decide +kernel
theorem d_CT_isWish_18 : decode c_CT_isWish 18 = .ok (.goto 4, 3) := by decide +kernel
theorem d_CT_isWish_21 : decode c_CT_isWish 21 = .ok (.iconst 0, 1) := by decide +kernel
theorem d_CT_isWish_22 : decode c_CT_isWish 22 = .ok (.ireturn, 1) := by decide +kernel
theorem d_CT_hasGap_0 : decode c_CT_hasGap 0 = .ok (.iload_n 0, 1) := by decide +kernel
theorem d_CT_hasGap_1 : decode c_CT_hasGap 1 = .ok (.bipush (-5), 2) := by decide +kernel
theorem d_CT_hasGap_3 : decode c_CT_hasGap 3 = .ok (.if_icmp .ne 15, 3) := by decide +kernel
theorem d_CT_hasGap_6 : decode c_CT_hasGap 6 = .ok (.iload_n 1, 1) := by decide +kernel
theorem d_CT_hasGap_7 : decode c_CT_hasGap 7 = .ok (.bipush (-5), 2) := by decide +kernel
theorem d_CT_hasGap_9 : decode c_CT_hasGap 9 = .ok (.if_icmp .ne 21, 3) := by decide +kernel
theorem d_CT_hasGap_12 : decode c_CT_hasGap 12 = .ok (.iload_n 2, 1) := by decide +kernel
theorem d_CT_hasGap_13 : decode c_CT_hasGap 13 = .ok (.bipush (-5), 2) := by decide +kernel
theorem d_CT_hasGap_15 : decode c_CT_hasGap 15 = .ok (.if_icmp .ne 15, 3) := by decide +kernel
theorem d_CT_hasGap_18 : decode c_CT_hasGap 18 = .ok (.iload_n 1, 1) := by decide +kernel
theorem d_CT_hasGap_19 : decode c_CT_hasGap 19 = .ok (.bipush (-5), 2) := by decide +kernel
theorem d_CT_hasGap_21 : decode c_CT_hasGap 21 = .ok (.if_icmp .ne 13, 3) := by decide +kernel
theorem d_CT_hasGap_24 : decode c_CT_hasGap 24 = .ok (.iload_n 2, 1) := by decide +kernel
theorem d_CT_hasGap_25 : decode c_CT_hasGap 25 = .ok (.bipush (-5), 2) := by decide +kernel
theorem d_CT_hasGap_27 : decode c_CT_hasGap 27 = .ok (.if_icmp .eq 7, 3) := by decide +kernel
theorem d_CT_hasGap_30 : decode c_CT_hasGap 30 = .ok (.iconst 1, 1) := by decide +kernel
theorem d_CT_hasGap_31 : decode c_CT_hasGap 31 = .ok (.goto 4, 3) := by decide +kernel
theorem d_CT_hasGap_34 : decode c_CT_hasGap 34 = .ok (.iconst 0, 1) := by decide +kernel
theorem d_CT_hasGap_35 : decode c_CT_hasGap 35 = .ok (.ireturn, 1) := by decide +kernel
theorem d_CT_isTwice_0 : decode c_CT_isTwice 0 = .ok (.iload_n 0, 1) := by decide +kernel
theorem d_CT_isTwice_1 : decode c_CT_isTwice 1 = .ok (.bipush (-5), 2) := by decide +kernel
theorem d_CT_isTwice_3 : decode c_CT_isTwice 3 = .ok (.if_icmp .eq 13, 3) := by decide +kernel
theorem d_CT_isTwice_6 : decode c_CT_isTwice 6 = .ok (.iload_n 0, 1) := by decide +kernel
theorem d_CT_isTwice_7 : decode c_CT_isTwice 7 = .ok (.iload_n 1, 1) := by decide +kernel
theorem d_CT_isTwice_8 : decode c_CT_isTwice 8 = .ok (.if_icmp .eq 19, 3) := by decide +kernel
theorem d_CT_isTwice_11 : decode c_CT_isTwice 11 = .ok (.iload_n 0, 1) := by decide +kernel
theorem d_CT_isTwice_12 : decode c_CT_isTwice 12 = .ok (.iload_n 2, 1) := by decide +kernel
theorem d_CT_isTwice_13 : decode c_CT_isTwice 13 = .ok (.if_icmp .eq 14, 3) := by decide +kernel
theorem d_CT_isTwice_16 : decode c_CT_isTwice 16 = .ok (.iload_n 1, 1) := by decide +kernel
theorem d_CT_isTwice_17 : decode c_CT_isTwice 17 = .ok (.bipush (-5), 2) := by decide +kernel
theorem d_CT_isTwice_19 : decode c_CT_isTwice 19 = .ok (.if_icmp .eq 12, 3) := by decide +kernel
theorem d_CT_isTwice_22 : decode c_CT_isTwice 22 = .ok (.iload_n 1, 1) := by decide +kernel
theorem d_CT_isTwice_23 : decode c_CT_isTwice 23 = .ok (.iload_n 2, 1) := by decide +kernel
theorem d_CT_isTwice_24 : decode c_CT_isTwice 24 = .ok (.if_icmp .ne 7, 3) := by decide +kernel
theorem d_CT_isTwice_27 : decode c_CT_isTwice 27 = .ok (.iconst 1, 1) := by decide +kernel
theorem d_CT_isTwice_28 : decode c_CT_isTwice 28 = .ok (.goto 4, 3) := by decide +kernel
theorem d_CT_isTwice_31 : decode c_CT_isTwice 31 = .ok (.iconst 0, 1) := by decide +kernel
theorem d_CT_isTwice_32 : decode c_CT_isTwice 32 = .ok (.ireturn, 1) := by decide +kernel
theorem d_CT_mostOf_0 : decode c_CT_mostOf 0 = .ok (.iload_n 0, 1) := by decide +kernel
theorem d_CT_mostOf_1 : decode c_CT_mostOf 1 = .ok (.iconst 1, 1) := by decide +kernel
theorem d_CT_mostOf_2 : decode c_CT_mostOf 2 = .ok (.if_icmp .ne 7, 3) := by decide +kernel
theorem d_CT_mostOf_5 : decode c_CT_mostOf 5 = .ok (.iconst 5, 1) := by decide +kernel
theorem d_CT_mostOf_6 : decode c_CT_mostOf 6 = .ok (.goto 4, 3) := by decide +kernel
theorem d_CT_mostOf_9 : decode c_CT_mostOf 9 = .ok (.iconst 1, 1) := by decide +kernel
theorem d_CT_mostOf_10 : decode c_CT_mostOf 10 = .ok (.ireturn, 1) := by decide +kernel
theorem d_CT_isBy_0 : decode c_CT_isBy 0 = .ok (.aload_n 0, 1) := by decide +kernel
theorem d_CT_isBy_1 : decode c_CT_isBy 1 = .ok (.getfield 19, 3) := by decide +kernel
theorem d_CT_isBy_4 : decode c_CT_isBy 4 = .ok (.iload_n 2, 1) := by decide +kernel
theorem d_CT_isBy_5 : decode c_CT_isBy 5 = .ok (.invokevirtual 105, 3) := by decide +kernel
theorem d_CT_isBy_8 : decode c_CT_isBy 8 = .ok (.ifCond .eq 19, 3) := by decide +kernel
theorem d_CT_isBy_11 : decode c_CT_isBy 11 = .ok (.aload_n 0, 1) := by decide +kernel
theorem d_CT_isBy_12 : decode c_CT_isBy 12 = .ok (.getfield 19, 3) := by decide +kernel
theorem d_CT_isBy_15 : decode c_CT_isBy 15 = .ok (.iload_n 2, 1) := by decide +kernel
theorem d_CT_isBy_16 : decode c_CT_isBy 16 = .ok (.invokevirtual 203, 3) := by decide +kernel
theorem d_CT_isBy_19 : decode c_CT_isBy 19 = .ok (.iload_n 1, 1) := by decide +kernel
theorem d_CT_isBy_20 : decode c_CT_isBy 20 = .ok (.if_icmp .ne 7, 3) := by decide +kernel
theorem d_CT_isBy_23 : decode c_CT_isBy 23 = .ok (.iconst 1, 1) := by decide +kernel
theorem d_CT_isBy_24 : decode c_CT_isBy 24 = .ok (.goto 4, 3) := by decide +kernel
theorem d_CT_isBy_27 : decode c_CT_isBy 27 = .ok (.iconst 0, 1) := by decide +kernel
theorem d_CT_isBy_28 : decode c_CT_isBy 28 = .ok (.ireturn, 1) := by decide +kernel
theorem d_CT_captionsBy_0 : decode c_CT_captionsBy 0 = .ok (.iconst 0, 1) := by decide +kernel
theorem d_CT_captionsBy_1 : decode c_CT_captionsBy 1 = .ok (.istore_n 2, 1) := by decide +kernel
theorem d_CT_captionsBy_2 : decode c_CT_captionsBy 2 = .ok (.iconst 0, 1) := by decide +kernel
theorem d_CT_captionsBy_3 : decode c_CT_captionsBy 3 = .ok (.istore_n 3, 1) := by decide +kernel
theorem d_CT_captionsBy_4 : decode c_CT_captionsBy 4 = .ok (.iload_n 3, 1) := by decide +kernel
theorem d_CT_captionsBy_5 : decode c_CT_captionsBy 5 = .ok (.bipush 20, 2) := by decide +kernel
theorem d_CT_captionsBy_7 : decode c_CT_captionsBy 7 = .ok (.if_icmp .ge 21, 3) := by decide +kernel
theorem d_CT_captionsBy_10 : decode c_CT_captionsBy 10 = .ok (.aload_n 0, 1) := by decide +kernel
theorem d_CT_captionsBy_11 : decode c_CT_captionsBy 11 = .ok (.iload_n 1, 1) := by decide +kernel
theorem d_CT_captionsBy_12 : decode c_CT_captionsBy 12 = .ok (.iload_n 3, 1) := by decide +kernel
theorem d_CT_captionsBy_13 : decode c_CT_captionsBy 13 = .ok (.invokevirtual 332, 3) := by decide +kernel
theorem d_CT_captionsBy_16 : decode c_CT_captionsBy 16 = .ok (.ifCond .eq 6, 3) := by decide +kernel
theorem d_CT_captionsBy_19 : decode c_CT_captionsBy 19 = .ok (.iinc 2 1, 3) := by decide +kernel
theorem d_CT_captionsBy_22 : decode c_CT_captionsBy 22 = .ok (.iinc 3 1, 3) := by decide +kernel
theorem d_CT_captionsBy_25 : decode c_CT_captionsBy 25 = .ok (.goto (-21), 3) := by decide +kernel
theorem d_CT_captionsBy_28 : decode c_CT_captionsBy 28 = .ok (.iload_n 2, 1) := by decide +kernel
theorem d_CT_captionsBy_29 : decode c_CT_captionsBy 29 = .ok (.ireturn, 1) := by decide +kernel
theorem d_CT_amountFor_0 : decode c_CT_amountFor 0 = .ok (.iconst 0, 1) := by decide +kernel
theorem d_CT_amountFor_1 : decode c_CT_amountFor 1 = .ok (.istore_n 2, 1) := by decide +kernel
theorem d_CT_amountFor_2 : decode c_CT_amountFor 2 = .ok (.iconst 0, 1) := by decide +kernel
theorem d_CT_amountFor_3 : decode c_CT_amountFor 3 = .ok (.istore_n 3, 1) := by decide +kernel
theorem d_CT_amountFor_4 : decode c_CT_amountFor 4 = .ok (.iload_n 3, 1) := by decide +kernel
theorem d_CT_amountFor_5 : decode c_CT_amountFor 5 = .ok (.bipush 20, 2) := by decide +kernel
theorem d_CT_amountFor_7 : decode c_CT_amountFor 7 = .ok (.if_icmp .ge 29, 3) := by decide +kernel
theorem d_CT_amountFor_10 : decode c_CT_amountFor 10 = .ok (.aload_n 0, 1) := by decide +kernel
theorem d_CT_amountFor_11 : decode c_CT_amountFor 11 = .ok (.iload_n 1, 1) := by decide +kernel
theorem d_CT_amountFor_12 : decode c_CT_amountFor 12 = .ok (.iload_n 3, 1) := by decide +kernel
theorem d_CT_amountFor_13 : decode c_CT_amountFor 13 = .ok (.invokevirtual 332, 3) := by decide +kernel
theorem d_CT_amountFor_16 : decode c_CT_amountFor 16 = .ok (.ifCond .eq 14, 3) := by decide +kernel
theorem d_CT_amountFor_19 : decode c_CT_amountFor 19 = .ok (.iload_n 2, 1) := by decide +kernel
theorem d_CT_amountFor_20 : decode c_CT_amountFor 20 = .ok (.aload_n 0, 1) := by decide +kernel
theorem d_CT_amountFor_21 : decode c_CT_amountFor 21 = .ok (.getfield 75, 3) := by decide +kernel
theorem d_CT_amountFor_24 : decode c_CT_amountFor 24 = .ok (.iload_n 3, 1) := by decide +kernel
theorem d_CT_amountFor_25 : decode c_CT_amountFor 25 = .ok (.invokevirtual 218, 3) := by decide +kernel
theorem d_CT_amountFor_28 : decode c_CT_amountFor 28 = .ok (.iadd, 1) := by decide +kernel
theorem d_CT_amountFor_29 : decode c_CT_amountFor 29 = .ok (.istore_n 2, 1) := by decide +kernel
theorem d_CT_amountFor_30 : decode c_CT_amountFor 30 = .ok (.iinc 3 1, 3) := by decide +kernel
theorem d_CT_amountFor_33 : decode c_CT_amountFor 33 = .ok (.goto (-29), 3) := by decide +kernel
theorem d_CT_amountFor_36 : decode c_CT_amountFor 36 = .ok (.iload_n 2, 1) := by decide +kernel
theorem d_CT_amountFor_37 : decode c_CT_amountFor 37 = .ok (.ireturn, 1) := by decide +kernel
theorem d_CT_bestPlaceOf_0 : decode c_CT_bestPlaceOf 0 = .ok (.bipush (-5), 2) := by decide +kernel
theorem d_CT_bestPlaceOf_2 : decode c_CT_bestPlaceOf 2 = .ok (.istore_n 2, 1) := by decide +kernel
theorem d_CT_bestPlaceOf_3 : decode c_CT_bestPlaceOf 3 = .ok (.iconst 0, 1) := by decide +kernel
theorem d_CT_bestPlaceOf_4 : decode c_CT_bestPlaceOf 4 = .ok (.istore_n 3, 1) := by decide +kernel
theorem d_CT_bestPlaceOf_5 : decode c_CT_bestPlaceOf 5 = .ok (.iload_n 3, 1) := by decide +kernel
theorem d_CT_bestPlaceOf_6 : decode c_CT_bestPlaceOf 6 = .ok (.bipush 20, 2) := by decide +kernel
theorem d_CT_bestPlaceOf_8 : decode c_CT_bestPlaceOf 8 = .ok (.if_icmp .ge 53, 3) := by decide +kernel
theorem d_CT_bestPlaceOf_11 : decode c_CT_bestPlaceOf 11 = .ok (.aload_n 0, 1) := by decide +kernel
theorem d_CT_bestPlaceOf_12 : decode c_CT_bestPlaceOf 12 = .ok (.iload_n 1, 1) := by decide +kernel
theorem d_CT_bestPlaceOf_13 : decode c_CT_bestPlaceOf 13 = .ok (.iload_n 3, 1) := by decide +kernel
theorem d_CT_bestPlaceOf_14 : decode c_CT_bestPlaceOf 14 = .ok (.invokevirtual 332, 3) := by decide +kernel
theorem d_CT_bestPlaceOf_17 : decode c_CT_bestPlaceOf 17 = .ok (.ifCond .eq 38, 3) := by decide +kernel
theorem d_CT_bestPlaceOf_20 : decode c_CT_bestPlaceOf 20 = .ok (.aload_n 0, 1) := by decide +kernel
theorem d_CT_bestPlaceOf_21 : decode c_CT_bestPlaceOf 21 = .ok (.getfield 68, 3) := by decide +kernel
theorem d_CT_bestPlaceOf_24 : decode c_CT_bestPlaceOf 24 = .ok (.aload_n 0, 1) := by decide +kernel
theorem d_CT_bestPlaceOf_25 : decode c_CT_bestPlaceOf 25 = .ok (.getfield 40, 3) := by decide +kernel
theorem d_CT_bestPlaceOf_28 : decode c_CT_bestPlaceOf 28 = .ok (.iload_n 3, 1) := by decide +kernel
theorem d_CT_bestPlaceOf_29 : decode c_CT_bestPlaceOf 29 = .ok (.invokevirtual 119, 3) := by decide +kernel
theorem d_CT_bestPlaceOf_32 : decode c_CT_bestPlaceOf 32 = .ok (.invokevirtual 242, 3) := by decide +kernel
theorem d_CT_bestPlaceOf_35 : decode c_CT_bestPlaceOf 35 = .ok (.istore 4, 2) := by decide +kernel
theorem d_CT_bestPlaceOf_37 : decode c_CT_bestPlaceOf 37 = .ok (.iload_n 2, 1) := by decide +kernel
theorem d_CT_bestPlaceOf_38 : decode c_CT_bestPlaceOf 38 = .ok (.bipush (-5), 2) := by decide +kernel
theorem d_CT_bestPlaceOf_40 : decode c_CT_bestPlaceOf 40 = .ok (.if_icmp .ne 8, 3) := by decide +kernel
theorem d_CT_bestPlaceOf_43 : decode c_CT_bestPlaceOf 43 = .ok (.iload 4, 2) := by decide +kernel
theorem d_CT_bestPlaceOf_45 : decode c_CT_bestPlaceOf 45 = .ok (.goto 9, 3) := by decide +kernel
theorem d_CT_bestPlaceOf_48 : decode c_CT_bestPlaceOf 48 = .ok (.iload_n 2, 1) := by decide +kernel
theorem d_CT_bestPlaceOf_49 : decode c_CT_bestPlaceOf 49 = .ok (.iload 4, 2) := by decide +kernel
theorem d_CT_bestPlaceOf_51 : decode c_CT_bestPlaceOf 51 = .ok (.invokestatic 335, 3) := by decide +kernel
theorem d_CT_bestPlaceOf_54 : decode c_CT_bestPlaceOf 54 = .ok (.istore_n 2, 1) := by decide +kernel
theorem d_CT_bestPlaceOf_55 : decode c_CT_bestPlaceOf 55 = .ok (.iinc 3 1, 3) := by decide +kernel
theorem d_CT_bestPlaceOf_58 : decode c_CT_bestPlaceOf 58 = .ok (.goto (-53), 3) := by decide +kernel
theorem d_CT_bestPlaceOf_61 : decode c_CT_bestPlaceOf 61 = .ok (.iload_n 2, 1) := by decide +kernel
theorem d_CT_bestPlaceOf_62 : decode c_CT_bestPlaceOf 62 = .ok (.ireturn, 1) := by decide +kernel
theorem d_CT_isIndex_0 : decode c_CT_isIndex 0 = .ok (.iload_n 0, 1) := by decide +kernel
theorem d_CT_isIndex_1 : decode c_CT_isIndex 1 = .ok (.ifCond .lt 12, 3) := by decide +kernel
theorem d_CT_isIndex_4 : decode c_CT_isIndex 4 = .ok (.iload_n 0, 1) := by decide +kernel
theorem d_CT_isIndex_5 : decode c_CT_isIndex 5 = .ok (.iload_n 1, 1) := by decide +kernel
theorem d_CT_isIndex_6 : decode c_CT_isIndex 6 = .ok (.if_icmp .ge 7, 3) := by decide +kernel
theorem d_CT_isIndex_9 : decode c_CT_isIndex 9 = .ok (.iconst 1, 1) := by decide +kernel
theorem d_CT_isIndex_10 : decode c_CT_isIndex 10 = .ok (.goto 4, 3) := by decide +kernel
theorem d_CT_isIndex_13 : decode c_CT_isIndex 13 = .ok (.iconst 0, 1) := by decide +kernel
theorem d_CT_isIndex_14 : decode c_CT_isIndex 14 = .ok (.ireturn, 1) := by decide +kernel
theorem d_CT_at_0 : decode c_CT_at 0 = .ok (.iload_n 1, 1) := by decide +kernel
theorem d_CT_at_1 : decode c_CT_at 1 = .ok (.ifCond .lt 15, 3) := by decide +kernel
theorem d_CT_at_4 : decode c_CT_at 4 = .ok (.iload_n 1, 1) := by decide +kernel
theorem d_CT_at_5 : decode c_CT_at 5 = .ok (.aload_n 0, 1) := by decide +kernel
theorem d_CT_at_6 : decode c_CT_at 6 = .ok (.arraylength, 1) := by decide +kernel
theorem d_CT_at_7 : decode c_CT_at 7 = .ok (.if_icmp .ge 9, 3) := by decide +kernel
theorem d_CT_at_10 : decode c_CT_at 10 = .ok (.aload_n 0, 1) := by decide +kernel
theorem d_CT_at_11 : decode c_CT_at 11 = .ok (.iload_n 1, 1) := by decide +kernel
theorem d_CT_at_12 : decode c_CT_at 12 = .ok (.iaload, 1) := by decide +kernel
theorem d_CT_at_13 : decode c_CT_at 13 = .ok (.goto 5, 3) := by decide +kernel
theorem d_CT_at_16 : decode c_CT_at 16 = .ok (.bipush (-5), 2) := by decide +kernel
theorem d_CT_at_18 : decode c_CT_at 18 = .ok (.ireturn, 1) := by decide +kernel
theorem d_CT_put_0 : decode c_CT_put 0 = .ok (.iload_n 1, 1) := by decide +kernel
theorem d_CT_put_1 : decode c_CT_put 1 = .ok (.ifCond .lt 13, 3) := by decide +kernel
theorem d_CT_put_4 : decode c_CT_put 4 = .ok (.iload_n 1, 1) := by decide +kernel
theorem d_CT_put_5 : decode c_CT_put 5 = .ok (.aload_n 0, 1) := by decide +kernel
theorem d_CT_put_6 : decode c_CT_put 6 = .ok (.arraylength, 1) := by decide +kernel
theorem d_CT_put_7 : decode c_CT_put 7 = .ok (.if_icmp .ge 7, 3) := by decide +kernel
theorem d_CT_put_10 : decode c_CT_put 10 = .ok (.aload_n 0, 1) := by decide +kernel
theorem d_CT_put_11 : decode c_CT_put 11 = .ok (.iload_n 1, 1) := by decide +kernel
theorem d_CT_put_12 : decode c_CT_put 12 = .ok (.iload_n 2, 1) := by decide +kernel
theorem d_CT_put_13 : decode c_CT_put 13 = .ok (.iastore, 1) := by decide +kernel
theorem d_CT_put_14 : decode c_CT_put 14 = .ok (.return_, 1) := by decide +kernel
theorem d_CT_copyRow_0 : decode c_CT_copyRow 0 = .ok (.aload_n 0, 1) := by decide +kernel
theorem d_CT_copyRow_1 : decode c_CT_copyRow 1 = .ok (.iconst 0, 1) := by decide +kernel
theorem d_CT_copyRow_2 : decode c_CT_copyRow 2 = .ok (.aload_n 1, 1) := by decide +kernel
theorem d_CT_copyRow_3 : decode c_CT_copyRow 3 = .ok (.iconst 0, 1) := by decide +kernel
theorem d_CT_copyRow_4 : decode c_CT_copyRow 4 = .ok (.aload_n 0, 1) := by decide +kernel
theorem d_CT_copyRow_5 : decode c_CT_copyRow 5 = .ok (.arraylength, 1) := by decide +kernel
theorem d_CT_copyRow_6 : decode c_CT_copyRow 6 = .ok (.aload_n 1, 1) := by decide +kernel
theorem d_CT_copyRow_7 : decode c_CT_copyRow 7 = .ok (.arraylength, 1) := by decide +kernel
theorem d_CT_copyRow_8 : decode c_CT_copyRow 8 = .ok (.invokestatic 335, 3) := by decide +kernel
theorem d_CT_copyRow_11 : decode c_CT_copyRow 11 = .ok (.invokestatic 340, 3) := by decide +kernel
theorem d_CT_copyRow_14 : decode c_CT_copyRow 14 = .ok (.return_, 1) := by decide +kernel
theorem d_CT_copyFlags_0 : decode c_CT_copyFlags 0 = .ok (.aload_n 0, 1) := by decide +kernel
theorem d_CT_copyFlags_1 : decode c_CT_copyFlags 1 = .ok (.iconst 0, 1) := by decide +kernel
theorem d_CT_copyFlags_2 : decode c_CT_copyFlags 2 = .ok (.aload_n 1, 1) := by decide +kernel
theorem d_CT_copyFlags_3 : decode c_CT_copyFlags 3 = .ok (.iconst 0, 1) := by decide +kernel
theorem d_CT_copyFlags_4 : decode c_CT_copyFlags 4 = .ok (.aload_n 0, 1) := by decide +kernel
theorem d_CT_copyFlags_5 : decode c_CT_copyFlags 5 = .ok (.arraylength, 1) := by decide +kernel
theorem d_CT_copyFlags_6 : decode c_CT_copyFlags 6 = .ok (.aload_n 1, 1) := by decide +kernel
theorem d_CT_copyFlags_7 : decode c_CT_copyFlags 7 = .ok (.arraylength, 1) := by decide +kernel
theorem d_CT_copyFlags_8 : decode c_CT_copyFlags 8 = .ok (.invokestatic 335, 3) := by decide +kernel
theorem d_CT_copyFlags_11 : decode c_CT_copyFlags 11 = .ok (.invokestatic 340, 3) := by decide +kernel
theorem d_CT_copyFlags_14 : decode c_CT_copyFlags 14 = .ok (.return_, 1) := by decide +kernel
theorem d_CT_isSmall_0 : decode c_CT_isSmall 0 = .ok (.iload_n 0, 1) := by decide +kernel
theorem d_CT_isSmall_1 : decode c_CT_isSmall 1 = .ok (.bipush 97, 2) := by decide +kernel
theorem d_CT_isSmall_3 : decode c_CT_isSmall 3 = .ok (.if_icmp .lt 13, 3) := by decide +kernel
theorem d_CT_isSmall_6 : decode c_CT_isSmall 6 = .ok (.iload_n 0, 1) := by decide +kernel
theorem d_CT_isSmall_7 : decode c_CT_isSmall 7 = .ok (.bipush 122, 2) := by decide +kernel
theorem d_CT_isSmall_9 : decode c_CT_isSmall 9 = .ok (.if_icmp .gt 7, 3) := by decide +kernel
theorem d_CT_isSmall_12 : decode c_CT_isSmall 12 = .ok (.iconst 1, 1) := by decide +kernel
theorem d_CT_isSmall_13 : decode c_CT_isSmall 13 = .ok (.goto 4, 3) := by decide +kernel
theorem d_CT_isSmall_16 : decode c_CT_isSmall 16 = .ok (.iconst 0, 1) := by decide +kernel
theorem d_CT_isSmall_17 : decode c_CT_isSmall 17 = .ok (.ireturn, 1) := by decide +kernel
theorem d_CT_isGreat_0 : decode c_CT_isGreat 0 = .ok (.iload_n 0, 1) := by decide +kernel
theorem d_CT_isGreat_1 : decode c_CT_isGreat 1 = .ok (.bipush 65, 2) := by decide +kernel
theorem d_CT_isGreat_3 : decode c_CT_isGreat 3 = .ok (.if_icmp .lt 13, 3) := by decide +kernel
theorem d_CT_isGreat_6 : decode c_CT_isGreat 6 = .ok (.iload_n 0, 1) := by decide +kernel
theorem d_CT_isGreat_7 : decode c_CT_isGreat 7 = .ok (.bipush 90, 2) := by decide +kernel
theorem d_CT_isGreat_9 : decode c_CT_isGreat 9 = .ok (.if_icmp .gt 7, 3) := by decide +kernel
theorem d_CT_isGreat_12 : decode c_CT_isGreat 12 = .ok (.iconst 1, 1) := by decide +kernel
theorem d_CT_isGreat_13 : decode c_CT_isGreat 13 = .ok (.goto 4, 3) := by decide +kernel
theorem d_CT_isGreat_16 : decode c_CT_isGreat 16 = .ok (.iconst 0, 1) := by decide +kernel
theorem d_CT_isGreat_17 : decode c_CT_isGreat 17 = .ok (.ireturn, 1) := by decide +kernel
theorem d_CT_isLetter_0 : decode c_CT_isLetter 0 = .ok (.iload_n 0, 1) := by decide +kernel
theorem d_CT_isLetter_1 : decode c_CT_isLetter 1 = .ok (.invokestatic 346, 3) := by decide +kernel
theorem d_CT_isLetter_4 : decode c_CT_isLetter 4 = .ok (.ifCond .ne 10, 3) := by decide +kernel
theorem d_CT_isLetter_7 : decode c_CT_isLetter 7 = .ok (.iload_n 0, 1) := by decide +kernel
theorem d_CT_isLetter_8 : decode c_CT_isLetter 8 = .ok (.invokestatic 349, 3) := by decide +kernel
theorem d_CT_isLetter_11 : decode c_CT_isLetter 11 = .ok (.ifCond .eq 7, 3) := by decide +kernel
theorem d_CT_isLetter_14 : decode c_CT_isLetter 14 = .ok (.iconst 1, 1) := by decide +kernel
theorem d_CT_isLetter_15 : decode c_CT_isLetter 15 = .ok (.goto 4, 3) := by decide +kernel
theorem d_CT_isLetter_18 : decode c_CT_isLetter 18 = .ok (.iconst 0, 1) := by decide +kernel
theorem d_CT_isLetter_19 : decode c_CT_isLetter 19 = .ok (.ireturn, 1) := by decide +kernel
theorem d_CT_isSign_0 : decode c_CT_isSign 0 = .ok (.iload_n 0, 1) := by decide +kernel
theorem d_CT_isSign_1 : decode c_CT_isSign 1 = .ok (.bipush 32, 2) := by decide +kernel
theorem d_CT_isSign_3 : decode c_CT_isSign 3 = .ok (.if_icmp .eq 39, 3) := by decide +kernel
theorem d_CT_isSign_6 : decode c_CT_isSign 6 = .ok (.iload_n 0, 1) := by decide +kernel
theorem d_CT_isSign_7 : decode c_CT_isSign 7 = .ok (.bipush 46, 2) := by decide +kernel
theorem d_CT_isSign_9 : decode c_CT_isSign 9 = .ok (.if_icmp .eq 33, 3) := by decide +kernel
theorem d_CT_isSign_12 : decode c_CT_isSign 12 = .ok (.iload_n 0, 1) := by decide +kernel
theorem d_CT_isSign_13 : decode c_CT_isSign 13 = .ok (.bipush 44, 2) := by decide +kernel
theorem d_CT_isSign_15 : decode c_CT_isSign 15 = .ok (.if_icmp .eq 27, 3) := by decide +kernel
theorem d_CT_isSign_18 : decode c_CT_isSign 18 = .ok (.iload_n 0, 1) := by decide +kernel
theorem d_CT_isSign_19 : decode c_CT_isSign 19 = .ok (.bipush 33, 2) := by decide +kernel
theorem d_CT_isSign_21 : decode c_CT_isSign 21 = .ok (.if_icmp .eq 21, 3) := by decide +kernel
theorem d_CT_isSign_24 : decode c_CT_isSign 24 = .ok (.iload_n 0, 1) := by decide +kernel
theorem d_CT_isSign_25 : decode c_CT_isSign 25 = .ok (.bipush 63, 2) := by decide +kernel
theorem d_CT_isSign_27 : decode c_CT_isSign 27 = .ok (.if_icmp .eq 15, 3) := by decide +kernel
theorem d_CT_isSign_30 : decode c_CT_isSign 30 = .ok (.iload_n 0, 1) := by decide +kernel
theorem d_CT_isSign_31 : decode c_CT_isSign 31 = .ok (.bipush 39, 2) := by decide +kernel
theorem d_CT_isSign_33 : decode c_CT_isSign 33 = .ok (.if_icmp .eq 9, 3) := by decide +kernel
theorem d_CT_isSign_36 : decode c_CT_isSign 36 = .ok (.iload_n 0, 1) := by decide +kernel
theorem d_CT_isSign_37 : decode c_CT_isSign 37 = .ok (.bipush 45, 2) := by decide +kernel
theorem d_CT_isSign_39 : decode c_CT_isSign 39 = .ok (.if_icmp .ne 7, 3) := by decide +kernel
theorem d_CT_isSign_42 : decode c_CT_isSign 42 = .ok (.iconst 1, 1) := by decide +kernel
theorem d_CT_isSign_43 : decode c_CT_isSign 43 = .ok (.goto 4, 3) := by decide +kernel
theorem d_CT_isSign_46 : decode c_CT_isSign 46 = .ok (.iconst 0, 1) := by decide +kernel
theorem d_CT_isSign_47 : decode c_CT_isSign 47 = .ok (.ireturn, 1) := by decide +kernel
theorem d_CT_smallOf_0 : decode c_CT_smallOf 0 = .ok (.iload_n 0, 1) := by decide +kernel
theorem d_CT_smallOf_1 : decode c_CT_smallOf 1 = .ok (.invokestatic 349, 3) := by decide +kernel
theorem d_CT_smallOf_4 : decode c_CT_smallOf 4 = .ok (.ifCond .eq 13, 3) := by decide +kernel
theorem d_CT_smallOf_7 : decode c_CT_smallOf 7 = .ok (.iload_n 0, 1) := by decide +kernel
theorem d_CT_smallOf_8 : decode c_CT_smallOf 8 = .ok (.bipush 65, 2) := by decide +kernel
theorem d_CT_smallOf_10 : decode c_CT_smallOf 10 = .ok (.isub, 1) := by decide +kernel
theorem d_CT_smallOf_11 : decode c_CT_smallOf 11 = .ok (.bipush 97, 2) := by decide +kernel
theorem d_CT_smallOf_13 : decode c_CT_smallOf 13 = .ok (.iadd, 1) := by decide +kernel
theorem d_CT_smallOf_14 : decode c_CT_smallOf 14 = .ok (.goto 4, 3) := by decide +kernel
theorem d_CT_smallOf_17 : decode c_CT_smallOf 17 = .ok (.iload_n 0, 1) := by decide +kernel
theorem d_CT_smallOf_18 : decode c_CT_smallOf 18 = .ok (.ireturn, 1) := by decide +kernel
theorem d_CT_portion_0 : decode c_CT_portion 0 = .ok (.iload_n 1, 1) := by decide +kernel
theorem d_CT_portion_1 : decode c_CT_portion 1 = .ok (.iconst 1, 1) := by decide +kernel
theorem d_CT_portion_2 : decode c_CT_portion 2 = .ok (.if_icmp .ge 5, 3) := by decide +kernel
theorem d_CT_portion_5 : decode c_CT_portion 5 = .ok (.iconst 0, 1) := by decide +kernel
theorem d_CT_portion_6 : decode c_CT_portion 6 = .ok (.ireturn, 1) := by decide +kernel
theorem d_CT_portion_7 : decode c_CT_portion 7 = .ok (.iload_n 0, 1) := by decide +kernel
theorem d_CT_portion_8 : decode c_CT_portion 8 = .ok (.iload_n 1, 1) := by decide +kernel
theorem d_CT_portion_9 : decode c_CT_portion 9 = .ok (.irem, 1) := by decide +kernel
theorem d_CT_portion_10 : decode c_CT_portion 10 = .ok (.istore_n 3, 1) := by decide +kernel
theorem d_CT_portion_11 : decode c_CT_portion 11 = .ok (.iload_n 0, 1) := by decide +kernel
theorem d_CT_portion_12 : decode c_CT_portion 12 = .ok (.iload_n 1, 1) := by decide +kernel
theorem d_CT_portion_13 : decode c_CT_portion 13 = .ok (.idiv, 1) := by decide +kernel
theorem d_CT_portion_14 : decode c_CT_portion 14 = .ok (.iload_n 2, 1) := by decide +kernel
theorem d_CT_portion_15 : decode c_CT_portion 15 = .ok (.iload_n 3, 1) := by decide +kernel
theorem d_CT_portion_16 : decode c_CT_portion 16 = .ok (.if_icmp .ge 7, 3) := by decide +kernel
theorem d_CT_portion_19 : decode c_CT_portion 19 = .ok (.iconst 1, 1) := by decide +kernel
theorem d_CT_portion_20 : decode c_CT_portion 20 = .ok (.goto 4, 3) := by decide +kernel
theorem d_CT_portion_23 : decode c_CT_portion 23 = .ok (.iconst 0, 1) := by decide +kernel
theorem d_CT_portion_24 : decode c_CT_portion 24 = .ok (.iadd, 1) := by decide +kernel
theorem d_CT_portion_25 : decode c_CT_portion 25 = .ok (.ireturn, 1) := by decide +kernel
theorem d_CO_init_0 : decode c_CO_init 0 = .ok (.aload_n 0, 1) := by decide +kernel
theorem d_CO_init_1 : decode c_CO_init 1 = .ok (.invokespecial 3, 3) := by decide +kernel
theorem d_CO_init_4 : decode c_CO_init 4 = .ok (.aload_n 0, 1) := by decide +kernel
theorem d_CO_init_5 : decode c_CO_init 5 = .ok (.bipush 36, 2) := by decide +kernel
theorem d_CO_init_7 : decode c_CO_init 7 = .ok (.newarray .int, 2) := by decide +kernel
theorem d_CO_init_9 : decode c_CO_init 9 = .ok (.putfield 9, 3) := by decide +kernel
theorem d_CO_init_12 : decode c_CO_init 12 = .ok (.aload_n 0, 1) := by decide +kernel
theorem d_CO_init_13 : decode c_CO_init 13 = .ok (.bipush 20, 2) := by decide +kernel
theorem d_CO_init_15 : decode c_CO_init 15 = .ok (.newarray .int, 2) := by decide +kernel
theorem d_CO_init_17 : decode c_CO_init 17 = .ok (.putfield 15, 3) := by decide +kernel
theorem d_CO_init_20 : decode c_CO_init 20 = .ok (.aload_n 0, 1) := by decide +kernel
theorem d_CO_init_21 : decode c_CO_init 21 = .ok (.bipush 20, 2) := by decide +kernel
theorem d_CO_init_23 : decode c_CO_init 23 = .ok (.newarray .int, 2) := by decide +kernel
theorem d_CO_init_25 : decode c_CO_init 25 = .ok (.putfield 18, 3) := by decide +kernel
theorem d_CO_init_28 : decode c_CO_init 28 = .ok (.return_, 1) := by decide +kernel
theorem d_CO_fill_0 : decode c_CO_fill 0 = .ok (.aload_n 0, 1) := by decide +kernel
theorem d_CO_fill_1 : decode c_CO_fill 1 = .ok (.getfield 9, 3) := by decide +kernel
theorem d_CO_fill_4 : decode c_CO_fill 4 = .ok (.bipush (-5), 2) := by decide +kernel
theorem d_CO_fill_6 : decode c_CO_fill 6 = .ok (.invokestatic 21, 3) := by decide +kernel
theorem d_CO_fill_9 : decode c_CO_fill 9 = .ok (.aload_n 0, 1) := by decide +kernel
theorem d_CO_fill_10 : decode c_CO_fill 10 = .ok (.getfield 15, 3) := by decide +kernel
theorem d_CO_fill_13 : decode c_CO_fill 13 = .ok (.iconst 0, 1) := by decide +kernel
theorem d_CO_fill_14 : decode c_CO_fill 14 = .ok (.invokestatic 21, 3) := by decide +kernel
theorem d_CO_fill_17 : decode c_CO_fill 17 = .ok (.aload_n 0, 1) := by decide +kernel
theorem d_CO_fill_18 : decode c_CO_fill 18 = .ok (.getfield 18, 3) := by decide +kernel
theorem d_CO_fill_21 : decode c_CO_fill 21 = .ok (.iconst 0, 1) := by decide +kernel
theorem d_CO_fill_22 : decode c_CO_fill 22 = .ok (.invokestatic 21, 3) := by decide +kernel
theorem d_CO_fill_25 : decode c_CO_fill 25 = .ok (.iconst 0, 1) := by decide +kernel
theorem d_CO_fill_26 : decode c_CO_fill 26 = .ok (.istore_n 3, 1) := by decide +kernel
theorem d_CO_fill_27 : decode c_CO_fill 27 = .ok (.iload_n 3, 1) := by decide +kernel
theorem d_CO_fill_28 : decode c_CO_fill 28 = .ok (.bipush 12, 2) := by decide +kernel
theorem d_CO_fill_30 : decode c_CO_fill 30 = .ok (.if_icmp .ge 16, 3) := by decide +kernel
theorem d_CO_fill_33 : decode c_CO_fill 33 = .ok (.aload_n 0, 1) := by decide +kernel
theorem d_CO_fill_34 : decode c_CO_fill 34 = .ok (.aload_n 1, 1) := by decide +kernel
theorem d_CO_fill_35 : decode c_CO_fill 35 = .ok (.aload_n 2, 1) := by decide +kernel
theorem d_CO_fill_36 : decode c_CO_fill 36 = .ok (.iload_n 3, 1) := by decide +kernel
theorem d_CO_fill_37 : decode c_CO_fill 37 = .ok (.invokevirtual 27, 3) := by decide +kernel
theorem d_CO_fill_40 : decode c_CO_fill 40 = .ok (.iinc 3 1, 3) := by decide +kernel
theorem d_CO_fill_43 : decode c_CO_fill 43 = .ok (.goto (-16), 3) := by decide +kernel
theorem d_CO_fill_46 : decode c_CO_fill 46 = .ok (.return_, 1) := by decide +kernel
theorem d_CO_fillBallot_0 : decode c_CO_fillBallot 0 = .ok (.iconst 0, 1) := by decide +kernel
theorem d_CO_fillBallot_1 : decode c_CO_fillBallot 1 = .ok (.istore 4, 2) := by decide +kernel
theorem d_CO_fillBallot_3 : decode c_CO_fillBallot 3 = .ok (.iconst 0, 1) := by decide +kernel
theorem d_CO_fillBallot_4 : decode c_CO_fillBallot 4 = .ok (.istore 5, 2) := by decide +kernel
theorem d_CO_fillBallot_6 : decode c_CO_fillBallot 6 = .ok (.iload 5, 2) := by decide +kernel
theorem d_CO_fillBallot_8 : decode c_CO_fillBallot 8 = .ok (.iconst 3, 1) := by decide +kernel
theorem d_CO_fillBallot_9 : decode c_CO_fillBallot 9 = .ok (.if_icmp .ge 104, 3) := by decide +kernel
theorem d_CO_fillBallot_12 : decode c_CO_fillBallot 12 = .ok (.aload_n 1, 1) := by decide +kernel
theorem d_CO_fillBallot_13 : decode c_CO_fillBallot 13 = .ok (.iload_n 3, 1) := by decide +kernel
theorem d_CO_fillBallot_14 : decode c_CO_fillBallot 14 = .ok (.iload 5, 2) := by decide +kernel
theorem d_CO_fillBallot_16 : decode c_CO_fillBallot 16 = .ok (.invokevirtual 31, 3) := by decide +kernel
theorem d_CO_fillBallot_19 : decode c_CO_fillBallot 19 = .ok (.istore 6, 2) := by decide +kernel
theorem d_CO_fillBallot_21 : decode c_CO_fillBallot 21 = .ok (.aload_n 2, 1) := by decide +kernel
theorem d_CO_fillBallot_22 : decode c_CO_fillBallot 22 = .ok (.iload 6, 2) := by decide +kernel
theorem d_CO_fillBallot_24 : decode c_CO_fillBallot 24 = .ok (.invokevirtual 37, 3) := by decide +kernel
theorem d_CO_fillBallot_27 : decode c_CO_fillBallot 27 = .ok (.istore 7, 2) := by decide +kernel
theorem d_CO_fillBallot_29 : decode c_CO_fillBallot 29 = .ok (.iload 7, 2) := by decide +kernel
theorem d_CO_fillBallot_31 : decode c_CO_fillBallot 31 = .ok (.bipush (-5), 2) := by decide +kernel
theorem d_CO_fillBallot_33 : decode c_CO_fillBallot 33 = .ok (.if_icmp .eq 74, 3) := by decide +kernel
theorem d_CO_fillBallot_36 : decode c_CO_fillBallot 36 = .ok (.aload_n 0, 1) := by decide +kernel
theorem d_CO_fillBallot_37 : decode c_CO_fillBallot 37 = .ok (.aload_n 2, 1) := by decide +kernel
theorem d_CO_fillBallot_38 : decode c_CO_fillBallot 38 = .ok (.iload_n 3, 1) := by decide +kernel
theorem d_CO_fillBallot_39 : decode c_CO_fillBallot 39 = .ok (.iload 7, 2) := by decide +kernel
theorem d_CO_fillBallot_41 : decode c_CO_fillBallot 41 = .ok (.invokevirtual 43, 3) := by decide +kernel
theorem d_CO_fillBallot_44 : decode c_CO_fillBallot 44 = .ok (.ifCond .ne 63, 3) := by decide +kernel
theorem d_CO_fillBallot_47 : decode c_CO_fillBallot 47 = .ok (.aload_n 0, 1) := by decide +kernel
theorem d_CO_fillBallot_48 : decode c_CO_fillBallot 48 = .ok (.getfield 9, 3) := by decide +kernel
theorem d_CO_fillBallot_51 : decode c_CO_fillBallot 51 = .ok (.iload_n 3, 1) := by decide +kernel
theorem d_CO_fillBallot_52 : decode c_CO_fillBallot 52 = .ok (.iconst 3, 1) := by decide +kernel
theorem d_CO_fillBallot_53 : decode c_CO_fillBallot 53 = .ok (.imul, 1) := by decide +kernel
theorem d_CO_fillBallot_54 : decode c_CO_fillBallot 54 = .ok (.iload 4, 2) := by decide +kernel
theorem d_CO_fillBallot_56 : decode c_CO_fillBallot 56 = .ok (.iadd, 1) := by decide +kernel
theorem d_CO_fillBallot_57 : decode c_CO_fillBallot 57 = .ok (.iload 6, 2) := by decide +kernel
theorem d_CO_fillBallot_59 : decode c_CO_fillBallot 59 = .ok (.invokestatic 47, 3) := by decide +kernel
theorem d_CO_fillBallot_62 : decode c_CO_fillBallot 62 = .ok (.aload_n 0, 1) := by decide +kernel
theorem d_CO_fillBallot_63 : decode c_CO_fillBallot 63 = .ok (.getfield 15, 3) := by decide +kernel
theorem d_CO_fillBallot_66 : decode c_CO_fillBallot 66 = .ok (.iload 7, 2) := by decide +kernel
theorem d_CO_fillBallot_68 : decode c_CO_fillBallot 68 = .ok (.aload_n 0, 1) := by decide +kernel
theorem d_CO_fillBallot_69 : decode c_CO_fillBallot 69 = .ok (.iload 7, 2) := by decide +kernel
theorem d_CO_fillBallot_71 : decode c_CO_fillBallot 71 = .ok (.invokevirtual 51, 3) := by decide +kernel
theorem d_CO_fillBallot_74 : decode c_CO_fillBallot 74 = .ok (.iconst 3, 1) := by decide +kernel
theorem d_CO_fillBallot_75 : decode c_CO_fillBallot 75 = .ok (.iadd, 1) := by decide +kernel
theorem d_CO_fillBallot_76 : decode c_CO_fillBallot 76 = .ok (.iload 4, 2) := by decide +kernel
theorem d_CO_fillBallot_78 : decode c_CO_fillBallot 78 = .ok (.isub, 1) := by decide +kernel
theorem d_CO_fillBallot_79 : decode c_CO_fillBallot 79 = .ok (.invokestatic 47, 3) := by decide +kernel
theorem d_CO_fillBallot_82 : decode c_CO_fillBallot 82 = .ok (.iload 4, 2) := by decide +kernel
theorem d_CO_fillBallot_84 : decode c_CO_fillBallot 84 = .ok (.ifCond .ne 20, 3) := by decide +kernel
theorem d_CO_fillBallot_87 : decode c_CO_fillBallot 87 = .ok (.aload_n 0, 1) := by decide +kernel
theorem d_CO_fillBallot_88 : decode c_CO_fillBallot 88 = .ok (.getfield 18, 3) := by decide +kernel
theorem d_CO_fillBallot_91 : decode c_CO_fillBallot 91 = .ok (.iload 7, 2) := by decide +kernel
theorem d_CO_fillBallot_93 : decode c_CO_fillBallot 93 = .ok (.aload_n 0, 1) := by decide +kernel
theorem d_CO_fillBallot_94 : decode c_CO_fillBallot 94 = .ok (.iload 7, 2) := by decide +kernel
theorem d_CO_fillBallot_96 : decode c_CO_fillBallot 96 = .ok (.invokevirtual 54, 3) := by decide +kernel
theorem d_CO_fillBallot_99 : decode c_CO_fillBallot 99 = .ok (.iconst 1, 1) := by decide +kernel
theorem d_CO_fillBallot_100 : decode c_CO_fillBallot 100 = .ok (.iadd, 1) := by decide +kernel
theorem d_CO_fillBallot_101 : decode c_CO_fillBallot 101 = .ok (.invokestatic 47, 3) := by decide +kernel
theorem d_CO_fillBallot_104 : decode c_CO_fillBallot 104 = .ok (.iinc 4 1, 3) := by decide +kernel
theorem d_CO_fillBallot_107 : decode c_CO_fillBallot 107 = .ok (.iinc 5 1, 3) := by decide +kernel
theorem d_CO_fillBallot_110 : decode c_CO_fillBallot 110 = .ok (.goto (-104), 3) := by decide +kernel
theorem d_CO_fillBallot_113 : decode c_CO_fillBallot 113 = .ok (.return_, 1) := by decide +kernel
theorem d_CO_hasGroup_0 : decode c_CO_hasGroup 0 = .ok (.iconst 0, 1) := by decide +kernel
theorem d_CO_hasGroup_1 : decode c_CO_hasGroup 1 = .ok (.istore 4, 2) := by decide +kernel
theorem d_CO_hasGroup_3 : decode c_CO_hasGroup 3 = .ok (.iload 4, 2) := by decide +kernel
theorem d_CO_hasGroup_5 : decode c_CO_hasGroup 5 = .ok (.iconst 3, 1) := by decide +kernel
theorem d_CO_hasGroup_6 : decode c_CO_hasGroup 6 = .ok (.if_icmp .ge 26, 3) := by decide +kernel
theorem d_CO_hasGroup_9 : decode c_CO_hasGroup 9 = .ok (.aload_n 1, 1) := by decide +kernel
theorem d_CO_hasGroup_10 : decode c_CO_hasGroup 10 = .ok (.aload_n 0, 1) := by decide +kernel
theorem d_CO_hasGroup_11 : decode c_CO_hasGroup 11 = .ok (.iload_n 2, 1) := by decide +kernel
theorem d_CO_hasGroup_12 : decode c_CO_hasGroup 12 = .ok (.iload 4, 2) := by decide +kernel
theorem d_CO_hasGroup_14 : decode c_CO_hasGroup 14 = .ok (.invokevirtual 57, 3) := by decide +kernel
theorem d_CO_hasGroup_17 : decode c_CO_hasGroup 17 = .ok (.invokevirtual 37, 3) := by decide +kernel
theorem d_CO_hasGroup_20 : decode c_CO_hasGroup 20 = .ok (.iload_n 3, 1) := by decide +kernel
theorem d_CO_hasGroup_21 : decode c_CO_hasGroup 21 = .ok (.if_icmp .ne 5, 3) := by decide +kernel
theorem d_CO_hasGroup_24 : decode c_CO_hasGroup 24 = .ok (.iconst 1, 1) := by decide +kernel
theorem d_CO_hasGroup_25 : decode c_CO_hasGroup 25 = .ok (.ireturn, 1) := by decide +kernel
theorem d_CO_hasGroup_26 : decode c_CO_hasGroup 26 = .ok (.iinc 4 1, 3) := by decide +kernel
theorem d_CO_hasGroup_29 : decode c_CO_hasGroup 29 = .ok (.goto (-26), 3) := by decide +kernel
theorem d_CO_hasGroup_32 : decode c_CO_hasGroup 32 = .ok (.iconst 0, 1) := by decide +kernel
theorem d_CO_hasGroup_33 : decode c_CO_hasGroup 33 = .ok (.ireturn, 1) := by decide +kernel
theorem d_CO_wish_0 : decode c_CO_wish 0 = .ok (.aload_n 0, 1) := by decide +kernel
theorem d_CO_wish_1 : decode c_CO_wish 1 = .ok (.getfield 9, 3) := by decide +kernel
theorem d_CO_wish_4 : decode c_CO_wish 4 = .ok (.iload_n 1, 1) := by decide +kernel
theorem d_CO_wish_5 : decode c_CO_wish 5 = .ok (.iconst 3, 1) := by decide +kernel
theorem d_CO_wish_6 : decode c_CO_wish 6 = .ok (.imul, 1) := by decide +kernel
theorem d_CO_wish_7 : decode c_CO_wish 7 = .ok (.iload_n 2, 1) := by decide +kernel
theorem d_CO_wish_8 : decode c_CO_wish 8 = .ok (.iadd, 1) := by decide +kernel
theorem d_CO_wish_9 : decode c_CO_wish 9 = .ok (.invokestatic 58, 3) := by decide +kernel
theorem d_CO_wish_12 : decode c_CO_wish 12 = .ok (.ireturn, 1) := by decide +kernel
theorem d_CO_pointsOf_0 : decode c_CO_pointsOf 0 = .ok (.aload_n 0, 1) := by decide +kernel
theorem d_CO_pointsOf_1 : decode c_CO_pointsOf 1 = .ok (.getfield 15, 3) := by decide +kernel
theorem d_CO_pointsOf_4 : decode c_CO_pointsOf 4 = .ok (.iload_n 1, 1) := by decide +kernel
theorem d_CO_pointsOf_5 : decode c_CO_pointsOf 5 = .ok (.invokestatic 58, 3) := by decide +kernel
theorem d_CO_pointsOf_8 : decode c_CO_pointsOf 8 = .ok (.ireturn, 1) := by decide +kernel
theorem d_CO_firstsOf_0 : decode c_CO_firstsOf 0 = .ok (.aload_n 0, 1) := by decide +kernel
theorem d_CO_firstsOf_1 : decode c_CO_firstsOf 1 = .ok (.getfield 18, 3) := by decide +kernel
theorem d_CO_firstsOf_4 : decode c_CO_firstsOf 4 = .ok (.iload_n 1, 1) := by decide +kernel
theorem d_CO_firstsOf_5 : decode c_CO_firstsOf 5 = .ok (.invokestatic 58, 3) := by decide +kernel
theorem d_CO_firstsOf_8 : decode c_CO_firstsOf 8 = .ok (.ireturn, 1) := by decide +kernel
theorem d_CO_ballotsThatCount_0 : decode c_CO_ballotsThatCount 0 = .ok (.iconst 0, 1) := by decide +kernel
theorem d_CO_ballotsThatCount_1 : decode c_CO_ballotsThatCount 1 = .ok (.istore_n 1, 1) := by decide +kernel
theorem d_CO_ballotsThatCount_2 : decode c_CO_ballotsThatCount 2 = .ok (.iconst 0, 1) := by decide +kernel
theorem d_CO_ballotsThatCount_3 : decode c_CO_ballotsThatCount 3 = .ok (.istore_n 2, 1) := by decide +kernel
theorem d_CO_ballotsThatCount_4 : decode c_CO_ballotsThatCount 4 = .ok (.iload_n 2, 1) := by decide +kernel
theorem d_CO_ballotsThatCount_5 : decode c_CO_ballotsThatCount 5 = .ok (.bipush 12, 2) := by decide +kernel
theorem d_CO_ballotsThatCount_7 : decode c_CO_ballotsThatCount 7 = .ok (.if_icmp .ge 23, 3) := by decide +kernel
theorem d_CO_ballotsThatCount_10 : decode c_CO_ballotsThatCount 10 = .ok (.aload_n 0, 1) := by decide +kernel
theorem d_CO_ballotsThatCount_11 : decode c_CO_ballotsThatCount 11 = .ok (.iload_n 2, 1) := by decide +kernel
theorem d_CO_ballotsThatCount_12 : decode c_CO_ballotsThatCount 12 = .ok (.iconst 0, 1) := by decide +kernel
theorem d_CO_ballotsThatCount_13 : decode c_CO_ballotsThatCount 13 = .ok (.invokevirtual 57, 3) := by decide +kernel
theorem d_CO_ballotsThatCount_16 : decode c_CO_ballotsThatCount 16 = .ok (.bipush (-5), 2) := by decide +kernel
theorem d_CO_ballotsThatCount_18 : decode c_CO_ballotsThatCount 18 = .ok (.if_icmp .eq 6, 3) := by decide +kernel
theorem d_CO_ballotsThatCount_21 : decode c_CO_ballotsThatCount 21 = .ok (.iinc 1 1, 3) := by decide +kernel
theorem d_CO_ballotsThatCount_24 : decode c_CO_ballotsThatCount 24 = .ok (.iinc 2 1, 3) := by decide +kernel
theorem d_CO_ballotsThatCount_27 : decode c_CO_ballotsThatCount 27 = .ok (.goto (-23), 3) := by decide +kernel
theorem d_CO_ballotsThatCount_30 : decode c_CO_ballotsThatCount 30 = .ok (.iload_n 1, 1) := by decide +kernel
theorem d_CO_ballotsThatCount_31 : decode c_CO_ballotsThatCount 31 = .ok (.ireturn, 1) := by decide +kernel
theorem d_CO_pointsInAll_0 : decode c_CO_pointsInAll 0 = .ok (.iconst 0, 1) := by decide +kernel
theorem d_CO_pointsInAll_1 : decode c_CO_pointsInAll 1 = .ok (.istore_n 1, 1) := by decide +kernel
theorem d_CO_pointsInAll_2 : decode c_CO_pointsInAll 2 = .ok (.iconst 0, 1) := by decide +kernel
theorem d_CO_pointsInAll_3 : decode c_CO_pointsInAll 3 = .ok (.istore_n 2, 1) := by decide +kernel
theorem d_CO_pointsInAll_4 : decode c_CO_pointsInAll 4 = .ok (.iload_n 2, 1) := by decide +kernel
theorem d_CO_pointsInAll_5 : decode c_CO_pointsInAll 5 = .ok (.bipush 20, 2) := by decide +kernel
theorem d_CO_pointsInAll_7 : decode c_CO_pointsInAll 7 = .ok (.if_icmp .ge 18, 3) := by decide +kernel
theorem d_CO_pointsInAll_10 : decode c_CO_pointsInAll 10 = .ok (.iload_n 1, 1) := by decide +kernel
theorem d_CO_pointsInAll_11 : decode c_CO_pointsInAll 11 = .ok (.aload_n 0, 1) := by decide +kernel
theorem d_CO_pointsInAll_12 : decode c_CO_pointsInAll 12 = .ok (.getfield 15, 3) := by decide +kernel
theorem d_CO_pointsInAll_15 : decode c_CO_pointsInAll 15 = .ok (.iload_n 2, 1) := by decide +kernel
theorem d_CO_pointsInAll_16 : decode c_CO_pointsInAll 16 = .ok (.iaload, 1) := by decide +kernel
theorem d_CO_pointsInAll_17 : decode c_CO_pointsInAll 17 = .ok (.iadd, 1) := by decide +kernel
theorem d_CO_pointsInAll_18 : decode c_CO_pointsInAll 18 = .ok (.istore_n 1, 1) := by decide +kernel
theorem d_CO_pointsInAll_19 : decode c_CO_pointsInAll 19 = .ok (.iinc 2 1, 3) := by decide +kernel
theorem d_CO_pointsInAll_22 : decode c_CO_pointsInAll 22 = .ok (.goto (-18), 3) := by decide +kernel
theorem d_CO_pointsInAll_25 : decode c_CO_pointsInAll 25 = .ok (.iload_n 1, 1) := by decide +kernel
theorem d_CO_pointsInAll_26 : decode c_CO_pointsInAll 26 = .ok (.ireturn, 1) := by decide +kernel
theorem d_DI_init_0 : decode c_DI_init 0 = .ok (.aload_n 0, 1) := by decide +kernel
theorem d_DI_init_1 : decode c_DI_init 1 = .ok (.invokespecial 3, 3) := by decide +kernel
theorem d_DI_init_4 : decode c_DI_init 4 = .ok (.aload_n 0, 1) := by decide +kernel
theorem d_DI_init_5 : decode c_DI_init 5 = .ok (.bipush 61, 2) := by decide +kernel
theorem d_DI_init_7 : decode c_DI_init 7 = .ok (.newarray .int, 2) := by decide +kernel
theorem d_DI_init_9 : decode c_DI_init 9 = .ok (.putfield 9, 3) := by decide +kernel
theorem d_DI_init_12 : decode c_DI_init 12 = .ok (.aload_n 0, 1) := by decide +kernel
theorem d_DI_init_13 : decode c_DI_init 13 = .ok (.sipush 400, 3) := by decide +kernel
theorem d_DI_init_16 : decode c_DI_init 16 = .ok (.newarray .int, 2) := by decide +kernel
theorem d_DI_init_18 : decode c_DI_init 18 = .ok (.putfield 15, 3) := by decide +kernel
theorem d_DI_init_21 : decode c_DI_init 21 = .ok (.return_, 1) := by decide +kernel
theorem d_DI_between_0 : decode c_DI_between 0 = .ok (.aload_n 1, 1) := by decide +kernel
theorem d_DI_between_1 : decode c_DI_between 1 = .ok (.iload_n 2, 1) := by decide +kernel
theorem d_DI_between_2 : decode c_DI_between 2 = .ok (.invokevirtual 18, 3) := by decide +kernel
theorem d_DI_between_5 : decode c_DI_between 5 = .ok (.bipush 60, 2) := by decide +kernel
theorem d_DI_between_7 : decode c_DI_between 7 = .ok (.invokestatic 24, 3) := by decide +kernel
theorem d_DI_between_10 : decode c_DI_between 10 = .ok (.istore 4, 2) := by decide +kernel
theorem d_DI_between_12 : decode c_DI_between 12 = .ok (.aload_n 1, 1) := by decide +kernel
theorem d_DI_between_13 : decode c_DI_between 13 = .ok (.iload_n 3, 1) := by decide +kernel
theorem d_DI_between_14 : decode c_DI_between 14 = .ok (.invokevirtual 18, 3) := by decide +kernel
theorem d_DI_between_17 : decode c_DI_between 17 = .ok (.bipush 60, 2) := by decide +kernel
theorem d_DI_between_19 : decode c_DI_between 19 = .ok (.invokestatic 24, 3) := by decide +kernel
theorem d_DI_between_22 : decode c_DI_between 22 = .ok (.istore 5, 2) := by decide +kernel
theorem d_DI_between_24 : decode c_DI_between 24 = .ok (.iconst 0, 1) := by decide +kernel
theorem d_DI_between_25 : decode c_DI_between 25 = .ok (.istore 6, 2) := by decide +kernel
theorem d_DI_between_27 : decode c_DI_between 27 = .ok (.iload 6, 2) := by decide +kernel
theorem d_DI_between_29 : decode c_DI_between 29 = .ok (.iload 5, 2) := by decide +kernel
theorem d_DI_between_31 : decode c_DI_between 31 = .ok (.if_icmp .gt 18, 3) := by decide +kernel
theorem d_DI_between_34 : decode c_DI_between 34 = .ok (.aload_n 0, 1) := by decide +kernel
theorem d_DI_between_35 : decode c_DI_between 35 = .ok (.getfield 9, 3) := by decide +kernel
theorem d_DI_between_38 : decode c_DI_between 38 = .ok (.iload 6, 2) := by decide +kernel
theorem d_DI_between_40 : decode c_DI_between 40 = .ok (.iload 6, 2) := by decide +kernel
theorem d_DI_between_42 : decode c_DI_between 42 = .ok (.iastore, 1) := by decide +kernel
theorem d_DI_between_43 : decode c_DI_between 43 = .ok (.iinc 6 1, 3) := by decide +kernel
theorem d_DI_between_46 : decode c_DI_between 46 = .ok (.goto (-19), 3) := by decide +kernel
theorem d_DI_between_49 : decode c_DI_between 49 = .ok (.iconst 1, 1) := by decide +kernel
theorem d_DI_between_50 : decode c_DI_between 50 = .ok (.istore 6, 2) := by decide +kernel
theorem d_DI_between_52 : decode c_DI_between 52 = .ok (.iload 6, 2) := by decide +kernel
theorem d_DI_between_54 : decode c_DI_between 54 = .ok (.iload 4, 2) := by decide +kernel
theorem d_DI_between_56 : decode c_DI_between 56 = .ok (.if_icmp .gt 18, 3) := by decide +kernel
theorem d_DI_between_59 : decode c_DI_between 59 = .ok (.aload_n 0, 1) := by decide +kernel
theorem d_DI_between_60 : decode c_DI_between 60 = .ok (.aload_n 1, 1) := by decide +kernel
theorem d_DI_between_61 : decode c_DI_between 61 = .ok (.iload_n 2, 1) := by decide +kernel
theorem d_DI_between_62 : decode c_DI_between 62 = .ok (.iload_n 3, 1) := by decide +kernel
theorem d_DI_between_63 : decode c_DI_between 63 = .ok (.iload 6, 2) := by decide +kernel
theorem d_DI_between_65 : decode c_DI_between 65 = .ok (.invokevirtual 30, 3) := by decide +kernel
theorem d_DI_between_68 : decode c_DI_between 68 = .ok (.iinc 6 1, 3) := by decide +kernel
theorem d_DI_between_71 : decode c_DI_between 71 = .ok (.goto (-19), 3) := by decide +kernel
theorem d_DI_between_74 : decode c_DI_between 74 = .ok (.aload_n 0, 1) := by decide +kernel
theorem d_DI_between_75 : decode c_DI_between 75 = .ok (.getfield 9, 3) := by decide +kernel
theorem d_DI_between_78 : decode c_DI_between 78 = .ok (.iload 5, 2) := by decide +kernel
theorem d_DI_between_80 : decode c_DI_between 80 = .ok (.invokestatic 34, 3) := by decide +kernel
theorem d_DI_between_83 : decode c_DI_between 83 = .ok (.ireturn, 1) := by decide +kernel
theorem d_DI_fillLine_0 : decode c_DI_fillLine 0 = .ok (.aload_n 1, 1) := by decide +kernel
theorem d_DI_fillLine_1 : decode c_DI_fillLine 1 = .ok (.iload_n 3, 1) := by decide +kernel
theorem d_DI_fillLine_2 : decode c_DI_fillLine 2 = .ok (.invokevirtual 18, 3) := by decide +kernel
theorem d_DI_fillLine_5 : decode c_DI_fillLine 5 = .ok (.bipush 60, 2) := by decide +kernel
theorem d_DI_fillLine_7 : decode c_DI_fillLine 7 = .ok (.invokestatic 24, 3) := by decide +kernel
theorem d_DI_fillLine_10 : decode c_DI_fillLine 10 = .ok (.istore 5, 2) := by decide +kernel
theorem d_DI_fillLine_12 : decode c_DI_fillLine 12 = .ok (.aload_n 1, 1) := by decide +kernel
theorem d_DI_fillLine_13 : decode c_DI_fillLine 13 = .ok (.iload_n 2, 1) := by decide +kernel
theorem d_DI_fillLine_14 : decode c_DI_fillLine 14 = .ok (.iload 4, 2) := by decide +kernel
theorem d_DI_fillLine_16 : decode c_DI_fillLine 16 = .ok (.iconst 1, 1) := by decide +kernel
theorem d_DI_fillLine_17 : decode c_DI_fillLine 17 = .ok (.isub, 1) := by decide +kernel
theorem d_DI_fillLine_18 : decode c_DI_fillLine 18 = .ok (.invokevirtual 38, 3) := by decide +kernel
theorem d_DI_fillLine_21 : decode c_DI_fillLine 21 = .ok (.istore 6, 2) := by decide +kernel
theorem d_DI_fillLine_23 : decode c_DI_fillLine 23 = .ok (.aload_n 0, 1) := by decide +kernel
theorem d_DI_fillLine_24 : decode c_DI_fillLine 24 = .ok (.getfield 9, 3) := by decide +kernel
theorem d_DI_fillLine_27 : decode c_DI_fillLine 27 = .ok (.iconst 0, 1) := by decide +kernel
theorem d_DI_fillLine_28 : decode c_DI_fillLine 28 = .ok (.iaload, 1) := by decide +kernel
theorem d_DI_fillLine_29 : decode c_DI_fillLine 29 = .ok (.istore 7, 2) := by decide +kernel
theorem d_DI_fillLine_31 : decode c_DI_fillLine 31 = .ok (.aload_n 0, 1) := by decide +kernel
theorem d_DI_fillLine_32 : decode c_DI_fillLine 32 = .ok (.getfield 9, 3) := by decide +kernel
theorem d_DI_fillLine_35 : decode c_DI_fillLine 35 = .ok (.iconst 0, 1) := by decide +kernel
theorem d_DI_fillLine_36 : decode c_DI_fillLine 36 = .ok (.iload 4, 2) := by decide +kernel
theorem d_DI_fillLine_38 : decode c_DI_fillLine 38 = .ok (.iastore, 1) := by decide +kernel
theorem d_DI_fillLine_39 : decode c_DI_fillLine 39 = .ok (.iconst 1, 1) := by decide +kernel
theorem d_DI_fillLine_40 : decode c_DI_fillLine 40 = .ok (.istore 8, 2) := by decide +kernel
theorem d_DI_fillLine_42 : decode c_DI_fillLine 42 = .ok (.iload 8, 2) := by decide +kernel
theorem d_DI_fillLine_44 : decode c_DI_fillLine 44 = .ok (.iload 5, 2) := by decide +kernel
theorem d_DI_fillLine_46 : decode c_DI_fillLine 46 = .ok (.if_icmp .gt 80, 3) := by decide +kernel
theorem d_DI_fillLine_49 : decode c_DI_fillLine 49 = .ok (.iload 6, 2) := by decide +kernel
theorem d_DI_fillLine_51 : decode c_DI_fillLine 51 = .ok (.aload_n 1, 1) := by decide +kernel
theorem d_DI_fillLine_52 : decode c_DI_fillLine 52 = .ok (.iload_n 3, 1) := by decide +kernel
theorem d_DI_fillLine_53 : decode c_DI_fillLine 53 = .ok (.iload 8, 2) := by decide +kernel
theorem d_DI_fillLine_55 : decode c_DI_fillLine 55 = .ok (.iconst 1, 1) := by decide +kernel
theorem d_DI_fillLine_56 : decode c_DI_fillLine 56 = .ok (.isub, 1) := by decide +kernel
theorem d_DI_fillLine_57 : decode c_DI_fillLine 57 = .ok (.invokevirtual 38, 3) := by decide +kernel
theorem d_DI_fillLine_60 : decode c_DI_fillLine 60 = .ok (.if_icmp .ne 8, 3) := by decide +kernel
theorem d_DI_fillLine_63 : decode c_DI_fillLine 63 = .ok (.iload 7, 2) := by decide +kernel
theorem d_DI_fillLine_65 : decode c_DI_fillLine 65 = .ok (.goto 7, 3) := by decide +kernel
theorem d_DI_fillLine_68 : decode c_DI_fillLine 68 = .ok (.iload 7, 2) := by decide +kernel
theorem d_DI_fillLine_70 : decode c_DI_fillLine 70 = .ok (.iconst 1, 1) := by decide +kernel
theorem d_DI_fillLine_71 : decode c_DI_fillLine 71 = .ok (.iadd, 1) := by decide +kernel
theorem d_DI_fillLine_72 : decode c_DI_fillLine 72 = .ok (.istore 9, 2) := by decide +kernel
theorem d_DI_fillLine_74 : decode c_DI_fillLine 74 = .ok (.aload_n 0, 1) := by decide +kernel
theorem d_DI_fillLine_75 : decode c_DI_fillLine 75 = .ok (.getfield 9, 3) := by decide +kernel
theorem d_DI_fillLine_78 : decode c_DI_fillLine 78 = .ok (.iload 8, 2) := by decide +kernel
theorem d_DI_fillLine_80 : decode c_DI_fillLine 80 = .ok (.iaload, 1) := by decide +kernel
theorem d_DI_fillLine_81 : decode c_DI_fillLine 81 = .ok (.istore 7, 2) := by decide +kernel
theorem d_DI_fillLine_83 : decode c_DI_fillLine 83 = .ok (.iconst 1, 1) := by decide +kernel
theorem d_DI_fillLine_84 : decode c_DI_fillLine 84 = .ok (.aload_n 0, 1) := by decide +kernel
theorem d_DI_fillLine_85 : decode c_DI_fillLine 85 = .ok (.getfield 9, 3) := by decide +kernel
theorem d_DI_fillLine_88 : decode c_DI_fillLine 88 = .ok (.iload 8, 2) := by decide +kernel
theorem d_DI_fillLine_90 : decode c_DI_fillLine 90 = .ok (.iconst 1, 1) := by decide +kernel
theorem d_DI_fillLine_91 : decode c_DI_fillLine 91 = .ok (.isub, 1) := by decide +kernel
theorem d_DI_fillLine_92 : decode c_DI_fillLine 92 = .ok (.iaload, 1) := by decide +kernel
theorem d_DI_fillLine_93 : decode c_DI_fillLine 93 = .ok (.aload_n 0, 1) := by decide +kernel
theorem d_DI_fillLine_94 : decode c_DI_fillLine 94 = .ok (.getfield 9, 3) := by decide +kernel
theorem d_DI_fillLine_97 : decode c_DI_fillLine 97 = .ok (.iload 8, 2) := by decide +kernel
theorem d_DI_fillLine_99 : decode c_DI_fillLine 99 = .ok (.iaload, 1) := by decide +kernel
theorem d_DI_fillLine_100 : decode c_DI_fillLine 100 = .ok (.invokestatic 24, 3) := by decide +kernel
theorem d_DI_fillLine_103 : decode c_DI_fillLine 103 = .ok (.iadd, 1) := by decide +kernel
theorem d_DI_fillLine_104 : decode c_DI_fillLine 104 = .ok (.istore 10, 2) := by decide +kernel
theorem d_DI_fillLine_106 : decode c_DI_fillLine 106 = .ok (.aload_n 0, 1) := by decide +kernel
theorem d_DI_fillLine_107 : decode c_DI_fillLine 107 = .ok (.getfield 9, 3) := by decide +kernel
theorem d_DI_fillLine_110 : decode c_DI_fillLine 110 = .ok (.iload 8, 2) := by decide +kernel
theorem d_DI_fillLine_112 : decode c_DI_fillLine 112 = .ok (.iload 9, 2) := by decide +kernel
theorem d_DI_fillLine_114 : decode c_DI_fillLine 114 = .ok (.iload 10, 2) := by decide +kernel
theorem d_DI_fillLine_116 : decode c_DI_fillLine 116 = .ok (.invokestatic 24, 3) := by decide +kernel
theorem d_DI_fillLine_119 : decode c_DI_fillLine 119 = .ok (.iastore, 1) := by decide +kernel
theorem d_DI_fillLine_120 : decode c_DI_fillLine 120 = .ok (.iinc 8 1, 3) := by decide +kernel
theorem d_DI_fillLine_123 : decode c_DI_fillLine 123 = .ok (.goto (-81), 3) := by decide +kernel
theorem d_DI_fillLine_126 : decode c_DI_fillLine 126 = .ok (.return_, 1) := by decide +kernel
theorem d_DI_fill_0 : decode c_DI_fill 0 = .ok (.aload_n 0, 1) := by decide +kernel
theorem d_DI_fill_1 : decode c_DI_fill 1 = .ok (.getfield 15, 3) := by decide +kernel
theorem d_DI_fill_4 : decode c_DI_fill 4 = .ok (.bipush (-5), 2) := by decide +kernel
theorem d_DI_fill_6 : decode c_DI_fill 6 = .ok (.invokestatic 41, 3) := by decide +kernel
theorem d_DI_fill_9 : decode c_DI_fill 9 = .ok (.iconst 0, 1) := by decide +kernel
theorem d_DI_fill_10 : decode c_DI_fill 10 = .ok (.istore_n 3, 1) := by decide +kernel
theorem d_DI_fill_11 : decode c_DI_fill 11 = .ok (.iload_n 3, 1) := by decide +kernel
theorem d_DI_fill_12 : decode c_DI_fill 12 = .ok (.bipush 20, 2) := by decide +kernel
theorem d_DI_fill_14 : decode c_DI_fill 14 = .ok (.if_icmp .ge 67, 3) := by decide +kernel
theorem d_DI_fill_17 : decode c_DI_fill 17 = .ok (.iload_n 3, 1) := by decide +kernel
theorem d_DI_fill_18 : decode c_DI_fill 18 = .ok (.iconst 1, 1) := by decide +kernel
theorem d_DI_fill_19 : decode c_DI_fill 19 = .ok (.iadd, 1) := by decide +kernel
theorem d_DI_fill_20 : decode c_DI_fill 20 = .ok (.istore 4, 2) := by decide +kernel
theorem d_DI_fill_22 : decode c_DI_fill 22 = .ok (.iload 4, 2) := by decide +kernel
theorem d_DI_fill_24 : decode c_DI_fill 24 = .ok (.bipush 20, 2) := by decide +kernel
theorem d_DI_fill_26 : decode c_DI_fill 26 = .ok (.if_icmp .ge 49, 3) := by decide +kernel
theorem d_DI_fill_29 : decode c_DI_fill 29 = .ok (.aload_n 2, 1) := by decide +kernel
theorem d_DI_fill_30 : decode c_DI_fill 30 = .ok (.iload_n 3, 1) := by decide +kernel
theorem d_DI_fill_31 : decode c_DI_fill 31 = .ok (.iload 4, 2) := by decide +kernel
theorem d_DI_fill_33 : decode c_DI_fill 33 = .ok (.invokestatic 47, 3) := by decide +kernel
theorem d_DI_fill_36 : decode c_DI_fill 36 = .ok (.ifCond .eq 33, 3) := by decide +kernel
theorem d_DI_fill_39 : decode c_DI_fill 39 = .ok (.aload_n 1, 1) := by decide +kernel
theorem d_DI_fill_40 : decode c_DI_fill 40 = .ok (.iload_n 3, 1) := by decide +kernel
theorem d_DI_fill_41 : decode c_DI_fill 41 = .ok (.iload 4, 2) := by decide +kernel
theorem d_DI_fill_43 : decode c_DI_fill 43 = .ok (.invokestatic 51, 3) := by decide +kernel
theorem d_DI_fill_46 : decode c_DI_fill 46 = .ok (.ifCond .eq 23, 3) := by decide +kernel
theorem d_DI_fill_49 : decode c_DI_fill 49 = .ok (.aload_n 0, 1) := by decide +kernel
theorem d_DI_fill_50 : decode c_DI_fill 50 = .ok (.getfield 15, 3) := by decide +kernel
theorem d_DI_fill_53 : decode c_DI_fill 53 = .ok (.iload_n 3, 1) := by decide +kernel
theorem d_DI_fill_54 : decode c_DI_fill 54 = .ok (.bipush 20, 2) := by decide +kernel
theorem d_DI_fill_56 : decode c_DI_fill 56 = .ok (.imul, 1) := by decide +kernel
theorem d_DI_fill_57 : decode c_DI_fill 57 = .ok (.iload 4, 2) := by decide +kernel
theorem d_DI_fill_59 : decode c_DI_fill 59 = .ok (.iadd, 1) := by decide +kernel
theorem d_DI_fill_60 : decode c_DI_fill 60 = .ok (.aload_n 0, 1) := by decide +kernel
theorem d_DI_fill_61 : decode c_DI_fill 61 = .ok (.aload_n 1, 1) := by decide +kernel
theorem d_DI_fill_62 : decode c_DI_fill 62 = .ok (.iload_n 3, 1) := by decide +kernel
theorem d_DI_fill_63 : decode c_DI_fill 63 = .ok (.iload 4, 2) := by decide +kernel
theorem d_DI_fill_65 : decode c_DI_fill 65 = .ok (.invokevirtual 55, 3) := by decide +kernel
theorem d_DI_fill_68 : decode c_DI_fill 68 = .ok (.iastore, 1) := by decide +kernel
theorem d_DI_fill_69 : decode c_DI_fill 69 = .ok (.iinc 4 1, 3) := by decide +kernel
theorem d_DI_fill_72 : decode c_DI_fill 72 = .ok (.goto (-50), 3) := by decide +kernel
theorem d_DI_fill_75 : decode c_DI_fill 75 = .ok (.iinc 3 1, 3) := by decide +kernel
theorem d_DI_fill_78 : decode c_DI_fill 78 = .ok (.goto (-67), 3) := by decide +kernel
theorem d_DI_fill_81 : decode c_DI_fill 81 = .ok (.return_, 1) := by decide +kernel
theorem d_DI_areApart_0 : decode c_DI_areApart 0 = .ok (.aload_n 0, 1) := by decide +kernel
theorem d_DI_areApart_1 : decode c_DI_areApart 1 = .ok (.iload_n 1, 1) := by decide +kernel
theorem d_DI_areApart_2 : decode c_DI_areApart 2 = .ok (.invokevirtual 59, 3) := by decide +kernel
theorem d_DI_areApart_5 : decode c_DI_areApart 5 = .ok (.istore_n 3, 1) := by decide +kernel
theorem d_DI_areApart_6 : decode c_DI_areApart 6 = .ok (.aload_n 0, 1) := by decide +kernel
theorem d_DI_areApart_7 : decode c_DI_areApart 7 = .ok (.iload_n 2, 1) := by decide +kernel
theorem d_DI_areApart_8 : decode c_DI_areApart 8 = .ok (.invokevirtual 59, 3) := by decide +kernel
theorem d_DI_areApart_11 : decode c_DI_areApart 11 = .ok (.istore 4, 2) := by decide +kernel
theorem d_DI_areApart_13 : decode c_DI_areApart 13 = .ok (.iload_n 3, 1) := by decide +kernel
theorem d_DI_areApart_14 : decode c_DI_areApart 14 = .ok (.bipush (-5), 2) := by decide +kernel
theorem d_DI_areApart_16 : decode c_DI_areApart 16 = .ok (.if_icmp .eq 20, 3) := by decide +kernel
theorem d_DI_areApart_19 : decode c_DI_areApart 19 = .ok (.iload 4, 2) := by decide +kernel
theorem d_DI_areApart_21 : decode c_DI_areApart 21 = .ok (.bipush (-5), 2) := by decide +kernel
theorem d_DI_areApart_23 : decode c_DI_areApart 23 = .ok (.if_icmp .eq 13, 3) := by decide +kernel
theorem d_DI_areApart_26 : decode c_DI_areApart 26 = .ok (.iload_n 3, 1) := by decide +kernel
theorem d_DI_areApart_27 : decode c_DI_areApart 27 = .ok (.iload 4, 2) := by decide +kernel
theorem d_DI_areApart_29 : decode c_DI_areApart 29 = .ok (.if_icmp .eq 7, 3) := by decide +kernel
theorem d_DI_areApart_32 : decode c_DI_areApart 32 = .ok (.iconst 1, 1) := by decide +kernel
theorem d_DI_areApart_33 : decode c_DI_areApart 33 = .ok (.goto 4, 3) := by decide +kernel
theorem d_DI_areApart_36 : decode c_DI_areApart 36 = .ok (.iconst 0, 1) := by decide +kernel
theorem d_DI_areApart_37 : decode c_DI_areApart 37 = .ok (.ireturn, 1) := by decide +kernel
theorem d_DI_mayBeNear_0 : decode c_DI_mayBeNear 0 = .ok (.aload_n 0, 1) := by decide +kernel
theorem d_DI_mayBeNear_1 : decode c_DI_mayBeNear 1 = .ok (.iload_n 1, 1) := by decide +kernel
theorem d_DI_mayBeNear_2 : decode c_DI_mayBeNear 2 = .ok (.invokevirtual 18, 3) := by decide +kernel
theorem d_DI_mayBeNear_5 : decode c_DI_mayBeNear 5 = .ok (.aload_n 0, 1) := by decide +kernel
theorem d_DI_mayBeNear_6 : decode c_DI_mayBeNear 6 = .ok (.iload_n 2, 1) := by decide +kernel
theorem d_DI_mayBeNear_7 : decode c_DI_mayBeNear 7 = .ok (.invokevirtual 18, 3) := by decide +kernel
theorem d_DI_mayBeNear_10 : decode c_DI_mayBeNear 10 = .ok (.isub, 1) := by decide +kernel
theorem d_DI_mayBeNear_11 : decode c_DI_mayBeNear 11 = .ok (.invokestatic 64, 3) := by decide +kernel
theorem d_DI_mayBeNear_14 : decode c_DI_mayBeNear 14 = .ok (.iconst 3, 1) := by decide +kernel
theorem d_DI_mayBeNear_15 : decode c_DI_mayBeNear 15 = .ok (.if_icmp .gt 7, 3) := by decide +kernel
theorem d_DI_mayBeNear_18 : decode c_DI_mayBeNear 18 = .ok (.iconst 1, 1) := by decide +kernel
theorem d_DI_mayBeNear_19 : decode c_DI_mayBeNear 19 = .ok (.goto 4, 3) := by decide +kernel
theorem d_DI_mayBeNear_22 : decode c_DI_mayBeNear 22 = .ok (.iconst 0, 1) := by decide +kernel
theorem d_DI_mayBeNear_23 : decode c_DI_mayBeNear 23 = .ok (.ireturn, 1) := by decide +kernel
theorem d_DI_pairAt_0 : decode c_DI_pairAt 0 = .ok (.iload_n 1, 1) := by decide +kernel
theorem d_DI_pairAt_1 : decode c_DI_pairAt 1 = .ok (.istore_n 2, 1) := by decide +kernel
theorem d_DI_pairAt_2 : decode c_DI_pairAt 2 = .ok (.iconst 0, 1) := by decide +kernel
theorem d_DI_pairAt_3 : decode c_DI_pairAt 3 = .ok (.istore_n 3, 1) := by decide +kernel
theorem d_DI_pairAt_4 : decode c_DI_pairAt 4 = .ok (.iload_n 3, 1) := by decide +kernel
theorem d_DI_pairAt_5 : decode c_DI_pairAt 5 = .ok (.iconst 3, 1) := by decide +kernel
theorem d_DI_pairAt_6 : decode c_DI_pairAt 6 = .ok (.if_icmp .gt 47, 3) := by decide +kernel
theorem d_DI_pairAt_9 : decode c_DI_pairAt 9 = .ok (.iconst 0, 1) := by decide +kernel
theorem d_DI_pairAt_10 : decode c_DI_pairAt 10 = .ok (.istore 4, 2) := by decide +kernel
theorem d_DI_pairAt_12 : decode c_DI_pairAt 12 = .ok (.iload 4, 2) := by decide +kernel
theorem d_DI_pairAt_14 : decode c_DI_pairAt 14 = .ok (.sipush 400, 3) := by decide +kernel
theorem d_DI_pairAt_17 : decode c_DI_pairAt 17 = .ok (.if_icmp .ge 30, 3) := by decide +kernel
theorem d_DI_pairAt_20 : decode c_DI_pairAt 20 = .ok (.aload_n 0, 1) := by decide +kernel
theorem d_DI_pairAt_21 : decode c_DI_pairAt 21 = .ok (.getfield 15, 3) := by decide +kernel
theorem d_DI_pairAt_24 : decode c_DI_pairAt 24 = .ok (.iload 4, 2) := by decide +kernel
theorem d_DI_pairAt_26 : decode c_DI_pairAt 26 = .ok (.iaload, 1) := by decide +kernel
theorem d_DI_pairAt_27 : decode c_DI_pairAt 27 = .ok (.iload_n 3, 1) := by decide +kernel
theorem d_DI_pairAt_28 : decode c_DI_pairAt 28 = .ok (.if_icmp .ne 13, 3) := by decide +kernel
theorem d_DI_pairAt_31 : decode c_DI_pairAt 31 = .ok (.iload_n 2, 1) := by decide +kernel
theorem d_DI_pairAt_32 : decode c_DI_pairAt 32 = .ok (.ifCond .ne 6, 3) := by decide +kernel
theorem d_DI_pairAt_35 : decode c_DI_pairAt 35 = .ok (.iload 4, 2) := by decide +kernel
theorem d_DI_pairAt_37 : decode c_DI_pairAt 37 = .ok (.ireturn, 1) := by decide +kernel
theorem d_DI_pairAt_38 : decode c_DI_pairAt 38 = .ok (.iinc 2 (-1), 3) := by decide +kernel
theorem d_DI_pairAt_41 : decode c_DI_pairAt 41 = .ok (.iinc 4 1, 3) := by decide +kernel
theorem d_DI_pairAt_44 : decode c_DI_pairAt 44 = .ok (.goto (-32), 3) := by decide +kernel
theorem d_DI_pairAt_47 : decode c_DI_pairAt 47 = .ok (.iinc 3 1, 3) := by decide +kernel
theorem d_DI_pairAt_50 : decode c_DI_pairAt 50 = .ok (.goto (-46), 3) := by decide +kernel
theorem d_DI_pairAt_53 : decode c_DI_pairAt 53 = .ok (.bipush (-5), 2) := by decide +kernel
theorem d_DI_pairAt_55 : decode c_DI_pairAt 55 = .ok (.ireturn, 1) := by decide +kernel
theorem d_DI_ofPair_0 : decode c_DI_ofPair 0 = .ok (.aload_n 0, 1) := by decide +kernel
theorem d_DI_ofPair_1 : decode c_DI_ofPair 1 = .ok (.getfield 15, 3) := by decide +kernel
theorem d_DI_ofPair_4 : decode c_DI_ofPair 4 = .ok (.iload_n 1, 1) := by decide +kernel
theorem d_DI_ofPair_5 : decode c_DI_ofPair 5 = .ok (.invokestatic 34, 3) := by decide +kernel
theorem d_DI_ofPair_8 : decode c_DI_ofPair 8 = .ok (.ireturn, 1) := by decide +kernel
theorem d_DR_init_0 : decode c_DR_init 0 = .ok (.aload_n 0, 1) := by decide +kernel
theorem d_DR_init_1 : decode c_DR_init 1 = .ok (.invokespecial 3, 3) := by decide +kernel
theorem d_DR_init_4 : decode c_DR_init 4 = .ok (.aload_n 0, 1) := by decide +kernel
theorem d_DR_init_5 : decode c_DR_init 5 = .ok (.bipush 60, 2) := by decide +kernel
theorem d_DR_init_7 : decode c_DR_init 7 = .ok (.newarray .int, 2) := by decide +kernel
theorem d_DR_init_9 : decode c_DR_init 9 = .ok (.putfield 9, 3) := by decide +kernel
theorem d_DR_init_12 : decode c_DR_init 12 = .ok (.aload_n 0, 1) := by decide +kernel
theorem d_DR_init_13 : decode c_DR_init 13 = .ok (.iconst 0, 1) := by decide +kernel
theorem d_DR_init_14 : decode c_DR_init 14 = .ok (.putfield 15, 3) := by decide +kernel
theorem d_DR_init_17 : decode c_DR_init 17 = .ok (.return_, 1) := by decide +kernel
theorem d_DR_length_0 : decode c_DR_length 0 = .ok (.aload_n 0, 1) := by decide +kernel
theorem d_DR_length_1 : decode c_DR_length 1 = .ok (.getfield 15, 3) := by decide +kernel
theorem d_DR_length_4 : decode c_DR_length 4 = .ok (.ireturn, 1) := by decide +kernel
theorem d_DR_codeAt_0 : decode c_DR_codeAt 0 = .ok (.aload_n 0, 1) := by decide +kernel
theorem d_DR_codeAt_1 : decode c_DR_codeAt 1 = .ok (.getfield 9, 3) := by decide +kernel
theorem d_DR_codeAt_4 : decode c_DR_codeAt 4 = .ok (.iload_n 1, 1) := by decide +kernel
theorem d_DR_codeAt_5 : decode c_DR_codeAt 5 = .ok (.invokestatic 19, 3) := by decide +kernel
theorem d_DR_codeAt_8 : decode c_DR_codeAt 8 = .ok (.ireturn, 1) := by decide +kernel
theorem d_DR_append_0 : decode c_DR_append 0 = .ok (.aload_n 0, 1) := by decide +kernel
theorem d_DR_append_1 : decode c_DR_append 1 = .ok (.getfield 15, 3) := by decide +kernel
theorem d_DR_append_4 : decode c_DR_append 4 = .ok (.bipush 60, 2) := by decide +kernel
theorem d_DR_append_6 : decode c_DR_append 6 = .ok (.if_icmp .ge 25, 3) := by decide +kernel
theorem d_DR_append_9 : decode c_DR_append 9 = .ok (.aload_n 0, 1) := by decide +kernel
theorem d_DR_append_10 : decode c_DR_append 10 = .ok (.getfield 9, 3) := by decide +kernel
theorem d_DR_append_13 : decode c_DR_append 13 = .ok (.aload_n 0, 1) := by decide +kernel
theorem d_DR_append_14 : decode c_DR_append 14 = .ok (.getfield 15, 3) := by decide +kernel
theorem d_DR_append_17 : decode c_DR_append 17 = .ok (.iload_n 1, 1) := by decide +kernel
theorem d_DR_append_18 : decode c_DR_append 18 = .ok (.invokestatic 23, 3) := by decide +kernel
theorem d_DR_append_21 : decode c_DR_append 21 = .ok (.aload_n 0, 1) := by decide +kernel
theorem d_DR_append_22 : decode c_DR_append 22 = .ok (.dup, 1) := by decide +kernel
theorem d_DR_append_23 : decode c_DR_append 23 = .ok (.getfield 15, 3) := by decide +kernel
theorem d_DR_append_26 : decode c_DR_append 26 = .ok (.iconst 1, 1) := by decide +kernel
theorem d_DR_append_27 : decode c_DR_append 27 = .ok (.iadd, 1) := by decide +kernel
theorem d_DR_append_28 : decode c_DR_append 28 = .ok (.putfield 15, 3) := by decide +kernel
theorem d_DR_append_31 : decode c_DR_append 31 = .ok (.return_, 1) := by decide +kernel
theorem d_DR_empty_0 : decode c_DR_empty 0 = .ok (.aload_n 0, 1) := by decide +kernel
theorem d_DR_empty_1 : decode c_DR_empty 1 = .ok (.iconst 0, 1) := by decide +kernel
theorem d_DR_empty_2 : decode c_DR_empty 2 = .ok (.putfield 15, 3) := by decide +kernel
theorem d_DR_empty_5 : decode c_DR_empty 5 = .ok (.return_, 1) := by decide +kernel
theorem d_DR_firstFault_0 : decode c_DR_firstFault 0 = .ok (.iconst 0, 1) := by decide +kernel
theorem d_DR_firstFault_1 : decode c_DR_firstFault 1 = .ok (.istore_n 1, 1) := by decide +kernel
theorem d_DR_firstFault_2 : decode c_DR_firstFault 2 = .ok (.iconst 0, 1) := by decide +kernel
theorem d_DR_firstFault_3 : decode c_DR_firstFault 3 = .ok (.istore_n 2, 1) := by decide +kernel
theorem d_DR_firstFault_4 : decode c_DR_firstFault 4 = .ok (.iload_n 2, 1) := by decide +kernel
theorem d_DR_firstFault_5 : decode c_DR_firstFault 5 = .ok (.aload_n 0, 1) := by decide +kernel
theorem d_DR_firstFault_6 : decode c_DR_firstFault 6 = .ok (.getfield 15, 3) := by decide +kernel
theorem d_DR_firstFault_9 : decode c_DR_firstFault 9 = .ok (.if_icmp .ge 42, 3) := by decide +kernel
theorem d_DR_firstFault_12 : decode c_DR_firstFault 12 = .ok (.iload_n 2, 1) := by decide +kernel
theorem d_DR_firstFault_13 : decode c_DR_firstFault 13 = .ok (.bipush 60, 2) := by decide +kernel
theorem d_DR_firstFault_15 : decode c_DR_firstFault 15 = .ok (.if_icmp .ge 36, 3) := by decide +kernel
theorem d_DR_firstFault_18 : decode c_DR_firstFault 18 = .ok (.aload_n 0, 1) := by decide +kernel
theorem d_DR_firstFault_19 : decode c_DR_firstFault 19 = .ok (.iload_n 2, 1) := by decide +kernel
theorem d_DR_firstFault_20 : decode c_DR_firstFault 20 = .ok (.invokevirtual 27, 3) := by decide +kernel
theorem d_DR_firstFault_23 : decode c_DR_firstFault 23 = .ok (.istore_n 3, 1) := by decide +kernel
theorem d_DR_firstFault_24 : decode c_DR_firstFault 24 = .ok (.iload_n 3, 1) := by decide +kernel
theorem d_DR_firstFault_25 : decode c_DR_firstFault 25 = .ok (.invokestatic 31, 3) := by decide +kernel
theorem d_DR_firstFault_28 : decode c_DR_firstFault 28 = .ok (.ifCond .eq 8, 3) := by decide +kernel
theorem d_DR_firstFault_31 : decode c_DR_firstFault 31 = .ok (.iconst 1, 1) := by decide +kernel
theorem d_DR_firstFault_32 : decode c_DR_firstFault 32 = .ok (.istore_n 1, 1) := by decide +kernel
theorem d_DR_firstFault_33 : decode c_DR_firstFault 33 = .ok (.goto 12, 3) := by decide +kernel
theorem d_DR_firstFault_36 : decode c_DR_firstFault 36 = .ok (.iload_n 3, 1) := by decide +kernel
theorem d_DR_firstFault_37 : decode c_DR_firstFault 37 = .ok (.invokestatic 35, 3) := by decide +kernel
theorem d_DR_firstFault_40 : decode c_DR_firstFault 40 = .ok (.ifCond .ne 5, 3) := by decide +kernel
theorem d_DR_firstFault_43 : decode c_DR_firstFault 43 = .ok (.iload_n 2, 1) := by decide +kernel
theorem d_DR_firstFault_44 : decode c_DR_firstFault 44 = .ok (.ireturn, 1) := by decide +kernel
theorem d_DR_firstFault_45 : decode c_DR_firstFault 45 = .ok (.iinc 2 1, 3) := by decide +kernel
theorem d_DR_firstFault_48 : decode c_DR_firstFault 48 = .ok (.goto (-44), 3) := by decide +kernel
theorem d_DR_firstFault_51 : decode c_DR_firstFault 51 = .ok (.iload_n 1, 1) := by decide +kernel
theorem d_DR_firstFault_52 : decode c_DR_firstFault 52 = .ok (.ifCond .eq 7, 3) := by decide +kernel
theorem d_DR_firstFault_55 : decode c_DR_firstFault 55 = .ok (.iconst (-1), 1) := by decide +kernel
theorem d_DR_firstFault_56 : decode c_DR_firstFault 56 = .ok (.goto 7, 3) := by decide +kernel
theorem d_DR_firstFault_59 : decode c_DR_firstFault 59 = .ok (.aload_n 0, 1) := by decide +kernel
theorem d_DR_firstFault_60 : decode c_DR_firstFault 60 = .ok (.getfield 15, 3) := by decide +kernel
theorem d_DR_firstFault_63 : decode c_DR_firstFault 63 = .ok (.ireturn, 1) := by decide +kernel
theorem d_GR_init_0 : decode c_GR_init 0 = .ok (.aload_n 0, 1) := by decide +kernel
theorem d_GR_init_1 : decode c_GR_init 1 = .ok (.invokespecial 3, 3) := by decide +kernel
theorem d_GR_init_4 : decode c_GR_init 4 = .ok (.aload_n 0, 1) := by decide +kernel
theorem d_GR_init_5 : decode c_GR_init 5 = .ok (.bipush 20, 2) := by decide +kernel
theorem d_GR_init_7 : decode c_GR_init 7 = .ok (.newarray .int, 2) := by decide +kernel
theorem d_GR_init_9 : decode c_GR_init 9 = .ok (.putfield 9, 3) := by decide +kernel
theorem d_GR_init_12 : decode c_GR_init 12 = .ok (.aload_n 0, 1) := by decide +kernel
theorem d_GR_init_13 : decode c_GR_init 13 = .ok (.bipush 20, 2) := by decide +kernel
theorem d_GR_init_15 : decode c_GR_init 15 = .ok (.newarray .int, 2) := by decide +kernel
theorem d_GR_init_17 : decode c_GR_init 17 = .ok (.putfield 15, 3) := by decide +kernel
theorem d_GR_init_20 : decode c_GR_init 20 = .ok (.aload_n 0, 1) := by decide +kernel
theorem d_GR_init_21 : decode c_GR_init 21 = .ok (.iconst 0, 1) := by decide +kernel
theorem d_GR_init_22 : decode c_GR_init 22 = .ok (.putfield 18, 3) := by decide +kernel
theorem d_GR_init_25 : decode c_GR_init 25 = .ok (.return_, 1) := by decide +kernel
theorem d_GR_find_0 : decode c_GR_find 0 = .ok (.aload_n 0, 1) := by decide +kernel
theorem d_GR_find_1 : decode c_GR_find 1 = .ok (.getfield 9, 3) := by decide +kernel
theorem d_GR_find_4 : decode c_GR_find 4 = .ok (.bipush (-5), 2) := by decide +kernel
theorem d_GR_find_6 : decode c_GR_find 6 = .ok (.invokestatic 22, 3) := by decide +kernel
theorem d_GR_find_9 : decode c_GR_find 9 = .ok (.aload_n 0, 1) := by decide +kernel
theorem d_GR_find_10 : decode c_GR_find 10 = .ok (.iconst 0, 1) := by decide +kernel
theorem d_GR_find_11 : decode c_GR_find 11 = .ok (.putfield 18, 3) := by decide +kernel
theorem d_GR_find_14 : decode c_GR_find 14 = .ok (.iconst 0, 1) := by decide +kernel
theorem d_GR_find_15 : decode c_GR_find 15 = .ok (.istore_n 2, 1) := by decide +kernel
theorem d_GR_find_16 : decode c_GR_find 16 = .ok (.iload_n 2, 1) := by decide +kernel
theorem d_GR_find_17 : decode c_GR_find 17 = .ok (.bipush 20, 2) := by decide +kernel
theorem d_GR_find_19 : decode c_GR_find 19 = .ok (.if_icmp .ge 44, 3) := by decide +kernel
theorem d_GR_find_22 : decode c_GR_find 22 = .ok (.aload_n 1, 1) := by decide +kernel
theorem d_GR_find_23 : decode c_GR_find 23 = .ok (.iload_n 2, 1) := by decide +kernel
theorem d_GR_find_24 : decode c_GR_find 24 = .ok (.invokevirtual 28, 3) := by decide +kernel
theorem d_GR_find_27 : decode c_GR_find 27 = .ok (.ifCond .eq 30, 3) := by decide +kernel
theorem d_GR_find_30 : decode c_GR_find 30 = .ok (.aload_n 0, 1) := by decide +kernel
theorem d_GR_find_31 : decode c_GR_find 31 = .ok (.getfield 9, 3) := by decide +kernel
theorem d_GR_find_34 : decode c_GR_find 34 = .ok (.iload_n 2, 1) := by decide +kernel
theorem d_GR_find_35 : decode c_GR_find 35 = .ok (.iaload, 1) := by decide +kernel
theorem d_GR_find_36 : decode c_GR_find 36 = .ok (.bipush (-5), 2) := by decide +kernel
theorem d_GR_find_38 : decode c_GR_find 38 = .ok (.if_icmp .ne 19, 3) := by decide +kernel
theorem d_GR_find_41 : decode c_GR_find 41 = .ok (.aload_n 0, 1) := by decide +kernel
theorem d_GR_find_42 : decode c_GR_find 42 = .ok (.dup, 1) := by decide +kernel
theorem d_GR_find_43 : decode c_GR_find 43 = .ok (.getfield 18, 3) := by decide +kernel
theorem d_GR_find_46 : decode c_GR_find 46 = .ok (.iconst 1, 1) := by decide +kernel
theorem d_GR_find_47 : decode c_GR_find 47 = .ok (.iadd, 1) := by decide +kernel
theorem d_GR_find_48 : decode c_GR_find 48 = .ok (.putfield 18, 3) := by decide +kernel
theorem d_GR_find_51 : decode c_GR_find 51 = .ok (.aload_n 0, 1) := by decide +kernel
theorem d_GR_find_52 : decode c_GR_find 52 = .ok (.aload_n 1, 1) := by decide +kernel
theorem d_GR_find_53 : decode c_GR_find 53 = .ok (.iload_n 2, 1) := by decide +kernel
theorem d_GR_find_54 : decode c_GR_find 54 = .ok (.invokevirtual 34, 3) := by decide +kernel
theorem d_GR_find_57 : decode c_GR_find 57 = .ok (.iinc 2 1, 3) := by decide +kernel
theorem d_GR_find_60 : decode c_GR_find 60 = .ok (.goto (-44), 3) := by decide +kernel
theorem d_GR_find_63 : decode c_GR_find 63 = .ok (.return_, 1) := by decide +kernel
theorem d_GR_gather_0 : decode c_GR_gather 0 = .ok (.aload_n 0, 1) := by decide +kernel
theorem d_GR_gather_1 : decode c_GR_gather 1 = .ok (.getfield 9, 3) := by decide +kernel
theorem d_GR_gather_4 : decode c_GR_gather 4 = .ok (.iload_n 2, 1) := by decide +kernel
theorem d_GR_gather_5 : decode c_GR_gather 5 = .ok (.iload_n 2, 1) := by decide +kernel
theorem d_GR_gather_6 : decode c_GR_gather 6 = .ok (.invokestatic 38, 3) := by decide +kernel
theorem d_GR_gather_9 : decode c_GR_gather 9 = .ok (.aload_n 0, 1) := by decide +kernel
theorem d_GR_gather_10 : decode c_GR_gather 10 = .ok (.getfield 15, 3) := by decide +kernel
theorem d_GR_gather_13 : decode c_GR_gather 13 = .ok (.iconst 0, 1) := by decide +kernel
theorem d_GR_gather_14 : decode c_GR_gather 14 = .ok (.iload_n 2, 1) := by decide +kernel
theorem d_GR_gather_15 : decode c_GR_gather 15 = .ok (.invokestatic 38, 3) := by decide +kernel
theorem d_GR_gather_18 : decode c_GR_gather 18 = .ok (.iconst 1, 1) := by decide +kernel
theorem d_GR_gather_19 : decode c_GR_gather 19 = .ok (.istore_n 3, 1) := by decide +kernel
theorem d_GR_gather_20 : decode c_GR_gather 20 = .ok (.iconst 0, 1) := by decide +kernel
theorem d_GR_gather_21 : decode c_GR_gather 21 = .ok (.istore 4, 2) := by decide +kernel
theorem d_GR_gather_23 : decode c_GR_gather 23 = .ok (.iload 4, 2) := by decide +kernel
theorem d_GR_gather_25 : decode c_GR_gather 25 = .ok (.iload_n 3, 1) := by decide +kernel
theorem d_GR_gather_26 : decode c_GR_gather 26 = .ok (.if_icmp .ge 94, 3) := by decide +kernel
theorem d_GR_gather_29 : decode c_GR_gather 29 = .ok (.iload 4, 2) := by decide +kernel
theorem d_GR_gather_31 : decode c_GR_gather 31 = .ok (.bipush 20, 2) := by decide +kernel
theorem d_GR_gather_33 : decode c_GR_gather 33 = .ok (.if_icmp .ge 87, 3) := by decide +kernel
theorem d_GR_gather_36 : decode c_GR_gather 36 = .ok (.aload_n 0, 1) := by decide +kernel
theorem d_GR_gather_37 : decode c_GR_gather 37 = .ok (.getfield 15, 3) := by decide +kernel
theorem d_GR_gather_40 : decode c_GR_gather 40 = .ok (.iload 4, 2) := by decide +kernel
theorem d_GR_gather_42 : decode c_GR_gather 42 = .ok (.iaload, 1) := by decide +kernel
theorem d_GR_gather_43 : decode c_GR_gather 43 = .ok (.istore 5, 2) := by decide +kernel
theorem d_GR_gather_45 : decode c_GR_gather 45 = .ok (.iconst 0, 1) := by decide +kernel
theorem d_GR_gather_46 : decode c_GR_gather 46 = .ok (.istore 6, 2) := by decide +kernel
theorem d_GR_gather_48 : decode c_GR_gather 48 = .ok (.iload 6, 2) := by decide +kernel
theorem d_GR_gather_50 : decode c_GR_gather 50 = .ok (.bipush 20, 2) := by decide +kernel
theorem d_GR_gather_52 : decode c_GR_gather 52 = .ok (.if_icmp .ge 62, 3) := by decide +kernel
theorem d_GR_gather_55 : decode c_GR_gather 55 = .ok (.aload_n 0, 1) := by decide +kernel
theorem d_GR_gather_56 : decode c_GR_gather 56 = .ok (.getfield 9, 3) := by decide +kernel
theorem d_GR_gather_59 : decode c_GR_gather 59 = .ok (.iload 6, 2) := by decide +kernel
theorem d_GR_gather_61 : decode c_GR_gather 61 = .ok (.iaload, 1) := by decide +kernel
theorem d_GR_gather_62 : decode c_GR_gather 62 = .ok (.bipush (-5), 2) := by decide +kernel
theorem d_GR_gather_64 : decode c_GR_gather 64 = .ok (.if_icmp .ne 44, 3) := by decide +kernel
theorem d_GR_gather_67 : decode c_GR_gather 67 = .ok (.aload_n 1, 1) := by decide +kernel
theorem d_GR_gather_68 : decode c_GR_gather 68 = .ok (.iload 6, 2) := by decide +kernel
theorem d_GR_gather_70 : decode c_GR_gather 70 = .ok (.invokevirtual 28, 3) := by decide +kernel
theorem d_GR_gather_73 : decode c_GR_gather 73 = .ok (.ifCond .eq 35, 3) := by decide +kernel
theorem d_GR_gather_76 : decode c_GR_gather 76 = .ok (.aload_n 1, 1) := by decide +kernel
theorem d_GR_gather_77 : decode c_GR_gather 77 = .ok (.iload 5, 2) := by decide +kernel
theorem d_GR_gather_79 : decode c_GR_gather 79 = .ok (.iload 6, 2) := by decide +kernel
theorem d_GR_gather_81 : decode c_GR_gather 81 = .ok (.invokestatic 42, 3) := by decide +kernel
theorem d_GR_gather_84 : decode c_GR_gather 84 = .ok (.ifCond .eq 24, 3) := by decide +kernel
theorem d_GR_gather_87 : decode c_GR_gather 87 = .ok (.aload_n 0, 1) := by decide +kernel
theorem d_GR_gather_88 : decode c_GR_gather 88 = .ok (.getfield 9, 3) := by decide +kernel
theorem d_GR_gather_91 : decode c_GR_gather 91 = .ok (.iload 6, 2) := by decide +kernel
theorem d_GR_gather_93 : decode c_GR_gather 93 = .ok (.iload_n 2, 1) := by decide +kernel
theorem d_GR_gather_94 : decode c_GR_gather 94 = .ok (.iastore, 1) := by decide +kernel
theorem d_GR_gather_95 : decode c_GR_gather 95 = .ok (.aload_n 0, 1) := by decide +kernel
theorem d_GR_gather_96 : decode c_GR_gather 96 = .ok (.getfield 15, 3) := by decide +kernel
theorem d_GR_gather_99 : decode c_GR_gather 99 = .ok (.iload_n 3, 1) := by decide +kernel
theorem d_GR_gather_100 : decode c_GR_gather 100 = .ok (.iload 6, 2) := by decide +kernel
theorem d_GR_gather_102 : decode c_GR_gather 102 = .ok (.invokestatic 38, 3) := by decide +kernel
theorem d_GR_gather_105 : decode c_GR_gather 105 = .ok (.iinc 3 1, 3) := by decide +kernel
theorem d_GR_gather_108 : decode c_GR_gather 108 = .ok (.iinc 6 1, 3) := by decide +kernel
theorem d_GR_gather_111 : decode c_GR_gather 111 = .ok (.goto (-63), 3) := by decide +kernel
theorem d_GR_gather_114 : decode c_GR_gather 114 = .ok (.iinc 4 1, 3) := by decide +kernel
theorem d_GR_gather_117 : decode c_GR_gather 117 = .ok (.goto (-94), 3) := by decide +kernel
theorem d_GR_gather_120 : decode c_GR_gather 120 = .ok (.return_, 1) := by decide +kernel
theorem d_GR_areTied_0 : decode c_GR_areTied 0 = .ok (.aload_n 0, 1) := by decide +kernel
theorem d_GR_areTied_1 : decode c_GR_areTied 1 = .ok (.iload_n 1, 1) := by decide +kernel
theorem d_GR_areTied_2 : decode c_GR_areTied 2 = .ok (.iload_n 2, 1) := by decide +kernel
theorem d_GR_areTied_3 : decode c_GR_areTied 3 = .ok (.invokevirtual 46, 3) := by decide +kernel
theorem d_GR_areTied_6 : decode c_GR_areTied 6 = .ok (.ifCond .ne 12, 3) := by decide +kernel
theorem d_GR_areTied_9 : decode c_GR_areTied 9 = .ok (.aload_n 0, 1) := by decide +kernel
theorem d_GR_areTied_10 : decode c_GR_areTied 10 = .ok (.iload_n 1, 1) := by decide +kernel
theorem d_GR_areTied_11 : decode c_GR_areTied 11 = .ok (.iload_n 2, 1) := by decide +kernel
theorem d_GR_areTied_12 : decode c_GR_areTied 12 = .ok (.invokevirtual 50, 3) := by decide +kernel
theorem d_GR_areTied_15 : decode c_GR_areTied 15 = .ok (.ifCond .eq 7, 3) := by decide +kernel
theorem d_GR_areTied_18 : decode c_GR_areTied 18 = .ok (.iconst 1, 1) := by decide +kernel
theorem d_GR_areTied_19 : decode c_GR_areTied 19 = .ok (.goto 4, 3) := by decide +kernel
theorem d_GR_areTied_22 : decode c_GR_areTied 22 = .ok (.iconst 0, 1) := by decide +kernel
theorem d_GR_areTied_23 : decode c_GR_areTied 23 = .ok (.ireturn, 1) := by decide +kernel
theorem d_GR_number_0 : decode c_GR_number 0 = .ok (.aload_n 0, 1) := by decide +kernel
theorem d_GR_number_1 : decode c_GR_number 1 = .ok (.getfield 18, 3) := by decide +kernel
theorem d_GR_number_4 : decode c_GR_number 4 = .ok (.ireturn, 1) := by decide +kernel
theorem d_GR_headOf_0 : decode c_GR_headOf 0 = .ok (.aload_n 0, 1) := by decide +kernel
theorem d_GR_headOf_1 : decode c_GR_headOf 1 = .ok (.getfield 9, 3) := by decide +kernel
theorem d_GR_headOf_4 : decode c_GR_headOf 4 = .ok (.iload_n 1, 1) := by decide +kernel
theorem d_GR_headOf_5 : decode c_GR_headOf 5 = .ok (.invokestatic 53, 3) := by decide +kernel
theorem d_GR_headOf_8 : decode c_GR_headOf 8 = .ok (.ireturn, 1) := by decide +kernel
theorem d_GR_isHead_0 : decode c_GR_isHead 0 = .ok (.iload_n 1, 1) := by decide +kernel
theorem d_GR_isHead_1 : decode c_GR_isHead 1 = .ok (.bipush 20, 2) := by decide +kernel
theorem d_GR_isHead_3 : decode c_GR_isHead 3 = .ok (.invokestatic 57, 3) := by decide +kernel
theorem d_GR_isHead_6 : decode c_GR_isHead 6 = .ok (.ifCond .eq 17, 3) := by decide +kernel
theorem d_GR_isHead_9 : decode c_GR_isHead 9 = .ok (.aload_n 0, 1) := by decide +kernel
theorem d_GR_isHead_10 : decode c_GR_isHead 10 = .ok (.getfield 9, 3) := by decide +kernel
theorem d_GR_isHead_13 : decode c_GR_isHead 13 = .ok (.iload_n 1, 1) := by decide +kernel
theorem d_GR_isHead_14 : decode c_GR_isHead 14 = .ok (.iaload, 1) := by decide +kernel
theorem d_GR_isHead_15 : decode c_GR_isHead 15 = .ok (.iload_n 1, 1) := by decide +kernel
theorem d_GR_isHead_16 : decode c_GR_isHead 16 = .ok (.if_icmp .ne 7, 3) := by decide +kernel
theorem d_GR_isHead_19 : decode c_GR_isHead 19 = .ok (.iconst 1, 1) := by decide +kernel
theorem d_GR_isHead_20 : decode c_GR_isHead 20 = .ok (.goto 4, 3) := by decide +kernel
theorem d_GR_isHead_23 : decode c_GR_isHead 23 = .ok (.iconst 0, 1) := by decide +kernel
theorem d_GR_isHead_24 : decode c_GR_isHead 24 = .ok (.ireturn, 1) := by decide +kernel
theorem d_GR_sizeOf_0 : decode c_GR_sizeOf 0 = .ok (.aload_n 0, 1) := by decide +kernel
theorem d_GR_sizeOf_1 : decode c_GR_sizeOf 1 = .ok (.iload_n 1, 1) := by decide +kernel
theorem d_GR_sizeOf_2 : decode c_GR_sizeOf 2 = .ok (.bipush 20, 2) := by decide +kernel
theorem d_GR_sizeOf_4 : decode c_GR_sizeOf 4 = .ok (.invokevirtual 60, 3) := by decide +kernel
theorem d_GR_sizeOf_7 : decode c_GR_sizeOf 7 = .ok (.ireturn, 1) := by decide +kernel
theorem d_GR_membersBelow_0 : decode c_GR_membersBelow 0 = .ok (.iconst 0, 1) := by decide +kernel
theorem d_GR_membersBelow_1 : decode c_GR_membersBelow 1 = .ok (.istore_n 3, 1) := by decide +kernel
theorem d_GR_membersBelow_2 : decode c_GR_membersBelow 2 = .ok (.iconst 0, 1) := by decide +kernel
theorem d_GR_membersBelow_3 : decode c_GR_membersBelow 3 = .ok (.istore 4, 2) := by decide +kernel
theorem d_GR_membersBelow_5 : decode c_GR_membersBelow 5 = .ok (.iload 4, 2) := by decide +kernel
theorem d_GR_membersBelow_7 : decode c_GR_membersBelow 7 = .ok (.bipush 20, 2) := by decide +kernel
theorem d_GR_membersBelow_9 : decode c_GR_membersBelow 9 = .ok (.if_icmp .ge 29, 3) := by decide +kernel
theorem d_GR_membersBelow_12 : decode c_GR_membersBelow 12 = .ok (.iload 4, 2) := by decide +kernel
theorem d_GR_membersBelow_14 : decode c_GR_membersBelow 14 = .ok (.iload_n 2, 1) := by decide +kernel
theorem d_GR_membersBelow_15 : decode c_GR_membersBelow 15 = .ok (.if_icmp .ge 23, 3) := by decide +kernel
theorem d_GR_membersBelow_18 : decode c_GR_membersBelow 18 = .ok (.aload_n 0, 1) := by decide +kernel
theorem d_GR_membersBelow_19 : decode c_GR_membersBelow 19 = .ok (.getfield 9, 3) := by decide +kernel
theorem d_GR_membersBelow_22 : decode c_GR_membersBelow 22 = .ok (.iload 4, 2) := by decide +kernel
theorem d_GR_membersBelow_24 : decode c_GR_membersBelow 24 = .ok (.iaload, 1) := by decide +kernel
theorem d_GR_membersBelow_25 : decode c_GR_membersBelow 25 = .ok (.iload_n 1, 1) := by decide +kernel
theorem d_GR_membersBelow_26 : decode c_GR_membersBelow 26 = .ok (.if_icmp .ne 6, 3) := by decide +kernel
theorem d_GR_membersBelow_29 : decode c_GR_membersBelow 29 = .ok (.iinc 3 1, 3) := by decide +kernel
theorem d_GR_membersBelow_32 : decode c_GR_membersBelow 32 = .ok (.iinc 4 1, 3) := by decide +kernel
theorem d_GR_membersBelow_35 : decode c_GR_membersBelow 35 = .ok (.goto (-30), 3) := by decide +kernel
theorem d_GR_membersBelow_38 : decode c_GR_membersBelow 38 = .ok (.iload_n 3, 1) := by decide +kernel
theorem d_GR_membersBelow_39 : decode c_GR_membersBelow 39 = .ok (.ireturn, 1) := by decide +kernel
theorem d_HI_init_0 : decode c_HI_init 0 = .ok (.aload_n 0, 1) := by decide +kernel
theorem d_HI_init_1 : decode c_HI_init 1 = .ok (.invokespecial 3, 3) := by decide +kernel
theorem d_HI_init_4 : decode c_HI_init 4 = .ok (.aload_n 0, 1) := by decide +kernel
theorem d_HI_init_5 : decode c_HI_init 5 = .ok (.iconst 4, 1) := by decide +kernel
theorem d_HI_init_6 : decode c_HI_init 6 = .ok (.anewarray 9, 3) := by decide +kernel
theorem d_HI_init_9 : decode c_HI_init 9 = .ok (.putfield 11, 3) := by decide +kernel
theorem d_HI_init_12 : decode c_HI_init 12 = .ok (.iconst 0, 1) := by decide +kernel
theorem d_HI_init_13 : decode c_HI_init 13 = .ok (.istore_n 1, 1) := by decide +kernel
theorem d_HI_init_14 : decode c_HI_init 14 = .ok (.iload_n 1, 1) := by decide +kernel
theorem d_HI_init_15 : decode c_HI_init 15 = .ok (.iconst 4, 1) := by decide +kernel
theorem d_HI_init_16 : decode c_HI_init 16 = .ok (.if_icmp .ge 22, 3) := by decide +kernel
theorem d_HI_init_19 : decode c_HI_init 19 = .ok (.aload_n 0, 1) := by decide +kernel
theorem d_HI_init_20 : decode c_HI_init 20 = .ok (.getfield 11, 3) := by decide +kernel
theorem d_HI_init_23 : decode c_HI_init 23 = .ok (.iload_n 1, 1) := by decide +kernel
theorem d_HI_init_24 : decode c_HI_init 24 = .ok (.new 9, 3) := by decide +kernel
theorem d_HI_init_27 : decode c_HI_init 27 = .ok (.dup, 1) := by decide +kernel
theorem d_HI_init_28 : decode c_HI_init 28 = .ok (.invokespecial 17, 3) := by decide +kernel
theorem d_HI_init_31 : decode c_HI_init 31 = .ok (.aastore, 1) := by decide +kernel
theorem d_HI_init_32 : decode c_HI_init 32 = .ok (.iinc 1 1, 3) := by decide +kernel
theorem d_HI_init_35 : decode c_HI_init 35 = .ok (.goto (-21), 3) := by decide +kernel
theorem d_HI_init_38 : decode c_HI_init 38 = .ok (.aload_n 0, 1) := by decide +kernel
theorem d_HI_init_39 : decode c_HI_init 39 = .ok (.iconst 0, 1) := by decide +kernel
theorem d_HI_init_40 : decode c_HI_init 40 = .ok (.putfield 18, 3) := by decide +kernel
theorem d_HI_init_43 : decode c_HI_init 43 = .ok (.return_, 1) := by decide +kernel
theorem d_HI_size_0 : decode c_HI_size 0 = .ok (.aload_n 0, 1) := by decide +kernel
theorem d_HI_size_1 : decode c_HI_size 1 = .ok (.getfield 18, 3) := by decide +kernel
theorem d_HI_size_4 : decode c_HI_size 4 = .ok (.ireturn, 1) := by decide +kernel
theorem d_HI_record_0 : decode c_HI_record 0 = .ok (.aload_n 0, 1) := by decide +kernel
theorem d_HI_record_1 : decode c_HI_record 1 = .ok (.getfield 18, 3) := by decide +kernel
theorem d_HI_record_4 : decode c_HI_record 4 = .ok (.iconst 4, 1) := by decide +kernel
theorem d_HI_record_5 : decode c_HI_record 5 = .ok (.if_icmp .lt 7, 3) := by decide +kernel
theorem d_HI_record_8 : decode c_HI_record 8 = .ok (.aload_n 0, 1) := by decide +kernel
theorem d_HI_record_9 : decode c_HI_record 9 = .ok (.invokevirtual 22, 3) := by decide +kernel
theorem d_HI_record_12 : decode c_HI_record 12 = .ok (.aload_n 0, 1) := by decide +kernel
theorem d_HI_record_13 : decode c_HI_record 13 = .ok (.getfield 18, 3) := by decide +kernel
theorem d_HI_record_16 : decode c_HI_record 16 = .ok (.iconst 4, 1) := by decide +kernel
theorem d_HI_record_17 : decode c_HI_record 17 = .ok (.invokestatic 25, 3) := by decide +kernel
theorem d_HI_record_20 : decode c_HI_record 20 = .ok (.ifCond .eq 26, 3) := by decide +kernel
theorem d_HI_record_23 : decode c_HI_record 23 = .ok (.aload_n 0, 1) := by decide +kernel
theorem d_HI_record_24 : decode c_HI_record 24 = .ok (.getfield 11, 3) := by decide +kernel
theorem d_HI_record_27 : decode c_HI_record 27 = .ok (.aload_n 0, 1) := by decide +kernel
theorem d_HI_record_28 : decode c_HI_record 28 = .ok (.getfield 18, 3) := by decide +kernel
theorem d_HI_record_31 : decode c_HI_record 31 = .ok (.aaload, 1) := by decide +kernel
theorem d_HI_record_32 : decode c_HI_record 32 = .ok (.aload_n 1, 1) := by decide +kernel
theorem d_HI_record_33 : decode c_HI_record 33 = .ok (.invokevirtual 29, 3) := by decide +kernel
theorem d_HI_record_36 : decode c_HI_record 36 = .ok (.aload_n 0, 1) := by decide +kernel
theorem d_HI_record_37 : decode c_HI_record 37 = .ok (.dup, 1) := by decide +kernel
theorem d_HI_record_38 : decode c_HI_record 38 = .ok (.getfield 18, 3) := by decide +kernel
theorem d_HI_record_41 : decode c_HI_record 41 = .ok (.iconst 1, 1) := by decide +kernel
theorem d_HI_record_42 : decode c_HI_record 42 = .ok (.iadd, 1) := by decide +kernel
theorem d_HI_record_43 : decode c_HI_record 43 = .ok (.putfield 18, 3) := by decide +kernel
theorem d_HI_record_46 : decode c_HI_record 46 = .ok (.return_, 1) := by decide +kernel
theorem d_HI_dropOldest_0 : decode c_HI_dropOldest 0 = .ok (.aload_n 0, 1) := by decide +kernel
theorem d_HI_dropOldest_1 : decode c_HI_dropOldest 1 = .ok (.getfield 11, 3) := by decide +kernel
theorem d_HI_dropOldest_4 : decode c_HI_dropOldest 4 = .ok (.iconst 0, 1) := by decide +kernel
theorem d_HI_dropOldest_5 : decode c_HI_dropOldest 5 = .ok (.aaload, 1) := by decide +kernel
theorem d_HI_dropOldest_6 : decode c_HI_dropOldest 6 = .ok (.astore_n 1, 1) := by decide +kernel
theorem d_HI_dropOldest_7 : decode c_HI_dropOldest 7 = .ok (.iconst 1, 1) := by decide +kernel
theorem d_HI_dropOldest_8 : decode c_HI_dropOldest 8 = .ok (.istore_n 2, 1) := by decide +kernel
theorem d_HI_dropOldest_9 : decode c_HI_dropOldest 9 = .ok (.iload_n 2, 1) := by decide +kernel
theorem d_HI_dropOldest_10 : decode c_HI_dropOldest 10 = .ok (.iconst 4, 1) := by decide +kernel
theorem d_HI_dropOldest_11 : decode c_HI_dropOldest 11 = .ok (.if_icmp .ge 23, 3) := by decide +kernel
theorem d_HI_dropOldest_14 : decode c_HI_dropOldest 14 = .ok (.aload_n 0, 1) := by decide +kernel
theorem d_HI_dropOldest_15 : decode c_HI_dropOldest 15 = .ok (.getfield 11, 3) := by decide +kernel
theorem d_HI_dropOldest_18 : decode c_HI_dropOldest 18 = .ok (.iload_n 2, 1) := by decide +kernel
theorem d_HI_dropOldest_19 : decode c_HI_dropOldest 19 = .ok (.iconst 1, 1) := by decide +kernel
theorem d_HI_dropOldest_20 : decode c_HI_dropOldest 20 = .ok (.isub, 1) := by decide +kernel
theorem d_HI_dropOldest_21 : decode c_HI_dropOldest 21 = .ok (.aload_n 0, 1) := by decide +kernel
theorem d_HI_dropOldest_22 : decode c_HI_dropOldest 22 = .ok (.getfield 11, 3) := by decide +kernel
theorem d_HI_dropOldest_25 : decode c_HI_dropOldest 25 = .ok (.iload_n 2, 1) := by decide +kernel
theorem d_HI_dropOldest_26 : decode c_HI_dropOldest 26 = .ok (.aaload, 1) := by decide +kernel
theorem d_HI_dropOldest_27 : decode c_HI_dropOldest 27 = .ok (.aastore, 1) := by decide +kernel
theorem d_HI_dropOldest_28 : decode c_HI_dropOldest 28 = .ok (.iinc 2 1, 3) := by decide +kernel
theorem d_HI_dropOldest_31 : decode c_HI_dropOldest 31 = .ok (.goto (-22), 3) := by decide +kernel
theorem d_HI_dropOldest_34 : decode c_HI_dropOldest 34 = .ok (.aload_n 0, 1) := by decide +kernel
theorem d_HI_dropOldest_35 : decode c_HI_dropOldest 35 = .ok (.getfield 11, 3) := by decide +kernel
theorem d_HI_dropOldest_38 : decode c_HI_dropOldest 38 = .ok (.iconst 3, 1) := by decide +kernel
theorem d_HI_dropOldest_39 : decode c_HI_dropOldest 39 = .ok (.aload_n 1, 1) := by decide +kernel
theorem d_HI_dropOldest_40 : decode c_HI_dropOldest 40 = .ok (.aastore, 1) := by decide +kernel
theorem d_HI_dropOldest_41 : decode c_HI_dropOldest 41 = .ok (.aload_n 0, 1) := by decide +kernel
theorem d_HI_dropOldest_42 : decode c_HI_dropOldest 42 = .ok (.iconst 3, 1) := by decide +kernel
theorem d_HI_dropOldest_43 : decode c_HI_dropOldest 43 = .ok (.putfield 18, 3) := by decide +kernel
theorem d_HI_dropOldest_46 : decode c_HI_dropOldest 46 = .ok (.return_, 1) := by decide +kernel
theorem d_HI_takeBack_0 : decode c_HI_takeBack 0 = .ok (.aload_n 0, 1) := by decide +kernel
theorem d_HI_takeBack_1 : decode c_HI_takeBack 1 = .ok (.getfield 18, 3) := by decide +kernel
theorem d_HI_takeBack_4 : decode c_HI_takeBack 4 = .ok (.iconst 1, 1) := by decide +kernel
theorem d_HI_takeBack_5 : decode c_HI_takeBack 5 = .ok (.isub, 1) := by decide +kernel
theorem d_HI_takeBack_6 : decode c_HI_takeBack 6 = .ok (.iconst 4, 1) := by decide +kernel
theorem d_HI_takeBack_7 : decode c_HI_takeBack 7 = .ok (.invokestatic 25, 3) := by decide +kernel
theorem d_HI_takeBack_10 : decode c_HI_takeBack 10 = .ok (.ifCond .eq 26, 3) := by decide +kernel
theorem d_HI_takeBack_13 : decode c_HI_takeBack 13 = .ok (.aload_n 0, 1) := by decide +kernel
theorem d_HI_takeBack_14 : decode c_HI_takeBack 14 = .ok (.dup, 1) := by decide +kernel
theorem d_HI_takeBack_15 : decode c_HI_takeBack 15 = .ok (.getfield 18, 3) := by decide +kernel
theorem d_HI_takeBack_18 : decode c_HI_takeBack 18 = .ok (.iconst 1, 1) := by decide +kernel
theorem d_HI_takeBack_19 : decode c_HI_takeBack 19 = .ok (.isub, 1) := by decide +kernel
theorem d_HI_takeBack_20 : decode c_HI_takeBack 20 = .ok (.putfield 18, 3) := by decide +kernel
theorem d_HI_takeBack_23 : decode c_HI_takeBack 23 = .ok (.aload_n 1, 1) := by decide +kernel
theorem d_HI_takeBack_24 : decode c_HI_takeBack 24 = .ok (.aload_n 0, 1) := by decide +kernel
theorem d_HI_takeBack_25 : decode c_HI_takeBack 25 = .ok (.getfield 11, 3) := by decide +kernel
theorem d_HI_takeBack_28 : decode c_HI_takeBack 28 = .ok (.aload_n 0, 1) := by decide +kernel
theorem d_HI_takeBack_29 : decode c_HI_takeBack 29 = .ok (.getfield 18, 3) := by decide +kernel
theorem d_HI_takeBack_32 : decode c_HI_takeBack 32 = .ok (.aaload, 1) := by decide +kernel
theorem d_HI_takeBack_33 : decode c_HI_takeBack 33 = .ok (.invokevirtual 29, 3) := by decide +kernel
theorem d_HI_takeBack_36 : decode c_HI_takeBack 36 = .ok (.return_, 1) := by decide +kernel
theorem d_OR_init_0 : decode c_OR_init 0 = .ok (.aload_n 0, 1) := by decide +kernel
theorem d_OR_init_1 : decode c_OR_init 1 = .ok (.invokespecial 3, 3) := by decide +kernel
theorem d_OR_init_4 : decode c_OR_init 4 = .ok (.aload_n 0, 1) := by decide +kernel
theorem d_OR_init_5 : decode c_OR_init 5 = .ok (.bipush 20, 2) := by decide +kernel
theorem d_OR_init_7 : decode c_OR_init 7 = .ok (.newarray .boolean, 2) := by decide +kernel
theorem d_OR_init_9 : decode c_OR_init 9 = .ok (.putfield 9, 3) := by decide +kernel
theorem d_OR_init_12 : decode c_OR_init 12 = .ok (.aload_n 0, 1) := by decide +kernel
theorem d_OR_init_13 : decode c_OR_init 13 = .ok (.bipush 20, 2) := by decide +kernel
theorem d_OR_init_15 : decode c_OR_init 15 = .ok (.newarray .int, 2) := by decide +kernel
theorem d_OR_init_17 : decode c_OR_init 17 = .ok (.putfield 15, 3) := by decide +kernel
theorem d_OR_init_20 : decode c_OR_init 20 = .ok (.aload_n 0, 1) := by decide +kernel
theorem d_OR_init_21 : decode c_OR_init 21 = .ok (.bipush 20, 2) := by decide +kernel
theorem d_OR_init_23 : decode c_OR_init 23 = .ok (.newarray .int, 2) := by decide +kernel
theorem d_OR_init_25 : decode c_OR_init 25 = .ok (.putfield 19, 3) := by decide +kernel
theorem d_OR_init_28 : decode c_OR_init 28 = .ok (.aload_n 0, 1) := by decide +kernel
theorem d_OR_init_29 : decode c_OR_init 29 = .ok (.bipush 20, 2) := by decide +kernel
theorem d_OR_init_31 : decode c_OR_init 31 = .ok (.newarray .int, 2) := by decide +kernel
theorem d_OR_init_33 : decode c_OR_init 33 = .ok (.putfield 22, 3) := by decide +kernel
theorem d_OR_init_36 : decode c_OR_init 36 = .ok (.return_, 1) := by decide +kernel
theorem d_OR_clearKeys_0 : decode c_OR_clearKeys 0 = .ok (.iconst 0, 1) := by decide +kernel
theorem d_OR_clearKeys_1 : decode c_OR_clearKeys 1 = .ok (.istore_n 1, 1) := by decide +kernel
theorem d_OR_clearKeys_2 : decode c_OR_clearKeys 2 = .ok (.iload_n 1, 1) := by decide +kernel
theorem d_OR_clearKeys_3 : decode c_OR_clearKeys 3 = .ok (.bipush 20, 2) := by decide +kernel
theorem d_OR_clearKeys_5 : decode c_OR_clearKeys 5 = .ok (.if_icmp .ge 16, 3) := by decide +kernel
theorem d_OR_clearKeys_8 : decode c_OR_clearKeys 8 = .ok (.aload_n 0, 1) := by decide +kernel
theorem d_OR_clearKeys_9 : decode c_OR_clearKeys 9 = .ok (.getfield 9, 3) := by decide +kernel
theorem d_OR_clearKeys_12 : decode c_OR_clearKeys 12 = .ok (.iload_n 1, 1) := by decide +kernel
theorem d_OR_clearKeys_13 : decode c_OR_clearKeys 13 = .ok (.iconst 0, 1) := by decide +kernel
theorem d_OR_clearKeys_14 : decode c_OR_clearKeys 14 = .ok (.bastore, 1) := by decide +kernel
theorem d_OR_clearKeys_15 : decode c_OR_clearKeys 15 = .ok (.iinc 1 1, 3) := by decide +kernel
theorem d_OR_clearKeys_18 : decode c_OR_clearKeys 18 = .ok (.goto (-16), 3) := by decide +kernel
theorem d_OR_clearKeys_21 : decode c_OR_clearKeys 21 = .ok (.return_, 1) := by decide +kernel
theorem d_OR_giveKey_0 : decode c_OR_giveKey 0 = .ok (.iload_n 1, 1) := by decide +kernel
theorem d_OR_giveKey_1 : decode c_OR_giveKey 1 = .ok (.bipush 20, 2) := by decide +kernel
theorem d_OR_giveKey_3 : decode c_OR_giveKey 3 = .ok (.invokestatic 25, 3) := by decide +kernel
theorem d_OR_giveKey_6 : decode c_OR_giveKey 6 = .ok (.ifCond .eq 17, 3) := by decide +kernel
theorem d_OR_giveKey_9 : decode c_OR_giveKey 9 = .ok (.aload_n 0, 1) := by decide +kernel
theorem d_OR_giveKey_10 : decode c_OR_giveKey 10 = .ok (.getfield 9, 3) := by decide +kernel
theorem d_OR_giveKey_13 : decode c_OR_giveKey 13 = .ok (.iload_n 1, 1) := by decide +kernel
theorem d_OR_giveKey_14 : decode c_OR_giveKey 14 = .ok (.iconst 1, 1) := by decide +kernel
theorem d_OR_giveKey_15 : decode c_OR_giveKey 15 = .ok (.bastore, 1) := by decide +kernel
theorem d_OR_giveKey_16 : decode c_OR_giveKey 16 = .ok (.aload_n 0, 1) := by decide +kernel
theorem d_OR_giveKey_17 : decode c_OR_giveKey 17 = .ok (.getfield 15, 3) := by decide +kernel
theorem d_OR_giveKey_20 : decode c_OR_giveKey 20 = .ok (.iload_n 1, 1) := by decide +kernel
theorem d_OR_giveKey_21 : decode c_OR_giveKey 21 = .ok (.iload_n 2, 1) := by decide +kernel
theorem d_OR_giveKey_22 : decode c_OR_giveKey 22 = .ok (.iastore, 1) := by decide +kernel
theorem d_OR_giveKey_23 : decode c_OR_giveKey 23 = .ok (.return_, 1) := by decide +kernel
theorem d_OR_fill_0 : decode c_OR_fill 0 = .ok (.aload_n 0, 1) := by decide +kernel
theorem d_OR_fill_1 : decode c_OR_fill 1 = .ok (.getfield 19, 3) := by decide +kernel
theorem d_OR_fill_4 : decode c_OR_fill 4 = .ok (.bipush (-5), 2) := by decide +kernel
theorem d_OR_fill_6 : decode c_OR_fill 6 = .ok (.invokestatic 29, 3) := by decide +kernel
theorem d_OR_fill_9 : decode c_OR_fill 9 = .ok (.aload_n 0, 1) := by decide +kernel
theorem d_OR_fill_10 : decode c_OR_fill 10 = .ok (.getfield 22, 3) := by decide +kernel
theorem d_OR_fill_13 : decode c_OR_fill 13 = .ok (.bipush (-5), 2) := by decide +kernel
theorem d_OR_fill_15 : decode c_OR_fill 15 = .ok (.invokestatic 29, 3) := by decide +kernel
theorem d_OR_fill_18 : decode c_OR_fill 18 = .ok (.iconst 0, 1) := by decide +kernel
theorem d_OR_fill_19 : decode c_OR_fill 19 = .ok (.istore_n 1, 1) := by decide +kernel
theorem d_OR_fill_20 : decode c_OR_fill 20 = .ok (.iload_n 1, 1) := by decide +kernel
theorem d_OR_fill_21 : decode c_OR_fill 21 = .ok (.bipush 20, 2) := by decide +kernel
theorem d_OR_fill_23 : decode c_OR_fill 23 = .ok (.if_icmp .ge 47, 3) := by decide +kernel
theorem d_OR_fill_26 : decode c_OR_fill 26 = .ok (.aload_n 0, 1) := by decide +kernel
theorem d_OR_fill_27 : decode c_OR_fill 27 = .ok (.getfield 9, 3) := by decide +kernel
theorem d_OR_fill_30 : decode c_OR_fill 30 = .ok (.iload_n 1, 1) := by decide +kernel
theorem d_OR_fill_31 : decode c_OR_fill 31 = .ok (.baload, 1) := by decide +kernel
theorem d_OR_fill_32 : decode c_OR_fill 32 = .ok (.ifCond .eq 32, 3) := by decide +kernel
theorem d_OR_fill_35 : decode c_OR_fill 35 = .ok (.aload_n 0, 1) := by decide +kernel
theorem d_OR_fill_36 : decode c_OR_fill 36 = .ok (.iload_n 1, 1) := by decide +kernel
theorem d_OR_fill_37 : decode c_OR_fill 37 = .ok (.invokevirtual 35, 3) := by decide +kernel
theorem d_OR_fill_40 : decode c_OR_fill 40 = .ok (.istore_n 2, 1) := by decide +kernel
theorem d_OR_fill_41 : decode c_OR_fill 41 = .ok (.aload_n 0, 1) := by decide +kernel
theorem d_OR_fill_42 : decode c_OR_fill 42 = .ok (.getfield 19, 3) := by decide +kernel
theorem d_OR_fill_45 : decode c_OR_fill 45 = .ok (.iload_n 1, 1) := by decide +kernel
theorem d_OR_fill_46 : decode c_OR_fill 46 = .ok (.iconst 1, 1) := by decide +kernel
theorem d_OR_fill_47 : decode c_OR_fill 47 = .ok (.iload_n 2, 1) := by decide +kernel
theorem d_OR_fill_48 : decode c_OR_fill 48 = .ok (.iadd, 1) := by decide +kernel
theorem d_OR_fill_49 : decode c_OR_fill 49 = .ok (.iastore, 1) := by decide +kernel
theorem d_OR_fill_50 : decode c_OR_fill 50 = .ok (.aload_n 0, 1) := by decide +kernel
theorem d_OR_fill_51 : decode c_OR_fill 51 = .ok (.getfield 22, 3) := by decide +kernel
theorem d_OR_fill_54 : decode c_OR_fill 54 = .ok (.iload_n 1, 1) := by decide +kernel
theorem d_OR_fill_55 : decode c_OR_fill 55 = .ok (.iload_n 2, 1) := by decide +kernel
theorem d_OR_fill_56 : decode c_OR_fill 56 = .ok (.aload_n 0, 1) := by decide +kernel
theorem d_OR_fill_57 : decode c_OR_fill 57 = .ok (.iload_n 1, 1) := by decide +kernel
theorem d_OR_fill_58 : decode c_OR_fill 58 = .ok (.iload_n 1, 1) := by decide +kernel
theorem d_OR_fill_59 : decode c_OR_fill 59 = .ok (.invokevirtual 39, 3) := by decide +kernel
theorem d_OR_fill_62 : decode c_OR_fill 62 = .ok (.iadd, 1) := by decide +kernel
theorem d_OR_fill_63 : decode c_OR_fill 63 = .ok (.iastore, 1) := by decide +kernel
theorem d_OR_fill_64 : decode c_OR_fill 64 = .ok (.iinc 1 1, 3) := by decide +kernel
theorem d_OR_fill_67 : decode c_OR_fill 67 = .ok (.goto (-47), 3) := by decide +kernel
theorem d_OR_fill_70 : decode c_OR_fill 70 = .ok (.return_, 1) := by decide +kernel
theorem d_OR_groupsAhead_0 : decode c_OR_groupsAhead 0 = .ok (.iconst 0, 1) := by decide +kernel
theorem d_OR_groupsAhead_1 : decode c_OR_groupsAhead 1 = .ok (.istore_n 2, 1) := by decide +kernel
theorem d_OR_groupsAhead_2 : decode c_OR_groupsAhead 2 = .ok (.iconst 0, 1) := by decide +kernel
theorem d_OR_groupsAhead_3 : decode c_OR_groupsAhead 3 = .ok (.istore_n 3, 1) := by decide +kernel
theorem d_OR_groupsAhead_4 : decode c_OR_groupsAhead 4 = .ok (.iload_n 3, 1) := by decide +kernel
theorem d_OR_groupsAhead_5 : decode c_OR_groupsAhead 5 = .ok (.bipush 20, 2) := by decide +kernel
theorem d_OR_groupsAhead_7 : decode c_OR_groupsAhead 7 = .ok (.if_icmp .ge 38, 3) := by decide +kernel
theorem d_OR_groupsAhead_10 : decode c_OR_groupsAhead 10 = .ok (.aload_n 0, 1) := by decide +kernel
theorem d_OR_groupsAhead_11 : decode c_OR_groupsAhead 11 = .ok (.getfield 9, 3) := by decide +kernel
theorem d_OR_groupsAhead_14 : decode c_OR_groupsAhead 14 = .ok (.iload_n 3, 1) := by decide +kernel
theorem d_OR_groupsAhead_15 : decode c_OR_groupsAhead 15 = .ok (.baload, 1) := by decide +kernel
theorem d_OR_groupsAhead_16 : decode c_OR_groupsAhead 16 = .ok (.ifCond .eq 23, 3) := by decide +kernel
theorem d_OR_groupsAhead_19 : decode c_OR_groupsAhead 19 = .ok (.aload_n 0, 1) := by decide +kernel
theorem d_OR_groupsAhead_20 : decode c_OR_groupsAhead 20 = .ok (.getfield 15, 3) := by decide +kernel
theorem d_OR_groupsAhead_23 : decode c_OR_groupsAhead 23 = .ok (.iload_n 3, 1) := by decide +kernel
theorem d_OR_groupsAhead_24 : decode c_OR_groupsAhead 24 = .ok (.iaload, 1) := by decide +kernel
theorem d_OR_groupsAhead_25 : decode c_OR_groupsAhead 25 = .ok (.aload_n 0, 1) := by decide +kernel
theorem d_OR_groupsAhead_26 : decode c_OR_groupsAhead 26 = .ok (.getfield 15, 3) := by decide +kernel
theorem d_OR_groupsAhead_29 : decode c_OR_groupsAhead 29 = .ok (.iload_n 1, 1) := by decide +kernel
theorem d_OR_groupsAhead_30 : decode c_OR_groupsAhead 30 = .ok (.invokestatic 43, 3) := by decide +kernel
theorem d_OR_groupsAhead_33 : decode c_OR_groupsAhead 33 = .ok (.if_icmp .le 6, 3) := by decide +kernel
theorem d_OR_groupsAhead_36 : decode c_OR_groupsAhead 36 = .ok (.iinc 2 1, 3) := by decide +kernel
theorem d_OR_groupsAhead_39 : decode c_OR_groupsAhead 39 = .ok (.iinc 3 1, 3) := by decide +kernel
theorem d_OR_groupsAhead_42 : decode c_OR_groupsAhead 42 = .ok (.goto (-38), 3) := by decide +kernel
theorem d_OR_groupsAhead_45 : decode c_OR_groupsAhead 45 = .ok (.iload_n 2, 1) := by decide +kernel
theorem d_OR_groupsAhead_46 : decode c_OR_groupsAhead 46 = .ok (.ireturn, 1) := by decide +kernel
theorem d_OR_tiedBelow_0 : decode c_OR_tiedBelow 0 = .ok (.iconst 0, 1) := by decide +kernel
theorem d_OR_tiedBelow_1 : decode c_OR_tiedBelow 1 = .ok (.istore_n 3, 1) := by decide +kernel
theorem d_OR_tiedBelow_2 : decode c_OR_tiedBelow 2 = .ok (.iconst 0, 1) := by decide +kernel
theorem d_OR_tiedBelow_3 : decode c_OR_tiedBelow 3 = .ok (.istore 4, 2) := by decide +kernel
theorem d_OR_tiedBelow_5 : decode c_OR_tiedBelow 5 = .ok (.iload 4, 2) := by decide +kernel
theorem d_OR_tiedBelow_7 : decode c_OR_tiedBelow 7 = .ok (.bipush 20, 2) := by decide +kernel
theorem d_OR_tiedBelow_9 : decode c_OR_tiedBelow 9 = .ok (.if_icmp .ge 46, 3) := by decide +kernel
theorem d_OR_tiedBelow_12 : decode c_OR_tiedBelow 12 = .ok (.iload 4, 2) := by decide +kernel
theorem d_OR_tiedBelow_14 : decode c_OR_tiedBelow 14 = .ok (.iload_n 2, 1) := by decide +kernel
theorem d_OR_tiedBelow_15 : decode c_OR_tiedBelow 15 = .ok (.if_icmp .ge 40, 3) := by decide +kernel
theorem d_OR_tiedBelow_18 : decode c_OR_tiedBelow 18 = .ok (.aload_n 0, 1) := by decide +kernel
theorem d_OR_tiedBelow_19 : decode c_OR_tiedBelow 19 = .ok (.getfield 9, 3) := by decide +kernel
theorem d_OR_tiedBelow_22 : decode c_OR_tiedBelow 22 = .ok (.iload 4, 2) := by decide +kernel
theorem d_OR_tiedBelow_24 : decode c_OR_tiedBelow 24 = .ok (.baload, 1) := by decide +kernel
theorem d_OR_tiedBelow_25 : decode c_OR_tiedBelow 25 = .ok (.ifCond .eq 24, 3) := by decide +kernel
theorem d_OR_tiedBelow_28 : decode c_OR_tiedBelow 28 = .ok (.aload_n 0, 1) := by decide +kernel
theorem d_OR_tiedBelow_29 : decode c_OR_tiedBelow 29 = .ok (.getfield 15, 3) := by decide +kernel
theorem d_OR_tiedBelow_32 : decode c_OR_tiedBelow 32 = .ok (.iload 4, 2) := by decide +kernel
theorem d_OR_tiedBelow_34 : decode c_OR_tiedBelow 34 = .ok (.iaload, 1) := by decide +kernel
theorem d_OR_tiedBelow_35 : decode c_OR_tiedBelow 35 = .ok (.aload_n 0, 1) := by decide +kernel
theorem d_OR_tiedBelow_36 : decode c_OR_tiedBelow 36 = .ok (.getfield 15, 3) := by decide +kernel
theorem d_OR_tiedBelow_39 : decode c_OR_tiedBelow 39 = .ok (.iload_n 1, 1) := by decide +kernel
theorem d_OR_tiedBelow_40 : decode c_OR_tiedBelow 40 = .ok (.invokestatic 43, 3) := by decide +kernel
theorem d_OR_tiedBelow_43 : decode c_OR_tiedBelow 43 = .ok (.if_icmp .ne 6, 3) := by decide +kernel
theorem d_OR_tiedBelow_46 : decode c_OR_tiedBelow 46 = .ok (.iinc 3 1, 3) := by decide +kernel
theorem d_OR_tiedBelow_49 : decode c_OR_tiedBelow 49 = .ok (.iinc 4 1, 3) := by decide +kernel
theorem d_OR_tiedBelow_52 : decode c_OR_tiedBelow 52 = .ok (.goto (-47), 3) := by decide +kernel
theorem d_OR_tiedBelow_55 : decode c_OR_tiedBelow 55 = .ok (.iload_n 3, 1) := by decide +kernel
theorem d_OR_tiedBelow_56 : decode c_OR_tiedBelow 56 = .ok (.ireturn, 1) := by decide +kernel
theorem d_OR_tiedWith_0 : decode c_OR_tiedWith 0 = .ok (.aload_n 0, 1) := by decide +kernel
theorem d_OR_tiedWith_1 : decode c_OR_tiedWith 1 = .ok (.iload_n 1, 1) := by decide +kernel
theorem d_OR_tiedWith_2 : decode c_OR_tiedWith 2 = .ok (.bipush 20, 2) := by decide +kernel
theorem d_OR_tiedWith_4 : decode c_OR_tiedWith 4 = .ok (.invokevirtual 39, 3) := by decide +kernel
theorem d_OR_tiedWith_7 : decode c_OR_tiedWith 7 = .ok (.ireturn, 1) := by decide +kernel
theorem d_OR_tiedGroups_0 : decode c_OR_tiedGroups 0 = .ok (.iconst 0, 1) := by decide +kernel
theorem d_OR_tiedGroups_1 : decode c_OR_tiedGroups 1 = .ok (.istore_n 1, 1) := by decide +kernel
theorem d_OR_tiedGroups_2 : decode c_OR_tiedGroups 2 = .ok (.iconst 0, 1) := by decide +kernel
theorem d_OR_tiedGroups_3 : decode c_OR_tiedGroups 3 = .ok (.istore_n 2, 1) := by decide +kernel
theorem d_OR_tiedGroups_4 : decode c_OR_tiedGroups 4 = .ok (.iload_n 2, 1) := by decide +kernel
theorem d_OR_tiedGroups_5 : decode c_OR_tiedGroups 5 = .ok (.bipush 20, 2) := by decide +kernel
theorem d_OR_tiedGroups_7 : decode c_OR_tiedGroups 7 = .ok (.if_icmp .ge 30, 3) := by decide +kernel
theorem d_OR_tiedGroups_10 : decode c_OR_tiedGroups 10 = .ok (.aload_n 0, 1) := by decide +kernel
theorem d_OR_tiedGroups_11 : decode c_OR_tiedGroups 11 = .ok (.getfield 9, 3) := by decide +kernel
theorem d_OR_tiedGroups_14 : decode c_OR_tiedGroups 14 = .ok (.iload_n 2, 1) := by decide +kernel
theorem d_OR_tiedGroups_15 : decode c_OR_tiedGroups 15 = .ok (.baload, 1) := by decide +kernel
theorem d_OR_tiedGroups_16 : decode c_OR_tiedGroups 16 = .ok (.ifCond .eq 15, 3) := by decide +kernel
theorem d_OR_tiedGroups_19 : decode c_OR_tiedGroups 19 = .ok (.aload_n 0, 1) := by decide +kernel
theorem d_OR_tiedGroups_20 : decode c_OR_tiedGroups 20 = .ok (.iload_n 2, 1) := by decide +kernel
theorem d_OR_tiedGroups_21 : decode c_OR_tiedGroups 21 = .ok (.invokevirtual 47, 3) := by decide +kernel
theorem d_OR_tiedGroups_24 : decode c_OR_tiedGroups 24 = .ok (.iconst 1, 1) := by decide +kernel
theorem d_OR_tiedGroups_25 : decode c_OR_tiedGroups 25 = .ok (.if_icmp .le 6, 3) := by decide +kernel
theorem d_OR_tiedGroups_28 : decode c_OR_tiedGroups 28 = .ok (.iinc 1 1, 3) := by decide +kernel
theorem d_OR_tiedGroups_31 : decode c_OR_tiedGroups 31 = .ok (.iinc 2 1, 3) := by decide +kernel
theorem d_OR_tiedGroups_34 : decode c_OR_tiedGroups 34 = .ok (.goto (-30), 3) := by decide +kernel
theorem d_OR_tiedGroups_37 : decode c_OR_tiedGroups 37 = .ok (.iload_n 1, 1) := by decide +kernel
theorem d_OR_tiedGroups_38 : decode c_OR_tiedGroups 38 = .ok (.ireturn, 1) := by decide +kernel
theorem d_OR_placeOf_0 : decode c_OR_placeOf 0 = .ok (.aload_n 0, 1) := by decide +kernel
theorem d_OR_placeOf_1 : decode c_OR_placeOf 1 = .ok (.getfield 19, 3) := by decide +kernel
theorem d_OR_placeOf_4 : decode c_OR_placeOf 4 = .ok (.iload_n 1, 1) := by decide +kernel
theorem d_OR_placeOf_5 : decode c_OR_placeOf 5 = .ok (.invokestatic 43, 3) := by decide +kernel
theorem d_OR_placeOf_8 : decode c_OR_placeOf 8 = .ok (.ireturn, 1) := by decide +kernel
theorem d_OR_headAt_0 : decode c_OR_headAt 0 = .ok (.iconst 0, 1) := by decide +kernel
theorem d_OR_headAt_1 : decode c_OR_headAt 1 = .ok (.istore_n 2, 1) := by decide +kernel
theorem d_OR_headAt_2 : decode c_OR_headAt 2 = .ok (.iload_n 2, 1) := by decide +kernel
theorem d_OR_headAt_3 : decode c_OR_headAt 3 = .ok (.bipush 20, 2) := by decide +kernel
theorem d_OR_headAt_5 : decode c_OR_headAt 5 = .ok (.if_icmp .ge 21, 3) := by decide +kernel
theorem d_OR_headAt_8 : decode c_OR_headAt 8 = .ok (.aload_n 0, 1) := by decide +kernel
theorem d_OR_headAt_9 : decode c_OR_headAt 9 = .ok (.getfield 22, 3) := by decide +kernel
theorem d_OR_headAt_12 : decode c_OR_headAt 12 = .ok (.iload_n 2, 1) := by decide +kernel
theorem d_OR_headAt_13 : decode c_OR_headAt 13 = .ok (.iaload, 1) := by decide +kernel
theorem d_OR_headAt_14 : decode c_OR_headAt 14 = .ok (.iload_n 1, 1) := by decide +kernel
theorem d_OR_headAt_15 : decode c_OR_headAt 15 = .ok (.if_icmp .ne 5, 3) := by decide +kernel
theorem d_OR_headAt_18 : decode c_OR_headAt 18 = .ok (.iload_n 2, 1) := by decide +kernel
theorem d_OR_headAt_19 : decode c_OR_headAt 19 = .ok (.ireturn, 1) := by decide +kernel
theorem d_OR_headAt_20 : decode c_OR_headAt 20 = .ok (.iinc 2 1, 3) := by decide +kernel
theorem d_OR_headAt_23 : decode c_OR_headAt 23 = .ok (.goto (-21), 3) := by decide +kernel
theorem d_OR_headAt_26 : decode c_OR_headAt 26 = .ok (.bipush (-5), 2) := by decide +kernel
theorem d_OR_headAt_28 : decode c_OR_headAt 28 = .ok (.ireturn, 1) := by decide +kernel
theorem d_RA_init_0 : decode c_RA_init 0 = .ok (.aload_n 0, 1) := by decide +kernel
theorem d_RA_init_1 : decode c_RA_init 1 = .ok (.invokespecial 3, 3) := by decide +kernel
theorem d_RA_init_4 : decode c_RA_init 4 = .ok (.aload_n 0, 1) := by decide +kernel
theorem d_RA_init_5 : decode c_RA_init 5 = .ok (.bipush 60, 2) := by decide +kernel
theorem d_RA_init_7 : decode c_RA_init 7 = .ok (.newarray .int, 2) := by decide +kernel
theorem d_RA_init_9 : decode c_RA_init 9 = .ok (.putfield 9, 3) := by decide +kernel
theorem d_RA_init_12 : decode c_RA_init 12 = .ok (.aload_n 0, 1) := by decide +kernel
theorem d_RA_init_13 : decode c_RA_init 13 = .ok (.bipush 60, 2) := by decide +kernel
theorem d_RA_init_15 : decode c_RA_init 15 = .ok (.newarray .int, 2) := by decide +kernel
theorem d_RA_init_17 : decode c_RA_init 17 = .ok (.putfield 15, 3) := by decide +kernel
theorem d_RA_init_20 : decode c_RA_init 20 = .ok (.aload_n 0, 1) := by decide +kernel
theorem d_RA_init_21 : decode c_RA_init 21 = .ok (.bipush 20, 2) := by decide +kernel
theorem d_RA_init_23 : decode c_RA_init 23 = .ok (.newarray .int, 2) := by decide +kernel
theorem d_RA_init_25 : decode c_RA_init 25 = .ok (.putfield 18, 3) := by decide +kernel
theorem d_RA_init_28 : decode c_RA_init 28 = .ok (.return_, 1) := by decide +kernel
theorem d_RA_fill_0 : decode c_RA_fill 0 = .ok (.aload_n 0, 1) := by decide +kernel
theorem d_RA_fill_1 : decode c_RA_fill 1 = .ok (.getfield 9, 3) := by decide +kernel
theorem d_RA_fill_4 : decode c_RA_fill 4 = .ok (.iconst 0, 1) := by decide +kernel
theorem d_RA_fill_5 : decode c_RA_fill 5 = .ok (.invokestatic 21, 3) := by decide +kernel
theorem d_RA_fill_8 : decode c_RA_fill 8 = .ok (.aload_n 0, 1) := by decide +kernel
theorem d_RA_fill_9 : decode c_RA_fill 9 = .ok (.getfield 15, 3) := by decide +kernel
theorem d_RA_fill_12 : decode c_RA_fill 12 = .ok (.iconst 0, 1) := by decide +kernel
theorem d_RA_fill_13 : decode c_RA_fill 13 = .ok (.invokestatic 21, 3) := by decide +kernel
theorem d_RA_fill_16 : decode c_RA_fill 16 = .ok (.aload_n 0, 1) := by decide +kernel
theorem d_RA_fill_17 : decode c_RA_fill 17 = .ok (.getfield 18, 3) := by decide +kernel
theorem d_RA_fill_20 : decode c_RA_fill 20 = .ok (.iconst 0, 1) := by decide +kernel
theorem d_RA_fill_21 : decode c_RA_fill 21 = .ok (.invokestatic 21, 3) := by decide +kernel
theorem d_RA_fill_24 : decode c_RA_fill 24 = .ok (.iconst 0, 1) := by decide +kernel
theorem d_RA_fill_25 : decode c_RA_fill 25 = .ok (.istore_n 3, 1) := by decide +kernel
theorem d_RA_fill_26 : decode c_RA_fill 26 = .ok (.iload_n 3, 1) := by decide +kernel
theorem d_RA_fill_27 : decode c_RA_fill 27 = .ok (.iconst 3, 1) := by decide +kernel
theorem d_RA_fill_28 : decode c_RA_fill 28 = .ok (.if_icmp .ge 22, 3) := by decide +kernel
theorem d_RA_fill_31 : decode c_RA_fill 31 = .ok (.aload_n 0, 1) := by decide +kernel
theorem d_RA_fill_32 : decode c_RA_fill 32 = .ok (.aload_n 1, 1) := by decide +kernel
theorem d_RA_fill_33 : decode c_RA_fill 33 = .ok (.aload_n 2, 1) := by decide +kernel
theorem d_RA_fill_34 : decode c_RA_fill 34 = .ok (.iload_n 3, 1) := by decide +kernel
theorem d_RA_fill_35 : decode c_RA_fill 35 = .ok (.invokevirtual 27, 3) := by decide +kernel
theorem d_RA_fill_38 : decode c_RA_fill 38 = .ok (.aload_n 0, 1) := by decide +kernel
theorem d_RA_fill_39 : decode c_RA_fill 39 = .ok (.aload_n 2, 1) := by decide +kernel
theorem d_RA_fill_40 : decode c_RA_fill 40 = .ok (.iload_n 3, 1) := by decide +kernel
theorem d_RA_fill_41 : decode c_RA_fill 41 = .ok (.invokevirtual 31, 3) := by decide +kernel
theorem d_RA_fill_44 : decode c_RA_fill 44 = .ok (.iinc 3 1, 3) := by decide +kernel
theorem d_RA_fill_47 : decode c_RA_fill 47 = .ok (.goto (-21), 3) := by decide +kernel
theorem d_RA_fill_50 : decode c_RA_fill 50 = .ok (.return_, 1) := by decide +kernel
theorem d_RA_fillPoints_0 : decode c_RA_fillPoints 0 = .ok (.iconst 0, 1) := by decide +kernel
theorem d_RA_fillPoints_1 : decode c_RA_fillPoints 1 = .ok (.istore 4, 2) := by decide +kernel
theorem d_RA_fillPoints_3 : decode c_RA_fillPoints 3 = .ok (.iload 4, 2) := by decide +kernel
theorem d_RA_fillPoints_5 : decode c_RA_fillPoints 5 = .ok (.bipush 20, 2) := by decide +kernel
theorem d_RA_fillPoints_7 : decode c_RA_fillPoints 7 = .ok (.if_icmp .ge 59, 3) := by decide +kernel
theorem d_RA_fillPoints_10 : decode c_RA_fillPoints 10 = .ok (.aload_n 2, 1) := by decide +kernel
theorem d_RA_fillPoints_11 : decode c_RA_fillPoints 11 = .ok (.iload 4, 2) := by decide +kernel
theorem d_RA_fillPoints_13 : decode c_RA_fillPoints 13 = .ok (.invokevirtual 35, 3) := by decide +kernel
theorem d_RA_fillPoints_16 : decode c_RA_fillPoints 16 = .ok (.istore 5, 2) := by decide +kernel
theorem d_RA_fillPoints_18 : decode c_RA_fillPoints 18 = .ok (.iload 5, 2) := by decide +kernel
theorem d_RA_fillPoints_20 : decode c_RA_fillPoints 20 = .ok (.bipush (-5), 2) := by decide +kernel
theorem d_RA_fillPoints_22 : decode c_RA_fillPoints 22 = .ok (.if_icmp .eq 38, 3) := by decide +kernel
theorem d_RA_fillPoints_25 : decode c_RA_fillPoints 25 = .ok (.aload_n 0, 1) := by decide +kernel
theorem d_RA_fillPoints_26 : decode c_RA_fillPoints 26 = .ok (.iload_n 3, 1) := by decide +kernel
theorem d_RA_fillPoints_27 : decode c_RA_fillPoints 27 = .ok (.iload 5, 2) := by decide +kernel
theorem d_RA_fillPoints_29 : decode c_RA_fillPoints 29 = .ok (.invokevirtual 41, 3) := by decide +kernel
theorem d_RA_fillPoints_32 : decode c_RA_fillPoints 32 = .ok (.aload_n 1, 1) := by decide +kernel
theorem d_RA_fillPoints_33 : decode c_RA_fillPoints 33 = .ok (.iload_n 3, 1) := by decide +kernel
theorem d_RA_fillPoints_34 : decode c_RA_fillPoints 34 = .ok (.iload 4, 2) := by decide +kernel
theorem d_RA_fillPoints_36 : decode c_RA_fillPoints 36 = .ok (.invokevirtual 45, 3) := by decide +kernel
theorem d_RA_fillPoints_39 : decode c_RA_fillPoints 39 = .ok (.invokestatic 48, 3) := by decide +kernel
theorem d_RA_fillPoints_42 : decode c_RA_fillPoints 42 = .ok (.istore 6, 2) := by decide +kernel
theorem d_RA_fillPoints_44 : decode c_RA_fillPoints 44 = .ok (.aload_n 0, 1) := by decide +kernel
theorem d_RA_fillPoints_45 : decode c_RA_fillPoints 45 = .ok (.getfield 9, 3) := by decide +kernel
theorem d_RA_fillPoints_48 : decode c_RA_fillPoints 48 = .ok (.iload_n 3, 1) := by decide +kernel
theorem d_RA_fillPoints_49 : decode c_RA_fillPoints 49 = .ok (.bipush 20, 2) := by decide +kernel
theorem d_RA_fillPoints_51 : decode c_RA_fillPoints 51 = .ok (.imul, 1) := by decide +kernel
theorem d_RA_fillPoints_52 : decode c_RA_fillPoints 52 = .ok (.iload 5, 2) := by decide +kernel
theorem d_RA_fillPoints_54 : decode c_RA_fillPoints 54 = .ok (.iadd, 1) := by decide +kernel
theorem d_RA_fillPoints_55 : decode c_RA_fillPoints 55 = .ok (.iload 6, 2) := by decide +kernel
theorem d_RA_fillPoints_57 : decode c_RA_fillPoints 57 = .ok (.invokestatic 53, 3) := by decide +kernel
theorem d_RA_fillPoints_60 : decode c_RA_fillPoints 60 = .ok (.iinc 4 1, 3) := by decide +kernel
theorem d_RA_fillPoints_63 : decode c_RA_fillPoints 63 = .ok (.goto (-60), 3) := by decide +kernel
theorem d_RA_fillPoints_66 : decode c_RA_fillPoints 66 = .ok (.return_, 1) := by decide +kernel
theorem d_RA_fillRanks_0 : decode c_RA_fillRanks 0 = .ok (.iconst 0, 1) := by decide +kernel
theorem d_RA_fillRanks_1 : decode c_RA_fillRanks 1 = .ok (.istore_n 3, 1) := by decide +kernel
theorem d_RA_fillRanks_2 : decode c_RA_fillRanks 2 = .ok (.iload_n 3, 1) := by decide +kernel
theorem d_RA_fillRanks_3 : decode c_RA_fillRanks 3 = .ok (.bipush 20, 2) := by decide +kernel
theorem d_RA_fillRanks_5 : decode c_RA_fillRanks 5 = .ok (.if_icmp .ge 59, 3) := by decide +kernel
theorem d_RA_fillRanks_8 : decode c_RA_fillRanks 8 = .ok (.aload_n 1, 1) := by decide +kernel
theorem d_RA_fillRanks_9 : decode c_RA_fillRanks 9 = .ok (.iload_n 3, 1) := by decide +kernel
theorem d_RA_fillRanks_10 : decode c_RA_fillRanks 10 = .ok (.invokevirtual 57, 3) := by decide +kernel
theorem d_RA_fillRanks_13 : decode c_RA_fillRanks 13 = .ok (.ifCond .eq 45, 3) := by decide +kernel
theorem d_RA_fillRanks_16 : decode c_RA_fillRanks 16 = .ok (.iconst 1, 1) := by decide +kernel
theorem d_RA_fillRanks_17 : decode c_RA_fillRanks 17 = .ok (.aload_n 0, 1) := by decide +kernel
theorem d_RA_fillRanks_18 : decode c_RA_fillRanks 18 = .ok (.aload_n 1, 1) := by decide +kernel
theorem d_RA_fillRanks_19 : decode c_RA_fillRanks 19 = .ok (.iload_n 2, 1) := by decide +kernel
theorem d_RA_fillRanks_20 : decode c_RA_fillRanks 20 = .ok (.aload_n 0, 1) := by decide +kernel
theorem d_RA_fillRanks_21 : decode c_RA_fillRanks 21 = .ok (.iload_n 2, 1) := by decide +kernel
theorem d_RA_fillRanks_22 : decode c_RA_fillRanks 22 = .ok (.iload_n 3, 1) := by decide +kernel
theorem d_RA_fillRanks_23 : decode c_RA_fillRanks 23 = .ok (.invokevirtual 41, 3) := by decide +kernel
theorem d_RA_fillRanks_26 : decode c_RA_fillRanks 26 = .ok (.invokevirtual 61, 3) := by decide +kernel
theorem d_RA_fillRanks_29 : decode c_RA_fillRanks 29 = .ok (.iadd, 1) := by decide +kernel
theorem d_RA_fillRanks_30 : decode c_RA_fillRanks 30 = .ok (.istore 4, 2) := by decide +kernel
theorem d_RA_fillRanks_32 : decode c_RA_fillRanks 32 = .ok (.aload_n 0, 1) := by decide +kernel
theorem d_RA_fillRanks_33 : decode c_RA_fillRanks 33 = .ok (.getfield 15, 3) := by decide +kernel
theorem d_RA_fillRanks_36 : decode c_RA_fillRanks 36 = .ok (.iload_n 2, 1) := by decide +kernel
theorem d_RA_fillRanks_37 : decode c_RA_fillRanks 37 = .ok (.bipush 20, 2) := by decide +kernel
theorem d_RA_fillRanks_39 : decode c_RA_fillRanks 39 = .ok (.imul, 1) := by decide +kernel
theorem d_RA_fillRanks_40 : decode c_RA_fillRanks 40 = .ok (.iload_n 3, 1) := by decide +kernel
theorem d_RA_fillRanks_41 : decode c_RA_fillRanks 41 = .ok (.iadd, 1) := by decide +kernel
theorem d_RA_fillRanks_42 : decode c_RA_fillRanks 42 = .ok (.iload 4, 2) := by decide +kernel
theorem d_RA_fillRanks_44 : decode c_RA_fillRanks 44 = .ok (.invokestatic 53, 3) := by decide +kernel
theorem d_RA_fillRanks_47 : decode c_RA_fillRanks 47 = .ok (.aload_n 0, 1) := by decide +kernel
theorem d_RA_fillRanks_48 : decode c_RA_fillRanks 48 = .ok (.getfield 18, 3) := by decide +kernel
theorem d_RA_fillRanks_51 : decode c_RA_fillRanks 51 = .ok (.iload_n 3, 1) := by decide +kernel
theorem d_RA_fillRanks_52 : decode c_RA_fillRanks 52 = .ok (.dup2, 1) := by decide +kernel
theorem d_RA_fillRanks_53 : decode c_RA_fillRanks 53 = .ok (.iaload, 1) := by decide +kernel
theorem d_RA_fillRanks_54 : decode c_RA_fillRanks 54 = .ok (.iload 4, 2) := by decide +kernel
theorem d_RA_fillRanks_56 : decode c_RA_fillRanks 56 = .ok (.iadd, 1) := by decide +kernel
theorem d_RA_fillRanks_57 : decode c_RA_fillRanks 57 = .ok (.iastore, 1) := by decide +kernel
theorem d_RA_fillRanks_58 : decode c_RA_fillRanks 58 = .ok (.iinc 3 1, 3) := by decide +kernel
theorem d_RA_fillRanks_61 : decode c_RA_fillRanks 61 = .ok (.goto (-59), 3) := by decide +kernel
theorem d_RA_fillRanks_64 : decode c_RA_fillRanks 64 = .ok (.return_, 1) := by decide +kernel
theorem d_RA_groupsWithMore_0 : decode c_RA_groupsWithMore 0 = .ok (.iconst 0, 1) := by decide +kernel
theorem d_RA_groupsWithMore_1 : decode c_RA_groupsWithMore 1 = .ok (.istore 4, 2) := by decide +kernel
theorem d_RA_groupsWithMore_3 : decode c_RA_groupsWithMore 3 = .ok (.iconst 0, 1) := by decide +kernel
theorem d_RA_groupsWithMore_4 : decode c_RA_groupsWithMore 4 = .ok (.istore 5, 2) := by decide +kernel
theorem d_RA_groupsWithMore_6 : decode c_RA_groupsWithMore 6 = .ok (.iload 5, 2) := by decide +kernel
theorem d_RA_groupsWithMore_8 : decode c_RA_groupsWithMore 8 = .ok (.bipush 20, 2) := by decide +kernel
theorem d_RA_groupsWithMore_10 : decode c_RA_groupsWithMore 10 = .ok (.if_icmp .ge 32, 3) := by decide +kernel
theorem d_RA_groupsWithMore_13 : decode c_RA_groupsWithMore 13 = .ok (.aload_n 1, 1) := by decide +kernel
theorem d_RA_groupsWithMore_14 : decode c_RA_groupsWithMore 14 = .ok (.iload 5, 2) := by decide +kernel
theorem d_RA_groupsWithMore_16 : decode c_RA_groupsWithMore 16 = .ok (.invokevirtual 57, 3) := by decide +kernel
theorem d_RA_groupsWithMore_19 : decode c_RA_groupsWithMore 19 = .ok (.ifCond .eq 17, 3) := by decide +kernel
theorem d_RA_groupsWithMore_22 : decode c_RA_groupsWithMore 22 = .ok (.aload_n 0, 1) := by decide +kernel
theorem d_RA_groupsWithMore_23 : decode c_RA_groupsWithMore 23 = .ok (.iload_n 2, 1) := by decide +kernel
theorem d_RA_groupsWithMore_24 : decode c_RA_groupsWithMore 24 = .ok (.iload 5, 2) := by decide +kernel
theorem d_RA_groupsWithMore_26 : decode c_RA_groupsWithMore 26 = .ok (.invokevirtual 41, 3) := by decide +kernel
theorem d_RA_groupsWithMore_29 : decode c_RA_groupsWithMore 29 = .ok (.iload_n 3, 1) := by decide +kernel
theorem d_RA_groupsWithMore_30 : decode c_RA_groupsWithMore 30 = .ok (.if_icmp .le 6, 3) := by decide +kernel
theorem d_RA_groupsWithMore_33 : decode c_RA_groupsWithMore 33 = .ok (.iinc 4 1, 3) := by decide +kernel
theorem d_RA_groupsWithMore_36 : decode c_RA_groupsWithMore 36 = .ok (.iinc 5 1, 3) := by decide +kernel
theorem d_RA_groupsWithMore_39 : decode c_RA_groupsWithMore 39 = .ok (.goto (-33), 3) := by decide +kernel
theorem d_RA_groupsWithMore_42 : decode c_RA_groupsWithMore 42 = .ok (.iload 4, 2) := by decide +kernel
theorem d_RA_groupsWithMore_44 : decode c_RA_groupsWithMore 44 = .ok (.ireturn, 1) := by decide +kernel
theorem d_RA_pointsBy_0 : decode c_RA_pointsBy 0 = .ok (.aload_n 0, 1) := by decide +kernel
theorem d_RA_pointsBy_1 : decode c_RA_pointsBy 1 = .ok (.getfield 9, 3) := by decide +kernel
theorem d_RA_pointsBy_4 : decode c_RA_pointsBy 4 = .ok (.iload_n 1, 1) := by decide +kernel
theorem d_RA_pointsBy_5 : decode c_RA_pointsBy 5 = .ok (.bipush 20, 2) := by decide +kernel
theorem d_RA_pointsBy_7 : decode c_RA_pointsBy 7 = .ok (.imul, 1) := by decide +kernel
theorem d_RA_pointsBy_8 : decode c_RA_pointsBy 8 = .ok (.iload_n 2, 1) := by decide +kernel
theorem d_RA_pointsBy_9 : decode c_RA_pointsBy 9 = .ok (.iadd, 1) := by decide +kernel
theorem d_RA_pointsBy_10 : decode c_RA_pointsBy 10 = .ok (.invokestatic 65, 3) := by decide +kernel
theorem d_RA_pointsBy_13 : decode c_RA_pointsBy 13 = .ok (.ireturn, 1) := by decide +kernel
theorem d_RA_rankBy_0 : decode c_RA_rankBy 0 = .ok (.aload_n 0, 1) := by decide +kernel
theorem d_RA_rankBy_1 : decode c_RA_rankBy 1 = .ok (.getfield 15, 3) := by decide +kernel
theorem d_RA_rankBy_4 : decode c_RA_rankBy 4 = .ok (.iload_n 1, 1) := by decide +kernel
theorem d_RA_rankBy_5 : decode c_RA_rankBy 5 = .ok (.bipush 20, 2) := by decide +kernel
theorem d_RA_rankBy_7 : decode c_RA_rankBy 7 = .ok (.imul, 1) := by decide +kernel
theorem d_RA_rankBy_8 : decode c_RA_rankBy 8 = .ok (.iload_n 2, 1) := by decide +kernel
theorem d_RA_rankBy_9 : decode c_RA_rankBy 9 = .ok (.iadd, 1) := by decide +kernel
theorem d_RA_rankBy_10 : decode c_RA_rankBy 10 = .ok (.invokestatic 65, 3) := by decide +kernel
theorem d_RA_rankBy_13 : decode c_RA_rankBy 13 = .ok (.ireturn, 1) := by decide +kernel
theorem d_RA_sumOf_0 : decode c_RA_sumOf 0 = .ok (.aload_n 0, 1) := by decide +kernel
theorem d_RA_sumOf_1 : decode c_RA_sumOf 1 = .ok (.getfield 18, 3) := by decide +kernel
theorem d_RA_sumOf_4 : decode c_RA_sumOf 4 = .ok (.iload_n 1, 1) := by decide +kernel
theorem d_RA_sumOf_5 : decode c_RA_sumOf 5 = .ok (.invokestatic 65, 3) := by decide +kernel
theorem d_RA_sumOf_8 : decode c_RA_sumOf 8 = .ok (.ireturn, 1) := by decide +kernel
theorem d_RO_init_0 : decode c_RO_init 0 = .ok (.aload_n 0, 1) := by decide +kernel
theorem d_RO_init_1 : decode c_RO_init 1 = .ok (.invokespecial 3, 3) := by decide +kernel
theorem d_RO_init_4 : decode c_RO_init 4 = .ok (.aload_n 0, 1) := by decide +kernel
theorem d_RO_init_5 : decode c_RO_init 5 = .ok (.bipush 20, 2) := by decide +kernel
theorem d_RO_init_7 : decode c_RO_init 7 = .ok (.newarray .boolean, 2) := by decide +kernel
theorem d_RO_init_9 : decode c_RO_init 9 = .ok (.putfield 9, 3) := by decide +kernel
theorem d_RO_init_12 : decode c_RO_init 12 = .ok (.aload_n 0, 1) := by decide +kernel
theorem d_RO_init_13 : decode c_RO_init 13 = .ok (.bipush 12, 2) := by decide +kernel
theorem d_RO_init_15 : decode c_RO_init 15 = .ok (.newarray .int, 2) := by decide +kernel
theorem d_RO_init_17 : decode c_RO_init 17 = .ok (.putfield 15, 3) := by decide +kernel
theorem d_RO_init_20 : decode c_RO_init 20 = .ok (.aload_n 0, 1) := by decide +kernel
theorem d_RO_init_21 : decode c_RO_init 21 = .ok (.bipush 20, 2) := by decide +kernel
theorem d_RO_init_23 : decode c_RO_init 23 = .ok (.newarray .int, 2) := by decide +kernel
theorem d_RO_init_25 : decode c_RO_init 25 = .ok (.putfield 19, 3) := by decide +kernel
theorem d_RO_init_28 : decode c_RO_init 28 = .ok (.aload_n 0, 1) := by decide +kernel
theorem d_RO_init_29 : decode c_RO_init 29 = .ok (.bipush 20, 2) := by decide +kernel
theorem d_RO_init_31 : decode c_RO_init 31 = .ok (.newarray .int, 2) := by decide +kernel
theorem d_RO_init_33 : decode c_RO_init 33 = .ok (.putfield 22, 3) := by decide +kernel
theorem d_RO_init_36 : decode c_RO_init 36 = .ok (.aload_n 0, 1) := by decide +kernel
theorem d_RO_init_37 : decode c_RO_init 37 = .ok (.bipush 20, 2) := by decide +kernel
theorem d_RO_init_39 : decode c_RO_init 39 = .ok (.newarray .int, 2) := by decide +kernel
theorem d_RO_init_41 : decode c_RO_init 41 = .ok (.putfield 25, 3) := by decide +kernel
theorem d_RO_init_44 : decode c_RO_init 44 = .ok (.aload_n 0, 1) := by decide +kernel
theorem d_RO_init_45 : decode c_RO_init 45 = .ok (.bipush 20, 2) := by decide +kernel
theorem d_RO_init_47 : decode c_RO_init 47 = .ok (.newarray .int, 2) := by decide +kernel
theorem d_RO_init_49 : decode c_RO_init 49 = .ok (.putfield 28, 3) := by decide +kernel
theorem d_RO_init_52 : decode c_RO_init 52 = .ok (.aload_n 0, 1) := by decide +kernel
theorem d_RO_init_53 : decode c_RO_init 53 = .ok (.iconst 0, 1) := by decide +kernel
theorem d_RO_init_54 : decode c_RO_init 54 = .ok (.putfield 31, 3) := by decide +kernel
theorem d_RO_init_57 : decode c_RO_init 57 = .ok (.return_, 1) := by decide +kernel
theorem d_RO_play_0 : decode c_RO_play 0 = .ok (.aload_n 0, 1) := by decide +kernel
theorem d_RO_play_1 : decode c_RO_play 1 = .ok (.aload_n 2, 1) := by decide +kernel
theorem d_RO_play_2 : decode c_RO_play 2 = .ok (.invokevirtual 35, 3) := by decide +kernel
theorem d_RO_play_5 : decode c_RO_play 5 = .ok (.aload_n 0, 1) := by decide +kernel
theorem d_RO_play_6 : decode c_RO_play 6 = .ok (.aload_n 2, 1) := by decide +kernel
theorem d_RO_play_7 : decode c_RO_play 7 = .ok (.invokevirtual 39, 3) := by decide +kernel
theorem d_RO_play_10 : decode c_RO_play 10 = .ok (.iconst 1, 1) := by decide +kernel
theorem d_RO_play_11 : decode c_RO_play 11 = .ok (.isub, 1) := by decide +kernel
theorem d_RO_play_12 : decode c_RO_play 12 = .ok (.iconst 0, 1) := by decide +kernel
theorem d_RO_play_13 : decode c_RO_play 13 = .ok (.invokestatic 44, 3) := by decide +kernel
theorem d_RO_play_16 : decode c_RO_play 16 = .ok (.bipush 20, 2) := by decide +kernel
theorem d_RO_play_18 : decode c_RO_play 18 = .ok (.invokestatic 50, 3) := by decide +kernel
theorem d_RO_play_21 : decode c_RO_play 21 = .ok (.putfield 31, 3) := by decide +kernel
theorem d_RO_play_24 : decode c_RO_play 24 = .ok (.iconst 0, 1) := by decide +kernel
theorem d_RO_play_25 : decode c_RO_play 25 = .ok (.istore 4, 2) := by decide +kernel
theorem d_RO_play_27 : decode c_RO_play 27 = .ok (.iload 4, 2) := by decide +kernel
theorem d_RO_play_29 : decode c_RO_play 29 = .ok (.aload_n 0, 1) := by decide +kernel
theorem d_RO_play_30 : decode c_RO_play 30 = .ok (.getfield 31, 3) := by decide +kernel
theorem d_RO_play_33 : decode c_RO_play 33 = .ok (.if_icmp .ge 71, 3) := by decide +kernel
theorem d_RO_play_36 : decode c_RO_play 36 = .ok (.aload_n 0, 1) := by decide +kernel
theorem d_RO_play_37 : decode c_RO_play 37 = .ok (.aload_n 1, 1) := by decide +kernel
theorem d_RO_play_38 : decode c_RO_play 38 = .ok (.aload_n 2, 1) := by decide +kernel
theorem d_RO_play_39 : decode c_RO_play 39 = .ok (.invokevirtual 53, 3) := by decide +kernel
theorem d_RO_play_42 : decode c_RO_play 42 = .ok (.aload_n 0, 1) := by decide +kernel
theorem d_RO_play_43 : decode c_RO_play 43 = .ok (.aload_n 3, 1) := by decide +kernel
theorem d_RO_play_44 : decode c_RO_play 44 = .ok (.invokevirtual 57, 3) := by decide +kernel
theorem d_RO_play_47 : decode c_RO_play 47 = .ok (.istore 5, 2) := by decide +kernel
theorem d_RO_play_49 : decode c_RO_play 49 = .ok (.aload_n 0, 1) := by decide +kernel
theorem d_RO_play_50 : decode c_RO_play 50 = .ok (.getfield 22, 3) := by decide +kernel
theorem d_RO_play_53 : decode c_RO_play 53 = .ok (.iload 4, 2) := by decide +kernel
theorem d_RO_play_55 : decode c_RO_play 55 = .ok (.iload 5, 2) := by decide +kernel
theorem d_RO_play_57 : decode c_RO_play 57 = .ok (.invokestatic 61, 3) := by decide +kernel
theorem d_RO_play_60 : decode c_RO_play 60 = .ok (.aload_n 0, 1) := by decide +kernel
theorem d_RO_play_61 : decode c_RO_play 61 = .ok (.getfield 25, 3) := by decide +kernel
theorem d_RO_play_64 : decode c_RO_play 64 = .ok (.iload 4, 2) := by decide +kernel
theorem d_RO_play_66 : decode c_RO_play 66 = .ok (.aload_n 0, 1) := by decide +kernel
theorem d_RO_play_67 : decode c_RO_play 67 = .ok (.iload 5, 2) := by decide +kernel
theorem d_RO_play_69 : decode c_RO_play 69 = .ok (.invokevirtual 65, 3) := by decide +kernel
theorem d_RO_play_72 : decode c_RO_play 72 = .ok (.invokestatic 61, 3) := by decide +kernel
theorem d_RO_play_75 : decode c_RO_play 75 = .ok (.aload_n 0, 1) := by decide +kernel
theorem d_RO_play_76 : decode c_RO_play 76 = .ok (.getfield 28, 3) := by decide +kernel
theorem d_RO_play_79 : decode c_RO_play 79 = .ok (.iload 4, 2) := by decide +kernel
theorem d_RO_play_81 : decode c_RO_play 81 = .ok (.aload_n 0, 1) := by decide +kernel
theorem d_RO_play_82 : decode c_RO_play 82 = .ok (.bipush (-5), 2) := by decide +kernel
theorem d_RO_play_84 : decode c_RO_play 84 = .ok (.invokevirtual 65, 3) := by decide +kernel
theorem d_RO_play_87 : decode c_RO_play 87 = .ok (.invokestatic 61, 3) := by decide +kernel
theorem d_RO_play_90 : decode c_RO_play 90 = .ok (.aload_n 0, 1) := by decide +kernel
theorem d_RO_play_91 : decode c_RO_play 91 = .ok (.iload 5, 2) := by decide +kernel
theorem d_RO_play_93 : decode c_RO_play 93 = .ok (.iload 4, 2) := by decide +kernel
theorem d_RO_play_95 : decode c_RO_play 95 = .ok (.invokevirtual 69, 3) := by decide +kernel
theorem d_RO_play_98 : decode c_RO_play 98 = .ok (.iinc 4 1, 3) := by decide +kernel
theorem d_RO_play_101 : decode c_RO_play 101 = .ok (.goto (-74), 3) := by decide +kernel
theorem d_RO_play_104 : decode c_RO_play 104 = .ok (.return_, 1) := by decide +kernel
theorem d_RO_beginWith_0 : decode c_RO_beginWith 0 = .ok (.aload_n 0, 1) := by decide +kernel
theorem d_RO_beginWith_1 : decode c_RO_beginWith 1 = .ok (.getfield 19, 3) := by decide +kernel
theorem d_RO_beginWith_4 : decode c_RO_beginWith 4 = .ok (.bipush (-5), 2) := by decide +kernel
theorem d_RO_beginWith_6 : decode c_RO_beginWith 6 = .ok (.invokestatic 73, 3) := by decide +kernel
theorem d_RO_beginWith_9 : decode c_RO_beginWith 9 = .ok (.iconst 0, 1) := by decide +kernel
theorem d_RO_beginWith_10 : decode c_RO_beginWith 10 = .ok (.istore_n 2, 1) := by decide +kernel
theorem d_RO_beginWith_11 : decode c_RO_beginWith 11 = .ok (.iload_n 2, 1) := by decide +kernel
theorem d_RO_beginWith_12 : decode c_RO_beginWith 12 = .ok (.bipush 20, 2) := by decide +kernel
theorem d_RO_beginWith_14 : decode c_RO_beginWith 14 = .ok (.if_icmp .ge 20, 3) := by decide +kernel
theorem d_RO_beginWith_17 : decode c_RO_beginWith 17 = .ok (.aload_n 0, 1) := by decide +kernel
theorem d_RO_beginWith_18 : decode c_RO_beginWith 18 = .ok (.getfield 9, 3) := by decide +kernel
theorem d_RO_beginWith_21 : decode c_RO_beginWith 21 = .ok (.iload_n 2, 1) := by decide +kernel
theorem d_RO_beginWith_22 : decode c_RO_beginWith 22 = .ok (.aload_n 1, 1) := by decide +kernel
theorem d_RO_beginWith_23 : decode c_RO_beginWith 23 = .ok (.iload_n 2, 1) := by decide +kernel
theorem d_RO_beginWith_24 : decode c_RO_beginWith 24 = .ok (.invokevirtual 79, 3) := by decide +kernel
theorem d_RO_beginWith_27 : decode c_RO_beginWith 27 = .ok (.bastore, 1) := by decide +kernel
theorem d_RO_beginWith_28 : decode c_RO_beginWith 28 = .ok (.iinc 2 1, 3) := by decide +kernel
theorem d_RO_beginWith_31 : decode c_RO_beginWith 31 = .ok (.goto (-20), 3) := by decide +kernel
theorem d_RO_beginWith_34 : decode c_RO_beginWith 34 = .ok (.return_, 1) := by decide +kernel
theorem d_RO_leaveOut_0 : decode c_RO_leaveOut 0 = .ok (.iload_n 1, 1) := by decide +kernel
theorem d_RO_leaveOut_1 : decode c_RO_leaveOut 1 = .ok (.bipush 20, 2) := by decide +kernel
theorem d_RO_leaveOut_3 : decode c_RO_leaveOut 3 = .ok (.invokestatic 83, 3) := by decide +kernel
theorem d_RO_leaveOut_6 : decode c_RO_leaveOut 6 = .ok (.ifCond .eq 17, 3) := by decide +kernel
theorem d_RO_leaveOut_9 : decode c_RO_leaveOut 9 = .ok (.aload_n 0, 1) := by decide +kernel
theorem d_RO_leaveOut_10 : decode c_RO_leaveOut 10 = .ok (.getfield 9, 3) := by decide +kernel
theorem d_RO_leaveOut_13 : decode c_RO_leaveOut 13 = .ok (.iload_n 1, 1) := by decide +kernel
theorem d_RO_leaveOut_14 : decode c_RO_leaveOut 14 = .ok (.iconst 0, 1) := by decide +kernel
theorem d_RO_leaveOut_15 : decode c_RO_leaveOut 15 = .ok (.bastore, 1) := by decide +kernel
theorem d_RO_leaveOut_16 : decode c_RO_leaveOut 16 = .ok (.aload_n 0, 1) := by decide +kernel
theorem d_RO_leaveOut_17 : decode c_RO_leaveOut 17 = .ok (.getfield 19, 3) := by decide +kernel
theorem d_RO_leaveOut_20 : decode c_RO_leaveOut 20 = .ok (.iload_n 1, 1) := by decide +kernel
theorem d_RO_leaveOut_21 : decode c_RO_leaveOut 21 = .ok (.iload_n 2, 1) := by decide +kernel
theorem d_RO_leaveOut_22 : decode c_RO_leaveOut 22 = .ok (.iastore, 1) := by decide +kernel
theorem d_RO_leaveOut_23 : decode c_RO_leaveOut 23 = .ok (.return_, 1) := by decide +kernel
theorem d_RO_choose_0 : decode c_RO_choose 0 = .ok (.iconst 0, 1) := by decide +kernel
theorem d_RO_choose_1 : decode c_RO_choose 1 = .ok (.istore_n 3, 1) := by decide +kernel
theorem d_RO_choose_2 : decode c_RO_choose 2 = .ok (.iload_n 3, 1) := by decide +kernel
theorem d_RO_choose_3 : decode c_RO_choose 3 = .ok (.bipush 12, 2) := by decide +kernel
theorem d_RO_choose_5 : decode c_RO_choose 5 = .ok (.if_icmp .ge 22, 3) := by decide +kernel
theorem d_RO_choose_8 : decode c_RO_choose 8 = .ok (.aload_n 0, 1) := by decide +kernel
theorem d_RO_choose_9 : decode c_RO_choose 9 = .ok (.getfield 15, 3) := by decide +kernel
theorem d_RO_choose_12 : decode c_RO_choose 12 = .ok (.iload_n 3, 1) := by decide +kernel
theorem d_RO_choose_13 : decode c_RO_choose 13 = .ok (.aload_n 0, 1) := by decide +kernel
theorem d_RO_choose_14 : decode c_RO_choose 14 = .ok (.aload_n 1, 1) := by decide +kernel
theorem d_RO_choose_15 : decode c_RO_choose 15 = .ok (.aload_n 2, 1) := by decide +kernel
theorem d_RO_choose_16 : decode c_RO_choose 16 = .ok (.iload_n 3, 1) := by decide +kernel
theorem d_RO_choose_17 : decode c_RO_choose 17 = .ok (.invokevirtual 87, 3) := by decide +kernel
theorem d_RO_choose_20 : decode c_RO_choose 20 = .ok (.iastore, 1) := by decide +kernel
theorem d_RO_choose_21 : decode c_RO_choose 21 = .ok (.iinc 3 1, 3) := by decide +kernel
theorem d_RO_choose_24 : decode c_RO_choose 24 = .ok (.goto (-22), 3) := by decide +kernel
theorem d_RO_choose_27 : decode c_RO_choose 27 = .ok (.return_, 1) := by decide +kernel
theorem d_RO_firstLeft_0 : decode c_RO_firstLeft 0 = .ok (.iconst 0, 1) := by decide +kernel
theorem d_RO_firstLeft_1 : decode c_RO_firstLeft 1 = .ok (.istore 4, 2) := by decide +kernel
theorem d_RO_firstLeft_3 : decode c_RO_firstLeft 3 = .ok (.iload 4, 2) := by decide +kernel
theorem d_RO_firstLeft_5 : decode c_RO_firstLeft 5 = .ok (.iconst 3, 1) := by decide +kernel
theorem d_RO_firstLeft_6 : decode c_RO_firstLeft 6 = .ok (.if_icmp .ge 45, 3) := by decide +kernel
theorem d_RO_firstLeft_9 : decode c_RO_firstLeft 9 = .ok (.aload_n 2, 1) := by decide +kernel
theorem d_RO_firstLeft_10 : decode c_RO_firstLeft 10 = .ok (.aload_n 1, 1) := by decide +kernel
theorem d_RO_firstLeft_11 : decode c_RO_firstLeft 11 = .ok (.iload_n 3, 1) := by decide +kernel
theorem d_RO_firstLeft_12 : decode c_RO_firstLeft 12 = .ok (.iload 4, 2) := by decide +kernel
theorem d_RO_firstLeft_14 : decode c_RO_firstLeft 14 = .ok (.invokevirtual 91, 3) := by decide +kernel
theorem d_RO_firstLeft_17 : decode c_RO_firstLeft 17 = .ok (.invokevirtual 96, 3) := by decide +kernel
theorem d_RO_firstLeft_20 : decode c_RO_firstLeft 20 = .ok (.istore 5, 2) := by decide +kernel
theorem d_RO_firstLeft_22 : decode c_RO_firstLeft 22 = .ok (.iload 5, 2) := by decide +kernel
theorem d_RO_firstLeft_24 : decode c_RO_firstLeft 24 = .ok (.bipush 20, 2) := by decide +kernel
theorem d_RO_firstLeft_26 : decode c_RO_firstLeft 26 = .ok (.invokestatic 83, 3) := by decide +kernel
theorem d_RO_firstLeft_29 : decode c_RO_firstLeft 29 = .ok (.ifCond .eq 16, 3) := by decide +kernel
theorem d_RO_firstLeft_32 : decode c_RO_firstLeft 32 = .ok (.aload_n 0, 1) := by decide +kernel
theorem d_RO_firstLeft_33 : decode c_RO_firstLeft 33 = .ok (.getfield 9, 3) := by decide +kernel
theorem d_RO_firstLeft_36 : decode c_RO_firstLeft 36 = .ok (.iload 5, 2) := by decide +kernel
theorem d_RO_firstLeft_38 : decode c_RO_firstLeft 38 = .ok (.baload, 1) := by decide +kernel
theorem d_RO_firstLeft_39 : decode c_RO_firstLeft 39 = .ok (.ifCond .eq 6, 3) := by decide +kernel
theorem d_RO_firstLeft_42 : decode c_RO_firstLeft 42 = .ok (.iload 5, 2) := by decide +kernel
theorem d_RO_firstLeft_44 : decode c_RO_firstLeft 44 = .ok (.ireturn, 1) := by decide +kernel
theorem d_RO_firstLeft_45 : decode c_RO_firstLeft 45 = .ok (.iinc 4 1, 3) := by decide +kernel
theorem d_RO_firstLeft_48 : decode c_RO_firstLeft 48 = .ok (.goto (-45), 3) := by decide +kernel
theorem d_RO_firstLeft_51 : decode c_RO_firstLeft 51 = .ok (.bipush (-5), 2) := by decide +kernel
theorem d_RO_firstLeft_53 : decode c_RO_firstLeft 53 = .ok (.ireturn, 1) := by decide +kernel
theorem d_RO_weakest_0 : decode c_RO_weakest 0 = .ok (.bipush (-5), 2) := by decide +kernel
theorem d_RO_weakest_2 : decode c_RO_weakest 2 = .ok (.istore_n 2, 1) := by decide +kernel
theorem d_RO_weakest_3 : decode c_RO_weakest 3 = .ok (.iconst 0, 1) := by decide +kernel
theorem d_RO_weakest_4 : decode c_RO_weakest 4 = .ok (.istore_n 3, 1) := by decide +kernel
theorem d_RO_weakest_5 : decode c_RO_weakest 5 = .ok (.iload_n 3, 1) := by decide +kernel
theorem d_RO_weakest_6 : decode c_RO_weakest 6 = .ok (.bipush 20, 2) := by decide +kernel
theorem d_RO_weakest_8 : decode c_RO_weakest 8 = .ok (.if_icmp .ge 36, 3) := by decide +kernel
theorem d_RO_weakest_11 : decode c_RO_weakest 11 = .ok (.aload_n 0, 1) := by decide +kernel
theorem d_RO_weakest_12 : decode c_RO_weakest 12 = .ok (.getfield 9, 3) := by decide +kernel
theorem d_RO_weakest_15 : decode c_RO_weakest 15 = .ok (.iload_n 3, 1) := by decide +kernel
theorem d_RO_weakest_16 : decode c_RO_weakest 16 = .ok (.baload, 1) := by decide +kernel
theorem d_RO_weakest_17 : decode c_RO_weakest 17 = .ok (.ifCond .eq 21, 3) := by decide +kernel
theorem d_RO_weakest_20 : decode c_RO_weakest 20 = .ok (.iload_n 2, 1) := by decide +kernel
theorem d_RO_weakest_21 : decode c_RO_weakest 21 = .ok (.bipush (-5), 2) := by decide +kernel
theorem d_RO_weakest_23 : decode c_RO_weakest 23 = .ok (.if_icmp .eq 13, 3) := by decide +kernel
theorem d_RO_weakest_26 : decode c_RO_weakest 26 = .ok (.aload_n 0, 1) := by decide +kernel
theorem d_RO_weakest_27 : decode c_RO_weakest 27 = .ok (.aload_n 1, 1) := by decide +kernel
theorem d_RO_weakest_28 : decode c_RO_weakest 28 = .ok (.iload_n 3, 1) := by decide +kernel
theorem d_RO_weakest_29 : decode c_RO_weakest 29 = .ok (.iload_n 2, 1) := by decide +kernel
theorem d_RO_weakest_30 : decode c_RO_weakest 30 = .ok (.invokevirtual 99, 3) := by decide +kernel
theorem d_RO_weakest_33 : decode c_RO_weakest 33 = .ok (.ifCond .eq 5, 3) := by decide +kernel
theorem d_RO_weakest_36 : decode c_RO_weakest 36 = .ok (.iload_n 3, 1) := by decide +kernel
theorem d_RO_weakest_37 : decode c_RO_weakest 37 = .ok (.istore_n 2, 1) := by decide +kernel
theorem d_RO_weakest_38 : decode c_RO_weakest 38 = .ok (.iinc 3 1, 3) := by decide +kernel
theorem d_RO_weakest_41 : decode c_RO_weakest 41 = .ok (.goto (-36), 3) := by decide +kernel
theorem d_RO_weakest_44 : decode c_RO_weakest 44 = .ok (.iload_n 2, 1) := by decide +kernel
theorem d_RO_weakest_45 : decode c_RO_weakest 45 = .ok (.ireturn, 1) := by decide +kernel
theorem d_RO_isWeaker_0 : decode c_RO_isWeaker 0 = .ok (.aload_n 0, 1) := by decide +kernel
theorem d_RO_isWeaker_1 : decode c_RO_isWeaker 1 = .ok (.iload_n 2, 1) := by decide +kernel
theorem d_RO_isWeaker_2 : decode c_RO_isWeaker 2 = .ok (.invokevirtual 65, 3) := by decide +kernel
theorem d_RO_isWeaker_5 : decode c_RO_isWeaker 5 = .ok (.aload_n 0, 1) := by decide +kernel
theorem d_RO_isWeaker_6 : decode c_RO_isWeaker 6 = .ok (.iload_n 3, 1) := by decide +kernel
theorem d_RO_isWeaker_7 : decode c_RO_isWeaker 7 = .ok (.invokevirtual 65, 3) := by decide +kernel
theorem d_RO_isWeaker_10 : decode c_RO_isWeaker 10 = .ok (.if_icmp .eq 22, 3) := by decide +kernel
theorem d_RO_isWeaker_13 : decode c_RO_isWeaker 13 = .ok (.aload_n 0, 1) := by decide +kernel
theorem d_RO_isWeaker_14 : decode c_RO_isWeaker 14 = .ok (.iload_n 2, 1) := by decide +kernel
theorem d_RO_isWeaker_15 : decode c_RO_isWeaker 15 = .ok (.invokevirtual 65, 3) := by decide +kernel
theorem d_RO_isWeaker_18 : decode c_RO_isWeaker 18 = .ok (.aload_n 0, 1) := by decide +kernel
theorem d_RO_isWeaker_19 : decode c_RO_isWeaker 19 = .ok (.iload_n 3, 1) := by decide +kernel
theorem d_RO_isWeaker_20 : decode c_RO_isWeaker 20 = .ok (.invokevirtual 65, 3) := by decide +kernel
theorem d_RO_isWeaker_23 : decode c_RO_isWeaker 23 = .ok (.if_icmp .ge 7, 3) := by decide +kernel
theorem d_RO_isWeaker_26 : decode c_RO_isWeaker 26 = .ok (.iconst 1, 1) := by decide +kernel
theorem d_RO_isWeaker_27 : decode c_RO_isWeaker 27 = .ok (.goto 4, 3) := by decide +kernel
theorem d_RO_isWeaker_30 : decode c_RO_isWeaker 30 = .ok (.iconst 0, 1) := by decide +kernel
theorem d_RO_isWeaker_31 : decode c_RO_isWeaker 31 = .ok (.ireturn, 1) := by decide +kernel
theorem d_RO_isWeaker_32 : decode c_RO_isWeaker 32 = .ok (.aload_n 1, 1) := by decide +kernel
theorem d_RO_isWeaker_33 : decode c_RO_isWeaker 33 = .ok (.iload_n 2, 1) := by decide +kernel
theorem d_RO_isWeaker_34 : decode c_RO_isWeaker 34 = .ok (.invokevirtual 103, 3) := by decide +kernel
theorem d_RO_isWeaker_37 : decode c_RO_isWeaker 37 = .ok (.aload_n 1, 1) := by decide +kernel
theorem d_RO_isWeaker_38 : decode c_RO_isWeaker 38 = .ok (.iload_n 3, 1) := by decide +kernel
theorem d_RO_isWeaker_39 : decode c_RO_isWeaker 39 = .ok (.invokevirtual 103, 3) := by decide +kernel
theorem d_RO_isWeaker_42 : decode c_RO_isWeaker 42 = .ok (.if_icmp .eq 22, 3) := by decide +kernel
theorem d_RO_isWeaker_45 : decode c_RO_isWeaker 45 = .ok (.aload_n 1, 1) := by decide +kernel
theorem d_RO_isWeaker_46 : decode c_RO_isWeaker 46 = .ok (.iload_n 2, 1) := by decide +kernel
theorem d_RO_isWeaker_47 : decode c_RO_isWeaker 47 = .ok (.invokevirtual 103, 3) := by decide +kernel
theorem d_RO_isWeaker_50 : decode c_RO_isWeaker 50 = .ok (.aload_n 1, 1) := by decide +kernel
theorem d_RO_isWeaker_51 : decode c_RO_isWeaker 51 = .ok (.iload_n 3, 1) := by decide +kernel
theorem d_RO_isWeaker_52 : decode c_RO_isWeaker 52 = .ok (.invokevirtual 103, 3) := by decide +kernel
theorem d_RO_isWeaker_55 : decode c_RO_isWeaker 55 = .ok (.if_icmp .le 7, 3) := by decide +kernel
theorem d_RO_isWeaker_58 : decode c_RO_isWeaker 58 = .ok (.iconst 1, 1) := by decide +kernel
theorem d_RO_isWeaker_59 : decode c_RO_isWeaker 59 = .ok (.goto 4, 3) := by decide +kernel
theorem d_RO_isWeaker_62 : decode c_RO_isWeaker 62 = .ok (.iconst 0, 1) := by decide +kernel
theorem d_RO_isWeaker_63 : decode c_RO_isWeaker 63 = .ok (.ireturn, 1) := by decide +kernel
theorem d_RO_isWeaker_64 : decode c_RO_isWeaker 64 = .ok (.iload_n 2, 1) := by decide +kernel
theorem d_RO_isWeaker_65 : decode c_RO_isWeaker 65 = .ok (.iload_n 3, 1) := by decide +kernel
theorem d_RO_isWeaker_66 : decode c_RO_isWeaker 66 = .ok (.if_icmp .le 7, 3) := by decide +kernel
theorem d_RO_isWeaker_69 : decode c_RO_isWeaker 69 = .ok (.iconst 1, 1) := by decide +kernel
theorem d_RO_isWeaker_70 : decode c_RO_isWeaker 70 = .ok (.goto 4, 3) := by decide +kernel
theorem d_RO_isWeaker_73 : decode c_RO_isWeaker 73 = .ok (.iconst 0, 1) := by decide +kernel
theorem d_RO_isWeaker_74 : decode c_RO_isWeaker 74 = .ok (.ireturn, 1) := by decide +kernel
theorem d_RO_ballotsFor_0 : decode c_RO_ballotsFor 0 = .ok (.iconst 0, 1) := by decide +kernel
theorem d_RO_ballotsFor_1 : decode c_RO_ballotsFor 1 = .ok (.istore_n 2, 1) := by decide +kernel
theorem d_RO_ballotsFor_2 : decode c_RO_ballotsFor 2 = .ok (.iconst 0, 1) := by decide +kernel
theorem d_RO_ballotsFor_3 : decode c_RO_ballotsFor 3 = .ok (.istore_n 3, 1) := by decide +kernel
theorem d_RO_ballotsFor_4 : decode c_RO_ballotsFor 4 = .ok (.iload_n 3, 1) := by decide +kernel
theorem d_RO_ballotsFor_5 : decode c_RO_ballotsFor 5 = .ok (.bipush 12, 2) := by decide +kernel
theorem d_RO_ballotsFor_7 : decode c_RO_ballotsFor 7 = .ok (.if_icmp .ge 22, 3) := by decide +kernel
theorem d_RO_ballotsFor_10 : decode c_RO_ballotsFor 10 = .ok (.aload_n 0, 1) := by decide +kernel
theorem d_RO_ballotsFor_11 : decode c_RO_ballotsFor 11 = .ok (.getfield 15, 3) := by decide +kernel
theorem d_RO_ballotsFor_14 : decode c_RO_ballotsFor 14 = .ok (.iload_n 3, 1) := by decide +kernel
theorem d_RO_ballotsFor_15 : decode c_RO_ballotsFor 15 = .ok (.iaload, 1) := by decide +kernel
theorem d_RO_ballotsFor_16 : decode c_RO_ballotsFor 16 = .ok (.iload_n 1, 1) := by decide +kernel
theorem d_RO_ballotsFor_17 : decode c_RO_ballotsFor 17 = .ok (.if_icmp .ne 6, 3) := by decide +kernel
theorem d_RO_ballotsFor_20 : decode c_RO_ballotsFor 20 = .ok (.iinc 2 1, 3) := by decide +kernel
theorem d_RO_ballotsFor_23 : decode c_RO_ballotsFor 23 = .ok (.iinc 3 1, 3) := by decide +kernel
theorem d_RO_ballotsFor_26 : decode c_RO_ballotsFor 26 = .ok (.goto (-22), 3) := by decide +kernel
theorem d_RO_ballotsFor_29 : decode c_RO_ballotsFor 29 = .ok (.iload_n 2, 1) := by decide +kernel
theorem d_RO_ballotsFor_30 : decode c_RO_ballotsFor 30 = .ok (.ireturn, 1) := by decide +kernel
theorem d_RO_number_0 : decode c_RO_number 0 = .ok (.aload_n 0, 1) := by decide +kernel
theorem d_RO_number_1 : decode c_RO_number 1 = .ok (.getfield 31, 3) := by decide +kernel
theorem d_RO_number_4 : decode c_RO_number 4 = .ok (.ireturn, 1) := by decide +kernel
theorem d_RO_roundOf_0 : decode c_RO_roundOf 0 = .ok (.aload_n 0, 1) := by decide +kernel
theorem d_RO_roundOf_1 : decode c_RO_roundOf 1 = .ok (.getfield 19, 3) := by decide +kernel
theorem d_RO_roundOf_4 : decode c_RO_roundOf 4 = .ok (.iload_n 1, 1) := by decide +kernel
theorem d_RO_roundOf_5 : decode c_RO_roundOf 5 = .ok (.invokestatic 108, 3) := by decide +kernel
theorem d_RO_roundOf_8 : decode c_RO_roundOf 8 = .ok (.ireturn, 1) := by decide +kernel
theorem d_RO_headOut_0 : decode c_RO_headOut 0 = .ok (.aload_n 0, 1) := by decide +kernel
theorem d_RO_headOut_1 : decode c_RO_headOut 1 = .ok (.getfield 22, 3) := by decide +kernel
theorem d_RO_headOut_4 : decode c_RO_headOut 4 = .ok (.iload_n 1, 1) := by decide +kernel
theorem d_RO_headOut_5 : decode c_RO_headOut 5 = .ok (.invokestatic 108, 3) := by decide +kernel
theorem d_RO_headOut_8 : decode c_RO_headOut 8 = .ok (.ireturn, 1) := by decide +kernel
theorem d_RO_ballotsOfHeadOut_0 : decode c_RO_ballotsOfHeadOut 0 = .ok (.aload_n 0, 1) := by decide +kernel
theorem d_RO_ballotsOfHeadOut_1 : decode c_RO_ballotsOfHeadOut 1 = .ok (.getfield 25, 3) := by decide +kernel
theorem d_RO_ballotsOfHeadOut_4 : decode c_RO_ballotsOfHeadOut 4 = .ok (.iload_n 1, 1) := by decide +kernel
theorem d_RO_ballotsOfHeadOut_5 : decode c_RO_ballotsOfHeadOut 5 = .ok (.invokestatic 108, 3) := by decide +kernel
theorem d_RO_ballotsOfHeadOut_8 : decode c_RO_ballotsOfHeadOut 8 = .ok (.ireturn, 1) := by decide +kernel
theorem d_RO_ballotsForNone_0 : decode c_RO_ballotsForNone 0 = .ok (.aload_n 0, 1) := by decide +kernel
theorem d_RO_ballotsForNone_1 : decode c_RO_ballotsForNone 1 = .ok (.getfield 28, 3) := by decide +kernel
theorem d_RO_ballotsForNone_4 : decode c_RO_ballotsForNone 4 = .ok (.iload_n 1, 1) := by decide +kernel
theorem d_RO_ballotsForNone_5 : decode c_RO_ballotsForNone 5 = .ok (.invokestatic 108, 3) := by decide +kernel
theorem d_RO_ballotsForNone_8 : decode c_RO_ballotsForNone 8 = .ok (.ireturn, 1) := by decide +kernel
theorem d_SH_init_0 : decode c_SH_init 0 = .ok (.aload_n 0, 1) := by decide +kernel
theorem d_SH_init_1 : decode c_SH_init 1 = .ok (.invokespecial 3, 3) := by decide +kernel
theorem d_SH_init_4 : decode c_SH_init 4 = .ok (.aload_n 0, 1) := by decide +kernel
theorem d_SH_init_5 : decode c_SH_init 5 = .ok (.bipush 20, 2) := by decide +kernel
theorem d_SH_init_7 : decode c_SH_init 7 = .ok (.newarray .int, 2) := by decide +kernel
theorem d_SH_init_9 : decode c_SH_init 9 = .ok (.putfield 9, 3) := by decide +kernel
theorem d_SH_init_12 : decode c_SH_init 12 = .ok (.aload_n 0, 1) := by decide +kernel
theorem d_SH_init_13 : decode c_SH_init 13 = .ok (.bipush 20, 2) := by decide +kernel
theorem d_SH_init_15 : decode c_SH_init 15 = .ok (.newarray .int, 2) := by decide +kernel
theorem d_SH_init_17 : decode c_SH_init 17 = .ok (.putfield 15, 3) := by decide +kernel
theorem d_SH_init_20 : decode c_SH_init 20 = .ok (.return_, 1) := by decide +kernel
theorem d_SH_fill_0 : decode c_SH_fill 0 = .ok (.aload_n 0, 1) := by decide +kernel
theorem d_SH_fill_1 : decode c_SH_fill 1 = .ok (.getfield 9, 3) := by decide +kernel
theorem d_SH_fill_4 : decode c_SH_fill 4 = .ok (.iconst 0, 1) := by decide +kernel
theorem d_SH_fill_5 : decode c_SH_fill 5 = .ok (.invokestatic 18, 3) := by decide +kernel
theorem d_SH_fill_8 : decode c_SH_fill 8 = .ok (.aload_n 0, 1) := by decide +kernel
theorem d_SH_fill_9 : decode c_SH_fill 9 = .ok (.getfield 15, 3) := by decide +kernel
theorem d_SH_fill_12 : decode c_SH_fill 12 = .ok (.iconst 0, 1) := by decide +kernel
theorem d_SH_fill_13 : decode c_SH_fill 13 = .ok (.invokestatic 18, 3) := by decide +kernel
theorem d_SH_fill_16 : decode c_SH_fill 16 = .ok (.iconst 0, 1) := by decide +kernel
theorem d_SH_fill_17 : decode c_SH_fill 17 = .ok (.istore 4, 2) := by decide +kernel
theorem d_SH_fill_19 : decode c_SH_fill 19 = .ok (.iload 4, 2) := by decide +kernel
theorem d_SH_fill_21 : decode c_SH_fill 21 = .ok (.bipush 20, 2) := by decide +kernel
theorem d_SH_fill_23 : decode c_SH_fill 23 = .ok (.if_icmp .ge 62, 3) := by decide +kernel
theorem d_SH_fill_26 : decode c_SH_fill 26 = .ok (.aload_n 2, 1) := by decide +kernel
theorem d_SH_fill_27 : decode c_SH_fill 27 = .ok (.iload 4, 2) := by decide +kernel
theorem d_SH_fill_29 : decode c_SH_fill 29 = .ok (.invokevirtual 24, 3) := by decide +kernel
theorem d_SH_fill_32 : decode c_SH_fill 32 = .ok (.ifCond .eq 47, 3) := by decide +kernel
theorem d_SH_fill_35 : decode c_SH_fill 35 = .ok (.aload_n 1, 1) := by decide +kernel
theorem d_SH_fill_36 : decode c_SH_fill 36 = .ok (.aload_n 3, 1) := by decide +kernel
theorem d_SH_fill_37 : decode c_SH_fill 37 = .ok (.iload 4, 2) := by decide +kernel
theorem d_SH_fill_39 : decode c_SH_fill 39 = .ok (.invokevirtual 30, 3) := by decide +kernel
theorem d_SH_fill_42 : decode c_SH_fill 42 = .ok (.aload_n 3, 1) := by decide +kernel
theorem d_SH_fill_43 : decode c_SH_fill 43 = .ok (.iload 4, 2) := by decide +kernel
theorem d_SH_fill_45 : decode c_SH_fill 45 = .ok (.invokevirtual 36, 3) := by decide +kernel
theorem d_SH_fill_48 : decode c_SH_fill 48 = .ok (.invokestatic 39, 3) := by decide +kernel
theorem d_SH_fill_51 : decode c_SH_fill 51 = .ok (.istore 5, 2) := by decide +kernel
theorem d_SH_fill_53 : decode c_SH_fill 53 = .ok (.aload_n 0, 1) := by decide +kernel
theorem d_SH_fill_54 : decode c_SH_fill 54 = .ok (.getfield 9, 3) := by decide +kernel
theorem d_SH_fill_57 : decode c_SH_fill 57 = .ok (.iload 4, 2) := by decide +kernel
theorem d_SH_fill_59 : decode c_SH_fill 59 = .ok (.iload 5, 2) := by decide +kernel
theorem d_SH_fill_61 : decode c_SH_fill 61 = .ok (.aload_n 3, 1) := by decide +kernel
theorem d_SH_fill_62 : decode c_SH_fill 62 = .ok (.iload 4, 2) := by decide +kernel
theorem d_SH_fill_64 : decode c_SH_fill 64 = .ok (.invokevirtual 36, 3) := by decide +kernel
theorem d_SH_fill_67 : decode c_SH_fill 67 = .ok (.aload_n 3, 1) := by decide +kernel
theorem d_SH_fill_68 : decode c_SH_fill 68 = .ok (.iload 4, 2) := by decide +kernel
theorem d_SH_fill_70 : decode c_SH_fill 70 = .ok (.iload 4, 2) := by decide +kernel
theorem d_SH_fill_72 : decode c_SH_fill 72 = .ok (.invokevirtual 43, 3) := by decide +kernel
theorem d_SH_fill_75 : decode c_SH_fill 75 = .ok (.invokestatic 47, 3) := by decide +kernel
theorem d_SH_fill_78 : decode c_SH_fill 78 = .ok (.iastore, 1) := by decide +kernel
theorem d_SH_fill_79 : decode c_SH_fill 79 = .ok (.iinc 4 1, 3) := by decide +kernel
theorem d_SH_fill_82 : decode c_SH_fill 82 = .ok (.goto (-63), 3) := by decide +kernel
theorem d_SH_fill_85 : decode c_SH_fill 85 = .ok (.iconst 0, 1) := by decide +kernel
theorem d_SH_fill_86 : decode c_SH_fill 86 = .ok (.istore 4, 2) := by decide +kernel
theorem d_SH_fill_88 : decode c_SH_fill 88 = .ok (.iload 4, 2) := by decide +kernel
theorem d_SH_fill_90 : decode c_SH_fill 90 = .ok (.bipush 20, 2) := by decide +kernel
theorem d_SH_fill_92 : decode c_SH_fill 92 = .ok (.if_icmp .ge 58, 3) := by decide +kernel
theorem d_SH_fill_95 : decode c_SH_fill 95 = .ok (.aload_n 2, 1) := by decide +kernel
theorem d_SH_fill_96 : decode c_SH_fill 96 = .ok (.iload 4, 2) := by decide +kernel
theorem d_SH_fill_98 : decode c_SH_fill 98 = .ok (.invokevirtual 51, 3) := by decide +kernel
theorem d_SH_fill_101 : decode c_SH_fill 101 = .ok (.istore 5, 2) := by decide +kernel
theorem d_SH_fill_103 : decode c_SH_fill 103 = .ok (.iload 5, 2) := by decide +kernel
theorem d_SH_fill_105 : decode c_SH_fill 105 = .ok (.bipush (-5), 2) := by decide +kernel
theorem d_SH_fill_107 : decode c_SH_fill 107 = .ok (.if_icmp .eq 37, 3) := by decide +kernel
theorem d_SH_fill_110 : decode c_SH_fill 110 = .ok (.aload_n 2, 1) := by decide +kernel
theorem d_SH_fill_111 : decode c_SH_fill 111 = .ok (.iload 5, 2) := by decide +kernel
theorem d_SH_fill_113 : decode c_SH_fill 113 = .ok (.iload 4, 2) := by decide +kernel
theorem d_SH_fill_115 : decode c_SH_fill 115 = .ok (.invokevirtual 54, 3) := by decide +kernel
theorem d_SH_fill_118 : decode c_SH_fill 118 = .ok (.istore 6, 2) := by decide +kernel
theorem d_SH_fill_120 : decode c_SH_fill 120 = .ok (.aload_n 0, 1) := by decide +kernel
theorem d_SH_fill_121 : decode c_SH_fill 121 = .ok (.getfield 15, 3) := by decide +kernel
theorem d_SH_fill_124 : decode c_SH_fill 124 = .ok (.iload 4, 2) := by decide +kernel
theorem d_SH_fill_126 : decode c_SH_fill 126 = .ok (.aload_n 0, 1) := by decide +kernel
theorem d_SH_fill_127 : decode c_SH_fill 127 = .ok (.iload 5, 2) := by decide +kernel
theorem d_SH_fill_129 : decode c_SH_fill 129 = .ok (.invokevirtual 57, 3) := by decide +kernel
theorem d_SH_fill_132 : decode c_SH_fill 132 = .ok (.aload_n 2, 1) := by decide +kernel
theorem d_SH_fill_133 : decode c_SH_fill 133 = .ok (.iload 5, 2) := by decide +kernel
theorem d_SH_fill_135 : decode c_SH_fill 135 = .ok (.invokevirtual 60, 3) := by decide +kernel
theorem d_SH_fill_138 : decode c_SH_fill 138 = .ok (.iload 6, 2) := by decide +kernel
theorem d_SH_fill_140 : decode c_SH_fill 140 = .ok (.invokestatic 47, 3) := by decide +kernel
theorem d_SH_fill_143 : decode c_SH_fill 143 = .ok (.iastore, 1) := by decide +kernel
theorem d_SH_fill_144 : decode c_SH_fill 144 = .ok (.iinc 4 1, 3) := by decide +kernel
theorem d_SH_fill_147 : decode c_SH_fill 147 = .ok (.goto (-59), 3) := by decide +kernel
theorem d_SH_fill_150 : decode c_SH_fill 150 = .ok (.return_, 1) := by decide +kernel
theorem d_SH_prizesTogether_0 : decode c_SH_prizesTogether 0 = .ok (.iconst 0, 1) := by decide +kernel
theorem d_SH_prizesTogether_1 : decode c_SH_prizesTogether 1 = .ok (.istore_n 3, 1) := by decide +kernel
theorem d_SH_prizesTogether_2 : decode c_SH_prizesTogether 2 = .ok (.iconst 0, 1) := by decide +kernel
theorem d_SH_prizesTogether_3 : decode c_SH_prizesTogether 3 = .ok (.istore 4, 2) := by decide +kernel
theorem d_SH_prizesTogether_5 : decode c_SH_prizesTogether 5 = .ok (.iload 4, 2) := by decide +kernel
theorem d_SH_prizesTogether_7 : decode c_SH_prizesTogether 7 = .ok (.iload_n 2, 1) := by decide +kernel
theorem d_SH_prizesTogether_8 : decode c_SH_prizesTogether 8 = .ok (.if_icmp .ge 27, 3) := by decide +kernel
theorem d_SH_prizesTogether_11 : decode c_SH_prizesTogether 11 = .ok (.iload 4, 2) := by decide +kernel
theorem d_SH_prizesTogether_13 : decode c_SH_prizesTogether 13 = .ok (.bipush 20, 2) := by decide +kernel
theorem d_SH_prizesTogether_15 : decode c_SH_prizesTogether 15 = .ok (.if_icmp .ge 20, 3) := by decide +kernel
theorem d_SH_prizesTogether_18 : decode c_SH_prizesTogether 18 = .ok (.iload_n 3, 1) := by decide +kernel
theorem d_SH_prizesTogether_19 : decode c_SH_prizesTogether 19 = .ok (.aload_n 0, 1) := by decide +kernel
theorem d_SH_prizesTogether_20 : decode c_SH_prizesTogether 20 = .ok (.iload_n 1, 1) := by decide +kernel
theorem d_SH_prizesTogether_21 : decode c_SH_prizesTogether 21 = .ok (.iload 4, 2) := by decide +kernel
theorem d_SH_prizesTogether_23 : decode c_SH_prizesTogether 23 = .ok (.iadd, 1) := by decide +kernel
theorem d_SH_prizesTogether_24 : decode c_SH_prizesTogether 24 = .ok (.invokevirtual 63, 3) := by decide +kernel
theorem d_SH_prizesTogether_27 : decode c_SH_prizesTogether 27 = .ok (.iadd, 1) := by decide +kernel
theorem d_SH_prizesTogether_28 : decode c_SH_prizesTogether 28 = .ok (.istore_n 3, 1) := by decide +kernel
theorem d_SH_prizesTogether_29 : decode c_SH_prizesTogether 29 = .ok (.iinc 4 1, 3) := by decide +kernel
theorem d_SH_prizesTogether_32 : decode c_SH_prizesTogether 32 = .ok (.goto (-27), 3) := by decide +kernel
theorem d_SH_prizesTogether_35 : decode c_SH_prizesTogether 35 = .ok (.iload_n 3, 1) := by decide +kernel
theorem d_SH_prizesTogether_36 : decode c_SH_prizesTogether 36 = .ok (.ireturn, 1) := by decide +kernel
theorem d_SH_ofGroup_0 : decode c_SH_ofGroup 0 = .ok (.aload_n 0, 1) := by decide +kernel
theorem d_SH_ofGroup_1 : decode c_SH_ofGroup 1 = .ok (.getfield 9, 3) := by decide +kernel
theorem d_SH_ofGroup_4 : decode c_SH_ofGroup 4 = .ok (.iload_n 1, 1) := by decide +kernel
theorem d_SH_ofGroup_5 : decode c_SH_ofGroup 5 = .ok (.invokestatic 68, 3) := by decide +kernel
theorem d_SH_ofGroup_8 : decode c_SH_ofGroup 8 = .ok (.ireturn, 1) := by decide +kernel
theorem d_SH_ofCaption_0 : decode c_SH_ofCaption 0 = .ok (.aload_n 0, 1) := by decide +kernel
theorem d_SH_ofCaption_1 : decode c_SH_ofCaption 1 = .ok (.getfield 15, 3) := by decide +kernel
theorem d_SH_ofCaption_4 : decode c_SH_ofCaption 4 = .ok (.iload_n 1, 1) := by decide +kernel
theorem d_SH_ofCaption_5 : decode c_SH_ofCaption 5 = .ok (.invokestatic 68, 3) := by decide +kernel
theorem d_SH_ofCaption_8 : decode c_SH_ofCaption 8 = .ok (.ireturn, 1) := by decide +kernel
theorem d_SH_inAll_0 : decode c_SH_inAll 0 = .ok (.iconst 0, 1) := by decide +kernel
theorem d_SH_inAll_1 : decode c_SH_inAll 1 = .ok (.istore_n 1, 1) := by decide +kernel
theorem d_SH_inAll_2 : decode c_SH_inAll 2 = .ok (.iconst 0, 1) := by decide +kernel
theorem d_SH_inAll_3 : decode c_SH_inAll 3 = .ok (.istore_n 2, 1) := by decide +kernel
theorem d_SH_inAll_4 : decode c_SH_inAll 4 = .ok (.iload_n 2, 1) := by decide +kernel
theorem d_SH_inAll_5 : decode c_SH_inAll 5 = .ok (.bipush 20, 2) := by decide +kernel
theorem d_SH_inAll_7 : decode c_SH_inAll 7 = .ok (.if_icmp .ge 18, 3) := by decide +kernel
theorem d_SH_inAll_10 : decode c_SH_inAll 10 = .ok (.iload_n 1, 1) := by decide +kernel
theorem d_SH_inAll_11 : decode c_SH_inAll 11 = .ok (.aload_n 0, 1) := by decide +kernel
theorem d_SH_inAll_12 : decode c_SH_inAll 12 = .ok (.getfield 15, 3) := by decide +kernel
theorem d_SH_inAll_15 : decode c_SH_inAll 15 = .ok (.iload_n 2, 1) := by decide +kernel
theorem d_SH_inAll_16 : decode c_SH_inAll 16 = .ok (.iaload, 1) := by decide +kernel
theorem d_SH_inAll_17 : decode c_SH_inAll 17 = .ok (.iadd, 1) := by decide +kernel
theorem d_SH_inAll_18 : decode c_SH_inAll 18 = .ok (.istore_n 1, 1) := by decide +kernel
theorem d_SH_inAll_19 : decode c_SH_inAll 19 = .ok (.iinc 2 1, 3) := by decide +kernel
theorem d_SH_inAll_22 : decode c_SH_inAll 22 = .ok (.goto (-18), 3) := by decide +kernel
theorem d_SH_inAll_25 : decode c_SH_inAll 25 = .ok (.iload_n 1, 1) := by decide +kernel
theorem d_SH_inAll_26 : decode c_SH_inAll 26 = .ok (.ireturn, 1) := by decide +kernel
theorem d_ST_init_0 : decode c_ST_init 0 = .ok (.aload_n 0, 1) := by decide +kernel
theorem d_ST_init_1 : decode c_ST_init 1 = .ok (.invokespecial 3, 3) := by decide +kernel
theorem d_ST_init_4 : decode c_ST_init 4 = .ok (.aload_n 0, 1) := by decide +kernel
theorem d_ST_init_5 : decode c_ST_init 5 = .ok (.iconst 0, 1) := by decide +kernel
theorem d_ST_init_6 : decode c_ST_init 6 = .ok (.putfield 9, 3) := by decide +kernel
theorem d_ST_init_9 : decode c_ST_init 9 = .ok (.aload_n 0, 1) := by decide +kernel
theorem d_ST_init_10 : decode c_ST_init 10 = .ok (.bipush 20, 2) := by decide +kernel
theorem d_ST_init_12 : decode c_ST_init 12 = .ok (.newarray .boolean, 2) := by decide +kernel
theorem d_ST_init_14 : decode c_ST_init 14 = .ok (.putfield 15, 3) := by decide +kernel
theorem d_ST_init_17 : decode c_ST_init 17 = .ok (.aload_n 0, 1) := by decide +kernel
theorem d_ST_init_18 : decode c_ST_init 18 = .ok (.bipush 20, 2) := by decide +kernel
theorem d_ST_init_20 : decode c_ST_init 20 = .ok (.newarray .int, 2) := by decide +kernel
theorem d_ST_init_22 : decode c_ST_init 22 = .ok (.putfield 19, 3) := by decide +kernel
theorem d_ST_init_25 : decode c_ST_init 25 = .ok (.aload_n 0, 1) := by decide +kernel
theorem d_ST_init_26 : decode c_ST_init 26 = .ok (.sipush 1200, 3) := by decide +kernel
theorem d_ST_init_29 : decode c_ST_init 29 = .ok (.newarray .int, 2) := by decide +kernel
theorem d_ST_init_31 : decode c_ST_init 31 = .ok (.putfield 23, 3) := by decide +kernel
theorem d_ST_init_34 : decode c_ST_init 34 = .ok (.aload_n 0, 1) := by decide +kernel
theorem d_ST_init_35 : decode c_ST_init 35 = .ok (.bipush 20, 2) := by decide +kernel
theorem d_ST_init_37 : decode c_ST_init 37 = .ok (.newarray .int, 2) := by decide +kernel
theorem d_ST_init_39 : decode c_ST_init 39 = .ok (.putfield 26, 3) := by decide +kernel
theorem d_ST_init_42 : decode c_ST_init 42 = .ok (.aload_n 0, 1) := by decide +kernel
theorem d_ST_init_43 : decode c_ST_init 43 = .ok (.sipush 1200, 3) := by decide +kernel
theorem d_ST_init_46 : decode c_ST_init 46 = .ok (.newarray .int, 2) := by decide +kernel
theorem d_ST_init_48 : decode c_ST_init 48 = .ok (.putfield 29, 3) := by decide +kernel
theorem d_ST_init_51 : decode c_ST_init 51 = .ok (.aload_n 0, 1) := by decide +kernel
theorem d_ST_init_52 : decode c_ST_init 52 = .ok (.bipush 20, 2) := by decide +kernel
theorem d_ST_init_54 : decode c_ST_init 54 = .ok (.newarray .int, 2) := by decide +kernel
theorem d_ST_init_56 : decode c_ST_init 56 = .ok (.putfield 32, 3) := by decide +kernel
theorem d_ST_init_59 : decode c_ST_init 59 = .ok (.aload_n 0, 1) := by decide +kernel
theorem d_ST_init_60 : decode c_ST_init 60 = .ok (.bipush 20, 2) := by decide +kernel
theorem d_ST_init_62 : decode c_ST_init 62 = .ok (.newarray .int, 2) := by decide +kernel
theorem d_ST_init_64 : decode c_ST_init 64 = .ok (.putfield 35, 3) := by decide +kernel
theorem d_ST_init_67 : decode c_ST_init 67 = .ok (.aload_n 0, 1) := by decide +kernel
theorem d_ST_init_68 : decode c_ST_init 68 = .ok (.sipush 400, 3) := by decide +kernel
theorem d_ST_init_71 : decode c_ST_init 71 = .ok (.newarray .boolean, 2) := by decide +kernel
theorem d_ST_init_73 : decode c_ST_init 73 = .ok (.putfield 38, 3) := by decide +kernel
theorem d_ST_init_76 : decode c_ST_init 76 = .ok (.aload_n 0, 1) := by decide +kernel
theorem d_ST_init_77 : decode c_ST_init 77 = .ok (.bipush 36, 2) := by decide +kernel
theorem d_ST_init_79 : decode c_ST_init 79 = .ok (.newarray .int, 2) := by decide +kernel
theorem d_ST_init_81 : decode c_ST_init 81 = .ok (.putfield 41, 3) := by decide +kernel
theorem d_ST_init_84 : decode c_ST_init 84 = .ok (.aload_n 0, 1) := by decide +kernel
theorem d_ST_init_85 : decode c_ST_init 85 = .ok (.bipush 60, 2) := by decide +kernel
theorem d_ST_init_87 : decode c_ST_init 87 = .ok (.newarray .int, 2) := by decide +kernel
theorem d_ST_init_89 : decode c_ST_init 89 = .ok (.putfield 44, 3) := by decide +kernel
theorem d_ST_init_92 : decode c_ST_init 92 = .ok (.aload_n 0, 1) := by decide +kernel
theorem d_ST_init_93 : decode c_ST_init 93 = .ok (.iconst 3, 1) := by decide +kernel
theorem d_ST_init_94 : decode c_ST_init 94 = .ok (.newarray .int, 2) := by decide +kernel
theorem d_ST_init_96 : decode c_ST_init 96 = .ok (.dup, 1) := by decide +kernel
theorem d_ST_init_97 : decode c_ST_init 97 = .ok (.iconst 0, 1) := by decide +kernel
theorem d_ST_init_98 : decode c_ST_init 98 = .ok (.iconst 0, 1) := by decide +kernel
theorem d_ST_init_99 : decode c_ST_init 99 = .ok (.iastore, 1) := by decide +kernel
theorem d_ST_init_100 : decode c_ST_init 100 = .ok (.dup, 1) := by decide +kernel
theorem d_ST_init_101 : decode c_ST_init 101 = .ok (.iconst 1, 1) := by decide +kernel
theorem d_ST_init_102 : decode c_ST_init 102 = .ok (.iconst 3, 1) := by decide +kernel
theorem d_ST_init_103 : decode c_ST_init 103 = .ok (.iastore, 1) := by decide +kernel
theorem d_ST_init_104 : decode c_ST_init 104 = .ok (.dup, 1) := by decide +kernel
theorem d_ST_init_105 : decode c_ST_init 105 = .ok (.iconst 2, 1) := by decide +kernel
theorem d_ST_init_106 : decode c_ST_init 106 = .ok (.iconst 0, 1) := by decide +kernel
theorem d_ST_init_107 : decode c_ST_init 107 = .ok (.iastore, 1) := by decide +kernel
theorem d_ST_init_108 : decode c_ST_init 108 = .ok (.putfield 47, 3) := by decide +kernel
theorem d_ST_init_111 : decode c_ST_init 111 = .ok (.aload_n 0, 1) := by decide +kernel
theorem d_ST_init_112 : decode c_ST_init 112 = .ok (.iconst 5, 1) := by decide +kernel
theorem d_ST_init_113 : decode c_ST_init 113 = .ok (.newarray .int, 2) := by decide +kernel
theorem d_ST_init_115 : decode c_ST_init 115 = .ok (.dup, 1) := by decide +kernel
theorem d_ST_init_116 : decode c_ST_init 116 = .ok (.iconst 0, 1) := by decide +kernel
theorem d_ST_init_117 : decode c_ST_init 117 = .ok (.bipush 100, 2) := by decide +kernel
theorem d_ST_init_119 : decode c_ST_init 119 = .ok (.iastore, 1) := by decide +kernel
theorem d_ST_init_120 : decode c_ST_init 120 = .ok (.dup, 1) := by decide +kernel
theorem d_ST_init_121 : decode c_ST_init 121 = .ok (.iconst 1, 1) := by decide +kernel
theorem d_ST_init_122 : decode c_ST_init 122 = .ok (.bipush 50, 2) := by decide +kernel
theorem d_ST_init_124 : decode c_ST_init 124 = .ok (.iastore, 1) := by decide +kernel
theorem d_ST_init_125 : decode c_ST_init 125 = .ok (.dup, 1) := by decide +kernel
theorem d_ST_init_126 : decode c_ST_init 126 = .ok (.iconst 2, 1) := by decide +kernel
theorem d_ST_init_127 : decode c_ST_init 127 = .ok (.bipush 20, 2) := by decide +kernel
theorem d_ST_init_129 : decode c_ST_init 129 = .ok (.iastore, 1) := by decide +kernel
theorem d_ST_init_130 : decode c_ST_init 130 = .ok (.dup, 1) := by decide +kernel
theorem d_ST_init_131 : decode c_ST_init 131 = .ok (.iconst 3, 1) := by decide +kernel
theorem d_ST_init_132 : decode c_ST_init 132 = .ok (.bipush 10, 2) := by decide +kernel
theorem d_ST_init_134 : decode c_ST_init 134 = .ok (.iastore, 1) := by decide +kernel
theorem d_ST_init_135 : decode c_ST_init 135 = .ok (.dup, 1) := by decide +kernel
theorem d_ST_init_136 : decode c_ST_init 136 = .ok (.iconst 4, 1) := by decide +kernel
theorem d_ST_init_137 : decode c_ST_init 137 = .ok (.iconst 5, 1) := by decide +kernel
theorem d_ST_init_138 : decode c_ST_init 138 = .ok (.iastore, 1) := by decide +kernel
theorem d_ST_init_139 : decode c_ST_init 139 = .ok (.putfield 50, 3) := by decide +kernel
theorem d_ST_init_142 : decode c_ST_init 142 = .ok (.aload_n 0, 1) := by decide +kernel
theorem d_ST_init_143 : decode c_ST_init 143 = .ok (.getfield 41, 3) := by decide +kernel
theorem d_ST_init_146 : decode c_ST_init 146 = .ok (.bipush (-5), 2) := by decide +kernel
theorem d_ST_init_148 : decode c_ST_init 148 = .ok (.invokestatic 53, 3) := by decide +kernel
theorem d_ST_init_151 : decode c_ST_init 151 = .ok (.aload_n 0, 1) := by decide +kernel
theorem d_ST_init_152 : decode c_ST_init 152 = .ok (.getfield 44, 3) := by decide +kernel
theorem d_ST_init_155 : decode c_ST_init 155 = .ok (.bipush (-5), 2) := by decide +kernel
theorem d_ST_init_157 : decode c_ST_init 157 = .ok (.invokestatic 53, 3) := by decide +kernel
theorem d_ST_init_160 : decode c_ST_init 160 = .ok (.return_, 1) := by decide +kernel
theorem d_ST_copyFrom_0 : decode c_ST_copyFrom 0 = .ok (.aload_n 0, 1) := by decide +kernel
theorem d_ST_copyFrom_1 : decode c_ST_copyFrom 1 = .ok (.aload_n 1, 1) := by decide +kernel
theorem d_ST_copyFrom_2 : decode c_ST_copyFrom 2 = .ok (.getfield 9, 3) := by decide +kernel
theorem d_ST_copyFrom_5 : decode c_ST_copyFrom 5 = .ok (.putfield 9, 3) := by decide +kernel
theorem d_ST_copyFrom_8 : decode c_ST_copyFrom 8 = .ok (.aload_n 1, 1) := by decide +kernel
theorem d_ST_copyFrom_9 : decode c_ST_copyFrom 9 = .ok (.getfield 15, 3) := by decide +kernel
theorem d_ST_copyFrom_12 : decode c_ST_copyFrom 12 = .ok (.aload_n 0, 1) := by decide +kernel
theorem d_ST_copyFrom_13 : decode c_ST_copyFrom 13 = .ok (.getfield 15, 3) := by decide +kernel
theorem d_ST_copyFrom_16 : decode c_ST_copyFrom 16 = .ok (.invokestatic 59, 3) := by decide +kernel
theorem d_ST_copyFrom_19 : decode c_ST_copyFrom 19 = .ok (.aload_n 1, 1) := by decide +kernel
theorem d_ST_copyFrom_20 : decode c_ST_copyFrom 20 = .ok (.getfield 19, 3) := by decide +kernel
theorem d_ST_copyFrom_23 : decode c_ST_copyFrom 23 = .ok (.aload_n 0, 1) := by decide +kernel
theorem d_ST_copyFrom_24 : decode c_ST_copyFrom 24 = .ok (.getfield 19, 3) := by decide +kernel
theorem d_ST_copyFrom_27 : decode c_ST_copyFrom 27 = .ok (.invokestatic 63, 3) := by decide +kernel
theorem d_ST_copyFrom_30 : decode c_ST_copyFrom 30 = .ok (.aload_n 1, 1) := by decide +kernel
theorem d_ST_copyFrom_31 : decode c_ST_copyFrom 31 = .ok (.getfield 23, 3) := by decide +kernel
theorem d_ST_copyFrom_34 : decode c_ST_copyFrom 34 = .ok (.aload_n 0, 1) := by decide +kernel
theorem d_ST_copyFrom_35 : decode c_ST_copyFrom 35 = .ok (.getfield 23, 3) := by decide +kernel
theorem d_ST_copyFrom_38 : decode c_ST_copyFrom 38 = .ok (.invokestatic 63, 3) := by decide +kernel
theorem d_ST_copyFrom_41 : decode c_ST_copyFrom 41 = .ok (.aload_n 1, 1) := by decide +kernel
theorem d_ST_copyFrom_42 : decode c_ST_copyFrom 42 = .ok (.getfield 26, 3) := by decide +kernel
theorem d_ST_copyFrom_45 : decode c_ST_copyFrom 45 = .ok (.aload_n 0, 1) := by decide +kernel
theorem d_ST_copyFrom_46 : decode c_ST_copyFrom 46 = .ok (.getfield 26, 3) := by decide +kernel
theorem d_ST_copyFrom_49 : decode c_ST_copyFrom 49 = .ok (.invokestatic 63, 3) := by decide +kernel
theorem d_ST_copyFrom_52 : decode c_ST_copyFrom 52 = .ok (.aload_n 1, 1) := by decide +kernel
theorem d_ST_copyFrom_53 : decode c_ST_copyFrom 53 = .ok (.getfield 29, 3) := by decide +kernel
theorem d_ST_copyFrom_56 : decode c_ST_copyFrom 56 = .ok (.aload_n 0, 1) := by decide +kernel
theorem d_ST_copyFrom_57 : decode c_ST_copyFrom 57 = .ok (.getfield 29, 3) := by decide +kernel
theorem d_ST_copyFrom_60 : decode c_ST_copyFrom 60 = .ok (.invokestatic 63, 3) := by decide +kernel
theorem d_ST_copyFrom_63 : decode c_ST_copyFrom 63 = .ok (.aload_n 1, 1) := by decide +kernel
theorem d_ST_copyFrom_64 : decode c_ST_copyFrom 64 = .ok (.getfield 32, 3) := by decide +kernel
theorem d_ST_copyFrom_67 : decode c_ST_copyFrom 67 = .ok (.aload_n 0, 1) := by decide +kernel
theorem d_ST_copyFrom_68 : decode c_ST_copyFrom 68 = .ok (.getfield 32, 3) := by decide +kernel
theorem d_ST_copyFrom_71 : decode c_ST_copyFrom 71 = .ok (.invokestatic 63, 3) := by decide +kernel
theorem d_ST_copyFrom_74 : decode c_ST_copyFrom 74 = .ok (.aload_n 1, 1) := by decide +kernel
theorem d_ST_copyFrom_75 : decode c_ST_copyFrom 75 = .ok (.getfield 35, 3) := by decide +kernel
theorem d_ST_copyFrom_78 : decode c_ST_copyFrom 78 = .ok (.aload_n 0, 1) := by decide +kernel
theorem d_ST_copyFrom_79 : decode c_ST_copyFrom 79 = .ok (.getfield 35, 3) := by decide +kernel
theorem d_ST_copyFrom_82 : decode c_ST_copyFrom 82 = .ok (.invokestatic 63, 3) := by decide +kernel
theorem d_ST_copyFrom_85 : decode c_ST_copyFrom 85 = .ok (.aload_n 1, 1) := by decide +kernel
theorem d_ST_copyFrom_86 : decode c_ST_copyFrom 86 = .ok (.getfield 38, 3) := by decide +kernel
theorem d_ST_copyFrom_89 : decode c_ST_copyFrom 89 = .ok (.aload_n 0, 1) := by decide +kernel
theorem d_ST_copyFrom_90 : decode c_ST_copyFrom 90 = .ok (.getfield 38, 3) := by decide +kernel
theorem d_ST_copyFrom_93 : decode c_ST_copyFrom 93 = .ok (.invokestatic 59, 3) := by decide +kernel
theorem d_ST_copyFrom_96 : decode c_ST_copyFrom 96 = .ok (.aload_n 1, 1) := by decide +kernel
theorem d_ST_copyFrom_97 : decode c_ST_copyFrom 97 = .ok (.getfield 41, 3) := by decide +kernel
theorem d_ST_copyFrom_100 : decode c_ST_copyFrom 100 = .ok (.aload_n 0, 1) := by decide +kernel
theorem d_ST_copyFrom_101 : decode c_ST_copyFrom 101 = .ok (.getfield 41, 3) := by decide +kernel
theorem d_ST_copyFrom_104 : decode c_ST_copyFrom 104 = .ok (.invokestatic 63, 3) := by decide +kernel
theorem d_ST_copyFrom_107 : decode c_ST_copyFrom 107 = .ok (.aload_n 1, 1) := by decide +kernel
theorem d_ST_copyFrom_108 : decode c_ST_copyFrom 108 = .ok (.getfield 44, 3) := by decide +kernel
theorem d_ST_copyFrom_111 : decode c_ST_copyFrom 111 = .ok (.aload_n 0, 1) := by decide +kernel
theorem d_ST_copyFrom_112 : decode c_ST_copyFrom 112 = .ok (.getfield 44, 3) := by decide +kernel
theorem d_ST_copyFrom_115 : decode c_ST_copyFrom 115 = .ok (.invokestatic 63, 3) := by decide +kernel
theorem d_ST_copyFrom_118 : decode c_ST_copyFrom 118 = .ok (.aload_n 1, 1) := by decide +kernel
theorem d_ST_copyFrom_119 : decode c_ST_copyFrom 119 = .ok (.getfield 47, 3) := by decide +kernel
theorem d_ST_copyFrom_122 : decode c_ST_copyFrom 122 = .ok (.aload_n 0, 1) := by decide +kernel
theorem d_ST_copyFrom_123 : decode c_ST_copyFrom 123 = .ok (.getfield 47, 3) := by decide +kernel
theorem d_ST_copyFrom_126 : decode c_ST_copyFrom 126 = .ok (.invokestatic 63, 3) := by decide +kernel
theorem d_ST_copyFrom_129 : decode c_ST_copyFrom 129 = .ok (.aload_n 1, 1) := by decide +kernel
theorem d_ST_copyFrom_130 : decode c_ST_copyFrom 130 = .ok (.getfield 50, 3) := by decide +kernel
theorem d_ST_copyFrom_133 : decode c_ST_copyFrom 133 = .ok (.aload_n 0, 1) := by decide +kernel
theorem d_ST_copyFrom_134 : decode c_ST_copyFrom 134 = .ok (.getfield 50, 3) := by decide +kernel
theorem d_ST_copyFrom_137 : decode c_ST_copyFrom 137 = .ok (.invokestatic 63, 3) := by decide +kernel
theorem d_ST_copyFrom_140 : decode c_ST_copyFrom 140 = .ok (.return_, 1) := by decide +kernel
theorem d_ST_captionsSoFar_0 : decode c_ST_captionsSoFar 0 = .ok (.aload_n 0, 1) := by decide +kernel
theorem d_ST_captionsSoFar_1 : decode c_ST_captionsSoFar 1 = .ok (.getfield 9, 3) := by decide +kernel
theorem d_ST_captionsSoFar_4 : decode c_ST_captionsSoFar 4 = .ok (.ireturn, 1) := by decide +kernel
theorem d_ST_isIn_0 : decode c_ST_isIn 0 = .ok (.iload_n 1, 1) := by decide +kernel
theorem d_ST_isIn_1 : decode c_ST_isIn 1 = .ok (.bipush 20, 2) := by decide +kernel
theorem d_ST_isIn_3 : decode c_ST_isIn 3 = .ok (.invokestatic 67, 3) := by decide +kernel
theorem d_ST_isIn_6 : decode c_ST_isIn 6 = .ok (.ifCond .eq 16, 3) := by decide +kernel
theorem d_ST_isIn_9 : decode c_ST_isIn 9 = .ok (.aload_n 0, 1) := by decide +kernel
theorem d_ST_isIn_10 : decode c_ST_isIn 10 = .ok (.getfield 15, 3) := by decide +kernel
theorem d_ST_isIn_13 : decode c_ST_isIn 13 = .ok (.iload_n 1, 1) := by decide +kernel
theorem d_ST_isIn_14 : decode c_ST_isIn 14 = .ok (.baload, 1) := by decide +kernel
theorem d_ST_isIn_15 : decode c_ST_isIn 15 = .ok (.ifCond .eq 7, 3) := by decide +kernel
theorem d_ST_isIn_18 : decode c_ST_isIn 18 = .ok (.iconst 1, 1) := by decide +kernel
theorem d_ST_isIn_19 : decode c_ST_isIn 19 = .ok (.goto 4, 3) := by decide +kernel
theorem d_ST_isIn_22 : decode c_ST_isIn 22 = .ok (.iconst 0, 1) := by decide +kernel
theorem d_ST_isIn_23 : decode c_ST_isIn 23 = .ok (.ireturn, 1) := by decide +kernel
theorem d_ST_captionsIn_0 : decode c_ST_captionsIn 0 = .ok (.iconst 0, 1) := by decide +kernel
theorem d_ST_captionsIn_1 : decode c_ST_captionsIn 1 = .ok (.istore_n 1, 1) := by decide +kernel
theorem d_ST_captionsIn_2 : decode c_ST_captionsIn 2 = .ok (.iconst 0, 1) := by decide +kernel
theorem d_ST_captionsIn_3 : decode c_ST_captionsIn 3 = .ok (.istore_n 2, 1) := by decide +kernel
theorem d_ST_captionsIn_4 : decode c_ST_captionsIn 4 = .ok (.iload_n 2, 1) := by decide +kernel
theorem d_ST_captionsIn_5 : decode c_ST_captionsIn 5 = .ok (.bipush 20, 2) := by decide +kernel
theorem d_ST_captionsIn_7 : decode c_ST_captionsIn 7 = .ok (.if_icmp .ge 20, 3) := by decide +kernel
theorem d_ST_captionsIn_10 : decode c_ST_captionsIn 10 = .ok (.aload_n 0, 1) := by decide +kernel
theorem d_ST_captionsIn_11 : decode c_ST_captionsIn 11 = .ok (.iload_n 2, 1) := by decide +kernel
theorem d_ST_captionsIn_12 : decode c_ST_captionsIn 12 = .ok (.invokevirtual 71, 3) := by decide +kernel
theorem d_ST_captionsIn_15 : decode c_ST_captionsIn 15 = .ok (.ifCond .eq 6, 3) := by decide +kernel
theorem d_ST_captionsIn_18 : decode c_ST_captionsIn 18 = .ok (.iinc 1 1, 3) := by decide +kernel
theorem d_ST_captionsIn_21 : decode c_ST_captionsIn 21 = .ok (.iinc 2 1, 3) := by decide +kernel
theorem d_ST_captionsIn_24 : decode c_ST_captionsIn 24 = .ok (.goto (-20), 3) := by decide +kernel
theorem d_ST_captionsIn_27 : decode c_ST_captionsIn 27 = .ok (.iload_n 1, 1) := by decide +kernel
theorem d_ST_captionsIn_28 : decode c_ST_captionsIn 28 = .ok (.ireturn, 1) := by decide +kernel
theorem d_ST_add_0 : decode c_ST_add 0 = .ok (.aload_n 0, 1) := by decide +kernel
theorem d_ST_add_1 : decode c_ST_add 1 = .ok (.getfield 9, 3) := by decide +kernel
theorem d_ST_add_4 : decode c_ST_add 4 = .ok (.istore_n 3, 1) := by decide +kernel
theorem d_ST_add_5 : decode c_ST_add 5 = .ok (.iload_n 3, 1) := by decide +kernel
theorem d_ST_add_6 : decode c_ST_add 6 = .ok (.bipush 20, 2) := by decide +kernel
theorem d_ST_add_8 : decode c_ST_add 8 = .ok (.invokestatic 67, 3) := by decide +kernel
theorem d_ST_add_11 : decode c_ST_add 11 = .ok (.ifCond .ne 6, 3) := by decide +kernel
theorem d_ST_add_14 : decode c_ST_add 14 = .ok (.bipush (-3), 2) := by decide +kernel
theorem d_ST_add_16 : decode c_ST_add 16 = .ok (.ireturn, 1) := by decide +kernel
theorem d_ST_add_17 : decode c_ST_add 17 = .ok (.aload_n 0, 1) := by decide +kernel
theorem d_ST_add_18 : decode c_ST_add 18 = .ok (.getfield 15, 3) := by decide +kernel
theorem d_ST_add_21 : decode c_ST_add 21 = .ok (.iload_n 3, 1) := by decide +kernel
theorem d_ST_add_22 : decode c_ST_add 22 = .ok (.iconst 1, 1) := by decide +kernel
theorem d_ST_add_23 : decode c_ST_add 23 = .ok (.bastore, 1) := by decide +kernel
theorem d_ST_add_24 : decode c_ST_add 24 = .ok (.aload_n 0, 1) := by decide +kernel
theorem d_ST_add_25 : decode c_ST_add 25 = .ok (.getfield 19, 3) := by decide +kernel
theorem d_ST_add_28 : decode c_ST_add 28 = .ok (.iload_n 3, 1) := by decide +kernel
theorem d_ST_add_29 : decode c_ST_add 29 = .ok (.iload_n 1, 1) := by decide +kernel
theorem d_ST_add_30 : decode c_ST_add 30 = .ok (.iastore, 1) := by decide +kernel
theorem d_ST_add_31 : decode c_ST_add 31 = .ok (.aload_n 2, 1) := by decide +kernel
theorem d_ST_add_32 : decode c_ST_add 32 = .ok (.invokevirtual 75, 3) := by decide +kernel
theorem d_ST_add_35 : decode c_ST_add 35 = .ok (.bipush 60, 2) := by decide +kernel
theorem d_ST_add_37 : decode c_ST_add 37 = .ok (.invokestatic 81, 3) := by decide +kernel
theorem d_ST_add_40 : decode c_ST_add 40 = .ok (.istore 4, 2) := by decide +kernel
theorem d_ST_add_42 : decode c_ST_add 42 = .ok (.aload_n 0, 1) := by decide +kernel
theorem d_ST_add_43 : decode c_ST_add 43 = .ok (.getfield 26, 3) := by decide +kernel
theorem d_ST_add_46 : decode c_ST_add 46 = .ok (.iload_n 3, 1) := by decide +kernel
theorem d_ST_add_47 : decode c_ST_add 47 = .ok (.iload 4, 2) := by decide +kernel
theorem d_ST_add_49 : decode c_ST_add 49 = .ok (.iastore, 1) := by decide +kernel
theorem d_ST_add_50 : decode c_ST_add 50 = .ok (.aload_n 0, 1) := by decide +kernel
theorem d_ST_add_51 : decode c_ST_add 51 = .ok (.getfield 32, 3) := by decide +kernel
theorem d_ST_add_54 : decode c_ST_add 54 = .ok (.iload_n 3, 1) := by decide +kernel
theorem d_ST_add_55 : decode c_ST_add 55 = .ok (.iconst 0, 1) := by decide +kernel
theorem d_ST_add_56 : decode c_ST_add 56 = .ok (.iastore, 1) := by decide +kernel
theorem d_ST_add_57 : decode c_ST_add 57 = .ok (.iconst 0, 1) := by decide +kernel
theorem d_ST_add_58 : decode c_ST_add 58 = .ok (.istore 5, 2) := by decide +kernel
theorem d_ST_add_60 : decode c_ST_add 60 = .ok (.iload 5, 2) := by decide +kernel
theorem d_ST_add_62 : decode c_ST_add 62 = .ok (.iload 4, 2) := by decide +kernel
theorem d_ST_add_64 : decode c_ST_add 64 = .ok (.if_icmp .ge 22, 3) := by decide +kernel
theorem d_ST_add_67 : decode c_ST_add 67 = .ok (.aload_n 0, 1) := by decide +kernel
theorem d_ST_add_68 : decode c_ST_add 68 = .ok (.iload_n 3, 1) := by decide +kernel
theorem d_ST_add_69 : decode c_ST_add 69 = .ok (.iload 5, 2) := by decide +kernel
theorem d_ST_add_71 : decode c_ST_add 71 = .ok (.aload_n 2, 1) := by decide +kernel
theorem d_ST_add_72 : decode c_ST_add 72 = .ok (.iload 5, 2) := by decide +kernel
theorem d_ST_add_74 : decode c_ST_add 74 = .ok (.invokevirtual 87, 3) := by decide +kernel
theorem d_ST_add_77 : decode c_ST_add 77 = .ok (.invokevirtual 91, 3) := by decide +kernel
theorem d_ST_add_80 : decode c_ST_add 80 = .ok (.iinc 5 1, 3) := by decide +kernel
theorem d_ST_add_83 : decode c_ST_add 83 = .ok (.goto (-23), 3) := by decide +kernel
theorem d_ST_add_86 : decode c_ST_add 86 = .ok (.aload_n 0, 1) := by decide +kernel
theorem d_ST_add_87 : decode c_ST_add 87 = .ok (.getfield 35, 3) := by decide +kernel
theorem d_ST_add_90 : decode c_ST_add 90 = .ok (.iload_n 3, 1) := by decide +kernel
theorem d_ST_add_91 : decode c_ST_add 91 = .ok (.aload_n 0, 1) := by decide +kernel
theorem d_ST_add_92 : decode c_ST_add 92 = .ok (.iload_n 3, 1) := by decide +kernel
theorem d_ST_add_93 : decode c_ST_add 93 = .ok (.invokevirtual 95, 3) := by decide +kernel
theorem d_ST_add_96 : decode c_ST_add 96 = .ok (.iastore, 1) := by decide +kernel
theorem d_ST_add_97 : decode c_ST_add 97 = .ok (.aload_n 0, 1) := by decide +kernel
theorem d_ST_add_98 : decode c_ST_add 98 = .ok (.dup, 1) := by decide +kernel
theorem d_ST_add_99 : decode c_ST_add 99 = .ok (.getfield 9, 3) := by decide +kernel
theorem d_ST_add_102 : decode c_ST_add 102 = .ok (.iconst 1, 1) := by decide +kernel
theorem d_ST_add_103 : decode c_ST_add 103 = .ok (.iadd, 1) := by decide +kernel
theorem d_ST_add_104 : decode c_ST_add 104 = .ok (.putfield 9, 3) := by decide +kernel
theorem d_ST_add_107 : decode c_ST_add 107 = .ok (.iload_n 3, 1) := by decide +kernel
theorem d_ST_add_108 : decode c_ST_add 108 = .ok (.ireturn, 1) := by decide +kernel
theorem d_ST_addLetter_0 : decode c_ST_addLetter 0 = .ok (.aload_n 0, 1) := by decide +kernel
theorem d_ST_addLetter_1 : decode c_ST_addLetter 1 = .ok (.getfield 23, 3) := by decide +kernel
theorem d_ST_addLetter_4 : decode c_ST_addLetter 4 = .ok (.iload_n 1, 1) := by decide +kernel
theorem d_ST_addLetter_5 : decode c_ST_addLetter 5 = .ok (.bipush 60, 2) := by decide +kernel
theorem d_ST_addLetter_7 : decode c_ST_addLetter 7 = .ok (.imul, 1) := by decide +kernel
theorem d_ST_addLetter_8 : decode c_ST_addLetter 8 = .ok (.iload_n 2, 1) := by decide +kernel
theorem d_ST_addLetter_9 : decode c_ST_addLetter 9 = .ok (.iadd, 1) := by decide +kernel
theorem d_ST_addLetter_10 : decode c_ST_addLetter 10 = .ok (.iload_n 3, 1) := by decide +kernel
theorem d_ST_addLetter_11 : decode c_ST_addLetter 11 = .ok (.invokestatic 98, 3) := by decide +kernel
theorem d_ST_addLetter_14 : decode c_ST_addLetter 14 = .ok (.iload_n 3, 1) := by decide +kernel
theorem d_ST_addLetter_15 : decode c_ST_addLetter 15 = .ok (.invokestatic 102, 3) := by decide +kernel
theorem d_ST_addLetter_18 : decode c_ST_addLetter 18 = .ok (.ifCond .eq 40, 3) := by decide +kernel
theorem d_ST_addLetter_21 : decode c_ST_addLetter 21 = .ok (.aload_n 0, 1) := by decide +kernel
theorem d_ST_addLetter_22 : decode c_ST_addLetter 22 = .ok (.iload_n 1, 1) := by decide +kernel
theorem d_ST_addLetter_23 : decode c_ST_addLetter 23 = .ok (.invokevirtual 105, 3) := by decide +kernel
theorem d_ST_addLetter_26 : decode c_ST_addLetter 26 = .ok (.istore 4, 2) := by decide +kernel
theorem d_ST_addLetter_28 : decode c_ST_addLetter 28 = .ok (.aload_n 0, 1) := by decide +kernel
theorem d_ST_addLetter_29 : decode c_ST_addLetter 29 = .ok (.getfield 29, 3) := by decide +kernel
theorem d_ST_addLetter_32 : decode c_ST_addLetter 32 = .ok (.iload_n 1, 1) := by decide +kernel
theorem d_ST_addLetter_33 : decode c_ST_addLetter 33 = .ok (.bipush 60, 2) := by decide +kernel
theorem d_ST_addLetter_35 : decode c_ST_addLetter 35 = .ok (.imul, 1) := by decide +kernel
theorem d_ST_addLetter_36 : decode c_ST_addLetter 36 = .ok (.iload 4, 2) := by decide +kernel
theorem d_ST_addLetter_38 : decode c_ST_addLetter 38 = .ok (.iadd, 1) := by decide +kernel
theorem d_ST_addLetter_39 : decode c_ST_addLetter 39 = .ok (.iload_n 3, 1) := by decide +kernel
theorem d_ST_addLetter_40 : decode c_ST_addLetter 40 = .ok (.invokestatic 108, 3) := by decide +kernel
theorem d_ST_addLetter_43 : decode c_ST_addLetter 43 = .ok (.invokestatic 98, 3) := by decide +kernel
theorem d_ST_addLetter_46 : decode c_ST_addLetter 46 = .ok (.aload_n 0, 1) := by decide +kernel
theorem d_ST_addLetter_47 : decode c_ST_addLetter 47 = .ok (.getfield 32, 3) := by decide +kernel
theorem d_ST_addLetter_50 : decode c_ST_addLetter 50 = .ok (.iload_n 1, 1) := by decide +kernel
theorem d_ST_addLetter_51 : decode c_ST_addLetter 51 = .ok (.iload 4, 2) := by decide +kernel
theorem d_ST_addLetter_53 : decode c_ST_addLetter 53 = .ok (.iconst 1, 1) := by decide +kernel
theorem d_ST_addLetter_54 : decode c_ST_addLetter 54 = .ok (.iadd, 1) := by decide +kernel
theorem d_ST_addLetter_55 : decode c_ST_addLetter 55 = .ok (.invokestatic 98, 3) := by decide +kernel
theorem d_ST_addLetter_58 : decode c_ST_addLetter 58 = .ok (.return_, 1) := by decide +kernel
theorem d_ST_firstWithCoreOf_0 : decode c_ST_firstWithCoreOf 0 = .ok (.iconst 0, 1) := by decide +kernel
theorem d_ST_firstWithCoreOf_1 : decode c_ST_firstWithCoreOf 1 = .ok (.istore_n 2, 1) := by decide +kernel
theorem d_ST_firstWithCoreOf_2 : decode c_ST_firstWithCoreOf 2 = .ok (.iload_n 2, 1) := by decide +kernel
theorem d_ST_firstWithCoreOf_3 : decode c_ST_firstWithCoreOf 3 = .ok (.iload_n 1, 1) := by decide +kernel
theorem d_ST_firstWithCoreOf_4 : decode c_ST_firstWithCoreOf 4 = .ok (.if_icmp .ge 26, 3) := by decide +kernel
theorem d_ST_firstWithCoreOf_7 : decode c_ST_firstWithCoreOf 7 = .ok (.iload_n 2, 1) := by decide +kernel
theorem d_ST_firstWithCoreOf_8 : decode c_ST_firstWithCoreOf 8 = .ok (.bipush 20, 2) := by decide +kernel
theorem d_ST_firstWithCoreOf_10 : decode c_ST_firstWithCoreOf 10 = .ok (.if_icmp .ge 20, 3) := by decide +kernel
theorem d_ST_firstWithCoreOf_13 : decode c_ST_firstWithCoreOf 13 = .ok (.aload_n 0, 1) := by decide +kernel
theorem d_ST_firstWithCoreOf_14 : decode c_ST_firstWithCoreOf 14 = .ok (.iload_n 2, 1) := by decide +kernel
theorem d_ST_firstWithCoreOf_15 : decode c_ST_firstWithCoreOf 15 = .ok (.iload_n 1, 1) := by decide +kernel
theorem d_ST_firstWithCoreOf_16 : decode c_ST_firstWithCoreOf 16 = .ok (.invokevirtual 111, 3) := by decide +kernel
theorem d_ST_firstWithCoreOf_19 : decode c_ST_firstWithCoreOf 19 = .ok (.ifCond .eq 5, 3) := by decide +kernel
theorem d_ST_firstWithCoreOf_22 : decode c_ST_firstWithCoreOf 22 = .ok (.iload_n 2, 1) := by decide +kernel
theorem d_ST_firstWithCoreOf_23 : decode c_ST_firstWithCoreOf 23 = .ok (.ireturn, 1) := by decide +kernel
theorem d_ST_firstWithCoreOf_24 : decode c_ST_firstWithCoreOf 24 = .ok (.iinc 2 1, 3) := by decide +kernel
theorem d_ST_firstWithCoreOf_27 : decode c_ST_firstWithCoreOf 27 = .ok (.goto (-25), 3) := by decide +kernel
theorem d_ST_firstWithCoreOf_30 : decode c_ST_firstWithCoreOf 30 = .ok (.iload_n 1, 1) := by decide +kernel
theorem d_ST_firstWithCoreOf_31 : decode c_ST_firstWithCoreOf 31 = .ok (.ireturn, 1) := by decide +kernel
theorem d_ST_haveSameCore_0 : decode c_ST_haveSameCore 0 = .ok (.aload_n 0, 1) := by decide +kernel
theorem d_ST_haveSameCore_1 : decode c_ST_haveSameCore 1 = .ok (.iload_n 1, 1) := by decide +kernel
theorem d_ST_haveSameCore_2 : decode c_ST_haveSameCore 2 = .ok (.invokevirtual 105, 3) := by decide +kernel
theorem d_ST_haveSameCore_5 : decode c_ST_haveSameCore 5 = .ok (.aload_n 0, 1) := by decide +kernel
theorem d_ST_haveSameCore_6 : decode c_ST_haveSameCore 6 = .ok (.iload_n 2, 1) := by decide +kernel
theorem d_ST_haveSameCore_7 : decode c_ST_haveSameCore 7 = .ok (.invokevirtual 105, 3) := by decide +kernel
theorem d_ST_haveSameCore_10 : decode c_ST_haveSameCore 10 = .ok (.if_icmp .eq 5, 3) := by decide +kernel
theorem d_ST_haveSameCore_13 : decode c_ST_haveSameCore 13 = .ok (.iconst 0, 1) := by decide +kernel
theorem d_ST_haveSameCore_14 : decode c_ST_haveSameCore 14 = .ok (.ireturn, 1) := by decide +kernel
theorem d_ST_haveSameCore_15 : decode c_ST_haveSameCore 15 = .ok (.iconst 0, 1) := by decide +kernel
theorem d_ST_haveSameCore_16 : decode c_ST_haveSameCore 16 = .ok (.istore_n 3, 1) := by decide +kernel
theorem d_ST_haveSameCore_17 : decode c_ST_haveSameCore 17 = .ok (.iload_n 3, 1) := by decide +kernel
theorem d_ST_haveSameCore_18 : decode c_ST_haveSameCore 18 = .ok (.bipush 60, 2) := by decide +kernel
theorem d_ST_haveSameCore_20 : decode c_ST_haveSameCore 20 = .ok (.if_icmp .ge 35, 3) := by decide +kernel
theorem d_ST_haveSameCore_23 : decode c_ST_haveSameCore 23 = .ok (.iload_n 3, 1) := by decide +kernel
theorem d_ST_haveSameCore_24 : decode c_ST_haveSameCore 24 = .ok (.aload_n 0, 1) := by decide +kernel
theorem d_ST_haveSameCore_25 : decode c_ST_haveSameCore 25 = .ok (.iload_n 1, 1) := by decide +kernel
theorem d_ST_haveSameCore_26 : decode c_ST_haveSameCore 26 = .ok (.invokevirtual 105, 3) := by decide +kernel
theorem d_ST_haveSameCore_29 : decode c_ST_haveSameCore 29 = .ok (.if_icmp .ge 26, 3) := by decide +kernel
theorem d_ST_haveSameCore_32 : decode c_ST_haveSameCore 32 = .ok (.aload_n 0, 1) := by decide +kernel
theorem d_ST_haveSameCore_33 : decode c_ST_haveSameCore 33 = .ok (.iload_n 1, 1) := by decide +kernel
theorem d_ST_haveSameCore_34 : decode c_ST_haveSameCore 34 = .ok (.iload_n 3, 1) := by decide +kernel
theorem d_ST_haveSameCore_35 : decode c_ST_haveSameCore 35 = .ok (.invokevirtual 114, 3) := by decide +kernel
theorem d_ST_haveSameCore_38 : decode c_ST_haveSameCore 38 = .ok (.aload_n 0, 1) := by decide +kernel
theorem d_ST_haveSameCore_39 : decode c_ST_haveSameCore 39 = .ok (.iload_n 2, 1) := by decide +kernel
theorem d_ST_haveSameCore_40 : decode c_ST_haveSameCore 40 = .ok (.iload_n 3, 1) := by decide +kernel
theorem d_ST_haveSameCore_41 : decode c_ST_haveSameCore 41 = .ok (.invokevirtual 114, 3) := by decide +kernel
theorem d_ST_haveSameCore_44 : decode c_ST_haveSameCore 44 = .ok (.if_icmp .eq 5, 3) := by decide +kernel
theorem d_ST_haveSameCore_47 : decode c_ST_haveSameCore 47 = .ok (.iconst 0, 1) := by decide +kernel
theorem d_ST_haveSameCore_48 : decode c_ST_haveSameCore 48 = .ok (.ireturn, 1) := by decide +kernel
theorem d_ST_haveSameCore_49 : decode c_ST_haveSameCore 49 = .ok (.iinc 3 1, 3) := by decide +kernel
theorem d_ST_haveSameCore_52 : decode c_ST_haveSameCore 52 = .ok (.goto (-35), 3) := by decide +kernel
theorem d_ST_haveSameCore_55 : decode c_ST_haveSameCore 55 = .ok (.iconst 1, 1) := by decide +kernel
theorem d_ST_haveSameCore_56 : decode c_ST_haveSameCore 56 = .ok (.ireturn, 1) := by decide +kernel
theorem d_ST_areAlike_0 : decode c_ST_areAlike 0 = .ok (.aload_n 0, 1) := by decide +kernel
theorem d_ST_areAlike_1 : decode c_ST_areAlike 1 = .ok (.getfield 35, 3) := by decide +kernel
theorem d_ST_areAlike_4 : decode c_ST_areAlike 4 = .ok (.iload_n 1, 1) := by decide +kernel
theorem d_ST_areAlike_5 : decode c_ST_areAlike 5 = .ok (.invokestatic 117, 3) := by decide +kernel
theorem d_ST_areAlike_8 : decode c_ST_areAlike 8 = .ok (.aload_n 0, 1) := by decide +kernel
theorem d_ST_areAlike_9 : decode c_ST_areAlike 9 = .ok (.getfield 35, 3) := by decide +kernel
theorem d_ST_areAlike_12 : decode c_ST_areAlike 12 = .ok (.iload_n 2, 1) := by decide +kernel
theorem d_ST_areAlike_13 : decode c_ST_areAlike 13 = .ok (.invokestatic 117, 3) := by decide +kernel
theorem d_ST_areAlike_16 : decode c_ST_areAlike 16 = .ok (.if_icmp .ne 7, 3) := by decide +kernel
theorem d_ST_areAlike_19 : decode c_ST_areAlike 19 = .ok (.iconst 1, 1) := by decide +kernel
theorem d_ST_areAlike_20 : decode c_ST_areAlike 20 = .ok (.goto 4, 3) := by decide +kernel
theorem d_ST_areAlike_23 : decode c_ST_areAlike 23 = .ok (.iconst 0, 1) := by decide +kernel
theorem d_ST_areAlike_24 : decode c_ST_areAlike 24 = .ok (.ireturn, 1) := by decide +kernel
theorem d_ST_takeOut_0 : decode c_ST_takeOut 0 = .ok (.iload_n 1, 1) := by decide +kernel
theorem d_ST_takeOut_1 : decode c_ST_takeOut 1 = .ok (.bipush 20, 2) := by decide +kernel
theorem d_ST_takeOut_3 : decode c_ST_takeOut 3 = .ok (.invokestatic 67, 3) := by decide +kernel
theorem d_ST_takeOut_6 : decode c_ST_takeOut 6 = .ok (.ifCond .eq 10, 3) := by decide +kernel
theorem d_ST_takeOut_9 : decode c_ST_takeOut 9 = .ok (.aload_n 0, 1) := by decide +kernel
theorem d_ST_takeOut_10 : decode c_ST_takeOut 10 = .ok (.getfield 15, 3) := by decide +kernel
theorem d_ST_takeOut_13 : decode c_ST_takeOut 13 = .ok (.iload_n 1, 1) := by decide +kernel
theorem d_ST_takeOut_14 : decode c_ST_takeOut 14 = .ok (.iconst 0, 1) := by decide +kernel
theorem d_ST_takeOut_15 : decode c_ST_takeOut 15 = .ok (.bastore, 1) := by decide +kernel
theorem d_ST_takeOut_16 : decode c_ST_takeOut 16 = .ok (.return_, 1) := by decide +kernel
theorem d_ST_authorOf_0 : decode c_ST_authorOf 0 = .ok (.aload_n 0, 1) := by decide +kernel
theorem d_ST_authorOf_1 : decode c_ST_authorOf 1 = .ok (.getfield 19, 3) := by decide +kernel
theorem d_ST_authorOf_4 : decode c_ST_authorOf 4 = .ok (.iload_n 1, 1) := by decide +kernel
theorem d_ST_authorOf_5 : decode c_ST_authorOf 5 = .ok (.invokestatic 117, 3) := by decide +kernel
theorem d_ST_authorOf_8 : decode c_ST_authorOf 8 = .ok (.ireturn, 1) := by decide +kernel
theorem d_ST_lengthOf_0 : decode c_ST_lengthOf 0 = .ok (.aload_n 0, 1) := by decide +kernel
theorem d_ST_lengthOf_1 : decode c_ST_lengthOf 1 = .ok (.getfield 26, 3) := by decide +kernel
theorem d_ST_lengthOf_4 : decode c_ST_lengthOf 4 = .ok (.iload_n 1, 1) := by decide +kernel
theorem d_ST_lengthOf_5 : decode c_ST_lengthOf 5 = .ok (.invokestatic 117, 3) := by decide +kernel
theorem d_ST_lengthOf_8 : decode c_ST_lengthOf 8 = .ok (.ireturn, 1) := by decide +kernel
theorem d_ST_coreLengthOf_0 : decode c_ST_coreLengthOf 0 = .ok (.aload_n 0, 1) := by decide +kernel
theorem d_ST_coreLengthOf_1 : decode c_ST_coreLengthOf 1 = .ok (.getfield 32, 3) := by decide +kernel
theorem d_ST_coreLengthOf_4 : decode c_ST_coreLengthOf 4 = .ok (.iload_n 1, 1) := by decide +kernel
theorem d_ST_coreLengthOf_5 : decode c_ST_coreLengthOf 5 = .ok (.invokestatic 117, 3) := by decide +kernel
theorem d_ST_coreLengthOf_8 : decode c_ST_coreLengthOf 8 = .ok (.ireturn, 1) := by decide +kernel
theorem d_ST_textLetter_0 : decode c_ST_textLetter 0 = .ok (.iload_n 2, 1) := by decide +kernel
theorem d_ST_textLetter_1 : decode c_ST_textLetter 1 = .ok (.aload_n 0, 1) := by decide +kernel
theorem d_ST_textLetter_2 : decode c_ST_textLetter 2 = .ok (.iload_n 1, 1) := by decide +kernel
theorem d_ST_textLetter_3 : decode c_ST_textLetter 3 = .ok (.invokevirtual 121, 3) := by decide +kernel
theorem d_ST_textLetter_6 : decode c_ST_textLetter 6 = .ok (.invokestatic 67, 3) := by decide +kernel
theorem d_ST_textLetter_9 : decode c_ST_textLetter 9 = .ok (.ifCond .eq 19, 3) := by decide +kernel
theorem d_ST_textLetter_12 : decode c_ST_textLetter 12 = .ok (.aload_n 0, 1) := by decide +kernel
theorem d_ST_textLetter_13 : decode c_ST_textLetter 13 = .ok (.getfield 23, 3) := by decide +kernel
theorem d_ST_textLetter_16 : decode c_ST_textLetter 16 = .ok (.iload_n 1, 1) := by decide +kernel
theorem d_ST_textLetter_17 : decode c_ST_textLetter 17 = .ok (.bipush 60, 2) := by decide +kernel
theorem d_ST_textLetter_19 : decode c_ST_textLetter 19 = .ok (.imul, 1) := by decide +kernel
theorem d_ST_textLetter_20 : decode c_ST_textLetter 20 = .ok (.iload_n 2, 1) := by decide +kernel
theorem d_ST_textLetter_21 : decode c_ST_textLetter 21 = .ok (.iadd, 1) := by decide +kernel
theorem d_ST_textLetter_22 : decode c_ST_textLetter 22 = .ok (.invokestatic 117, 3) := by decide +kernel
theorem d_ST_textLetter_25 : decode c_ST_textLetter 25 = .ok (.goto 5, 3) := by decide +kernel
theorem d_ST_textLetter_28 : decode c_ST_textLetter 28 = .ok (.bipush (-5), 2) := by decide +kernel
theorem d_ST_textLetter_30 : decode c_ST_textLetter 30 = .ok (.ireturn, 1) := by decide +kernel
theorem d_ST_coreLetter_0 : decode c_ST_coreLetter 0 = .ok (.iload_n 2, 1) := by decide +kernel
theorem d_ST_coreLetter_1 : decode c_ST_coreLetter 1 = .ok (.aload_n 0, 1) := by decide +kernel
theorem d_ST_coreLetter_2 : decode c_ST_coreLetter 2 = .ok (.iload_n 1, 1) := by decide +kernel
theorem d_ST_coreLetter_3 : decode c_ST_coreLetter 3 = .ok (.invokevirtual 105, 3) := by decide +kernel
theorem d_ST_coreLetter_6 : decode c_ST_coreLetter 6 = .ok (.invokestatic 67, 3) := by decide +kernel
theorem d_ST_coreLetter_9 : decode c_ST_coreLetter 9 = .ok (.ifCond .eq 19, 3) := by decide +kernel
theorem d_ST_coreLetter_12 : decode c_ST_coreLetter 12 = .ok (.aload_n 0, 1) := by decide +kernel
theorem d_ST_coreLetter_13 : decode c_ST_coreLetter 13 = .ok (.getfield 29, 3) := by decide +kernel
theorem d_ST_coreLetter_16 : decode c_ST_coreLetter 16 = .ok (.iload_n 1, 1) := by decide +kernel
theorem d_ST_coreLetter_17 : decode c_ST_coreLetter 17 = .ok (.bipush 60, 2) := by decide +kernel
theorem d_ST_coreLetter_19 : decode c_ST_coreLetter 19 = .ok (.imul, 1) := by decide +kernel
theorem d_ST_coreLetter_20 : decode c_ST_coreLetter 20 = .ok (.iload_n 2, 1) := by decide +kernel
theorem d_ST_coreLetter_21 : decode c_ST_coreLetter 21 = .ok (.iadd, 1) := by decide +kernel
theorem d_ST_coreLetter_22 : decode c_ST_coreLetter 22 = .ok (.invokestatic 117, 3) := by decide +kernel
theorem d_ST_coreLetter_25 : decode c_ST_coreLetter 25 = .ok (.goto 5, 3) := by decide +kernel
theorem d_ST_coreLetter_28 : decode c_ST_coreLetter 28 = .ok (.bipush (-5), 2) := by decide +kernel
theorem d_ST_coreLetter_30 : decode c_ST_coreLetter 30 = .ok (.ireturn, 1) := by decide +kernel
theorem d_ST_areLinked_0 : decode c_ST_areLinked 0 = .ok (.iload_n 1, 1) := by decide +kernel
theorem d_ST_areLinked_1 : decode c_ST_areLinked 1 = .ok (.bipush 20, 2) := by decide +kernel
theorem d_ST_areLinked_3 : decode c_ST_areLinked 3 = .ok (.invokestatic 67, 3) := by decide +kernel
theorem d_ST_areLinked_6 : decode c_ST_areLinked 6 = .ok (.ifCond .eq 30, 3) := by decide +kernel
theorem d_ST_areLinked_9 : decode c_ST_areLinked 9 = .ok (.iload_n 2, 1) := by decide +kernel
theorem d_ST_areLinked_10 : decode c_ST_areLinked 10 = .ok (.bipush 20, 2) := by decide +kernel
theorem d_ST_areLinked_12 : decode c_ST_areLinked 12 = .ok (.invokestatic 67, 3) := by decide +kernel
theorem d_ST_areLinked_15 : decode c_ST_areLinked 15 = .ok (.ifCond .eq 21, 3) := by decide +kernel
theorem d_ST_areLinked_18 : decode c_ST_areLinked 18 = .ok (.aload_n 0, 1) := by decide +kernel
theorem d_ST_areLinked_19 : decode c_ST_areLinked 19 = .ok (.getfield 38, 3) := by decide +kernel
theorem d_ST_areLinked_22 : decode c_ST_areLinked 22 = .ok (.iload_n 1, 1) := by decide +kernel
theorem d_ST_areLinked_23 : decode c_ST_areLinked 23 = .ok (.bipush 20, 2) := by decide +kernel
theorem d_ST_areLinked_25 : decode c_ST_areLinked 25 = .ok (.imul, 1) := by decide +kernel
theorem d_ST_areLinked_26 : decode c_ST_areLinked 26 = .ok (.iload_n 2, 1) := by decide +kernel
theorem d_ST_areLinked_27 : decode c_ST_areLinked 27 = .ok (.iadd, 1) := by decide +kernel
theorem d_ST_areLinked_28 : decode c_ST_areLinked 28 = .ok (.baload, 1) := by decide +kernel
theorem d_ST_areLinked_29 : decode c_ST_areLinked 29 = .ok (.ifCond .eq 7, 3) := by decide +kernel
theorem d_ST_areLinked_32 : decode c_ST_areLinked 32 = .ok (.iconst 1, 1) := by decide +kernel
theorem d_ST_areLinked_33 : decode c_ST_areLinked 33 = .ok (.goto 4, 3) := by decide +kernel
theorem d_ST_areLinked_36 : decode c_ST_areLinked 36 = .ok (.iconst 0, 1) := by decide +kernel
theorem d_ST_areLinked_37 : decode c_ST_areLinked 37 = .ok (.ireturn, 1) := by decide +kernel
theorem d_ST_link_0 : decode c_ST_link 0 = .ok (.aload_n 0, 1) := by decide +kernel
theorem d_ST_link_1 : decode c_ST_link 1 = .ok (.iload_n 1, 1) := by decide +kernel
theorem d_ST_link_2 : decode c_ST_link 2 = .ok (.iload_n 2, 1) := by decide +kernel
theorem d_ST_link_3 : decode c_ST_link 3 = .ok (.iconst 1, 1) := by decide +kernel
theorem d_ST_link_4 : decode c_ST_link 4 = .ok (.invokevirtual 124, 3) := by decide +kernel
theorem d_ST_link_7 : decode c_ST_link 7 = .ok (.return_, 1) := by decide +kernel
theorem d_ST_cutLinks_0 : decode c_ST_cutLinks 0 = .ok (.iconst 0, 1) := by decide +kernel
theorem d_ST_cutLinks_1 : decode c_ST_cutLinks 1 = .ok (.istore_n 2, 1) := by decide +kernel
theorem d_ST_cutLinks_2 : decode c_ST_cutLinks 2 = .ok (.iload_n 2, 1) := by decide +kernel
theorem d_ST_cutLinks_3 : decode c_ST_cutLinks 3 = .ok (.bipush 20, 2) := by decide +kernel
theorem d_ST_cutLinks_5 : decode c_ST_cutLinks 5 = .ok (.if_icmp .ge 16, 3) := by decide +kernel
theorem d_ST_cutLinks_8 : decode c_ST_cutLinks 8 = .ok (.aload_n 0, 1) := by decide +kernel
theorem d_ST_cutLinks_9 : decode c_ST_cutLinks 9 = .ok (.iload_n 1, 1) := by decide +kernel
theorem d_ST_cutLinks_10 : decode c_ST_cutLinks 10 = .ok (.iload_n 2, 1) := by decide +kernel
theorem d_ST_cutLinks_11 : decode c_ST_cutLinks 11 = .ok (.iconst 0, 1) := by decide +kernel
theorem d_ST_cutLinks_12 : decode c_ST_cutLinks 12 = .ok (.invokevirtual 124, 3) := by decide +kernel
theorem d_ST_cutLinks_15 : decode c_ST_cutLinks 15 = .ok (.iinc 2 1, 3) := by decide +kernel
theorem d_ST_cutLinks_18 : decode c_ST_cutLinks 18 = .ok (.goto (-16), 3) := by decide +kernel
theorem d_ST_cutLinks_21 : decode c_ST_cutLinks 21 = .ok (.return_, 1) := by decide +kernel
theorem d_ST_putLink_0 : decode c_ST_putLink 0 = .ok (.iload_n 1, 1) := by decide +kernel
theorem d_ST_putLink_1 : decode c_ST_putLink 1 = .ok (.bipush 20, 2) := by decide +kernel
theorem d_ST_putLink_3 : decode c_ST_putLink 3 = .ok (.invokestatic 67, 3) := by decide +kernel
theorem d_ST_putLink_6 : decode c_ST_putLink 6 = .ok (.ifCond .eq 36, 3) := by decide +kernel
theorem d_ST_putLink_9 : decode c_ST_putLink 9 = .ok (.iload_n 2, 1) := by decide +kernel
theorem d_ST_putLink_10 : decode c_ST_putLink 10 = .ok (.bipush 20, 2) := by decide +kernel
theorem d_ST_putLink_12 : decode c_ST_putLink 12 = .ok (.invokestatic 67, 3) := by decide +kernel
theorem d_ST_putLink_15 : decode c_ST_putLink 15 = .ok (.ifCond .eq 27, 3) := by decide +kernel
theorem d_ST_putLink_18 : decode c_ST_putLink 18 = .ok (.aload_n 0, 1) := by decide +kernel
theorem d_ST_putLink_19 : decode c_ST_putLink 19 = .ok (.getfield 38, 3) := by decide +kernel
theorem d_ST_putLink_22 : decode c_ST_putLink 22 = .ok (.iload_n 1, 1) := by decide +kernel
theorem d_ST_putLink_23 : decode c_ST_putLink 23 = .ok (.bipush 20, 2) := by decide +kernel
theorem d_ST_putLink_25 : decode c_ST_putLink 25 = .ok (.imul, 1) := by decide +kernel
theorem d_ST_putLink_26 : decode c_ST_putLink 26 = .ok (.iload_n 2, 1) := by decide +kernel
theorem d_ST_putLink_27 : decode c_ST_putLink 27 = .ok (.iadd, 1) := by decide +kernel
theorem d_ST_putLink_28 : decode c_ST_putLink 28 = .ok (.iload_n 3, 1) := by decide +kernel
theorem d_ST_putLink_29 : decode c_ST_putLink 29 = .ok (.bastore, 1) := by decide +kernel
theorem d_ST_putLink_30 : decode c_ST_putLink 30 = .ok (.aload_n 0, 1) := by decide +kernel
theorem d_ST_putLink_31 : decode c_ST_putLink 31 = .ok (.getfield 38, 3) := by decide +kernel
theorem d_ST_putLink_34 : decode c_ST_putLink 34 = .ok (.iload_n 2, 1) := by decide +kernel
theorem d_ST_putLink_35 : decode c_ST_putLink 35 = .ok (.bipush 20, 2) := by decide +kernel
theorem d_ST_putLink_37 : decode c_ST_putLink 37 = .ok (.imul, 1) := by decide +kernel
theorem d_ST_putLink_38 : decode c_ST_putLink 38 = .ok (.iload_n 1, 1) := by decide +kernel
theorem d_ST_putLink_39 : decode c_ST_putLink 39 = .ok (.iadd, 1) := by decide +kernel
theorem d_ST_putLink_40 : decode c_ST_putLink 40 = .ok (.iload_n 3, 1) := by decide +kernel
theorem d_ST_putLink_41 : decode c_ST_putLink 41 = .ok (.bastore, 1) := by decide +kernel
theorem d_ST_putLink_42 : decode c_ST_putLink 42 = .ok (.return_, 1) := by decide +kernel
theorem d_ST_hasLinks_0 : decode c_ST_hasLinks 0 = .ok (.iconst 0, 1) := by decide +kernel
theorem d_ST_hasLinks_1 : decode c_ST_hasLinks 1 = .ok (.istore_n 2, 1) := by decide +kernel
theorem d_ST_hasLinks_2 : decode c_ST_hasLinks 2 = .ok (.iload_n 2, 1) := by decide +kernel
theorem d_ST_hasLinks_3 : decode c_ST_hasLinks 3 = .ok (.bipush 20, 2) := by decide +kernel
theorem d_ST_hasLinks_5 : decode c_ST_hasLinks 5 = .ok (.if_icmp .ge 20, 3) := by decide +kernel
theorem d_ST_hasLinks_8 : decode c_ST_hasLinks 8 = .ok (.aload_n 0, 1) := by decide +kernel
theorem d_ST_hasLinks_9 : decode c_ST_hasLinks 9 = .ok (.iload_n 1, 1) := by decide +kernel
theorem d_ST_hasLinks_10 : decode c_ST_hasLinks 10 = .ok (.iload_n 2, 1) := by decide +kernel
theorem d_ST_hasLinks_11 : decode c_ST_hasLinks 11 = .ok (.invokevirtual 128, 3) := by decide +kernel
theorem d_ST_hasLinks_14 : decode c_ST_hasLinks 14 = .ok (.ifCond .eq 5, 3) := by decide +kernel
theorem d_ST_hasLinks_17 : decode c_ST_hasLinks 17 = .ok (.iconst 1, 1) := by decide +kernel
theorem d_ST_hasLinks_18 : decode c_ST_hasLinks 18 = .ok (.ireturn, 1) := by decide +kernel
theorem d_ST_hasLinks_19 : decode c_ST_hasLinks 19 = .ok (.iinc 2 1, 3) := by decide +kernel
theorem d_ST_hasLinks_22 : decode c_ST_hasLinks 22 = .ok (.goto (-20), 3) := by decide +kernel
theorem d_ST_hasLinks_25 : decode c_ST_hasLinks 25 = .ok (.iconst 0, 1) := by decide +kernel
theorem d_ST_hasLinks_26 : decode c_ST_hasLinks 26 = .ok (.ireturn, 1) := by decide +kernel
theorem d_ST_linksInContest_0 : decode c_ST_linksInContest 0 = .ok (.iconst 0, 1) := by decide +kernel
theorem d_ST_linksInContest_1 : decode c_ST_linksInContest 1 = .ok (.istore_n 2, 1) := by decide +kernel
theorem d_ST_linksInContest_2 : decode c_ST_linksInContest 2 = .ok (.iconst 0, 1) := by decide +kernel
theorem d_ST_linksInContest_3 : decode c_ST_linksInContest 3 = .ok (.istore_n 3, 1) := by decide +kernel
theorem d_ST_linksInContest_4 : decode c_ST_linksInContest 4 = .ok (.iload_n 3, 1) := by decide +kernel
theorem d_ST_linksInContest_5 : decode c_ST_linksInContest 5 = .ok (.bipush 20, 2) := by decide +kernel
theorem d_ST_linksInContest_7 : decode c_ST_linksInContest 7 = .ok (.if_icmp .ge 29, 3) := by decide +kernel
theorem d_ST_linksInContest_10 : decode c_ST_linksInContest 10 = .ok (.aload_n 0, 1) := by decide +kernel
theorem d_ST_linksInContest_11 : decode c_ST_linksInContest 11 = .ok (.iload_n 3, 1) := by decide +kernel
theorem d_ST_linksInContest_12 : decode c_ST_linksInContest 12 = .ok (.invokevirtual 71, 3) := by decide +kernel
theorem d_ST_linksInContest_15 : decode c_ST_linksInContest 15 = .ok (.ifCond .eq 15, 3) := by decide +kernel
theorem d_ST_linksInContest_18 : decode c_ST_linksInContest 18 = .ok (.aload_n 0, 1) := by decide +kernel
theorem d_ST_linksInContest_19 : decode c_ST_linksInContest 19 = .ok (.iload_n 1, 1) := by decide +kernel
theorem d_ST_linksInContest_20 : decode c_ST_linksInContest 20 = .ok (.iload_n 3, 1) := by decide +kernel
theorem d_ST_linksInContest_21 : decode c_ST_linksInContest 21 = .ok (.invokevirtual 128, 3) := by decide +kernel
theorem d_ST_linksInContest_24 : decode c_ST_linksInContest 24 = .ok (.ifCond .eq 6, 3) := by decide +kernel
theorem d_ST_linksInContest_27 : decode c_ST_linksInContest 27 = .ok (.iinc 2 1, 3) := by decide +kernel
theorem d_ST_linksInContest_30 : decode c_ST_linksInContest 30 = .ok (.iinc 3 1, 3) := by decide +kernel
theorem d_ST_linksInContest_33 : decode c_ST_linksInContest 33 = .ok (.goto (-29), 3) := by decide +kernel
theorem d_ST_linksInContest_36 : decode c_ST_linksInContest 36 = .ok (.iload_n 2, 1) := by decide +kernel
theorem d_ST_linksInContest_37 : decode c_ST_linksInContest 37 = .ok (.ireturn, 1) := by decide +kernel
theorem d_ST_linksInAll_0 : decode c_ST_linksInAll 0 = .ok (.iconst 0, 1) := by decide +kernel
theorem d_ST_linksInAll_1 : decode c_ST_linksInAll 1 = .ok (.istore_n 1, 1) := by decide +kernel
theorem d_ST_linksInAll_2 : decode c_ST_linksInAll 2 = .ok (.iconst 0, 1) := by decide +kernel
theorem d_ST_linksInAll_3 : decode c_ST_linksInAll 3 = .ok (.istore_n 2, 1) := by decide +kernel
theorem d_ST_linksInAll_4 : decode c_ST_linksInAll 4 = .ok (.iload_n 2, 1) := by decide +kernel
theorem d_ST_linksInAll_5 : decode c_ST_linksInAll 5 = .ok (.bipush 20, 2) := by decide +kernel
theorem d_ST_linksInAll_7 : decode c_ST_linksInAll 7 = .ok (.if_icmp .ge 37, 3) := by decide +kernel
theorem d_ST_linksInAll_10 : decode c_ST_linksInAll 10 = .ok (.iload_n 2, 1) := by decide +kernel
theorem d_ST_linksInAll_11 : decode c_ST_linksInAll 11 = .ok (.iconst 1, 1) := by decide +kernel
theorem d_ST_linksInAll_12 : decode c_ST_linksInAll 12 = .ok (.iadd, 1) := by decide +kernel
theorem d_ST_linksInAll_13 : decode c_ST_linksInAll 13 = .ok (.istore_n 3, 1) := by decide +kernel
theorem d_ST_linksInAll_14 : decode c_ST_linksInAll 14 = .ok (.iload_n 3, 1) := by decide +kernel
theorem d_ST_linksInAll_15 : decode c_ST_linksInAll 15 = .ok (.bipush 20, 2) := by decide +kernel
theorem d_ST_linksInAll_17 : decode c_ST_linksInAll 17 = .ok (.if_icmp .ge 21, 3) := by decide +kernel
theorem d_ST_linksInAll_20 : decode c_ST_linksInAll 20 = .ok (.aload_n 0, 1) := by decide +kernel
theorem d_ST_linksInAll_21 : decode c_ST_linksInAll 21 = .ok (.iload_n 2, 1) := by decide +kernel
theorem d_ST_linksInAll_22 : decode c_ST_linksInAll 22 = .ok (.iload_n 3, 1) := by decide +kernel
theorem d_ST_linksInAll_23 : decode c_ST_linksInAll 23 = .ok (.invokevirtual 128, 3) := by decide +kernel
theorem d_ST_linksInAll_26 : decode c_ST_linksInAll 26 = .ok (.ifCond .eq 6, 3) := by decide +kernel
theorem d_ST_linksInAll_29 : decode c_ST_linksInAll 29 = .ok (.iinc 1 1, 3) := by decide +kernel
theorem d_ST_linksInAll_32 : decode c_ST_linksInAll 32 = .ok (.iinc 3 1, 3) := by decide +kernel
theorem d_ST_linksInAll_35 : decode c_ST_linksInAll 35 = .ok (.goto (-21), 3) := by decide +kernel
theorem d_ST_linksInAll_38 : decode c_ST_linksInAll 38 = .ok (.iinc 2 1, 3) := by decide +kernel
theorem d_ST_linksInAll_41 : decode c_ST_linksInAll 41 = .ok (.goto (-37), 3) := by decide +kernel
theorem d_ST_linksInAll_44 : decode c_ST_linksInAll 44 = .ok (.iload_n 1, 1) := by decide +kernel
theorem d_ST_linksInAll_45 : decode c_ST_linksInAll 45 = .ok (.ireturn, 1) := by decide +kernel
theorem d_ST_wish_0 : decode c_ST_wish 0 = .ok (.aload_n 0, 1) := by decide +kernel
theorem d_ST_wish_1 : decode c_ST_wish 1 = .ok (.getfield 41, 3) := by decide +kernel
theorem d_ST_wish_4 : decode c_ST_wish 4 = .ok (.iload_n 1, 1) := by decide +kernel
theorem d_ST_wish_5 : decode c_ST_wish 5 = .ok (.iconst 3, 1) := by decide +kernel
theorem d_ST_wish_6 : decode c_ST_wish 6 = .ok (.imul, 1) := by decide +kernel
theorem d_ST_wish_7 : decode c_ST_wish 7 = .ok (.iload_n 2, 1) := by decide +kernel
theorem d_ST_wish_8 : decode c_ST_wish 8 = .ok (.iadd, 1) := by decide +kernel
theorem d_ST_wish_9 : decode c_ST_wish 9 = .ok (.invokestatic 117, 3) := by decide +kernel
theorem d_ST_wish_12 : decode c_ST_wish 12 = .ok (.ireturn, 1) := by decide +kernel
theorem d_ST_isFilledIn_0 : decode c_ST_isFilledIn 0 = .ok (.aload_n 0, 1) := by decide +kernel
theorem d_ST_isFilledIn_1 : decode c_ST_isFilledIn 1 = .ok (.iload_n 1, 1) := by decide +kernel
theorem d_ST_isFilledIn_2 : decode c_ST_isFilledIn 2 = .ok (.iconst 0, 1) := by decide +kernel
theorem d_ST_isFilledIn_3 : decode c_ST_isFilledIn 3 = .ok (.invokevirtual 131, 3) := by decide +kernel
theorem d_ST_isFilledIn_6 : decode c_ST_isFilledIn 6 = .ok (.iload_n 2, 1) := by decide +kernel
theorem d_ST_isFilledIn_7 : decode c_ST_isFilledIn 7 = .ok (.if_icmp .ne 28, 3) := by decide +kernel
theorem d_ST_isFilledIn_10 : decode c_ST_isFilledIn 10 = .ok (.aload_n 0, 1) := by decide +kernel
theorem d_ST_isFilledIn_11 : decode c_ST_isFilledIn 11 = .ok (.iload_n 1, 1) := by decide +kernel
theorem d_ST_isFilledIn_12 : decode c_ST_isFilledIn 12 = .ok (.iconst 1, 1) := by decide +kernel
theorem d_ST_isFilledIn_13 : decode c_ST_isFilledIn 13 = .ok (.invokevirtual 131, 3) := by decide +kernel
theorem d_ST_isFilledIn_16 : decode c_ST_isFilledIn 16 = .ok (.iload_n 3, 1) := by decide +kernel
theorem d_ST_isFilledIn_17 : decode c_ST_isFilledIn 17 = .ok (.if_icmp .ne 18, 3) := by decide +kernel
theorem d_ST_isFilledIn_20 : decode c_ST_isFilledIn 20 = .ok (.aload_n 0, 1) := by decide +kernel
theorem d_ST_isFilledIn_21 : decode c_ST_isFilledIn 21 = .ok (.iload_n 1, 1) := by decide +kernel
theorem d_ST_isFilledIn_22 : decode c_ST_isFilledIn 22 = .ok (.iconst 2, 1) := by decide +kernel
theorem d_ST_isFilledIn_23 : decode c_ST_isFilledIn 23 = .ok (.invokevirtual 131, 3) := by decide +kernel
theorem d_ST_isFilledIn_26 : decode c_ST_isFilledIn 26 = .ok (.iload 4, 2) := by decide +kernel
theorem d_ST_isFilledIn_28 : decode c_ST_isFilledIn 28 = .ok (.if_icmp .ne 7, 3) := by decide +kernel
theorem d_ST_isFilledIn_31 : decode c_ST_isFilledIn 31 = .ok (.iconst 1, 1) := by decide +kernel
theorem d_ST_isFilledIn_32 : decode c_ST_isFilledIn 32 = .ok (.goto 4, 3) := by decide +kernel
theorem d_ST_isFilledIn_35 : decode c_ST_isFilledIn 35 = .ok (.iconst 0, 1) := by decide +kernel
theorem d_ST_isFilledIn_36 : decode c_ST_isFilledIn 36 = .ok (.ireturn, 1) := by decide +kernel
theorem d_ST_fillIn_0 : decode c_ST_fillIn 0 = .ok (.aload_n 0, 1) := by decide +kernel
theorem d_ST_fillIn_1 : decode c_ST_fillIn 1 = .ok (.getfield 41, 3) := by decide +kernel
theorem d_ST_fillIn_4 : decode c_ST_fillIn 4 = .ok (.iload_n 1, 1) := by decide +kernel
theorem d_ST_fillIn_5 : decode c_ST_fillIn 5 = .ok (.iconst 3, 1) := by decide +kernel
theorem d_ST_fillIn_6 : decode c_ST_fillIn 6 = .ok (.imul, 1) := by decide +kernel
theorem d_ST_fillIn_7 : decode c_ST_fillIn 7 = .ok (.iload_n 2, 1) := by decide +kernel
theorem d_ST_fillIn_8 : decode c_ST_fillIn 8 = .ok (.invokestatic 98, 3) := by decide +kernel
theorem d_ST_fillIn_11 : decode c_ST_fillIn 11 = .ok (.aload_n 0, 1) := by decide +kernel
theorem d_ST_fillIn_12 : decode c_ST_fillIn 12 = .ok (.getfield 41, 3) := by decide +kernel
theorem d_ST_fillIn_15 : decode c_ST_fillIn 15 = .ok (.iload_n 1, 1) := by decide +kernel
theorem d_ST_fillIn_16 : decode c_ST_fillIn 16 = .ok (.iconst 3, 1) := by decide +kernel
theorem d_ST_fillIn_17 : decode c_ST_fillIn 17 = .ok (.imul, 1) := by decide +kernel
theorem d_ST_fillIn_18 : decode c_ST_fillIn 18 = .ok (.iconst 1, 1) := by decide +kernel
theorem d_ST_fillIn_19 : decode c_ST_fillIn 19 = .ok (.iadd, 1) := by decide +kernel
theorem d_ST_fillIn_20 : decode c_ST_fillIn 20 = .ok (.iload_n 3, 1) := by decide +kernel
theorem d_ST_fillIn_21 : decode c_ST_fillIn 21 = .ok (.invokestatic 98, 3) := by decide +kernel
theorem d_ST_fillIn_24 : decode c_ST_fillIn 24 = .ok (.aload_n 0, 1) := by decide +kernel
theorem d_ST_fillIn_25 : decode c_ST_fillIn 25 = .ok (.getfield 41, 3) := by decide +kernel
theorem d_ST_fillIn_28 : decode c_ST_fillIn 28 = .ok (.iload_n 1, 1) := by decide +kernel
theorem d_ST_fillIn_29 : decode c_ST_fillIn 29 = .ok (.iconst 3, 1) := by decide +kernel
theorem d_ST_fillIn_30 : decode c_ST_fillIn 30 = .ok (.imul, 1) := by decide +kernel
theorem d_ST_fillIn_31 : decode c_ST_fillIn 31 = .ok (.iconst 2, 1) := by decide +kernel
theorem d_ST_fillIn_32 : decode c_ST_fillIn 32 = .ok (.iadd, 1) := by decide +kernel
theorem d_ST_fillIn_33 : decode c_ST_fillIn 33 = .ok (.iload 4, 2) := by decide +kernel
theorem d_ST_fillIn_35 : decode c_ST_fillIn 35 = .ok (.invokestatic 98, 3) := by decide +kernel
theorem d_ST_fillIn_38 : decode c_ST_fillIn 38 = .ok (.return_, 1) := by decide +kernel
theorem d_ST_wishesOf_0 : decode c_ST_wishesOf 0 = .ok (.iconst 0, 1) := by decide +kernel
theorem d_ST_wishesOf_1 : decode c_ST_wishesOf 1 = .ok (.istore_n 2, 1) := by decide +kernel
theorem d_ST_wishesOf_2 : decode c_ST_wishesOf 2 = .ok (.iconst 0, 1) := by decide +kernel
theorem d_ST_wishesOf_3 : decode c_ST_wishesOf 3 = .ok (.istore_n 3, 1) := by decide +kernel
theorem d_ST_wishesOf_4 : decode c_ST_wishesOf 4 = .ok (.iload_n 3, 1) := by decide +kernel
theorem d_ST_wishesOf_5 : decode c_ST_wishesOf 5 = .ok (.iconst 3, 1) := by decide +kernel
theorem d_ST_wishesOf_6 : decode c_ST_wishesOf 6 = .ok (.if_icmp .ge 23, 3) := by decide +kernel
theorem d_ST_wishesOf_9 : decode c_ST_wishesOf 9 = .ok (.aload_n 0, 1) := by decide +kernel
theorem d_ST_wishesOf_10 : decode c_ST_wishesOf 10 = .ok (.iload_n 1, 1) := by decide +kernel
theorem d_ST_wishesOf_11 : decode c_ST_wishesOf 11 = .ok (.iload_n 3, 1) := by decide +kernel
theorem d_ST_wishesOf_12 : decode c_ST_wishesOf 12 = .ok (.invokevirtual 131, 3) := by decide +kernel
theorem d_ST_wishesOf_15 : decode c_ST_wishesOf 15 = .ok (.bipush (-5), 2) := by decide +kernel
theorem d_ST_wishesOf_17 : decode c_ST_wishesOf 17 = .ok (.if_icmp .eq 6, 3) := by decide +kernel
theorem d_ST_wishesOf_20 : decode c_ST_wishesOf 20 = .ok (.iinc 2 1, 3) := by decide +kernel
theorem d_ST_wishesOf_23 : decode c_ST_wishesOf 23 = .ok (.iinc 3 1, 3) := by decide +kernel
theorem d_ST_wishesOf_26 : decode c_ST_wishesOf 26 = .ok (.goto (-22), 3) := by decide +kernel
theorem d_ST_wishesOf_29 : decode c_ST_wishesOf 29 = .ok (.iload_n 2, 1) := by decide +kernel
theorem d_ST_wishesOf_30 : decode c_ST_wishesOf 30 = .ok (.ireturn, 1) := by decide +kernel
theorem d_ST_ballotsWith_0 : decode c_ST_ballotsWith 0 = .ok (.iconst 0, 1) := by decide +kernel
theorem d_ST_ballotsWith_1 : decode c_ST_ballotsWith 1 = .ok (.istore_n 2, 1) := by decide +kernel
theorem d_ST_ballotsWith_2 : decode c_ST_ballotsWith 2 = .ok (.iconst 0, 1) := by decide +kernel
theorem d_ST_ballotsWith_3 : decode c_ST_ballotsWith 3 = .ok (.istore_n 3, 1) := by decide +kernel
theorem d_ST_ballotsWith_4 : decode c_ST_ballotsWith 4 = .ok (.iload_n 3, 1) := by decide +kernel
theorem d_ST_ballotsWith_5 : decode c_ST_ballotsWith 5 = .ok (.bipush 12, 2) := by decide +kernel
theorem d_ST_ballotsWith_7 : decode c_ST_ballotsWith 7 = .ok (.if_icmp .ge 42, 3) := by decide +kernel
theorem d_ST_ballotsWith_10 : decode c_ST_ballotsWith 10 = .ok (.aload_n 0, 1) := by decide +kernel
theorem d_ST_ballotsWith_11 : decode c_ST_ballotsWith 11 = .ok (.iload_n 3, 1) := by decide +kernel
theorem d_ST_ballotsWith_12 : decode c_ST_ballotsWith 12 = .ok (.iconst 0, 1) := by decide +kernel
theorem d_ST_ballotsWith_13 : decode c_ST_ballotsWith 13 = .ok (.invokevirtual 131, 3) := by decide +kernel
theorem d_ST_ballotsWith_16 : decode c_ST_ballotsWith 16 = .ok (.iload_n 1, 1) := by decide +kernel
theorem d_ST_ballotsWith_17 : decode c_ST_ballotsWith 17 = .ok (.if_icmp .eq 23, 3) := by decide +kernel
theorem d_ST_ballotsWith_20 : decode c_ST_ballotsWith 20 = .ok (.aload_n 0, 1) := by decide +kernel
theorem d_ST_ballotsWith_21 : decode c_ST_ballotsWith 21 = .ok (.iload_n 3, 1) := by decide +kernel
theorem d_ST_ballotsWith_22 : decode c_ST_ballotsWith 22 = .ok (.iconst 1, 1) := by decide +kernel
theorem d_ST_ballotsWith_23 : decode c_ST_ballotsWith 23 = .ok (.invokevirtual 131, 3) := by decide +kernel
theorem d_ST_ballotsWith_26 : decode c_ST_ballotsWith 26 = .ok (.iload_n 1, 1) := by decide +kernel
theorem d_ST_ballotsWith_27 : decode c_ST_ballotsWith 27 = .ok (.if_icmp .eq 13, 3) := by decide +kernel
theorem d_ST_ballotsWith_30 : decode c_ST_ballotsWith 30 = .ok (.aload_n 0, 1) := by decide +kernel
theorem d_ST_ballotsWith_31 : decode c_ST_ballotsWith 31 = .ok (.iload_n 3, 1) := by decide +kernel
theorem d_ST_ballotsWith_32 : decode c_ST_ballotsWith 32 = .ok (.iconst 2, 1) := by decide +kernel
theorem d_ST_ballotsWith_33 : decode c_ST_ballotsWith 33 = .ok (.invokevirtual 131, 3) := by decide +kernel
theorem d_ST_ballotsWith_36 : decode c_ST_ballotsWith 36 = .ok (.iload_n 1, 1) := by decide +kernel
theorem d_ST_ballotsWith_37 : decode c_ST_ballotsWith 37 = .ok (.if_icmp .ne 6, 3) := by decide +kernel
theorem d_ST_ballotsWith_40 : decode c_ST_ballotsWith 40 = .ok (.iinc 2 1, 3) := by decide +kernel
theorem d_ST_ballotsWith_43 : decode c_ST_ballotsWith 43 = .ok (.iinc 3 1, 3) := by decide +kernel
theorem d_ST_ballotsWith_46 : decode c_ST_ballotsWith 46 = .ok (.goto (-42), 3) := by decide +kernel
theorem d_ST_ballotsWith_49 : decode c_ST_ballotsWith 49 = .ok (.iload_n 2, 1) := by decide +kernel
theorem d_ST_ballotsWith_50 : decode c_ST_ballotsWith 50 = .ok (.ireturn, 1) := by decide +kernel
theorem d_ST_pointsBy_0 : decode c_ST_pointsBy 0 = .ok (.aload_n 0, 1) := by decide +kernel
theorem d_ST_pointsBy_1 : decode c_ST_pointsBy 1 = .ok (.getfield 44, 3) := by decide +kernel
theorem d_ST_pointsBy_4 : decode c_ST_pointsBy 4 = .ok (.iload_n 1, 1) := by decide +kernel
theorem d_ST_pointsBy_5 : decode c_ST_pointsBy 5 = .ok (.bipush 20, 2) := by decide +kernel
theorem d_ST_pointsBy_7 : decode c_ST_pointsBy 7 = .ok (.imul, 1) := by decide +kernel
theorem d_ST_pointsBy_8 : decode c_ST_pointsBy 8 = .ok (.iload_n 2, 1) := by decide +kernel
theorem d_ST_pointsBy_9 : decode c_ST_pointsBy 9 = .ok (.iadd, 1) := by decide +kernel
theorem d_ST_pointsBy_10 : decode c_ST_pointsBy 10 = .ok (.invokestatic 117, 3) := by decide +kernel
theorem d_ST_pointsBy_13 : decode c_ST_pointsBy 13 = .ok (.ireturn, 1) := by decide +kernel
theorem d_ST_givePoints_0 : decode c_ST_givePoints 0 = .ok (.aload_n 0, 1) := by decide +kernel
theorem d_ST_givePoints_1 : decode c_ST_givePoints 1 = .ok (.getfield 44, 3) := by decide +kernel
theorem d_ST_givePoints_4 : decode c_ST_givePoints 4 = .ok (.iload_n 1, 1) := by decide +kernel
theorem d_ST_givePoints_5 : decode c_ST_givePoints 5 = .ok (.bipush 20, 2) := by decide +kernel
theorem d_ST_givePoints_7 : decode c_ST_givePoints 7 = .ok (.imul, 1) := by decide +kernel
theorem d_ST_givePoints_8 : decode c_ST_givePoints 8 = .ok (.iload_n 2, 1) := by decide +kernel
theorem d_ST_givePoints_9 : decode c_ST_givePoints 9 = .ok (.iadd, 1) := by decide +kernel
theorem d_ST_givePoints_10 : decode c_ST_givePoints 10 = .ok (.iload_n 3, 1) := by decide +kernel
theorem d_ST_givePoints_11 : decode c_ST_givePoints 11 = .ok (.invokestatic 98, 3) := by decide +kernel
theorem d_ST_givePoints_14 : decode c_ST_givePoints 14 = .ok (.return_, 1) := by decide +kernel
theorem d_ST_setting_0 : decode c_ST_setting 0 = .ok (.aload_n 0, 1) := by decide +kernel
theorem d_ST_setting_1 : decode c_ST_setting 1 = .ok (.getfield 47, 3) := by decide +kernel
theorem d_ST_setting_4 : decode c_ST_setting 4 = .ok (.iload_n 1, 1) := by decide +kernel
theorem d_ST_setting_5 : decode c_ST_setting 5 = .ok (.invokestatic 117, 3) := by decide +kernel
theorem d_ST_setting_8 : decode c_ST_setting 8 = .ok (.ireturn, 1) := by decide +kernel
theorem d_ST_changeSetting_0 : decode c_ST_changeSetting 0 = .ok (.aload_n 0, 1) := by decide +kernel
theorem d_ST_changeSetting_1 : decode c_ST_changeSetting 1 = .ok (.getfield 47, 3) := by decide +kernel
theorem d_ST_changeSetting_4 : decode c_ST_changeSetting 4 = .ok (.iload_n 1, 1) := by decide +kernel
theorem d_ST_changeSetting_5 : decode c_ST_changeSetting 5 = .ok (.iload_n 2, 1) := by decide +kernel
theorem d_ST_changeSetting_6 : decode c_ST_changeSetting 6 = .ok (.invokestatic 98, 3) := by decide +kernel
theorem d_ST_changeSetting_9 : decode c_ST_changeSetting 9 = .ok (.return_, 1) := by decide +kernel
theorem d_ST_prizeOf_0 : decode c_ST_prizeOf 0 = .ok (.aload_n 0, 1) := by decide +kernel
theorem d_ST_prizeOf_1 : decode c_ST_prizeOf 1 = .ok (.getfield 50, 3) := by decide +kernel
theorem d_ST_prizeOf_4 : decode c_ST_prizeOf 4 = .ok (.iload_n 1, 1) := by decide +kernel
theorem d_ST_prizeOf_5 : decode c_ST_prizeOf 5 = .ok (.iconst 1, 1) := by decide +kernel
theorem d_ST_prizeOf_6 : decode c_ST_prizeOf 6 = .ok (.isub, 1) := by decide +kernel
theorem d_ST_prizeOf_7 : decode c_ST_prizeOf 7 = .ok (.invokestatic 117, 3) := by decide +kernel
theorem d_ST_prizeOf_10 : decode c_ST_prizeOf 10 = .ok (.ireturn, 1) := by decide +kernel
theorem d_ST_changePrize_0 : decode c_ST_changePrize 0 = .ok (.aload_n 0, 1) := by decide +kernel
theorem d_ST_changePrize_1 : decode c_ST_changePrize 1 = .ok (.getfield 50, 3) := by decide +kernel
theorem d_ST_changePrize_4 : decode c_ST_changePrize 4 = .ok (.iload_n 1, 1) := by decide +kernel
theorem d_ST_changePrize_5 : decode c_ST_changePrize 5 = .ok (.iconst 1, 1) := by decide +kernel
theorem d_ST_changePrize_6 : decode c_ST_changePrize 6 = .ok (.isub, 1) := by decide +kernel
theorem d_ST_changePrize_7 : decode c_ST_changePrize 7 = .ok (.iload_n 2, 1) := by decide +kernel
theorem d_ST_changePrize_8 : decode c_ST_changePrize 8 = .ok (.invokestatic 98, 3) := by decide +kernel
theorem d_ST_changePrize_11 : decode c_ST_changePrize 11 = .ok (.return_, 1) := by decide +kernel
theorem d_ST_prizeGivenAt_0 : decode c_ST_prizeGivenAt 0 = .ok (.iload_n 1, 1) := by decide +kernel
theorem d_ST_prizeGivenAt_1 : decode c_ST_prizeGivenAt 1 = .ok (.iconst 1, 1) := by decide +kernel
theorem d_ST_prizeGivenAt_2 : decode c_ST_prizeGivenAt 2 = .ok (.isub, 1) := by decide +kernel
theorem d_ST_prizeGivenAt_3 : decode c_ST_prizeGivenAt 3 = .ok (.aload_n 0, 1) := by decide +kernel
theorem d_ST_prizeGivenAt_4 : decode c_ST_prizeGivenAt 4 = .ok (.iconst 1, 1) := by decide +kernel
theorem d_ST_prizeGivenAt_5 : decode c_ST_prizeGivenAt 5 = .ok (.invokevirtual 134, 3) := by decide +kernel
theorem d_ST_prizeGivenAt_8 : decode c_ST_prizeGivenAt 8 = .ok (.invokestatic 67, 3) := by decide +kernel
theorem d_ST_prizeGivenAt_11 : decode c_ST_prizeGivenAt 11 = .ok (.ifCond .eq 11, 3) := by decide +kernel
theorem d_ST_prizeGivenAt_14 : decode c_ST_prizeGivenAt 14 = .ok (.aload_n 0, 1) := by decide +kernel
theorem d_ST_prizeGivenAt_15 : decode c_ST_prizeGivenAt 15 = .ok (.iload_n 1, 1) := by decide +kernel
theorem d_ST_prizeGivenAt_16 : decode c_ST_prizeGivenAt 16 = .ok (.invokevirtual 137, 3) := by decide +kernel
theorem d_ST_prizeGivenAt_19 : decode c_ST_prizeGivenAt 19 = .ok (.goto 4, 3) := by decide +kernel
theorem d_ST_prizeGivenAt_22 : decode c_ST_prizeGivenAt 22 = .ok (.iconst 0, 1) := by decide +kernel
theorem d_ST_prizeGivenAt_23 : decode c_ST_prizeGivenAt 23 = .ok (.ireturn, 1) := by decide +kernel
theorem d_AR_fill_0 : decode c_AR_fill 0 = .ok (.iconst 0, 1) := by decide +kernel
theorem d_AR_fill_1 : decode c_AR_fill 1 = .ok (.istore_n 2, 1) := by decide +kernel
theorem d_AR_fill_2 : decode c_AR_fill 2 = .ok (.aload_n 0, 1) := by decide +kernel
theorem d_AR_fill_3 : decode c_AR_fill 3 = .ok (.arraylength, 1) := by decide +kernel
theorem d_AR_fill_4 : decode c_AR_fill 4 = .ok (.istore_n 3, 1) := by decide +kernel
theorem d_AR_fill_5 : decode c_AR_fill 5 = .ok (.iload_n 2, 1) := by decide +kernel
theorem d_AR_fill_6 : decode c_AR_fill 6 = .ok (.iload_n 3, 1) := by decide +kernel
theorem d_AR_fill_7 : decode c_AR_fill 7 = .ok (.if_icmp .ge 13, 3) := by decide +kernel
theorem d_AR_fill_10 : decode c_AR_fill 10 = .ok (.aload_n 0, 1) := by decide +kernel
theorem d_AR_fill_11 : decode c_AR_fill 11 = .ok (.iload_n 2, 1) := by decide +kernel
theorem d_AR_fill_12 : decode c_AR_fill 12 = .ok (.iload_n 1, 1) := by decide +kernel
theorem d_AR_fill_13 : decode c_AR_fill 13 = .ok (.iastore, 1) := by decide +kernel
theorem d_AR_fill_14 : decode c_AR_fill 14 = .ok (.iinc 2 1, 3) := by decide +kernel
theorem d_AR_fill_17 : decode c_AR_fill 17 = .ok (.goto (-12), 3) := by decide +kernel
theorem d_AR_fill_20 : decode c_AR_fill 20 = .ok (.return_, 1) := by decide +kernel
