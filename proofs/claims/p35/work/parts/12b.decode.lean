/-! DECODE rows: printed by wip/p35/emit.py. -/
theorem d_P_init_0 : decode prog_1_method_1_code 0 = .ok (.aload_n 0, 1) := by decide +kernel
theorem d_P_init_1 : decode prog_1_method_1_code 1 = .ok (.invokespecial 1, 3) := by decide +kernel
theorem d_P_init_4 : decode prog_1_method_1_code 4 = .ok (.aload_n 0, 1) := by decide +kernel
theorem d_P_init_5 : decode prog_1_method_1_code 5 = .ok (.new 7, 3) := by decide +kernel
theorem d_P_init_8 : decode prog_1_method_1_code 8 = .ok (.dup, 1) := by decide +kernel
theorem d_P_init_9 : decode prog_1_method_1_code 9 = .ok (.invokespecial 9, 3) := by decide +kernel
theorem d_P_init_12 : decode prog_1_method_1_code 12 = .ok (.putfield 10, 3) := by decide +kernel
theorem d_P_init_15 : decode prog_1_method_1_code 15 = .ok (.aload_n 0, 1) := by decide +kernel
theorem d_P_init_16 : decode prog_1_method_1_code 16 = .ok (.new 7, 3) := by decide +kernel
theorem d_P_init_19 : decode prog_1_method_1_code 19 = .ok (.dup, 1) := by decide +kernel
theorem d_P_init_20 : decode prog_1_method_1_code 20 = .ok (.invokespecial 9, 3) := by decide +kernel
theorem d_P_init_23 : decode prog_1_method_1_code 23 = .ok (.putfield 16, 3) := by decide +kernel
theorem d_P_init_26 : decode prog_1_method_1_code 26 = .ok (.aload_n 0, 1) := by decide +kernel
theorem d_P_init_27 : decode prog_1_method_1_code 27 = .ok (.new 19, 3) := by decide +kernel
theorem d_P_init_30 : decode prog_1_method_1_code 30 = .ok (.dup, 1) := by decide +kernel
theorem d_P_init_31 : decode prog_1_method_1_code 31 = .ok (.invokespecial 21, 3) := by decide +kernel
theorem d_P_init_34 : decode prog_1_method_1_code 34 = .ok (.putfield 22, 3) := by decide +kernel
theorem d_P_init_37 : decode prog_1_method_1_code 37 = .ok (.aload_n 0, 1) := by decide +kernel
theorem d_P_init_38 : decode prog_1_method_1_code 38 = .ok (.new 26, 3) := by decide +kernel
theorem d_P_init_41 : decode prog_1_method_1_code 41 = .ok (.dup, 1) := by decide +kernel
theorem d_P_init_42 : decode prog_1_method_1_code 42 = .ok (.invokespecial 28, 3) := by decide +kernel
theorem d_P_init_45 : decode prog_1_method_1_code 45 = .ok (.putfield 29, 3) := by decide +kernel
theorem d_P_init_48 : decode prog_1_method_1_code 48 = .ok (.aload_n 0, 1) := by decide +kernel
theorem d_P_init_49 : decode prog_1_method_1_code 49 = .ok (.new 33, 3) := by decide +kernel
theorem d_P_init_52 : decode prog_1_method_1_code 52 = .ok (.dup, 1) := by decide +kernel
theorem d_P_init_53 : decode prog_1_method_1_code 53 = .ok (.invokespecial 35, 3) := by decide +kernel
theorem d_P_init_56 : decode prog_1_method_1_code 56 = .ok (.putfield 36, 3) := by decide +kernel
theorem d_P_init_59 : decode prog_1_method_1_code 59 = .ok (.aload_n 0, 1) := by decide +kernel
theorem d_P_init_60 : decode prog_1_method_1_code 60 = .ok (.iconst 2, 1) := by decide +kernel
theorem d_P_init_61 : decode prog_1_method_1_code 61 = .ok (.anewarray 7, 3) := by decide +kernel
theorem d_P_init_64 : decode prog_1_method_1_code 64 = .ok (.putfield 40, 3) := by decide +kernel
theorem d_P_init_67 : decode prog_1_method_1_code 67 = .ok (.aload_n 0, 1) := by decide +kernel
theorem d_P_init_68 : decode prog_1_method_1_code 68 = .ok (.iconst 2, 1) := by decide +kernel
theorem d_P_init_69 : decode prog_1_method_1_code 69 = .ok (.newarray .boolean, 2) := by decide +kernel
theorem d_P_init_71 : decode prog_1_method_1_code 71 = .ok (.putfield 44, 3) := by decide +kernel
theorem d_P_init_74 : decode prog_1_method_1_code 74 = .ok (.aload_n 0, 1) := by decide +kernel
theorem d_P_init_75 : decode prog_1_method_1_code 75 = .ok (.bipush 12, 2) := by decide +kernel
theorem d_P_init_77 : decode prog_1_method_1_code 77 = .ok (.newarray .int, 2) := by decide +kernel
theorem d_P_init_79 : decode prog_1_method_1_code 79 = .ok (.putfield 48, 3) := by decide +kernel
theorem d_P_init_82 : decode prog_1_method_1_code 82 = .ok (.aload_n 0, 1) := by decide +kernel
theorem d_P_init_83 : decode prog_1_method_1_code 83 = .ok (.bipush 109, 2) := by decide +kernel
theorem d_P_init_85 : decode prog_1_method_1_code 85 = .ok (.newarray .int, 2) := by decide +kernel
theorem d_P_init_87 : decode prog_1_method_1_code 87 = .ok (.putfield 52, 3) := by decide +kernel
theorem d_P_init_90 : decode prog_1_method_1_code 90 = .ok (.iconst 0, 1) := by decide +kernel
theorem d_P_init_91 : decode prog_1_method_1_code 91 = .ok (.istore_n 1, 1) := by decide +kernel
theorem d_P_init_92 : decode prog_1_method_1_code 92 = .ok (.iload_n 1, 1) := by decide +kernel
theorem d_P_init_93 : decode prog_1_method_1_code 93 = .ok (.iconst 2, 1) := by decide +kernel
theorem d_P_init_94 : decode prog_1_method_1_code 94 = .ok (.if_icmp .ge 22, 3) := by decide +kernel
theorem d_P_init_97 : decode prog_1_method_1_code 97 = .ok (.aload_n 0, 1) := by decide +kernel
theorem d_P_init_98 : decode prog_1_method_1_code 98 = .ok (.getfield 40, 3) := by decide +kernel
theorem d_P_init_101 : decode prog_1_method_1_code 101 = .ok (.iload_n 1, 1) := by decide +kernel
theorem d_P_init_102 : decode prog_1_method_1_code 102 = .ok (.new 7, 3) := by decide +kernel
theorem d_P_init_105 : decode prog_1_method_1_code 105 = .ok (.dup, 1) := by decide +kernel
theorem d_P_init_106 : decode prog_1_method_1_code 106 = .ok (.invokespecial 9, 3) := by decide +kernel
theorem d_P_init_109 : decode prog_1_method_1_code 109 = .ok (.aastore, 1) := by decide +kernel
theorem d_P_init_110 : decode prog_1_method_1_code 110 = .ok (.iinc 1 1, 3) := by decide +kernel
theorem d_P_init_113 : decode prog_1_method_1_code 113 = .ok (.goto (-21), 3) := by decide +kernel
theorem d_P_init_116 : decode prog_1_method_1_code 116 = .ok (.return_, 1) := by decide +kernel
theorem d_P_isError_0 : decode prog_1_method_41_code 0 = .ok (.iload_n 0, 1) := by decide +kernel
theorem d_P_isError_1 : decode prog_1_method_41_code 1 = .ok (.bipush (-5), 2) := by decide +kernel
theorem d_P_isError_3 : decode prog_1_method_41_code 3 = .ok (.if_icmp .lt 12, 3) := by decide +kernel
theorem d_P_isError_6 : decode prog_1_method_41_code 6 = .ok (.iload_n 0, 1) := by decide +kernel
theorem d_P_isError_7 : decode prog_1_method_41_code 7 = .ok (.iconst (-1), 1) := by decide +kernel
theorem d_P_isError_8 : decode prog_1_method_41_code 8 = .ok (.if_icmp .gt 7, 3) := by decide +kernel
theorem d_P_isError_11 : decode prog_1_method_41_code 11 = .ok (.iconst 1, 1) := by decide +kernel
theorem d_P_isError_12 : decode prog_1_method_41_code 12 = .ok (.goto 4, 3) := by decide +kernel
theorem d_P_isError_15 : decode prog_1_method_41_code 15 = .ok (.iconst 0, 1) := by decide +kernel
theorem d_P_isError_16 : decode prog_1_method_41_code 16 = .ok (.ireturn, 1) := by decide +kernel
theorem d_P_set_0 : decode prog_1_method_2_code 0 = .ok (.aload_n 0, 1) := by decide +kernel
theorem d_P_set_1 : decode prog_1_method_2_code 1 = .ok (.getfield 29, 3) := by decide +kernel
theorem d_P_set_4 : decode prog_1_method_2_code 4 = .ok (.aload_n 0, 1) := by decide +kernel
theorem d_P_set_5 : decode prog_1_method_2_code 5 = .ok (.getfield 10, 3) := by decide +kernel
theorem d_P_set_8 : decode prog_1_method_2_code 8 = .ok (.invokevirtual 55, 3) := by decide +kernel
theorem d_P_set_11 : decode prog_1_method_2_code 11 = .ok (.aload_n 0, 1) := by decide +kernel
theorem d_P_set_12 : decode prog_1_method_2_code 12 = .ok (.getfield 29, 3) := by decide +kernel
theorem d_P_set_15 : decode prog_1_method_2_code 15 = .ok (.aload_n 0, 1) := by decide +kernel
theorem d_P_set_16 : decode prog_1_method_2_code 16 = .ok (.getfield 10, 3) := by decide +kernel
theorem d_P_set_19 : decode prog_1_method_2_code 19 = .ok (.iload_n 1, 1) := by decide +kernel
theorem d_P_set_20 : decode prog_1_method_2_code 20 = .ok (.iload_n 2, 1) := by decide +kernel
theorem d_P_set_21 : decode prog_1_method_2_code 21 = .ok (.invokevirtual 59, 3) := by decide +kernel
theorem d_P_set_24 : decode prog_1_method_2_code 24 = .ok (.invokevirtual 63, 3) := by decide +kernel
theorem d_P_set_27 : decode prog_1_method_2_code 27 = .ok (.ireturn, 1) := by decide +kernel
theorem d_P_member_0 : decode prog_1_method_3_code 0 = .ok (.aload_n 0, 1) := by decide +kernel
theorem d_P_member_1 : decode prog_1_method_3_code 1 = .ok (.getfield 29, 3) := by decide +kernel
theorem d_P_member_4 : decode prog_1_method_3_code 4 = .ok (.aload_n 0, 1) := by decide +kernel
theorem d_P_member_5 : decode prog_1_method_3_code 5 = .ok (.getfield 10, 3) := by decide +kernel
theorem d_P_member_8 : decode prog_1_method_3_code 8 = .ok (.invokevirtual 55, 3) := by decide +kernel
theorem d_P_member_11 : decode prog_1_method_3_code 11 = .ok (.aload_n 0, 1) := by decide +kernel
theorem d_P_member_12 : decode prog_1_method_3_code 12 = .ok (.getfield 29, 3) := by decide +kernel
theorem d_P_member_15 : decode prog_1_method_3_code 15 = .ok (.aload_n 0, 1) := by decide +kernel
theorem d_P_member_16 : decode prog_1_method_3_code 16 = .ok (.getfield 10, 3) := by decide +kernel
theorem d_P_member_19 : decode prog_1_method_3_code 19 = .ok (.iload_n 1, 1) := by decide +kernel
theorem d_P_member_20 : decode prog_1_method_3_code 20 = .ok (.iload_n 2, 1) := by decide +kernel
theorem d_P_member_21 : decode prog_1_method_3_code 21 = .ok (.invokevirtual 67, 3) := by decide +kernel
theorem d_P_member_24 : decode prog_1_method_3_code 24 = .ok (.invokevirtual 63, 3) := by decide +kernel
theorem d_P_member_27 : decode prog_1_method_3_code 27 = .ok (.ireturn, 1) := by decide +kernel
theorem d_P_item_0 : decode prog_1_method_4_code 0 = .ok (.aload_n 0, 1) := by decide +kernel
theorem d_P_item_1 : decode prog_1_method_4_code 1 = .ok (.getfield 29, 3) := by decide +kernel
theorem d_P_item_4 : decode prog_1_method_4_code 4 = .ok (.aload_n 0, 1) := by decide +kernel
theorem d_P_item_5 : decode prog_1_method_4_code 5 = .ok (.getfield 10, 3) := by decide +kernel
theorem d_P_item_8 : decode prog_1_method_4_code 8 = .ok (.invokevirtual 55, 3) := by decide +kernel
theorem d_P_item_11 : decode prog_1_method_4_code 11 = .ok (.aload_n 0, 1) := by decide +kernel
theorem d_P_item_12 : decode prog_1_method_4_code 12 = .ok (.getfield 29, 3) := by decide +kernel
theorem d_P_item_15 : decode prog_1_method_4_code 15 = .ok (.aload_n 0, 1) := by decide +kernel
theorem d_P_item_16 : decode prog_1_method_4_code 16 = .ok (.getfield 10, 3) := by decide +kernel
theorem d_P_item_19 : decode prog_1_method_4_code 19 = .ok (.iload_n 1, 1) := by decide +kernel
theorem d_P_item_20 : decode prog_1_method_4_code 20 = .ok (.iload_n 2, 1) := by decide +kernel
theorem d_P_item_21 : decode prog_1_method_4_code 21 = .ok (.invokevirtual 70, 3) := by decide +kernel
theorem d_P_item_24 : decode prog_1_method_4_code 24 = .ok (.invokevirtual 63, 3) := by decide +kernel
theorem d_P_item_27 : decode prog_1_method_4_code 27 = .ok (.ireturn, 1) := by decide +kernel
theorem d_P_chair_0 : decode prog_1_method_5_code 0 = .ok (.aload_n 0, 1) := by decide +kernel
theorem d_P_chair_1 : decode prog_1_method_5_code 1 = .ok (.getfield 29, 3) := by decide +kernel
theorem d_P_chair_4 : decode prog_1_method_5_code 4 = .ok (.aload_n 0, 1) := by decide +kernel
theorem d_P_chair_5 : decode prog_1_method_5_code 5 = .ok (.getfield 10, 3) := by decide +kernel
theorem d_P_chair_8 : decode prog_1_method_5_code 8 = .ok (.invokevirtual 55, 3) := by decide +kernel
theorem d_P_chair_11 : decode prog_1_method_5_code 11 = .ok (.aload_n 0, 1) := by decide +kernel
theorem d_P_chair_12 : decode prog_1_method_5_code 12 = .ok (.getfield 29, 3) := by decide +kernel
theorem d_P_chair_15 : decode prog_1_method_5_code 15 = .ok (.aload_n 0, 1) := by decide +kernel
theorem d_P_chair_16 : decode prog_1_method_5_code 16 = .ok (.getfield 10, 3) := by decide +kernel
theorem d_P_chair_19 : decode prog_1_method_5_code 19 = .ok (.iload_n 1, 1) := by decide +kernel
theorem d_P_chair_20 : decode prog_1_method_5_code 20 = .ok (.invokevirtual 73, 3) := by decide +kernel
theorem d_P_chair_23 : decode prog_1_method_5_code 23 = .ok (.invokevirtual 63, 3) := by decide +kernel
theorem d_P_chair_26 : decode prog_1_method_5_code 26 = .ok (.ireturn, 1) := by decide +kernel
theorem d_P_ofMember_0 : decode prog_1_method_17_code 0 = .ok (.aload_n 0, 1) := by decide +kernel
theorem d_P_ofMember_1 : decode prog_1_method_17_code 1 = .ok (.getfield 10, 3) := by decide +kernel
theorem d_P_ofMember_4 : decode prog_1_method_17_code 4 = .ok (.iload_n 1, 1) := by decide +kernel
theorem d_P_ofMember_5 : decode prog_1_method_17_code 5 = .ok (.invokevirtual 112, 3) := by decide +kernel
theorem d_P_ofMember_8 : decode prog_1_method_17_code 8 = .ok (.ifCond .ne 5, 3) := by decide +kernel
theorem d_P_ofMember_11 : decode prog_1_method_17_code 11 = .ok (.iconst (-1), 1) := by decide +kernel
theorem d_P_ofMember_12 : decode prog_1_method_17_code 12 = .ok (.ireturn, 1) := by decide +kernel
theorem d_P_ofMember_13 : decode prog_1_method_17_code 13 = .ok (.iload_n 2, 1) := by decide +kernel
theorem d_P_ofMember_14 : decode prog_1_method_17_code 14 = .ok (.tableswitch 103 0 5 #[38, 48, 58, 75, 85, 94], 38) := by decide +kernel
theorem d_P_ofMember_52 : decode prog_1_method_17_code 52 = .ok (.aload_n 0, 1) := by decide +kernel
theorem d_P_ofMember_53 : decode prog_1_method_17_code 53 = .ok (.getfield 10, 3) := by decide +kernel
theorem d_P_ofMember_56 : decode prog_1_method_17_code 56 = .ok (.getfield 116, 3) := by decide +kernel
theorem d_P_ofMember_59 : decode prog_1_method_17_code 59 = .ok (.iload_n 1, 1) := by decide +kernel
theorem d_P_ofMember_60 : decode prog_1_method_17_code 60 = .ok (.iaload, 1) := by decide +kernel
theorem d_P_ofMember_61 : decode prog_1_method_17_code 61 = .ok (.ireturn, 1) := by decide +kernel
theorem d_P_ofMember_62 : decode prog_1_method_17_code 62 = .ok (.aload_n 0, 1) := by decide +kernel
theorem d_P_ofMember_63 : decode prog_1_method_17_code 63 = .ok (.getfield 10, 3) := by decide +kernel
theorem d_P_ofMember_66 : decode prog_1_method_17_code 66 = .ok (.getfield 119, 3) := by decide +kernel
theorem d_P_ofMember_69 : decode prog_1_method_17_code 69 = .ok (.iload_n 1, 1) := by decide +kernel
theorem d_P_ofMember_70 : decode prog_1_method_17_code 70 = .ok (.iaload, 1) := by decide +kernel
theorem d_P_ofMember_71 : decode prog_1_method_17_code 71 = .ok (.ireturn, 1) := by decide +kernel
theorem d_P_ofMember_72 : decode prog_1_method_17_code 72 = .ok (.aload_n 0, 1) := by decide +kernel
theorem d_P_ofMember_73 : decode prog_1_method_17_code 73 = .ok (.getfield 10, 3) := by decide +kernel
theorem d_P_ofMember_76 : decode prog_1_method_17_code 76 = .ok (.iload_n 1, 1) := by decide +kernel
theorem d_P_ofMember_77 : decode prog_1_method_17_code 77 = .ok (.invokevirtual 122, 3) := by decide +kernel
theorem d_P_ofMember_80 : decode prog_1_method_17_code 80 = .ok (.ifCond .eq 7, 3) := by decide +kernel
theorem d_P_ofMember_83 : decode prog_1_method_17_code 83 = .ok (.iconst 1, 1) := by decide +kernel
theorem d_P_ofMember_84 : decode prog_1_method_17_code 84 = .ok (.goto 4, 3) := by decide +kernel
theorem d_P_ofMember_87 : decode prog_1_method_17_code 87 = .ok (.iconst 0, 1) := by decide +kernel
theorem d_P_ofMember_88 : decode prog_1_method_17_code 88 = .ok (.ireturn, 1) := by decide +kernel
theorem d_P_ofMember_89 : decode prog_1_method_17_code 89 = .ok (.aload_n 0, 1) := by decide +kernel
theorem d_P_ofMember_90 : decode prog_1_method_17_code 90 = .ok (.getfield 10, 3) := by decide +kernel
theorem d_P_ofMember_93 : decode prog_1_method_17_code 93 = .ok (.getfield 125, 3) := by decide +kernel
theorem d_P_ofMember_96 : decode prog_1_method_17_code 96 = .ok (.iload_n 1, 1) := by decide +kernel
theorem d_P_ofMember_97 : decode prog_1_method_17_code 97 = .ok (.iaload, 1) := by decide +kernel
theorem d_P_ofMember_98 : decode prog_1_method_17_code 98 = .ok (.ireturn, 1) := by decide +kernel
theorem d_P_ofMember_99 : decode prog_1_method_17_code 99 = .ok (.aload_n 0, 1) := by decide +kernel
theorem d_P_ofMember_100 : decode prog_1_method_17_code 100 = .ok (.getfield 10, 3) := by decide +kernel
theorem d_P_ofMember_103 : decode prog_1_method_17_code 103 = .ok (.iload_n 1, 1) := by decide +kernel
theorem d_P_ofMember_104 : decode prog_1_method_17_code 104 = .ok (.invokevirtual 128, 3) := by decide +kernel
theorem d_P_ofMember_107 : decode prog_1_method_17_code 107 = .ok (.ireturn, 1) := by decide +kernel
theorem d_P_ofMember_108 : decode prog_1_method_17_code 108 = .ok (.aload_n 0, 1) := by decide +kernel
theorem d_P_ofMember_109 : decode prog_1_method_17_code 109 = .ok (.getfield 10, 3) := by decide +kernel
theorem d_P_ofMember_112 : decode prog_1_method_17_code 112 = .ok (.iload_n 1, 1) := by decide +kernel
theorem d_P_ofMember_113 : decode prog_1_method_17_code 113 = .ok (.invokevirtual 131, 3) := by decide +kernel
theorem d_P_ofMember_116 : decode prog_1_method_17_code 116 = .ok (.ireturn, 1) := by decide +kernel
theorem d_P_ofMember_117 : decode prog_1_method_17_code 117 = .ok (.bipush (-2), 2) := by decide +kernel
theorem d_P_ofMember_119 : decode prog_1_method_17_code 119 = .ok (.ireturn, 1) := by decide +kernel
theorem d_P_count_0 : decode prog_1_method_20_code 0 = .ok (.iload_n 1, 1) := by decide +kernel
theorem d_P_count_1 : decode prog_1_method_20_code 1 = .ok (.bipush 8, 2) := by decide +kernel
theorem d_P_count_3 : decode prog_1_method_20_code 3 = .ok (.if_icmp .lt 21, 3) := by decide +kernel
theorem d_P_count_6 : decode prog_1_method_20_code 6 = .ok (.iload_n 1, 1) := by decide +kernel
theorem d_P_count_7 : decode prog_1_method_20_code 7 = .ok (.bipush 12, 2) := by decide +kernel
theorem d_P_count_9 : decode prog_1_method_20_code 9 = .ok (.if_icmp .gt 15, 3) := by decide +kernel
theorem d_P_count_12 : decode prog_1_method_20_code 12 = .ok (.aload_n 0, 1) := by decide +kernel
theorem d_P_count_13 : decode prog_1_method_20_code 13 = .ok (.getfield 10, 3) := by decide +kernel
theorem d_P_count_16 : decode prog_1_method_20_code 16 = .ok (.iload_n 1, 1) := by decide +kernel
theorem d_P_count_17 : decode prog_1_method_20_code 17 = .ok (.bipush 8, 2) := by decide +kernel
theorem d_P_count_19 : decode prog_1_method_20_code 19 = .ok (.isub, 1) := by decide +kernel
theorem d_P_count_20 : decode prog_1_method_20_code 20 = .ok (.invokevirtual 196, 3) := by decide +kernel
theorem d_P_count_23 : decode prog_1_method_20_code 23 = .ok (.ireturn, 1) := by decide +kernel
theorem d_P_count_24 : decode prog_1_method_20_code 24 = .ok (.iload_n 1, 1) := by decide +kernel
theorem d_P_count_25 : decode prog_1_method_20_code 25 = .ok (.bipush 16, 2) := by decide +kernel
theorem d_P_count_27 : decode prog_1_method_20_code 27 = .ok (.if_icmp .lt 22, 3) := by decide +kernel
theorem d_P_count_30 : decode prog_1_method_20_code 30 = .ok (.iload_n 1, 1) := by decide +kernel
theorem d_P_count_31 : decode prog_1_method_20_code 31 = .ok (.bipush 22, 2) := by decide +kernel
theorem d_P_count_33 : decode prog_1_method_20_code 33 = .ok (.if_icmp .ge 16, 3) := by decide +kernel
theorem d_P_count_36 : decode prog_1_method_20_code 36 = .ok (.aload_n 0, 1) := by decide +kernel
theorem d_P_count_37 : decode prog_1_method_20_code 37 = .ok (.getfield 10, 3) := by decide +kernel
theorem d_P_count_40 : decode prog_1_method_20_code 40 = .ok (.getfield 199, 3) := by decide +kernel
theorem d_P_count_43 : decode prog_1_method_20_code 43 = .ok (.iload_n 1, 1) := by decide +kernel
theorem d_P_count_44 : decode prog_1_method_20_code 44 = .ok (.bipush 16, 2) := by decide +kernel
theorem d_P_count_46 : decode prog_1_method_20_code 46 = .ok (.isub, 1) := by decide +kernel
theorem d_P_count_47 : decode prog_1_method_20_code 47 = .ok (.iaload, 1) := by decide +kernel
theorem d_P_count_48 : decode prog_1_method_20_code 48 = .ok (.ireturn, 1) := by decide +kernel
theorem d_P_count_49 : decode prog_1_method_20_code 49 = .ok (.iload_n 1, 1) := by decide +kernel
theorem d_P_count_50 : decode prog_1_method_20_code 50 = .ok (.tableswitch 170 0 15 #[78, 86, 94, 102, 110, 119, 127, 135, 170, 170, 170, 170, 170, 143, 154, 162], 78) := by decide +kernel
theorem d_P_count_128 : decode prog_1_method_20_code 128 = .ok (.aload_n 0, 1) := by decide +kernel
theorem d_P_count_129 : decode prog_1_method_20_code 129 = .ok (.getfield 10, 3) := by decide +kernel
theorem d_P_count_132 : decode prog_1_method_20_code 132 = .ok (.getfield 202, 3) := by decide +kernel
theorem d_P_count_135 : decode prog_1_method_20_code 135 = .ok (.ireturn, 1) := by decide +kernel
theorem d_P_count_136 : decode prog_1_method_20_code 136 = .ok (.aload_n 0, 1) := by decide +kernel
theorem d_P_count_137 : decode prog_1_method_20_code 137 = .ok (.getfield 10, 3) := by decide +kernel
theorem d_P_count_140 : decode prog_1_method_20_code 140 = .ok (.getfield 205, 3) := by decide +kernel
theorem d_P_count_143 : decode prog_1_method_20_code 143 = .ok (.ireturn, 1) := by decide +kernel
theorem d_P_count_144 : decode prog_1_method_20_code 144 = .ok (.aload_n 0, 1) := by decide +kernel
theorem d_P_count_145 : decode prog_1_method_20_code 145 = .ok (.getfield 10, 3) := by decide +kernel
theorem d_P_count_148 : decode prog_1_method_20_code 148 = .ok (.getfield 208, 3) := by decide +kernel
theorem d_P_count_151 : decode prog_1_method_20_code 151 = .ok (.ireturn, 1) := by decide +kernel
theorem d_P_count_152 : decode prog_1_method_20_code 152 = .ok (.aload_n 0, 1) := by decide +kernel
theorem d_P_count_153 : decode prog_1_method_20_code 153 = .ok (.getfield 10, 3) := by decide +kernel
theorem d_P_count_156 : decode prog_1_method_20_code 156 = .ok (.getfield 211, 3) := by decide +kernel
theorem d_P_count_159 : decode prog_1_method_20_code 159 = .ok (.ireturn, 1) := by decide +kernel
theorem d_P_count_160 : decode prog_1_method_20_code 160 = .ok (.aload_n 0, 1) := by decide +kernel
theorem d_P_count_161 : decode prog_1_method_20_code 161 = .ok (.getfield 10, 3) := by decide +kernel
theorem d_P_count_164 : decode prog_1_method_20_code 164 = .ok (.iconst 1, 1) := by decide +kernel
theorem d_P_count_165 : decode prog_1_method_20_code 165 = .ok (.invokevirtual 214, 3) := by decide +kernel
theorem d_P_count_168 : decode prog_1_method_20_code 168 = .ok (.ireturn, 1) := by decide +kernel
theorem d_P_count_169 : decode prog_1_method_20_code 169 = .ok (.aload_n 0, 1) := by decide +kernel
theorem d_P_count_170 : decode prog_1_method_20_code 170 = .ok (.getfield 10, 3) := by decide +kernel
theorem d_P_count_173 : decode prog_1_method_20_code 173 = .ok (.getfield 217, 3) := by decide +kernel
theorem d_P_count_176 : decode prog_1_method_20_code 176 = .ok (.ireturn, 1) := by decide +kernel
theorem d_P_count_177 : decode prog_1_method_20_code 177 = .ok (.aload_n 0, 1) := by decide +kernel
theorem d_P_count_178 : decode prog_1_method_20_code 178 = .ok (.getfield 10, 3) := by decide +kernel
theorem d_P_count_181 : decode prog_1_method_20_code 181 = .ok (.invokevirtual 220, 3) := by decide +kernel
theorem d_P_count_184 : decode prog_1_method_20_code 184 = .ok (.ireturn, 1) := by decide +kernel
theorem d_P_count_185 : decode prog_1_method_20_code 185 = .ok (.aload_n 0, 1) := by decide +kernel
theorem d_P_count_186 : decode prog_1_method_20_code 186 = .ok (.getfield 10, 3) := by decide +kernel
theorem d_P_count_189 : decode prog_1_method_20_code 189 = .ok (.invokevirtual 224, 3) := by decide +kernel
theorem d_P_count_192 : decode prog_1_method_20_code 192 = .ok (.ireturn, 1) := by decide +kernel
theorem d_P_count_193 : decode prog_1_method_20_code 193 = .ok (.aload_n 0, 1) := by decide +kernel
theorem d_P_count_194 : decode prog_1_method_20_code 194 = .ok (.getfield 10, 3) := by decide +kernel
theorem d_P_count_197 : decode prog_1_method_20_code 197 = .ok (.getfield 227, 3) := by decide +kernel
theorem d_P_count_200 : decode prog_1_method_20_code 200 = .ok (.getfield 231, 3) := by decide +kernel
theorem d_P_count_203 : decode prog_1_method_20_code 203 = .ok (.ireturn, 1) := by decide +kernel
theorem d_P_count_204 : decode prog_1_method_20_code 204 = .ok (.aload_n 0, 1) := by decide +kernel
theorem d_P_count_205 : decode prog_1_method_20_code 205 = .ok (.getfield 36, 3) := by decide +kernel
theorem d_P_count_208 : decode prog_1_method_20_code 208 = .ok (.getfield 236, 3) := by decide +kernel
theorem d_P_count_211 : decode prog_1_method_20_code 211 = .ok (.ireturn, 1) := by decide +kernel
theorem d_P_count_212 : decode prog_1_method_20_code 212 = .ok (.aload_n 0, 1) := by decide +kernel
theorem d_P_count_213 : decode prog_1_method_20_code 213 = .ok (.getfield 29, 3) := by decide +kernel
theorem d_P_count_216 : decode prog_1_method_20_code 216 = .ok (.getfield 239, 3) := by decide +kernel
theorem d_P_count_219 : decode prog_1_method_20_code 219 = .ok (.ireturn, 1) := by decide +kernel
theorem d_P_count_220 : decode prog_1_method_20_code 220 = .ok (.bipush (-2), 2) := by decide +kernel
theorem d_P_count_222 : decode prog_1_method_20_code 222 = .ok (.ireturn, 1) := by decide +kernel
theorem d_P_sumOf_0 : decode prog_1_method_21_code 0 = .ok (.aload_n 1, 1) := by decide +kernel
theorem d_P_sumOf_1 : decode prog_1_method_21_code 1 = .ok (.invokevirtual 242, 3) := by decide +kernel
theorem d_P_sumOf_4 : decode prog_1_method_21_code 4 = .ok (.ifCond .ne 10, 3) := by decide +kernel
theorem d_P_sumOf_7 : decode prog_1_method_21_code 7 = .ok (.aload_n 1, 1) := by decide +kernel
theorem d_P_sumOf_8 : decode prog_1_method_21_code 8 = .ok (.getfield 246, 3) := by decide +kernel
theorem d_P_sumOf_11 : decode prog_1_method_21_code 11 = .ok (.iload_n 2, 1) := by decide +kernel
theorem d_P_sumOf_12 : decode prog_1_method_21_code 12 = .ok (.iaload, 1) := by decide +kernel
theorem d_P_sumOf_13 : decode prog_1_method_21_code 13 = .ok (.ireturn, 1) := by decide +kernel
theorem d_P_sumOf_14 : decode prog_1_method_21_code 14 = .ok (.aload_n 0, 1) := by decide +kernel
theorem d_P_sumOf_15 : decode prog_1_method_21_code 15 = .ok (.getfield 22, 3) := by decide +kernel
theorem d_P_sumOf_18 : decode prog_1_method_21_code 18 = .ok (.aload_n 0, 1) := by decide +kernel
theorem d_P_sumOf_19 : decode prog_1_method_21_code 19 = .ok (.getfield 10, 3) := by decide +kernel
theorem d_P_sumOf_22 : decode prog_1_method_21_code 22 = .ok (.aload_n 1, 1) := by decide +kernel
theorem d_P_sumOf_23 : decode prog_1_method_21_code 23 = .ok (.invokevirtual 159, 3) := by decide +kernel
theorem d_P_sumOf_26 : decode prog_1_method_21_code 26 = .ok (.aload_n 0, 1) := by decide +kernel
theorem d_P_sumOf_27 : decode prog_1_method_21_code 27 = .ok (.getfield 22, 3) := by decide +kernel
theorem d_P_sumOf_30 : decode prog_1_method_21_code 30 = .ok (.aload_n 0, 1) := by decide +kernel
theorem d_P_sumOf_31 : decode prog_1_method_21_code 31 = .ok (.getfield 10, 3) := by decide +kernel
theorem d_P_sumOf_34 : decode prog_1_method_21_code 34 = .ok (.aload_n 1, 1) := by decide +kernel
theorem d_P_sumOf_35 : decode prog_1_method_21_code 35 = .ok (.invokevirtual 249, 3) := by decide +kernel
theorem d_P_sumOf_38 : decode prog_1_method_21_code 38 = .ok (.aload_n 0, 1) := by decide +kernel
theorem d_P_sumOf_39 : decode prog_1_method_21_code 39 = .ok (.getfield 22, 3) := by decide +kernel
theorem d_P_sumOf_42 : decode prog_1_method_21_code 42 = .ok (.getfield 252, 3) := by decide +kernel
theorem d_P_sumOf_45 : decode prog_1_method_21_code 45 = .ok (.iload_n 2, 1) := by decide +kernel
theorem d_P_sumOf_46 : decode prog_1_method_21_code 46 = .ok (.iaload, 1) := by decide +kernel
theorem d_P_sumOf_47 : decode prog_1_method_21_code 47 = .ok (.ireturn, 1) := by decide +kernel
theorem d_P_ofItem_0 : decode prog_1_method_18_code 0 = .ok (.aload_n 0, 1) := by decide +kernel
theorem d_P_ofItem_1 : decode prog_1_method_18_code 1 = .ok (.getfield 10, 3) := by decide +kernel
theorem d_P_ofItem_4 : decode prog_1_method_18_code 4 = .ok (.iload_n 1, 1) := by decide +kernel
theorem d_P_ofItem_5 : decode prog_1_method_18_code 5 = .ok (.invokevirtual 134, 3) := by decide +kernel
theorem d_P_ofItem_8 : decode prog_1_method_18_code 8 = .ok (.ifCond .ne 5, 3) := by decide +kernel
theorem d_P_ofItem_11 : decode prog_1_method_18_code 11 = .ok (.iconst (-1), 1) := by decide +kernel
theorem d_P_ofItem_12 : decode prog_1_method_18_code 12 = .ok (.ireturn, 1) := by decide +kernel
theorem d_P_ofItem_13 : decode prog_1_method_18_code 13 = .ok (.aload_n 0, 1) := by decide +kernel
theorem d_P_ofItem_14 : decode prog_1_method_18_code 14 = .ok (.getfield 10, 3) := by decide +kernel
theorem d_P_ofItem_17 : decode prog_1_method_18_code 17 = .ok (.getfield 137, 3) := by decide +kernel
theorem d_P_ofItem_20 : decode prog_1_method_18_code 20 = .ok (.iload_n 1, 1) := by decide +kernel
theorem d_P_ofItem_21 : decode prog_1_method_18_code 21 = .ok (.aaload, 1) := by decide +kernel
theorem d_P_ofItem_22 : decode prog_1_method_18_code 22 = .ok (.astore_n 3, 1) := by decide +kernel
theorem d_P_ofItem_23 : decode prog_1_method_18_code 23 = .ok (.iload_n 2, 1) := by decide +kernel
theorem d_P_ofItem_24 : decode prog_1_method_18_code 24 = .ok (.tableswitch 128 0 11 #[64, 69, 74, 128, 128, 128, 128, 128, 128, 79, 84, 89], 64) := by decide +kernel
theorem d_P_ofItem_88 : decode prog_1_method_18_code 88 = .ok (.aload_n 3, 1) := by decide +kernel
theorem d_P_ofItem_89 : decode prog_1_method_18_code 89 = .ok (.getfield 141, 3) := by decide +kernel
theorem d_P_ofItem_92 : decode prog_1_method_18_code 92 = .ok (.ireturn, 1) := by decide +kernel
theorem d_P_ofItem_93 : decode prog_1_method_18_code 93 = .ok (.aload_n 3, 1) := by decide +kernel
theorem d_P_ofItem_94 : decode prog_1_method_18_code 94 = .ok (.getfield 147, 3) := by decide +kernel
theorem d_P_ofItem_97 : decode prog_1_method_18_code 97 = .ok (.ireturn, 1) := by decide +kernel
theorem d_P_ofItem_98 : decode prog_1_method_18_code 98 = .ok (.aload_n 3, 1) := by decide +kernel
theorem d_P_ofItem_99 : decode prog_1_method_18_code 99 = .ok (.getfield 150, 3) := by decide +kernel
theorem d_P_ofItem_102 : decode prog_1_method_18_code 102 = .ok (.ireturn, 1) := by decide +kernel
theorem d_P_ofItem_103 : decode prog_1_method_18_code 103 = .ok (.aload_n 3, 1) := by decide +kernel
theorem d_P_ofItem_104 : decode prog_1_method_18_code 104 = .ok (.getfield 153, 3) := by decide +kernel
theorem d_P_ofItem_107 : decode prog_1_method_18_code 107 = .ok (.ireturn, 1) := by decide +kernel
theorem d_P_ofItem_108 : decode prog_1_method_18_code 108 = .ok (.aload_n 3, 1) := by decide +kernel
theorem d_P_ofItem_109 : decode prog_1_method_18_code 109 = .ok (.getfield 156, 3) := by decide +kernel
theorem d_P_ofItem_112 : decode prog_1_method_18_code 112 = .ok (.ireturn, 1) := by decide +kernel
theorem d_P_ofItem_113 : decode prog_1_method_18_code 113 = .ok (.aload_n 0, 1) := by decide +kernel
theorem d_P_ofItem_114 : decode prog_1_method_18_code 114 = .ok (.getfield 22, 3) := by decide +kernel
theorem d_P_ofItem_117 : decode prog_1_method_18_code 117 = .ok (.aload_n 0, 1) := by decide +kernel
theorem d_P_ofItem_118 : decode prog_1_method_18_code 118 = .ok (.getfield 10, 3) := by decide +kernel
theorem d_P_ofItem_121 : decode prog_1_method_18_code 121 = .ok (.aload_n 3, 1) := by decide +kernel
theorem d_P_ofItem_122 : decode prog_1_method_18_code 122 = .ok (.invokevirtual 159, 3) := by decide +kernel
theorem d_P_ofItem_125 : decode prog_1_method_18_code 125 = .ok (.aload_n 0, 1) := by decide +kernel
theorem d_P_ofItem_126 : decode prog_1_method_18_code 126 = .ok (.getfield 10, 3) := by decide +kernel
theorem d_P_ofItem_129 : decode prog_1_method_18_code 129 = .ok (.aload_n 0, 1) := by decide +kernel
theorem d_P_ofItem_130 : decode prog_1_method_18_code 130 = .ok (.getfield 22, 3) := by decide +kernel
theorem d_P_ofItem_133 : decode prog_1_method_18_code 133 = .ok (.aload_n 0, 1) := by decide +kernel
theorem d_P_ofItem_134 : decode prog_1_method_18_code 134 = .ok (.getfield 10, 3) := by decide +kernel
theorem d_P_ofItem_137 : decode prog_1_method_18_code 137 = .ok (.invokevirtual 163, 3) := by decide +kernel
theorem d_P_ofItem_140 : decode prog_1_method_18_code 140 = .ok (.invokevirtual 167, 3) := by decide +kernel
theorem d_P_ofItem_143 : decode prog_1_method_18_code 143 = .ok (.ifCond .eq 7, 3) := by decide +kernel
theorem d_P_ofItem_146 : decode prog_1_method_18_code 146 = .ok (.iconst 1, 1) := by decide +kernel
theorem d_P_ofItem_147 : decode prog_1_method_18_code 147 = .ok (.goto 4, 3) := by decide +kernel
theorem d_P_ofItem_150 : decode prog_1_method_18_code 150 = .ok (.iconst 0, 1) := by decide +kernel
theorem d_P_ofItem_151 : decode prog_1_method_18_code 151 = .ok (.ireturn, 1) := by decide +kernel
theorem d_P_ofItem_152 : decode prog_1_method_18_code 152 = .ok (.iload_n 2, 1) := by decide +kernel
theorem d_P_ofItem_153 : decode prog_1_method_18_code 153 = .ok (.iconst 3, 1) := by decide +kernel
theorem d_P_ofItem_154 : decode prog_1_method_18_code 154 = .ok (.if_icmp .lt 20, 3) := by decide +kernel
theorem d_P_ofItem_157 : decode prog_1_method_18_code 157 = .ok (.iload_n 2, 1) := by decide +kernel
theorem d_P_ofItem_158 : decode prog_1_method_18_code 158 = .ok (.bipush 9, 2) := by decide +kernel
theorem d_P_ofItem_160 : decode prog_1_method_18_code 160 = .ok (.if_icmp .ge 14, 3) := by decide +kernel
theorem d_P_ofItem_163 : decode prog_1_method_18_code 163 = .ok (.aload_n 0, 1) := by decide +kernel
theorem d_P_ofItem_164 : decode prog_1_method_18_code 164 = .ok (.aload_n 3, 1) := by decide +kernel
theorem d_P_ofItem_165 : decode prog_1_method_18_code 165 = .ok (.iload_n 2, 1) := by decide +kernel
theorem d_P_ofItem_166 : decode prog_1_method_18_code 166 = .ok (.iconst 3, 1) := by decide +kernel
theorem d_P_ofItem_167 : decode prog_1_method_18_code 167 = .ok (.isub, 1) := by decide +kernel
theorem d_P_ofItem_168 : decode prog_1_method_18_code 168 = .ok (.invokevirtual 170, 3) := by decide +kernel
theorem d_P_ofItem_171 : decode prog_1_method_18_code 171 = .ok (.goto 5, 3) := by decide +kernel
theorem d_P_ofItem_174 : decode prog_1_method_18_code 174 = .ok (.bipush (-2), 2) := by decide +kernel
theorem d_P_ofItem_176 : decode prog_1_method_18_code 176 = .ok (.ireturn, 1) := by decide +kernel
theorem d_P_at_0 : decode prog_1_method_19_code 0 = .ok (.aload_n 0, 1) := by decide +kernel
theorem d_P_at_1 : decode prog_1_method_19_code 1 = .ok (.getfield 10, 3) := by decide +kernel
theorem d_P_at_4 : decode prog_1_method_19_code 4 = .ok (.iload_n 1, 1) := by decide +kernel
theorem d_P_at_5 : decode prog_1_method_19_code 5 = .ok (.invokevirtual 112, 3) := by decide +kernel
theorem d_P_at_8 : decode prog_1_method_19_code 8 = .ok (.ifCond .eq 14, 3) := by decide +kernel
theorem d_P_at_11 : decode prog_1_method_19_code 11 = .ok (.aload_n 0, 1) := by decide +kernel
theorem d_P_at_12 : decode prog_1_method_19_code 12 = .ok (.getfield 10, 3) := by decide +kernel
theorem d_P_at_15 : decode prog_1_method_19_code 15 = .ok (.iload_n 2, 1) := by decide +kernel
theorem d_P_at_16 : decode prog_1_method_19_code 16 = .ok (.invokevirtual 134, 3) := by decide +kernel
theorem d_P_at_19 : decode prog_1_method_19_code 19 = .ok (.ifCond .ne 5, 3) := by decide +kernel
theorem d_P_at_22 : decode prog_1_method_19_code 22 = .ok (.iconst (-1), 1) := by decide +kernel
theorem d_P_at_23 : decode prog_1_method_19_code 23 = .ok (.ireturn, 1) := by decide +kernel
theorem d_P_at_24 : decode prog_1_method_19_code 24 = .ok (.aload_n 0, 1) := by decide +kernel
theorem d_P_at_25 : decode prog_1_method_19_code 25 = .ok (.getfield 10, 3) := by decide +kernel
theorem d_P_at_28 : decode prog_1_method_19_code 28 = .ok (.getfield 137, 3) := by decide +kernel
theorem d_P_at_31 : decode prog_1_method_19_code 31 = .ok (.iload_n 2, 1) := by decide +kernel
theorem d_P_at_32 : decode prog_1_method_19_code 32 = .ok (.aaload, 1) := by decide +kernel
theorem d_P_at_33 : decode prog_1_method_19_code 33 = .ok (.astore 4, 2) := by decide +kernel
theorem d_P_at_35 : decode prog_1_method_19_code 35 = .ok (.aload_n 0, 1) := by decide +kernel
theorem d_P_at_36 : decode prog_1_method_19_code 36 = .ok (.getfield 22, 3) := by decide +kernel
theorem d_P_at_39 : decode prog_1_method_19_code 39 = .ok (.aload_n 0, 1) := by decide +kernel
theorem d_P_at_40 : decode prog_1_method_19_code 40 = .ok (.getfield 10, 3) := by decide +kernel
theorem d_P_at_43 : decode prog_1_method_19_code 43 = .ok (.aload 4, 2) := by decide +kernel
theorem d_P_at_45 : decode prog_1_method_19_code 45 = .ok (.invokevirtual 159, 3) := by decide +kernel
theorem d_P_at_48 : decode prog_1_method_19_code 48 = .ok (.iload_n 3, 1) := by decide +kernel
theorem d_P_at_49 : decode prog_1_method_19_code 49 = .ok (.tableswitch 124 0 6 #[43, 53, 61, 69, 84, 92, 111], 43) := by decide +kernel
theorem d_P_at_92 : decode prog_1_method_19_code 92 = .ok (.aload_n 0, 1) := by decide +kernel
theorem d_P_at_93 : decode prog_1_method_19_code 93 = .ok (.getfield 22, 3) := by decide +kernel
theorem d_P_at_96 : decode prog_1_method_19_code 96 = .ok (.getfield 174, 3) := by decide +kernel
theorem d_P_at_99 : decode prog_1_method_19_code 99 = .ok (.iload_n 1, 1) := by decide +kernel
theorem d_P_at_100 : decode prog_1_method_19_code 100 = .ok (.iaload, 1) := by decide +kernel
theorem d_P_at_101 : decode prog_1_method_19_code 101 = .ok (.ireturn, 1) := by decide +kernel
theorem d_P_at_102 : decode prog_1_method_19_code 102 = .ok (.aload 4, 2) := by decide +kernel
theorem d_P_at_104 : decode prog_1_method_19_code 104 = .ok (.getfield 177, 3) := by decide +kernel
theorem d_P_at_107 : decode prog_1_method_19_code 107 = .ok (.iload_n 1, 1) := by decide +kernel
theorem d_P_at_108 : decode prog_1_method_19_code 108 = .ok (.iaload, 1) := by decide +kernel
theorem d_P_at_109 : decode prog_1_method_19_code 109 = .ok (.ireturn, 1) := by decide +kernel
theorem d_P_at_110 : decode prog_1_method_19_code 110 = .ok (.aload 4, 2) := by decide +kernel
theorem d_P_at_112 : decode prog_1_method_19_code 112 = .ok (.getfield 180, 3) := by decide +kernel
theorem d_P_at_115 : decode prog_1_method_19_code 115 = .ok (.iload_n 1, 1) := by decide +kernel
theorem d_P_at_116 : decode prog_1_method_19_code 116 = .ok (.iaload, 1) := by decide +kernel
theorem d_P_at_117 : decode prog_1_method_19_code 117 = .ok (.ireturn, 1) := by decide +kernel
theorem d_P_at_118 : decode prog_1_method_19_code 118 = .ok (.aload_n 0, 1) := by decide +kernel
theorem d_P_at_119 : decode prog_1_method_19_code 119 = .ok (.getfield 22, 3) := by decide +kernel
theorem d_P_at_122 : decode prog_1_method_19_code 122 = .ok (.aload_n 0, 1) := by decide +kernel
theorem d_P_at_123 : decode prog_1_method_19_code 123 = .ok (.getfield 10, 3) := by decide +kernel
theorem d_P_at_126 : decode prog_1_method_19_code 126 = .ok (.aload 4, 2) := by decide +kernel
theorem d_P_at_128 : decode prog_1_method_19_code 128 = .ok (.iload_n 1, 1) := by decide +kernel
theorem d_P_at_129 : decode prog_1_method_19_code 129 = .ok (.invokevirtual 183, 3) := by decide +kernel
theorem d_P_at_132 : decode prog_1_method_19_code 132 = .ok (.ireturn, 1) := by decide +kernel
theorem d_P_at_133 : decode prog_1_method_19_code 133 = .ok (.aload 4, 2) := by decide +kernel
theorem d_P_at_135 : decode prog_1_method_19_code 135 = .ok (.getfield 187, 3) := by decide +kernel
theorem d_P_at_138 : decode prog_1_method_19_code 138 = .ok (.iload_n 1, 1) := by decide +kernel
theorem d_P_at_139 : decode prog_1_method_19_code 139 = .ok (.iaload, 1) := by decide +kernel
theorem d_P_at_140 : decode prog_1_method_19_code 140 = .ok (.ireturn, 1) := by decide +kernel
theorem d_P_at_141 : decode prog_1_method_19_code 141 = .ok (.aload_n 0, 1) := by decide +kernel
theorem d_P_at_142 : decode prog_1_method_19_code 142 = .ok (.getfield 10, 3) := by decide +kernel
theorem d_P_at_145 : decode prog_1_method_19_code 145 = .ok (.iload_n 1, 1) := by decide +kernel
theorem d_P_at_146 : decode prog_1_method_19_code 146 = .ok (.aload 4, 2) := by decide +kernel
theorem d_P_at_148 : decode prog_1_method_19_code 148 = .ok (.invokevirtual 188, 3) := by decide +kernel
theorem d_P_at_151 : decode prog_1_method_19_code 151 = .ok (.ifCond .eq 7, 3) := by decide +kernel
theorem d_P_at_154 : decode prog_1_method_19_code 154 = .ok (.iconst 1, 1) := by decide +kernel
theorem d_P_at_155 : decode prog_1_method_19_code 155 = .ok (.goto 4, 3) := by decide +kernel
theorem d_P_at_158 : decode prog_1_method_19_code 158 = .ok (.iconst 0, 1) := by decide +kernel
theorem d_P_at_159 : decode prog_1_method_19_code 159 = .ok (.ireturn, 1) := by decide +kernel
theorem d_P_at_160 : decode prog_1_method_19_code 160 = .ok (.aload_n 0, 1) := by decide +kernel
theorem d_P_at_161 : decode prog_1_method_19_code 161 = .ok (.getfield 22, 3) := by decide +kernel
theorem d_P_at_164 : decode prog_1_method_19_code 164 = .ok (.aload_n 0, 1) := by decide +kernel
theorem d_P_at_165 : decode prog_1_method_19_code 165 = .ok (.getfield 10, 3) := by decide +kernel
theorem d_P_at_168 : decode prog_1_method_19_code 168 = .ok (.iload_n 1, 1) := by decide +kernel
theorem d_P_at_169 : decode prog_1_method_19_code 169 = .ok (.invokevirtual 192, 3) := by decide +kernel
theorem d_P_at_172 : decode prog_1_method_19_code 172 = .ok (.ireturn, 1) := by decide +kernel
theorem d_P_at_173 : decode prog_1_method_19_code 173 = .ok (.bipush (-2), 2) := by decide +kernel
theorem d_P_at_175 : decode prog_1_method_19_code 175 = .ok (.ireturn, 1) := by decide +kernel
theorem d_P_wouldBe_0 : decode prog_1_method_22_code 0 = .ok (.aload_n 0, 1) := by decide +kernel
theorem d_P_wouldBe_1 : decode prog_1_method_22_code 1 = .ok (.getfield 10, 3) := by decide +kernel
theorem d_P_wouldBe_4 : decode prog_1_method_22_code 4 = .ok (.iload_n 1, 1) := by decide +kernel
theorem d_P_wouldBe_5 : decode prog_1_method_22_code 5 = .ok (.invokevirtual 134, 3) := by decide +kernel
theorem d_P_wouldBe_8 : decode prog_1_method_22_code 8 = .ok (.ifCond .ne 5, 3) := by decide +kernel
theorem d_P_wouldBe_11 : decode prog_1_method_22_code 11 = .ok (.iconst (-1), 1) := by decide +kernel
theorem d_P_wouldBe_12 : decode prog_1_method_22_code 12 = .ok (.ireturn, 1) := by decide +kernel
theorem d_P_wouldBe_13 : decode prog_1_method_22_code 13 = .ok (.aload_n 0, 1) := by decide +kernel
theorem d_P_wouldBe_14 : decode prog_1_method_22_code 14 = .ok (.getfield 10, 3) := by decide +kernel
theorem d_P_wouldBe_17 : decode prog_1_method_22_code 17 = .ok (.getfield 137, 3) := by decide +kernel
theorem d_P_wouldBe_20 : decode prog_1_method_22_code 20 = .ok (.iload_n 1, 1) := by decide +kernel
theorem d_P_wouldBe_21 : decode prog_1_method_22_code 21 = .ok (.aaload, 1) := by decide +kernel
theorem d_P_wouldBe_22 : decode prog_1_method_22_code 22 = .ok (.astore_n 2, 1) := by decide +kernel
theorem d_P_wouldBe_23 : decode prog_1_method_22_code 23 = .ok (.aload_n 2, 1) := by decide +kernel
theorem d_P_wouldBe_24 : decode prog_1_method_22_code 24 = .ok (.invokevirtual 242, 3) := by decide +kernel
theorem d_P_wouldBe_27 : decode prog_1_method_22_code 27 = .ok (.ifCond .ne 6, 3) := by decide +kernel
theorem d_P_wouldBe_30 : decode prog_1_method_22_code 30 = .ok (.bipush (-5), 2) := by decide +kernel
theorem d_P_wouldBe_32 : decode prog_1_method_22_code 32 = .ok (.ireturn, 1) := by decide +kernel
theorem d_P_wouldBe_33 : decode prog_1_method_22_code 33 = .ok (.aload_n 0, 1) := by decide +kernel
theorem d_P_wouldBe_34 : decode prog_1_method_22_code 34 = .ok (.getfield 22, 3) := by decide +kernel
theorem d_P_wouldBe_37 : decode prog_1_method_22_code 37 = .ok (.aload_n 0, 1) := by decide +kernel
theorem d_P_wouldBe_38 : decode prog_1_method_22_code 38 = .ok (.getfield 10, 3) := by decide +kernel
theorem d_P_wouldBe_41 : decode prog_1_method_22_code 41 = .ok (.aload_n 2, 1) := by decide +kernel
theorem d_P_wouldBe_42 : decode prog_1_method_22_code 42 = .ok (.invokevirtual 159, 3) := by decide +kernel
theorem d_P_wouldBe_45 : decode prog_1_method_22_code 45 = .ok (.aload_n 0, 1) := by decide +kernel
theorem d_P_wouldBe_46 : decode prog_1_method_22_code 46 = .ok (.getfield 22, 3) := by decide +kernel
theorem d_P_wouldBe_49 : decode prog_1_method_22_code 49 = .ok (.aload_n 0, 1) := by decide +kernel
theorem d_P_wouldBe_50 : decode prog_1_method_22_code 50 = .ok (.getfield 10, 3) := by decide +kernel
theorem d_P_wouldBe_53 : decode prog_1_method_22_code 53 = .ok (.aload_n 2, 1) := by decide +kernel
theorem d_P_wouldBe_54 : decode prog_1_method_22_code 54 = .ok (.invokevirtual 249, 3) := by decide +kernel
theorem d_P_wouldBe_57 : decode prog_1_method_22_code 57 = .ok (.aload_n 0, 1) := by decide +kernel
theorem d_P_wouldBe_58 : decode prog_1_method_22_code 58 = .ok (.getfield 22, 3) := by decide +kernel
theorem d_P_wouldBe_61 : decode prog_1_method_22_code 61 = .ok (.aload_n 0, 1) := by decide +kernel
theorem d_P_wouldBe_62 : decode prog_1_method_22_code 62 = .ok (.getfield 10, 3) := by decide +kernel
theorem d_P_wouldBe_65 : decode prog_1_method_22_code 65 = .ok (.aload_n 2, 1) := by decide +kernel
theorem d_P_wouldBe_66 : decode prog_1_method_22_code 66 = .ok (.iconst 0, 1) := by decide +kernel
theorem d_P_wouldBe_67 : decode prog_1_method_22_code 67 = .ok (.invokevirtual 253, 3) := by decide +kernel
theorem d_P_wouldBe_70 : decode prog_1_method_22_code 70 = .ok (.ireturn, 1) := by decide +kernel
theorem d_P_come_0 : decode prog_1_method_6_code 0 = .ok (.aload_n 0, 1) := by decide +kernel
theorem d_P_come_1 : decode prog_1_method_6_code 1 = .ok (.getfield 29, 3) := by decide +kernel
theorem d_P_come_4 : decode prog_1_method_6_code 4 = .ok (.aload_n 0, 1) := by decide +kernel
theorem d_P_come_5 : decode prog_1_method_6_code 5 = .ok (.getfield 10, 3) := by decide +kernel
theorem d_P_come_8 : decode prog_1_method_6_code 8 = .ok (.invokevirtual 55, 3) := by decide +kernel
theorem d_P_come_11 : decode prog_1_method_6_code 11 = .ok (.aload_n 0, 1) := by decide +kernel
theorem d_P_come_12 : decode prog_1_method_6_code 12 = .ok (.getfield 29, 3) := by decide +kernel
theorem d_P_come_15 : decode prog_1_method_6_code 15 = .ok (.aload_n 0, 1) := by decide +kernel
theorem d_P_come_16 : decode prog_1_method_6_code 16 = .ok (.getfield 10, 3) := by decide +kernel
theorem d_P_come_19 : decode prog_1_method_6_code 19 = .ok (.iload_n 1, 1) := by decide +kernel
theorem d_P_come_20 : decode prog_1_method_6_code 20 = .ok (.invokevirtual 76, 3) := by decide +kernel
theorem d_P_come_23 : decode prog_1_method_6_code 23 = .ok (.invokevirtual 63, 3) := by decide +kernel
theorem d_P_come_26 : decode prog_1_method_6_code 26 = .ok (.ireturn, 1) := by decide +kernel
theorem d_P_go_0 : decode prog_1_method_7_code 0 = .ok (.aload_n 0, 1) := by decide +kernel
theorem d_P_go_1 : decode prog_1_method_7_code 1 = .ok (.getfield 29, 3) := by decide +kernel
theorem d_P_go_4 : decode prog_1_method_7_code 4 = .ok (.aload_n 0, 1) := by decide +kernel
theorem d_P_go_5 : decode prog_1_method_7_code 5 = .ok (.getfield 10, 3) := by decide +kernel
theorem d_P_go_8 : decode prog_1_method_7_code 8 = .ok (.invokevirtual 55, 3) := by decide +kernel
theorem d_P_go_11 : decode prog_1_method_7_code 11 = .ok (.aload_n 0, 1) := by decide +kernel
theorem d_P_go_12 : decode prog_1_method_7_code 12 = .ok (.getfield 29, 3) := by decide +kernel
theorem d_P_go_15 : decode prog_1_method_7_code 15 = .ok (.aload_n 0, 1) := by decide +kernel
theorem d_P_go_16 : decode prog_1_method_7_code 16 = .ok (.getfield 10, 3) := by decide +kernel
theorem d_P_go_19 : decode prog_1_method_7_code 19 = .ok (.iload_n 1, 1) := by decide +kernel
theorem d_P_go_20 : decode prog_1_method_7_code 20 = .ok (.invokevirtual 79, 3) := by decide +kernel
theorem d_P_go_23 : decode prog_1_method_7_code 23 = .ok (.invokevirtual 63, 3) := by decide +kernel
theorem d_P_go_26 : decode prog_1_method_7_code 26 = .ok (.ireturn, 1) := by decide +kernel
theorem d_P_proxy_0 : decode prog_1_method_9_code 0 = .ok (.aload_n 0, 1) := by decide +kernel
theorem d_P_proxy_1 : decode prog_1_method_9_code 1 = .ok (.getfield 29, 3) := by decide +kernel
theorem d_P_proxy_4 : decode prog_1_method_9_code 4 = .ok (.aload_n 0, 1) := by decide +kernel
theorem d_P_proxy_5 : decode prog_1_method_9_code 5 = .ok (.getfield 10, 3) := by decide +kernel
theorem d_P_proxy_8 : decode prog_1_method_9_code 8 = .ok (.invokevirtual 55, 3) := by decide +kernel
theorem d_P_proxy_11 : decode prog_1_method_9_code 11 = .ok (.aload_n 0, 1) := by decide +kernel
theorem d_P_proxy_12 : decode prog_1_method_9_code 12 = .ok (.getfield 29, 3) := by decide +kernel
theorem d_P_proxy_15 : decode prog_1_method_9_code 15 = .ok (.aload_n 0, 1) := by decide +kernel
theorem d_P_proxy_16 : decode prog_1_method_9_code 16 = .ok (.getfield 10, 3) := by decide +kernel
theorem d_P_proxy_19 : decode prog_1_method_9_code 19 = .ok (.iload_n 1, 1) := by decide +kernel
theorem d_P_proxy_20 : decode prog_1_method_9_code 20 = .ok (.iload_n 2, 1) := by decide +kernel
theorem d_P_proxy_21 : decode prog_1_method_9_code 21 = .ok (.iload_n 3, 1) := by decide +kernel
theorem d_P_proxy_22 : decode prog_1_method_9_code 22 = .ok (.invokevirtual 86, 3) := by decide +kernel
theorem d_P_proxy_25 : decode prog_1_method_9_code 25 = .ok (.invokevirtual 63, 3) := by decide +kernel
theorem d_P_proxy_28 : decode prog_1_method_9_code 28 = .ok (.ireturn, 1) := by decide +kernel
theorem d_P_isChoice_0 : decode prog_1_method_42_code 0 = .ok (.iload_n 0, 1) := by decide +kernel
theorem d_P_isChoice_1 : decode prog_1_method_42_code 1 = .ok (.ifCond .lt 12, 3) := by decide +kernel
theorem d_P_isChoice_4 : decode prog_1_method_42_code 4 = .ok (.iload_n 0, 1) := by decide +kernel
theorem d_P_isChoice_5 : decode prog_1_method_42_code 5 = .ok (.iconst 2, 1) := by decide +kernel
theorem d_P_isChoice_6 : decode prog_1_method_42_code 6 = .ok (.if_icmp .gt 7, 3) := by decide +kernel
theorem d_P_isChoice_9 : decode prog_1_method_42_code 9 = .ok (.iconst 1, 1) := by decide +kernel
theorem d_P_isChoice_10 : decode prog_1_method_42_code 10 = .ok (.goto 4, 3) := by decide +kernel
theorem d_P_isChoice_13 : decode prog_1_method_42_code 13 = .ok (.iconst 0, 1) := by decide +kernel
theorem d_P_isChoice_14 : decode prog_1_method_42_code 14 = .ok (.ireturn, 1) := by decide +kernel
theorem d_P_tell_0 : decode prog_1_method_10_code 0 = .ok (.aload_n 0, 1) := by decide +kernel
theorem d_P_tell_1 : decode prog_1_method_10_code 1 = .ok (.getfield 29, 3) := by decide +kernel
theorem d_P_tell_4 : decode prog_1_method_10_code 4 = .ok (.aload_n 0, 1) := by decide +kernel
theorem d_P_tell_5 : decode prog_1_method_10_code 5 = .ok (.getfield 10, 3) := by decide +kernel
theorem d_P_tell_8 : decode prog_1_method_10_code 8 = .ok (.invokevirtual 55, 3) := by decide +kernel
theorem d_P_tell_11 : decode prog_1_method_10_code 11 = .ok (.aload_n 0, 1) := by decide +kernel
theorem d_P_tell_12 : decode prog_1_method_10_code 12 = .ok (.getfield 29, 3) := by decide +kernel
theorem d_P_tell_15 : decode prog_1_method_10_code 15 = .ok (.aload_n 0, 1) := by decide +kernel
theorem d_P_tell_16 : decode prog_1_method_10_code 16 = .ok (.getfield 10, 3) := by decide +kernel
theorem d_P_tell_19 : decode prog_1_method_10_code 19 = .ok (.iload_n 1, 1) := by decide +kernel
theorem d_P_tell_20 : decode prog_1_method_10_code 20 = .ok (.iload_n 2, 1) := by decide +kernel
theorem d_P_tell_21 : decode prog_1_method_10_code 21 = .ok (.iload_n 3, 1) := by decide +kernel
theorem d_P_tell_22 : decode prog_1_method_10_code 22 = .ok (.invokevirtual 89, 3) := by decide +kernel
theorem d_P_tell_25 : decode prog_1_method_10_code 25 = .ok (.invokevirtual 63, 3) := by decide +kernel
theorem d_P_tell_28 : decode prog_1_method_10_code 28 = .ok (.ireturn, 1) := by decide +kernel
theorem d_P_recuse_0 : decode prog_1_method_11_code 0 = .ok (.aload_n 0, 1) := by decide +kernel
theorem d_P_recuse_1 : decode prog_1_method_11_code 1 = .ok (.getfield 29, 3) := by decide +kernel
theorem d_P_recuse_4 : decode prog_1_method_11_code 4 = .ok (.aload_n 0, 1) := by decide +kernel
theorem d_P_recuse_5 : decode prog_1_method_11_code 5 = .ok (.getfield 10, 3) := by decide +kernel
theorem d_P_recuse_8 : decode prog_1_method_11_code 8 = .ok (.invokevirtual 55, 3) := by decide +kernel
theorem d_P_recuse_11 : decode prog_1_method_11_code 11 = .ok (.aload_n 0, 1) := by decide +kernel
theorem d_P_recuse_12 : decode prog_1_method_11_code 12 = .ok (.getfield 29, 3) := by decide +kernel
theorem d_P_recuse_15 : decode prog_1_method_11_code 15 = .ok (.aload_n 0, 1) := by decide +kernel
theorem d_P_recuse_16 : decode prog_1_method_11_code 16 = .ok (.getfield 10, 3) := by decide +kernel
theorem d_P_recuse_19 : decode prog_1_method_11_code 19 = .ok (.iload_n 1, 1) := by decide +kernel
theorem d_P_recuse_20 : decode prog_1_method_11_code 20 = .ok (.iload_n 2, 1) := by decide +kernel
theorem d_P_recuse_21 : decode prog_1_method_11_code 21 = .ok (.iload_n 3, 1) := by decide +kernel
theorem d_P_recuse_22 : decode prog_1_method_11_code 22 = .ok (.invokevirtual 92, 3) := by decide +kernel
theorem d_P_recuse_25 : decode prog_1_method_11_code 25 = .ok (.invokevirtual 63, 3) := by decide +kernel
theorem d_P_recuse_28 : decode prog_1_method_11_code 28 = .ok (.ireturn, 1) := by decide +kernel
theorem d_P_open_0 : decode prog_1_method_12_code 0 = .ok (.aload_n 0, 1) := by decide +kernel
theorem d_P_open_1 : decode prog_1_method_12_code 1 = .ok (.getfield 29, 3) := by decide +kernel
theorem d_P_open_4 : decode prog_1_method_12_code 4 = .ok (.aload_n 0, 1) := by decide +kernel
theorem d_P_open_5 : decode prog_1_method_12_code 5 = .ok (.getfield 10, 3) := by decide +kernel
theorem d_P_open_8 : decode prog_1_method_12_code 8 = .ok (.invokevirtual 55, 3) := by decide +kernel
theorem d_P_open_11 : decode prog_1_method_12_code 11 = .ok (.aload_n 0, 1) := by decide +kernel
theorem d_P_open_12 : decode prog_1_method_12_code 12 = .ok (.getfield 29, 3) := by decide +kernel
theorem d_P_open_15 : decode prog_1_method_12_code 15 = .ok (.aload_n 0, 1) := by decide +kernel
theorem d_P_open_16 : decode prog_1_method_12_code 16 = .ok (.getfield 10, 3) := by decide +kernel
theorem d_P_open_19 : decode prog_1_method_12_code 19 = .ok (.iload_n 1, 1) := by decide +kernel
theorem d_P_open_20 : decode prog_1_method_12_code 20 = .ok (.aload_n 0, 1) := by decide +kernel
theorem d_P_open_21 : decode prog_1_method_12_code 21 = .ok (.getfield 22, 3) := by decide +kernel
theorem d_P_open_24 : decode prog_1_method_12_code 24 = .ok (.invokevirtual 95, 3) := by decide +kernel
theorem d_P_open_27 : decode prog_1_method_12_code 27 = .ok (.invokevirtual 63, 3) := by decide +kernel
theorem d_P_open_30 : decode prog_1_method_12_code 30 = .ok (.ireturn, 1) := by decide +kernel
theorem d_P_vote_0 : decode prog_1_method_13_code 0 = .ok (.aload_n 0, 1) := by decide +kernel
theorem d_P_vote_1 : decode prog_1_method_13_code 1 = .ok (.getfield 29, 3) := by decide +kernel
theorem d_P_vote_4 : decode prog_1_method_13_code 4 = .ok (.aload_n 0, 1) := by decide +kernel
theorem d_P_vote_5 : decode prog_1_method_13_code 5 = .ok (.getfield 10, 3) := by decide +kernel
theorem d_P_vote_8 : decode prog_1_method_13_code 8 = .ok (.invokevirtual 55, 3) := by decide +kernel
theorem d_P_vote_11 : decode prog_1_method_13_code 11 = .ok (.aload_n 0, 1) := by decide +kernel
theorem d_P_vote_12 : decode prog_1_method_13_code 12 = .ok (.getfield 29, 3) := by decide +kernel
theorem d_P_vote_15 : decode prog_1_method_13_code 15 = .ok (.aload_n 0, 1) := by decide +kernel
theorem d_P_vote_16 : decode prog_1_method_13_code 16 = .ok (.getfield 10, 3) := by decide +kernel
theorem d_P_vote_19 : decode prog_1_method_13_code 19 = .ok (.iload_n 1, 1) := by decide +kernel
theorem d_P_vote_20 : decode prog_1_method_13_code 20 = .ok (.iload_n 2, 1) := by decide +kernel
theorem d_P_vote_21 : decode prog_1_method_13_code 21 = .ok (.invokevirtual 99, 3) := by decide +kernel
theorem d_P_vote_24 : decode prog_1_method_13_code 24 = .ok (.invokevirtual 63, 3) := by decide +kernel
theorem d_P_vote_27 : decode prog_1_method_13_code 27 = .ok (.ireturn, 1) := by decide +kernel
theorem d_P_close_0 : decode prog_1_method_14_code 0 = .ok (.aload_n 0, 1) := by decide +kernel
theorem d_P_close_1 : decode prog_1_method_14_code 1 = .ok (.getfield 29, 3) := by decide +kernel
theorem d_P_close_4 : decode prog_1_method_14_code 4 = .ok (.aload_n 0, 1) := by decide +kernel
theorem d_P_close_5 : decode prog_1_method_14_code 5 = .ok (.getfield 10, 3) := by decide +kernel
theorem d_P_close_8 : decode prog_1_method_14_code 8 = .ok (.invokevirtual 55, 3) := by decide +kernel
theorem d_P_close_11 : decode prog_1_method_14_code 11 = .ok (.aload_n 0, 1) := by decide +kernel
theorem d_P_close_12 : decode prog_1_method_14_code 12 = .ok (.getfield 29, 3) := by decide +kernel
theorem d_P_close_15 : decode prog_1_method_14_code 15 = .ok (.aload_n 0, 1) := by decide +kernel
theorem d_P_close_16 : decode prog_1_method_14_code 16 = .ok (.getfield 10, 3) := by decide +kernel
theorem d_P_close_19 : decode prog_1_method_14_code 19 = .ok (.aload_n 0, 1) := by decide +kernel
theorem d_P_close_20 : decode prog_1_method_14_code 20 = .ok (.getfield 22, 3) := by decide +kernel
theorem d_P_close_23 : decode prog_1_method_14_code 23 = .ok (.invokevirtual 102, 3) := by decide +kernel
theorem d_P_close_26 : decode prog_1_method_14_code 26 = .ok (.invokevirtual 63, 3) := by decide +kernel
theorem d_P_close_29 : decode prog_1_method_14_code 29 = .ok (.ireturn, 1) := by decide +kernel
theorem d_P_cast_0 : decode prog_1_method_15_code 0 = .ok (.aload_n 0, 1) := by decide +kernel
theorem d_P_cast_1 : decode prog_1_method_15_code 1 = .ok (.getfield 29, 3) := by decide +kernel
theorem d_P_cast_4 : decode prog_1_method_15_code 4 = .ok (.aload_n 0, 1) := by decide +kernel
theorem d_P_cast_5 : decode prog_1_method_15_code 5 = .ok (.getfield 10, 3) := by decide +kernel
theorem d_P_cast_8 : decode prog_1_method_15_code 8 = .ok (.invokevirtual 55, 3) := by decide +kernel
theorem d_P_cast_11 : decode prog_1_method_15_code 11 = .ok (.aload_n 0, 1) := by decide +kernel
theorem d_P_cast_12 : decode prog_1_method_15_code 12 = .ok (.getfield 29, 3) := by decide +kernel
theorem d_P_cast_15 : decode prog_1_method_15_code 15 = .ok (.aload_n 0, 1) := by decide +kernel
theorem d_P_cast_16 : decode prog_1_method_15_code 16 = .ok (.getfield 10, 3) := by decide +kernel
theorem d_P_cast_19 : decode prog_1_method_15_code 19 = .ok (.iload_n 1, 1) := by decide +kernel
theorem d_P_cast_20 : decode prog_1_method_15_code 20 = .ok (.invokevirtual 106, 3) := by decide +kernel
theorem d_P_cast_23 : decode prog_1_method_15_code 23 = .ok (.invokevirtual 63, 3) := by decide +kernel
theorem d_P_cast_26 : decode prog_1_method_15_code 26 = .ok (.ireturn, 1) := by decide +kernel
theorem d_P_later_0 : decode prog_1_method_8_code 0 = .ok (.aload_n 0, 1) := by decide +kernel
theorem d_P_later_1 : decode prog_1_method_8_code 1 = .ok (.getfield 29, 3) := by decide +kernel
theorem d_P_later_4 : decode prog_1_method_8_code 4 = .ok (.aload_n 0, 1) := by decide +kernel
theorem d_P_later_5 : decode prog_1_method_8_code 5 = .ok (.getfield 10, 3) := by decide +kernel
theorem d_P_later_8 : decode prog_1_method_8_code 8 = .ok (.invokevirtual 55, 3) := by decide +kernel
theorem d_P_later_11 : decode prog_1_method_8_code 11 = .ok (.aload_n 0, 1) := by decide +kernel
theorem d_P_later_12 : decode prog_1_method_8_code 12 = .ok (.getfield 29, 3) := by decide +kernel
theorem d_P_later_15 : decode prog_1_method_8_code 15 = .ok (.aload_n 0, 1) := by decide +kernel
theorem d_P_later_16 : decode prog_1_method_8_code 16 = .ok (.getfield 10, 3) := by decide +kernel
theorem d_P_later_19 : decode prog_1_method_8_code 19 = .ok (.iload_n 1, 1) := by decide +kernel
theorem d_P_later_20 : decode prog_1_method_8_code 20 = .ok (.iload_n 2, 1) := by decide +kernel
theorem d_P_later_21 : decode prog_1_method_8_code 21 = .ok (.iload_n 3, 1) := by decide +kernel
theorem d_P_later_22 : decode prog_1_method_8_code 22 = .ok (.invokevirtual 82, 3) := by decide +kernel
theorem d_P_later_25 : decode prog_1_method_8_code 25 = .ok (.invokevirtual 63, 3) := by decide +kernel
theorem d_P_later_28 : decode prog_1_method_8_code 28 = .ok (.ireturn, 1) := by decide +kernel
theorem d_P_pass_0 : decode prog_1_method_16_code 0 = .ok (.aload_n 0, 1) := by decide +kernel
theorem d_P_pass_1 : decode prog_1_method_16_code 1 = .ok (.getfield 29, 3) := by decide +kernel
theorem d_P_pass_4 : decode prog_1_method_16_code 4 = .ok (.aload_n 0, 1) := by decide +kernel
theorem d_P_pass_5 : decode prog_1_method_16_code 5 = .ok (.getfield 10, 3) := by decide +kernel
theorem d_P_pass_8 : decode prog_1_method_16_code 8 = .ok (.invokevirtual 55, 3) := by decide +kernel
theorem d_P_pass_11 : decode prog_1_method_16_code 11 = .ok (.aload_n 0, 1) := by decide +kernel
theorem d_P_pass_12 : decode prog_1_method_16_code 12 = .ok (.getfield 29, 3) := by decide +kernel
theorem d_P_pass_15 : decode prog_1_method_16_code 15 = .ok (.aload_n 0, 1) := by decide +kernel
theorem d_P_pass_16 : decode prog_1_method_16_code 16 = .ok (.getfield 10, 3) := by decide +kernel
theorem d_P_pass_19 : decode prog_1_method_16_code 19 = .ok (.iload_n 1, 1) := by decide +kernel
theorem d_P_pass_20 : decode prog_1_method_16_code 20 = .ok (.invokevirtual 109, 3) := by decide +kernel
theorem d_P_pass_23 : decode prog_1_method_16_code 23 = .ok (.invokevirtual 63, 3) := by decide +kernel
theorem d_P_pass_26 : decode prog_1_method_16_code 26 = .ok (.ireturn, 1) := by decide +kernel
