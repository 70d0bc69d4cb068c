/-! DECODE rows: printed by wip/whole/emit.py. -/
theorem d_P_init_0 : decode prog_1_method_1_code 0 = .ok (.aload_n 0, 1) := by decide +kernel
theorem d_P_init_1 : decode prog_1_method_1_code 1 = .ok (.invokespecial 1, 3) := by decide +kernel
theorem d_P_init_4 : decode prog_1_method_1_code 4 = .ok (.aload_n 0, 1) := by decide +kernel
theorem d_P_init_5 : decode prog_1_method_1_code 5 = .ok (.new 7, 3) := by decide +kernel
theorem d_P_init_8 : decode prog_1_method_1_code 8 = .ok (.dup, 1) := by decide +kernel
theorem d_P_init_9 : decode prog_1_method_1_code 9 = .ok (.invokespecial 9, 3) := by decide +kernel
theorem d_P_init_12 : decode prog_1_method_1_code 12 = .ok (.putfield 10, 3) := by decide +kernel
theorem d_P_init_15 : decode prog_1_method_1_code 15 = .ok (.aload_n 0, 1) := by decide +kernel
theorem d_P_init_16 : decode prog_1_method_1_code 16 = .ok (.new 7, 3) := by decide +kernel
theorem d_P_init_19 : decode prog_1_method_1_code 19 = .ok (.dup, 1) := by decide +kernel
theorem d_P_init_20 : decode prog_1_method_1_code 20 = .ok (.invokespecial 9, 3) := by decide +kernel
theorem d_P_init_23 : decode prog_1_method_1_code 23 = .ok (.putfield 16, 3) := by decide +kernel
theorem d_P_init_26 : decode prog_1_method_1_code 26 = .ok (.aload_n 0, 1) := by decide +kernel
theorem d_P_init_27 : decode prog_1_method_1_code 27 = .ok (.new 19, 3) := by decide +kernel
theorem d_P_init_30 : decode prog_1_method_1_code 30 = .ok (.dup, 1) := by decide +kernel
theorem d_P_init_31 : decode prog_1_method_1_code 31 = .ok (.invokespecial 21, 3) := by decide +kernel
theorem d_P_init_34 : decode prog_1_method_1_code 34 = .ok (.putfield 22, 3) := by decide +kernel
theorem d_P_init_37 : decode prog_1_method_1_code 37 = .ok (.aload_n 0, 1) := by decide +kernel
theorem d_P_init_38 : decode prog_1_method_1_code 38 = .ok (.new 26, 3) := by decide +kernel
theorem d_P_init_41 : decode prog_1_method_1_code 41 = .ok (.dup, 1) := by decide +kernel
theorem d_P_init_42 : decode prog_1_method_1_code 42 = .ok (.invokespecial 28, 3) := by decide +kernel
theorem d_P_init_45 : decode prog_1_method_1_code 45 = .ok (.putfield 29, 3) := by decide +kernel
theorem d_P_init_48 : decode prog_1_method_1_code 48 = .ok (.aload_n 0, 1) := by decide +kernel
theorem d_P_init_49 : decode prog_1_method_1_code 49 = .ok (.new 33, 3) := by decide +kernel
theorem d_P_init_52 : decode prog_1_method_1_code 52 = .ok (.dup, 1) := by decide +kernel
theorem d_P_init_53 : decode prog_1_method_1_code 53 = .ok (.invokespecial 35, 3) := by decide +kernel
theorem d_P_init_56 : decode prog_1_method_1_code 56 = .ok (.putfield 36, 3) := by decide +kernel
theorem d_P_init_59 : decode prog_1_method_1_code 59 = .ok (.aload_n 0, 1) := by decide +kernel
theorem d_P_init_60 : decode prog_1_method_1_code 60 = .ok (.iconst 2, 1) := by decide +kernel
theorem d_P_init_61 : decode prog_1_method_1_code 61 = .ok (.anewarray 7, 3) := by decide +kernel
theorem d_P_init_64 : decode prog_1_method_1_code 64 = .ok (.putfield 40, 3) := by decide +kernel
theorem d_P_init_67 : decode prog_1_method_1_code 67 = .ok (.aload_n 0, 1) := by decide +kernel
theorem d_P_init_68 : decode prog_1_method_1_code 68 = .ok (.iconst 2, 1) := by decide +kernel
theorem d_P_init_69 : decode prog_1_method_1_code 69 = .ok (.newarray .boolean, 2) := by decide +kernel
theorem d_P_init_71 : decode prog_1_method_1_code 71 = .ok (.putfield 44, 3) := by decide +kernel
theorem d_P_init_74 : decode prog_1_method_1_code 74 = .ok (.aload_n 0, 1) := by decide +kernel
theorem d_P_init_75 : decode prog_1_method_1_code 75 = .ok (.bipush 12, 2) := by decide +kernel
theorem d_P_init_77 : decode prog_1_method_1_code 77 = .ok (.newarray .int, 2) := by decide +kernel
theorem d_P_init_79 : decode prog_1_method_1_code 79 = .ok (.putfield 48, 3) := by decide +kernel
theorem d_P_init_82 : decode prog_1_method_1_code 82 = .ok (.aload_n 0, 1) := by decide +kernel
theorem d_P_init_83 : decode prog_1_method_1_code 83 = .ok (.bipush 109, 2) := by decide +kernel
theorem d_P_init_85 : decode prog_1_method_1_code 85 = .ok (.newarray .int, 2) := by decide +kernel
theorem d_P_init_87 : decode prog_1_method_1_code 87 = .ok (.putfield 52, 3) := by decide +kernel
theorem d_P_init_90 : decode prog_1_method_1_code 90 = .ok (.iconst 0, 1) := by decide +kernel
theorem d_P_init_91 : decode prog_1_method_1_code 91 = .ok (.istore_n 1, 1) := by decide +kernel
theorem d_P_init_92 : decode prog_1_method_1_code 92 = .ok (.iload_n 1, 1) := by decide +kernel
theorem d_P_init_93 : decode prog_1_method_1_code 93 = .ok (.iconst 2, 1) := by decide +kernel
theorem d_P_init_94 : decode prog_1_method_1_code 94 = .ok (.if_icmp .ge 22, 3) := by decide +kernel
theorem d_P_init_97 : decode prog_1_method_1_code 97 = .ok (.aload_n 0, 1) := by decide +kernel
theorem d_P_init_98 : decode prog_1_method_1_code 98 = .ok (.getfield 40, 3) := by decide +kernel
theorem d_P_init_101 : decode prog_1_method_1_code 101 = .ok (.iload_n 1, 1) := by decide +kernel
theorem d_P_init_102 : decode prog_1_method_1_code 102 = .ok (.new 7, 3) := by decide +kernel
theorem d_P_init_105 : decode prog_1_method_1_code 105 = .ok (.dup, 1) := by decide +kernel
theorem d_P_init_106 : decode prog_1_method_1_code 106 = .ok (.invokespecial 9, 3) := by decide +kernel
theorem d_P_init_109 : decode prog_1_method_1_code 109 = .ok (.aastore, 1) := by decide +kernel
theorem d_P_init_110 : decode prog_1_method_1_code 110 = .ok (.iinc 1 1, 3) := by decide +kernel
theorem d_P_init_113 : decode prog_1_method_1_code 113 = .ok (.goto (-21), 3) := by decide +kernel
theorem d_P_init_116 : decode prog_1_method_1_code 116 = .ok (.return_, 1) := by decide +kernel
theorem d_P_isError_0 : decode prog_1_method_41_code 0 = .ok (.iload_n 0, 1) := by decide +kernel
theorem d_P_isError_1 : decode prog_1_method_41_code 1 = .ok (.bipush (-5), 2) := by decide +kernel
theorem d_P_isError_3 : decode prog_1_method_41_code 3 = .ok (.if_icmp .lt 12, 3) := by decide +kernel
theorem d_P_isError_6 : decode prog_1_method_41_code 6 = .ok (.iload_n 0, 1) := by decide +kernel
theorem d_P_isError_7 : decode prog_1_method_41_code 7 = .ok (.iconst (-1), 1) := by decide +kernel
theorem d_P_isError_8 : decode prog_1_method_41_code 8 = .ok (.if_icmp .gt 7, 3) := by decide +kernel
theorem d_P_isError_11 : decode prog_1_method_41_code 11 = .ok (.iconst 1, 1) := by decide +kernel
theorem d_P_isError_12 : decode prog_1_method_41_code 12 = .ok (.goto 4, 3) := by decide +kernel
theorem d_P_isError_15 : decode prog_1_method_41_code 15 = .ok (.iconst 0, 1) := by decide +kernel
theorem d_P_isError_16 : decode prog_1_method_41_code 16 = .ok (.ireturn, 1) := by decide +kernel
theorem d_P_set_0 : decode prog_1_method_2_code 0 = .ok (.aload_n 0, 1) := by decide +kernel
theorem d_P_set_1 : decode prog_1_method_2_code 1 = .ok (.getfield 29, 3) := by decide +kernel
theorem d_P_set_4 : decode prog_1_method_2_code 4 = .ok (.aload_n 0, 1) := by decide +kernel
theorem d_P_set_5 : decode prog_1_method_2_code 5 = .ok (.getfield 10, 3) := by decide +kernel
theorem d_P_set_8 : decode prog_1_method_2_code 8 = .ok (.invokevirtual 55, 3) := by decide +kernel
theorem d_P_set_11 : decode prog_1_method_2_code 11 = .ok (.aload_n 0, 1) := by decide +kernel
theorem d_P_set_12 : decode prog_1_method_2_code 12 = .ok (.getfield 29, 3) := by decide +kernel
theorem d_P_set_15 : decode prog_1_method_2_code 15 = .ok (.aload_n 0, 1) := by decide +kernel
theorem d_P_set_16 : decode prog_1_method_2_code 16 = .ok (.getfield 10, 3) := by decide +kernel
theorem d_P_set_19 : decode prog_1_method_2_code 19 = .ok (.iload_n 1, 1) := by decide +kernel
theorem d_P_set_20 : decode prog_1_method_2_code 20 = .ok (.iload_n 2, 1) := by decide +kernel
theorem d_P_set_21 : decode prog_1_method_2_code 21 = .ok (.invokevirtual 59, 3) := by decide +kernel
theorem d_P_set_24 : decode prog_1_method_2_code 24 = .ok (.invokevirtual 63, 3) := by decide +kernel
theorem d_P_set_27 : decode prog_1_method_2_code 27 = .ok (.ireturn, 1) := by decide +kernel
theorem d_P_member_0 : decode prog_1_method_3_code 0 = .ok (.aload_n 0, 1) := by decide +kernel
theorem d_P_member_1 : decode prog_1_method_3_code 1 = .ok (.getfield 29, 3) := by decide +kernel
theorem d_P_member_4 : decode prog_1_method_3_code 4 = .ok (.aload_n 0, 1) := by decide +kernel
theorem d_P_member_5 : decode prog_1_method_3_code 5 = .ok (.getfield 10, 3) := by decide +kernel
theorem d_P_member_8 : decode prog_1_method_3_code 8 = .ok (.invokevirtual 55, 3) := by decide +kernel
theorem d_P_member_11 : decode prog_1_method_3_code 11 = .ok (.aload_n 0, 1) := by decide +kernel
theorem d_P_member_12 : decode prog_1_method_3_code 12 = .ok (.getfield 29, 3) := by decide +kernel
theorem d_P_member_15 : decode prog_1_method_3_code 15 = .ok (.aload_n 0, 1) := by decide +kernel
theorem d_P_member_16 : decode prog_1_method_3_code 16 = .ok (.getfield 10, 3) := by decide +kernel
theorem d_P_member_19 : decode prog_1_method_3_code 19 = .ok (.iload_n 1, 1) := by decide +kernel
theorem d_P_member_20 : decode prog_1_method_3_code 20 = .ok (.iload_n 2, 1) := by decide +kernel
theorem d_P_member_21 : decode prog_1_method_3_code 21 = .ok (.invokevirtual 67, 3) := by decide +kernel
theorem d_P_member_24 : decode prog_1_method_3_code 24 = .ok (.invokevirtual 63, 3) := by decide +kernel
theorem d_P_member_27 : decode prog_1_method_3_code 27 = .ok (.ireturn, 1) := by decide +kernel
theorem d_P_item_0 : decode prog_1_method_4_code 0 = .ok (.aload_n 0, 1) := by decide +kernel
theorem d_P_item_1 : decode prog_1_method_4_code 1 = .ok (.getfield 29, 3) := by decide +kernel
theorem d_P_item_4 : decode prog_1_method_4_code 4 = .ok (.aload_n 0, 1) := by decide +kernel
theorem d_P_item_5 : decode prog_1_method_4_code 5 = .ok (.getfield 10, 3) := by decide +kernel
theorem d_P_item_8 : decode prog_1_method_4_code 8 = .ok (.invokevirtual 55, 3) := by decide +kernel
theorem d_P_item_11 : decode prog_1_method_4_code 11 = .ok (.aload_n 0, 1) := by decide +kernel
theorem d_P_item_12 : decode prog_1_method_4_code 12 = .ok (.getfield 29, 3) := by decide +kernel
theorem d_P_item_15 : decode prog_1_method_4_code 15 = .ok (.aload_n 0, 1) := by decide +kernel
theorem d_P_item_16 : decode prog_1_method_4_code 16 = .ok (.getfield 10, 3) := by decide +kernel
theorem d_P_item_19 : decode prog_1_method_4_code 19 = .ok (.iload_n 1, 1) := by decide +kernel
theorem d_P_item_20 : decode prog_1_method_4_code 20 = .ok (.iload_n 2, 1) := by decide +kernel
theorem d_P_item_21 : decode prog_1_method_4_code 21 = .ok (.invokevirtual 70, 3) := by decide +kernel
theorem d_P_item_24 : decode prog_1_method_4_code 24 = .ok (.invokevirtual 63, 3) := by decide +kernel
theorem d_P_item_27 : decode prog_1_method_4_code 27 = .ok (.ireturn, 1) := by decide +kernel
theorem d_P_chair_0 : decode prog_1_method_5_code 0 = .ok (.aload_n 0, 1) := by decide +kernel
theorem d_P_chair_1 : decode prog_1_method_5_code 1 = .ok (.getfield 29, 3) := by decide +kernel
theorem d_P_chair_4 : decode prog_1_method_5_code 4 = .ok (.aload_n 0, 1) := by decide +kernel
theorem d_P_chair_5 : decode prog_1_method_5_code 5 = .ok (.getfield 10, 3) := by decide +kernel
theorem d_P_chair_8 : decode prog_1_method_5_code 8 = .ok (.invokevirtual 55, 3) := by decide +kernel
theorem d_P_chair_11 : decode prog_1_method_5_code 11 = .ok (.aload_n 0, 1) := by decide +kernel
theorem d_P_chair_12 : decode prog_1_method_5_code 12 = .ok (.getfield 29, 3) := by decide +kernel
theorem d_P_chair_15 : decode prog_1_method_5_code 15 = .ok (.aload_n 0, 1) := by decide +kernel
theorem d_P_chair_16 : decode prog_1_method_5_code 16 = .ok (.getfield 10, 3) := by decide +kernel
theorem d_P_chair_19 : decode prog_1_method_5_code 19 = .ok (.iload_n 1, 1) := by decide +kernel
theorem d_P_chair_20 : decode prog_1_method_5_code 20 = .ok (.invokevirtual 73, 3) := by decide +kernel
theorem d_P_chair_23 : decode prog_1_method_5_code 23 = .ok (.invokevirtual 63, 3) := by decide +kernel
theorem d_P_chair_26 : decode prog_1_method_5_code 26 = .ok (.ireturn, 1) := by decide +kernel
theorem d_P_come_0 : decode prog_1_method_6_code 0 = .ok (.aload_n 0, 1) := by decide +kernel
theorem d_P_come_1 : decode prog_1_method_6_code 1 = .ok (.getfield 29, 3) := by decide +kernel
theorem d_P_come_4 : decode prog_1_method_6_code 4 = .ok (.aload_n 0, 1) := by decide +kernel
theorem d_P_come_5 : decode prog_1_method_6_code 5 = .ok (.getfield 10, 3) := by decide +kernel
theorem d_P_come_8 : decode prog_1_method_6_code 8 = .ok (.invokevirtual 55, 3) := by decide +kernel
theorem d_P_come_11 : decode prog_1_method_6_code 11 = .ok (.aload_n 0, 1) := by decide +kernel
theorem d_P_come_12 : decode prog_1_method_6_code 12 = .ok (.getfield 29, 3) := by decide +kernel
theorem d_P_come_15 : decode prog_1_method_6_code 15 = .ok (.aload_n 0, 1) := by decide +kernel
theorem d_P_come_16 : decode prog_1_method_6_code 16 = .ok (.getfield 10, 3) := by decide +kernel
theorem d_P_come_19 : decode prog_1_method_6_code 19 = .ok (.iload_n 1, 1) := by decide +kernel
theorem d_P_come_20 : decode prog_1_method_6_code 20 = .ok (.invokevirtual 76, 3) := by decide +kernel
theorem d_P_come_23 : decode prog_1_method_6_code 23 = .ok (.invokevirtual 63, 3) := by decide +kernel
theorem d_P_come_26 : decode prog_1_method_6_code 26 = .ok (.ireturn, 1) := by decide +kernel
theorem d_P_go_0 : decode prog_1_method_7_code 0 = .ok (.aload_n 0, 1) := by decide +kernel
theorem d_P_go_1 : decode prog_1_method_7_code 1 = .ok (.getfield 29, 3) := by decide +kernel
theorem d_P_go_4 : decode prog_1_method_7_code 4 = .ok (.aload_n 0, 1) := by decide +kernel
theorem d_P_go_5 : decode prog_1_method_7_code 5 = .ok (.getfield 10, 3) := by decide +kernel
theorem d_P_go_8 : decode prog_1_method_7_code 8 = .ok (.invokevirtual 55, 3) := by decide +kernel
theorem d_P_go_11 : decode prog_1_method_7_code 11 = .ok (.aload_n 0, 1) := by decide +kernel
theorem d_P_go_12 : decode prog_1_method_7_code 12 = .ok (.getfield 29, 3) := by decide +kernel
theorem d_P_go_15 : decode prog_1_method_7_code 15 = .ok (.aload_n 0, 1) := by decide +kernel
theorem d_P_go_16 : decode prog_1_method_7_code 16 = .ok (.getfield 10, 3) := by decide +kernel
theorem d_P_go_19 : decode prog_1_method_7_code 19 = .ok (.iload_n 1, 1) := by decide +kernel
theorem d_P_go_20 : decode prog_1_method_7_code 20 = .ok (.invokevirtual 79, 3) := by decide +kernel
theorem d_P_go_23 : decode prog_1_method_7_code 23 = .ok (.invokevirtual 63, 3) := by decide +kernel
theorem d_P_go_26 : decode prog_1_method_7_code 26 = .ok (.ireturn, 1) := by decide +kernel
theorem d_P_later_0 : decode prog_1_method_8_code 0 = .ok (.aload_n 0, 1) := by decide +kernel
theorem d_P_later_1 : decode prog_1_method_8_code 1 = .ok (.getfield 29, 3) := by decide +kernel
theorem d_P_later_4 : decode prog_1_method_8_code 4 = .ok (.aload_n 0, 1) := by decide +kernel
theorem d_P_later_5 : decode prog_1_method_8_code 5 = .ok (.getfield 10, 3) := by decide +kernel
theorem d_P_later_8 : decode prog_1_method_8_code 8 = .ok (.invokevirtual 55, 3) := by decide +kernel
theorem d_P_later_11 : decode prog_1_method_8_code 11 = .ok (.aload_n 0, 1) := by decide +kernel
theorem d_P_later_12 : decode prog_1_method_8_code 12 = .ok (.getfield 29, 3) := by decide +kernel
theorem d_P_later_15 : decode prog_1_method_8_code 15 = .ok (.aload_n 0, 1) := by decide +kernel
theorem d_P_later_16 : decode prog_1_method_8_code 16 = .ok (.getfield 10, 3) := by decide +kernel
theorem d_P_later_19 : decode prog_1_method_8_code 19 = .ok (.iload_n 1, 1) := by decide +kernel
theorem d_P_later_20 : decode prog_1_method_8_code 20 = .ok (.iload_n 2, 1) := by decide +kernel
theorem d_P_later_21 : decode prog_1_method_8_code 21 = .ok (.iload_n 3, 1) := by decide +kernel
theorem d_P_later_22 : decode prog_1_method_8_code 22 = .ok (.invokevirtual 82, 3) := by decide +kernel
theorem d_P_later_25 : decode prog_1_method_8_code 25 = .ok (.invokevirtual 63, 3) := by decide +kernel
theorem d_P_later_28 : decode prog_1_method_8_code 28 = .ok (.ireturn, 1) := by decide +kernel
theorem d_P_proxy_0 : decode prog_1_method_9_code 0 = .ok (.aload_n 0, 1) := by decide +kernel
theorem d_P_proxy_1 : decode prog_1_method_9_code 1 = .ok (.getfield 29, 3) := by decide +kernel
theorem d_P_proxy_4 : decode prog_1_method_9_code 4 = .ok (.aload_n 0, 1) := by decide +kernel
theorem d_P_proxy_5 : decode prog_1_method_9_code 5 = .ok (.getfield 10, 3) := by decide +kernel
theorem d_P_proxy_8 : decode prog_1_method_9_code 8 = .ok (.invokevirtual 55, 3) := by decide +kernel
theorem d_P_proxy_11 : decode prog_1_method_9_code 11 = .ok (.aload_n 0, 1) := by decide +kernel
theorem d_P_proxy_12 : decode prog_1_method_9_code 12 = .ok (.getfield 29, 3) := by decide +kernel
theorem d_P_proxy_15 : decode prog_1_method_9_code 15 = .ok (.aload_n 0, 1) := by decide +kernel
theorem d_P_proxy_16 : decode prog_1_method_9_code 16 = .ok (.getfield 10, 3) := by decide +kernel
theorem d_P_proxy_19 : decode prog_1_method_9_code 19 = .ok (.iload_n 1, 1) := by decide +kernel
theorem d_P_proxy_20 : decode prog_1_method_9_code 20 = .ok (.iload_n 2, 1) := by decide +kernel
theorem d_P_proxy_21 : decode prog_1_method_9_code 21 = .ok (.iload_n 3, 1) := by decide +kernel
theorem d_P_proxy_22 : decode prog_1_method_9_code 22 = .ok (.invokevirtual 86, 3) := by decide +kernel
theorem d_P_proxy_25 : decode prog_1_method_9_code 25 = .ok (.invokevirtual 63, 3) := by decide +kernel
theorem d_P_proxy_28 : decode prog_1_method_9_code 28 = .ok (.ireturn, 1) := by decide +kernel
theorem d_P_isChoice_0 : decode prog_1_method_42_code 0 = .ok (.iload_n 0, 1) := by decide +kernel
theorem d_P_isChoice_1 : decode prog_1_method_42_code 1 = .ok (.ifCond .lt 12, 3) := by decide +kernel
theorem d_P_isChoice_4 : decode prog_1_method_42_code 4 = .ok (.iload_n 0, 1) := by decide +kernel
theorem d_P_isChoice_5 : decode prog_1_method_42_code 5 = .ok (.iconst 2, 1) := by decide +kernel
theorem d_P_isChoice_6 : decode prog_1_method_42_code 6 = .ok (.if_icmp .gt 7, 3) := by decide +kernel
theorem d_P_isChoice_9 : decode prog_1_method_42_code 9 = .ok (.iconst 1, 1) := by decide +kernel
theorem d_P_isChoice_10 : decode prog_1_method_42_code 10 = .ok (.goto 4, 3) := by decide +kernel
theorem d_P_isChoice_13 : decode prog_1_method_42_code 13 = .ok (.iconst 0, 1) := by decide +kernel
theorem d_P_isChoice_14 : decode prog_1_method_42_code 14 = .ok (.ireturn, 1) := by decide +kernel
theorem d_P_tell_0 : decode prog_1_method_10_code 0 = .ok (.aload_n 0, 1) := by decide +kernel
theorem d_P_tell_1 : decode prog_1_method_10_code 1 = .ok (.getfield 29, 3) := by decide +kernel
theorem d_P_tell_4 : decode prog_1_method_10_code 4 = .ok (.aload_n 0, 1) := by decide +kernel
theorem d_P_tell_5 : decode prog_1_method_10_code 5 = .ok (.getfield 10, 3) := by decide +kernel
theorem d_P_tell_8 : decode prog_1_method_10_code 8 = .ok (.invokevirtual 55, 3) := by decide +kernel
theorem d_P_tell_11 : decode prog_1_method_10_code 11 = .ok (.aload_n 0, 1) := by decide +kernel
theorem d_P_tell_12 : decode prog_1_method_10_code 12 = .ok (.getfield 29, 3) := by decide +kernel
theorem d_P_tell_15 : decode prog_1_method_10_code 15 = .ok (.aload_n 0, 1) := by decide +kernel
theorem d_P_tell_16 : decode prog_1_method_10_code 16 = .ok (.getfield 10, 3) := by decide +kernel
theorem d_P_tell_19 : decode prog_1_method_10_code 19 = .ok (.iload_n 1, 1) := by decide +kernel
theorem d_P_tell_20 : decode prog_1_method_10_code 20 = .ok (.iload_n 2, 1) := by decide +kernel
theorem d_P_tell_21 : decode prog_1_method_10_code 21 = .ok (.iload_n 3, 1) := by decide +kernel
theorem d_P_tell_22 : decode prog_1_method_10_code 22 = .ok (.invokevirtual 89, 3) := by decide +kernel
theorem d_P_tell_25 : decode prog_1_method_10_code 25 = .ok (.invokevirtual 63, 3) := by decide +kernel
theorem d_P_tell_28 : decode prog_1_method_10_code 28 = .ok (.ireturn, 1) := by decide +kernel
theorem d_P_recuse_0 : decode prog_1_method_11_code 0 = .ok (.aload_n 0, 1) := by decide +kernel
theorem d_P_recuse_1 : decode prog_1_method_11_code 1 = .ok (.getfield 29, 3) := by decide +kernel
theorem d_P_recuse_4 : decode prog_1_method_11_code 4 = .ok (.aload_n 0, 1) := by decide +kernel
theorem d_P_recuse_5 : decode prog_1_method_11_code 5 = .ok (.getfield 10, 3) := by decide +kernel
theorem d_P_recuse_8 : decode prog_1_method_11_code 8 = .ok (.invokevirtual 55, 3) := by decide +kernel
theorem d_P_recuse_11 : decode prog_1_method_11_code 11 = .ok (.aload_n 0, 1) := by decide +kernel
theorem d_P_recuse_12 : decode prog_1_method_11_code 12 = .ok (.getfield 29, 3) := by decide +kernel
theorem d_P_recuse_15 : decode prog_1_method_11_code 15 = .ok (.aload_n 0, 1) := by decide +kernel
theorem d_P_recuse_16 : decode prog_1_method_11_code 16 = .ok (.getfield 10, 3) := by decide +kernel
theorem d_P_recuse_19 : decode prog_1_method_11_code 19 = .ok (.iload_n 1, 1) := by decide +kernel
theorem d_P_recuse_20 : decode prog_1_method_11_code 20 = .ok (.iload_n 2, 1) := by decide +kernel
theorem d_P_recuse_21 : decode prog_1_method_11_code 21 = .ok (.iload_n 3, 1) := by decide +kernel
theorem d_P_recuse_22 : decode prog_1_method_11_code 22 = .ok (.invokevirtual 92, 3) := by decide +kernel
theorem d_P_recuse_25 : decode prog_1_method_11_code 25 = .ok (.invokevirtual 63, 3) := by decide +kernel
theorem d_P_recuse_28 : decode prog_1_method_11_code 28 = .ok (.ireturn, 1) := by decide +kernel
theorem d_P_open_0 : decode prog_1_method_12_code 0 = .ok (.aload_n 0, 1) := by decide +kernel
theorem d_P_open_1 : decode prog_1_method_12_code 1 = .ok (.getfield 29, 3) := by decide +kernel
theorem d_P_open_4 : decode prog_1_method_12_code 4 = .ok (.aload_n 0, 1) := by decide +kernel
theorem d_P_open_5 : decode prog_1_method_12_code 5 = .ok (.getfield 10, 3) := by decide +kernel
theorem d_P_open_8 : decode prog_1_method_12_code 8 = .ok (.invokevirtual 55, 3) := by decide +kernel
theorem d_P_open_11 : decode prog_1_method_12_code 11 = .ok (.aload_n 0, 1) := by decide +kernel
theorem d_P_open_12 : decode prog_1_method_12_code 12 = .ok (.getfield 29, 3) := by decide +kernel
theorem d_P_open_15 : decode prog_1_method_12_code 15 = .ok (.aload_n 0, 1) := by decide +kernel
theorem d_P_open_16 : decode prog_1_method_12_code 16 = .ok (.getfield 10, 3) := by decide +kernel
theorem d_P_open_19 : decode prog_1_method_12_code 19 = .ok (.iload_n 1, 1) := by decide +kernel
theorem d_P_open_20 : decode prog_1_method_12_code 20 = .ok (.aload_n 0, 1) := by decide +kernel
theorem d_P_open_21 : decode prog_1_method_12_code 21 = .ok (.getfield 22, 3) := by decide +kernel
theorem d_P_open_24 : decode prog_1_method_12_code 24 = .ok (.invokevirtual 95, 3) := by decide +kernel
theorem d_P_open_27 : decode prog_1_method_12_code 27 = .ok (.invokevirtual 63, 3) := by decide +kernel
theorem d_P_open_30 : decode prog_1_method_12_code 30 = .ok (.ireturn, 1) := by decide +kernel
theorem d_P_vote_0 : decode prog_1_method_13_code 0 = .ok (.aload_n 0, 1) := by decide +kernel
theorem d_P_vote_1 : decode prog_1_method_13_code 1 = .ok (.getfield 29, 3) := by decide +kernel
theorem d_P_vote_4 : decode prog_1_method_13_code 4 = .ok (.aload_n 0, 1) := by decide +kernel
theorem d_P_vote_5 : decode prog_1_method_13_code 5 = .ok (.getfield 10, 3) := by decide +kernel
theorem d_P_vote_8 : decode prog_1_method_13_code 8 = .ok (.invokevirtual 55, 3) := by decide +kernel
theorem d_P_vote_11 : decode prog_1_method_13_code 11 = .ok (.aload_n 0, 1) := by decide +kernel
theorem d_P_vote_12 : decode prog_1_method_13_code 12 = .ok (.getfield 29, 3) := by decide +kernel
theorem d_P_vote_15 : decode prog_1_method_13_code 15 = .ok (.aload_n 0, 1) := by decide +kernel
theorem d_P_vote_16 : decode prog_1_method_13_code 16 = .ok (.getfield 10, 3) := by decide +kernel
theorem d_P_vote_19 : decode prog_1_method_13_code 19 = .ok (.iload_n 1, 1) := by decide +kernel
theorem d_P_vote_20 : decode prog_1_method_13_code 20 = .ok (.iload_n 2, 1) := by decide +kernel
theorem d_P_vote_21 : decode prog_1_method_13_code 21 = .ok (.invokevirtual 99, 3) := by decide +kernel
theorem d_P_vote_24 : decode prog_1_method_13_code 24 = .ok (.invokevirtual 63, 3) := by decide +kernel
theorem d_P_vote_27 : decode prog_1_method_13_code 27 = .ok (.ireturn, 1) := by decide +kernel
theorem d_P_close_0 : decode prog_1_method_14_code 0 = .ok (.aload_n 0, 1) := by decide +kernel
theorem d_P_close_1 : decode prog_1_method_14_code 1 = .ok (.getfield 29, 3) := by decide +kernel
theorem d_P_close_4 : decode prog_1_method_14_code 4 = .ok (.aload_n 0, 1) := by decide +kernel
theorem d_P_close_5 : decode prog_1_method_14_code 5 = .ok (.getfield 10, 3) := by decide +kernel
theorem d_P_close_8 : decode prog_1_method_14_code 8 = .ok (.invokevirtual 55, 3) := by decide +kernel
theorem d_P_close_11 : decode prog_1_method_14_code 11 = .ok (.aload_n 0, 1) := by decide +kernel
theorem d_P_close_12 : decode prog_1_method_14_code 12 = .ok (.getfield 29, 3) := by decide +kernel
theorem d_P_close_15 : decode prog_1_method_14_code 15 = .ok (.aload_n 0, 1) := by decide +kernel
theorem d_P_close_16 : decode prog_1_method_14_code 16 = .ok (.getfield 10, 3) := by decide +kernel
theorem d_P_close_19 : decode prog_1_method_14_code 19 = .ok (.aload_n 0, 1) := by decide +kernel
theorem d_P_close_20 : decode prog_1_method_14_code 20 = .ok (.getfield 22, 3) := by decide +kernel
theorem d_P_close_23 : decode prog_1_method_14_code 23 = .ok (.invokevirtual 102, 3) := by decide +kernel
theorem d_P_close_26 : decode prog_1_method_14_code 26 = .ok (.invokevirtual 63, 3) := by decide +kernel
theorem d_P_close_29 : decode prog_1_method_14_code 29 = .ok (.ireturn, 1) := by decide +kernel
theorem d_P_cast_0 : decode prog_1_method_15_code 0 = .ok (.aload_n 0, 1) := by decide +kernel
theorem d_P_cast_1 : decode prog_1_method_15_code 1 = .ok (.getfield 29, 3) := by decide +kernel
theorem d_P_cast_4 : decode prog_1_method_15_code 4 = .ok (.aload_n 0, 1) := by decide +kernel
theorem d_P_cast_5 : decode prog_1_method_15_code 5 = .ok (.getfield 10, 3) := by decide +kernel
theorem d_P_cast_8 : decode prog_1_method_15_code 8 = .ok (.invokevirtual 55, 3) := by decide +kernel
theorem d_P_cast_11 : decode prog_1_method_15_code 11 = .ok (.aload_n 0, 1) := by decide +kernel
theorem d_P_cast_12 : decode prog_1_method_15_code 12 = .ok (.getfield 29, 3) := by decide +kernel
theorem d_P_cast_15 : decode prog_1_method_15_code 15 = .ok (.aload_n 0, 1) := by decide +kernel
theorem d_P_cast_16 : decode prog_1_method_15_code 16 = .ok (.getfield 10, 3) := by decide +kernel
theorem d_P_cast_19 : decode prog_1_method_15_code 19 = .ok (.iload_n 1, 1) := by decide +kernel
theorem d_P_cast_20 : decode prog_1_method_15_code 20 = .ok (.invokevirtual 106, 3) := by decide +kernel
theorem d_P_cast_23 : decode prog_1_method_15_code 23 = .ok (.invokevirtual 63, 3) := by decide +kernel
theorem d_P_cast_26 : decode prog_1_method_15_code 26 = .ok (.ireturn, 1) := by decide +kernel
theorem d_P_pass_0 : decode prog_1_method_16_code 0 = .ok (.aload_n 0, 1) := by decide +kernel
theorem d_P_pass_1 : decode prog_1_method_16_code 1 = .ok (.getfield 29, 3) := by decide +kernel
theorem d_P_pass_4 : decode prog_1_method_16_code 4 = .ok (.aload_n 0, 1) := by decide +kernel
theorem d_P_pass_5 : decode prog_1_method_16_code 5 = .ok (.getfield 10, 3) := by decide +kernel
theorem d_P_pass_8 : decode prog_1_method_16_code 8 = .ok (.invokevirtual 55, 3) := by decide +kernel
theorem d_P_pass_11 : decode prog_1_method_16_code 11 = .ok (.aload_n 0, 1) := by decide +kernel
theorem d_P_pass_12 : decode prog_1_method_16_code 12 = .ok (.getfield 29, 3) := by decide +kernel
theorem d_P_pass_15 : decode prog_1_method_16_code 15 = .ok (.aload_n 0, 1) := by decide +kernel
theorem d_P_pass_16 : decode prog_1_method_16_code 16 = .ok (.getfield 10, 3) := by decide +kernel
theorem d_P_pass_19 : decode prog_1_method_16_code 19 = .ok (.iload_n 1, 1) := by decide +kernel
theorem d_P_pass_20 : decode prog_1_method_16_code 20 = .ok (.invokevirtual 109, 3) := by decide +kernel
theorem d_P_pass_23 : decode prog_1_method_16_code 23 = .ok (.invokevirtual 63, 3) := by decide +kernel
theorem d_P_pass_26 : decode prog_1_method_16_code 26 = .ok (.ireturn, 1) := by decide +kernel
theorem d_P_ofMember_0 : decode prog_1_method_17_code 0 = .ok (.aload_n 0, 1) := by decide +kernel
theorem d_P_ofMember_1 : decode prog_1_method_17_code 1 = .ok (.getfield 10, 3) := by decide +kernel
theorem d_P_ofMember_4 : decode prog_1_method_17_code 4 = .ok (.iload_n 1, 1) := by decide +kernel
theorem d_P_ofMember_5 : decode prog_1_method_17_code 5 = .ok (.invokevirtual 112, 3) := by decide +kernel
theorem d_P_ofMember_8 : decode prog_1_method_17_code 8 = .ok (.ifCond .ne 5, 3) := by decide +kernel
theorem d_P_ofMember_11 : decode prog_1_method_17_code 11 = .ok (.iconst (-1), 1) := by decide +kernel
theorem d_P_ofMember_12 : decode prog_1_method_17_code 12 = .ok (.ireturn, 1) := by decide +kernel
theorem d_P_ofMember_13 : decode prog_1_method_17_code 13 = .ok (.iload_n 2, 1) := by decide +kernel
theorem d_P_ofMember_14 : decode prog_1_method_17_code 14 = .ok (.tableswitch 103 0 5 #[38, 48, 58, 75, 85, 94], 38) := by decide +kernel
theorem d_P_ofMember_52 : decode prog_1_method_17_code 52 = .ok (.aload_n 0, 1) := by decide +kernel
theorem d_P_ofMember_53 : decode prog_1_method_17_code 53 = .ok (.getfield 10, 3) := by decide +kernel
theorem d_P_ofMember_56 : decode prog_1_method_17_code 56 = .ok (.getfield 116, 3) := by decide +kernel
theorem d_P_ofMember_59 : decode prog_1_method_17_code 59 = .ok (.iload_n 1, 1) := by decide +kernel
theorem d_P_ofMember_60 : decode prog_1_method_17_code 60 = .ok (.iaload, 1) := by decide +kernel
theorem d_P_ofMember_61 : decode prog_1_method_17_code 61 = .ok (.ireturn, 1) := by decide +kernel
theorem d_P_ofMember_62 : decode prog_1_method_17_code 62 = .ok (.aload_n 0, 1) := by decide +kernel
theorem d_P_ofMember_63 : decode prog_1_method_17_code 63 = .ok (.getfield 10, 3) := by decide +kernel
theorem d_P_ofMember_66 : decode prog_1_method_17_code 66 = .ok (.getfield 119, 3) := by decide +kernel
theorem d_P_ofMember_69 : decode prog_1_method_17_code 69 = .ok (.iload_n 1, 1) := by decide +kernel
theorem d_P_ofMember_70 : decode prog_1_method_17_code 70 = .ok (.iaload, 1) := by decide +kernel
theorem d_P_ofMember_71 : decode prog_1_method_17_code 71 = .ok (.ireturn, 1) := by decide +kernel
theorem d_P_ofMember_72 : decode prog_1_method_17_code 72 = .ok (.aload_n 0, 1) := by decide +kernel
theorem d_P_ofMember_73 : decode prog_1_method_17_code 73 = .ok (.getfield 10, 3) := by decide +kernel
theorem d_P_ofMember_76 : decode prog_1_method_17_code 76 = .ok (.iload_n 1, 1) := by decide +kernel
theorem d_P_ofMember_77 : decode prog_1_method_17_code 77 = .ok (.invokevirtual 122, 3) := by decide +kernel
theorem d_P_ofMember_80 : decode prog_1_method_17_code 80 = .ok (.ifCond .eq 7, 3) := by decide +kernel
theorem d_P_ofMember_83 : decode prog_1_method_17_code 83 = .ok (.iconst 1, 1) := by decide +kernel
theorem d_P_ofMember_84 : decode prog_1_method_17_code 84 = .ok (.goto 4, 3) := by decide +kernel
theorem d_P_ofMember_87 : decode prog_1_method_17_code 87 = .ok (.iconst 0, 1) := by decide +kernel
theorem d_P_ofMember_88 : decode prog_1_method_17_code 88 = .ok (.ireturn, 1) := by decide +kernel
theorem d_P_ofMember_89 : decode prog_1_method_17_code 89 = .ok (.aload_n 0, 1) := by decide +kernel
theorem d_P_ofMember_90 : decode prog_1_method_17_code 90 = .ok (.getfield 10, 3) := by decide +kernel
theorem d_P_ofMember_93 : decode prog_1_method_17_code 93 = .ok (.getfield 125, 3) := by decide +kernel
theorem d_P_ofMember_96 : decode prog_1_method_17_code 96 = .ok (.iload_n 1, 1) := by decide +kernel
theorem d_P_ofMember_97 : decode prog_1_method_17_code 97 = .ok (.iaload, 1) := by decide +kernel
theorem d_P_ofMember_98 : decode prog_1_method_17_code 98 = .ok (.ireturn, 1) := by decide +kernel
theorem d_P_ofMember_99 : decode prog_1_method_17_code 99 = .ok (.aload_n 0, 1) := by decide +kernel
theorem d_P_ofMember_100 : decode prog_1_method_17_code 100 = .ok (.getfield 10, 3) := by decide +kernel
theorem d_P_ofMember_103 : decode prog_1_method_17_code 103 = .ok (.iload_n 1, 1) := by decide +kernel
theorem d_P_ofMember_104 : decode prog_1_method_17_code 104 = .ok (.invokevirtual 128, 3) := by decide +kernel
theorem d_P_ofMember_107 : decode prog_1_method_17_code 107 = .ok (.ireturn, 1) := by decide +kernel
theorem d_P_ofMember_108 : decode prog_1_method_17_code 108 = .ok (.aload_n 0, 1) := by decide +kernel
theorem d_P_ofMember_109 : decode prog_1_method_17_code 109 = .ok (.getfield 10, 3) := by decide +kernel
theorem d_P_ofMember_112 : decode prog_1_method_17_code 112 = .ok (.iload_n 1, 1) := by decide +kernel
theorem d_P_ofMember_113 : decode prog_1_method_17_code 113 = .ok (.invokevirtual 131, 3) := by decide +kernel
theorem d_P_ofMember_116 : decode prog_1_method_17_code 116 = .ok (.ireturn, 1) := by decide +kernel
theorem d_P_ofMember_117 : decode prog_1_method_17_code 117 = .ok (.bipush (-2), 2) := by decide +kernel
theorem d_P_ofMember_119 : decode prog_1_method_17_code 119 = .ok (.ireturn, 1) := by decide +kernel
theorem d_P_sumOf_0 : decode prog_1_method_21_code 0 = .ok (.aload_n 1, 1) := by decide +kernel
theorem d_P_sumOf_1 : decode prog_1_method_21_code 1 = .ok (.invokevirtual 242, 3) := by decide +kernel
theorem d_P_sumOf_4 : decode prog_1_method_21_code 4 = .ok (.ifCond .ne 10, 3) := by decide +kernel
theorem d_P_sumOf_7 : decode prog_1_method_21_code 7 = .ok (.aload_n 1, 1) := by decide +kernel
theorem d_P_sumOf_8 : decode prog_1_method_21_code 8 = .ok (.getfield 246, 3) := by decide +kernel
theorem d_P_sumOf_11 : decode prog_1_method_21_code 11 = .ok (.iload_n 2, 1) := by decide +kernel
theorem d_P_sumOf_12 : decode prog_1_method_21_code 12 = .ok (.iaload, 1) := by decide +kernel
theorem d_P_sumOf_13 : decode prog_1_method_21_code 13 = .ok (.ireturn, 1) := by decide +kernel
theorem d_P_sumOf_14 : decode prog_1_method_21_code 14 = .ok (.aload_n 0, 1) := by decide +kernel
theorem d_P_sumOf_15 : decode prog_1_method_21_code 15 = .ok (.getfield 22, 3) := by decide +kernel
theorem d_P_sumOf_18 : decode prog_1_method_21_code 18 = .ok (.aload_n 0, 1) := by decide +kernel
theorem d_P_sumOf_19 : decode prog_1_method_21_code 19 = .ok (.getfield 10, 3) := by decide +kernel
theorem d_P_sumOf_22 : decode prog_1_method_21_code 22 = .ok (.aload_n 1, 1) := by decide +kernel
theorem d_P_sumOf_23 : decode prog_1_method_21_code 23 = .ok (.invokevirtual 159, 3) := by decide +kernel
theorem d_P_sumOf_26 : decode prog_1_method_21_code 26 = .ok (.aload_n 0, 1) := by decide +kernel
theorem d_P_sumOf_27 : decode prog_1_method_21_code 27 = .ok (.getfield 22, 3) := by decide +kernel
theorem d_P_sumOf_30 : decode prog_1_method_21_code 30 = .ok (.aload_n 0, 1) := by decide +kernel
theorem d_P_sumOf_31 : decode prog_1_method_21_code 31 = .ok (.getfield 10, 3) := by decide +kernel
theorem d_P_sumOf_34 : decode prog_1_method_21_code 34 = .ok (.aload_n 1, 1) := by decide +kernel
theorem d_P_sumOf_35 : decode prog_1_method_21_code 35 = .ok (.invokevirtual 249, 3) := by decide +kernel
theorem d_P_sumOf_38 : decode prog_1_method_21_code 38 = .ok (.aload_n 0, 1) := by decide +kernel
theorem d_P_sumOf_39 : decode prog_1_method_21_code 39 = .ok (.getfield 22, 3) := by decide +kernel
theorem d_P_sumOf_42 : decode prog_1_method_21_code 42 = .ok (.getfield 252, 3) := by decide +kernel
theorem d_P_sumOf_45 : decode prog_1_method_21_code 45 = .ok (.iload_n 2, 1) := by decide +kernel
theorem d_P_sumOf_46 : decode prog_1_method_21_code 46 = .ok (.iaload, 1) := by decide +kernel
theorem d_P_sumOf_47 : decode prog_1_method_21_code 47 = .ok (.ireturn, 1) := by decide +kernel
theorem d_P_ofItem_0 : decode prog_1_method_18_code 0 = .ok (.aload_n 0, 1) := by decide +kernel
theorem d_P_ofItem_1 : decode prog_1_method_18_code 1 = .ok (.getfield 10, 3) := by decide +kernel
theorem d_P_ofItem_4 : decode prog_1_method_18_code 4 = .ok (.iload_n 1, 1) := by decide +kernel
theorem d_P_ofItem_5 : decode prog_1_method_18_code 5 = .ok (.invokevirtual 134, 3) := by decide +kernel
theorem d_P_ofItem_8 : decode prog_1_method_18_code 8 = .ok (.ifCond .ne 5, 3) := by decide +kernel
theorem d_P_ofItem_11 : decode prog_1_method_18_code 11 = .ok (.iconst (-1), 1) := by decide +kernel
theorem d_P_ofItem_12 : decode prog_1_method_18_code 12 = .ok (.ireturn, 1) := by decide +kernel
theorem d_P_ofItem_13 : decode prog_1_method_18_code 13 = .ok (.aload_n 0, 1) := by decide +kernel
theorem d_P_ofItem_14 : decode prog_1_method_18_code 14 = .ok (.getfield 10, 3) := by decide +kernel
theorem d_P_ofItem_17 : decode prog_1_method_18_code 17 = .ok (.getfield 137, 3) := by decide +kernel
theorem d_P_ofItem_20 : decode prog_1_method_18_code 20 = .ok (.iload_n 1, 1) := by decide +kernel
theorem d_P_ofItem_21 : decode prog_1_method_18_code 21 = .ok (.aaload, 1) := by decide +kernel
theorem d_P_ofItem_22 : decode prog_1_method_18_code 22 = .ok (.astore_n 3, 1) := by decide +kernel
theorem d_P_ofItem_23 : decode prog_1_method_18_code 23 = .ok (.iload_n 2, 1) := by decide +kernel
theorem d_P_ofItem_24 : decode prog_1_method_18_code 24 = .ok (.tableswitch 128 0 11 #[64, 69, 74, 128, 128, 128, 128, 128, 128, 79, 84, 89], 64) := by decide +kernel
theorem d_P_ofItem_88 : decode prog_1_method_18_code 88 = .ok (.aload_n 3, 1) := by decide +kernel
theorem d_P_ofItem_89 : decode prog_1_method_18_code 89 = .ok (.getfield 141, 3) := by decide +kernel
theorem d_P_ofItem_92 : decode prog_1_method_18_code 92 = .ok (.ireturn, 1) := by decide +kernel
theorem d_P_ofItem_93 : decode prog_1_method_18_code 93 = .ok (.aload_n 3, 1) := by decide +kernel
theorem d_P_ofItem_94 : decode prog_1_method_18_code 94 = .ok (.getfield 147, 3) := by decide +kernel
theorem d_P_ofItem_97 : decode prog_1_method_18_code 97 = .ok (.ireturn, 1) := by decide +kernel
theorem d_P_ofItem_98 : decode prog_1_method_18_code 98 = .ok (.aload_n 3, 1) := by decide +kernel
theorem d_P_ofItem_99 : decode prog_1_method_18_code 99 = .ok (.getfield 150, 3) := by decide +kernel
theorem d_P_ofItem_102 : decode prog_1_method_18_code 102 = .ok (.ireturn, 1) := by decide +kernel
theorem d_P_ofItem_103 : decode prog_1_method_18_code 103 = .ok (.aload_n 3, 1) := by decide +kernel
theorem d_P_ofItem_104 : decode prog_1_method_18_code 104 = .ok (.getfield 153, 3) := by decide +kernel
theorem d_P_ofItem_107 : decode prog_1_method_18_code 107 = .ok (.ireturn, 1) := by decide +kernel
theorem d_P_ofItem_108 : decode prog_1_method_18_code 108 = .ok (.aload_n 3, 1) := by decide +kernel
theorem d_P_ofItem_109 : decode prog_1_method_18_code 109 = .ok (.getfield 156, 3) := by decide +kernel
theorem d_P_ofItem_112 : decode prog_1_method_18_code 112 = .ok (.ireturn, 1) := by decide +kernel
theorem d_P_ofItem_113 : decode prog_1_method_18_code 113 = .ok (.aload_n 0, 1) := by decide +kernel
theorem d_P_ofItem_114 : decode prog_1_method_18_code 114 = .ok (.getfield 22, 3) := by decide +kernel
theorem d_P_ofItem_117 : decode prog_1_method_18_code 117 = .ok (.aload_n 0, 1) := by decide +kernel
theorem d_P_ofItem_118 : decode prog_1_method_18_code 118 = .ok (.getfield 10, 3) := by decide +kernel
theorem d_P_ofItem_121 : decode prog_1_method_18_code 121 = .ok (.aload_n 3, 1) := by decide +kernel
theorem d_P_ofItem_122 : decode prog_1_method_18_code 122 = .ok (.invokevirtual 159, 3) := by decide +kernel
theorem d_P_ofItem_125 : decode prog_1_method_18_code 125 = .ok (.aload_n 0, 1) := by decide +kernel
theorem d_P_ofItem_126 : decode prog_1_method_18_code 126 = .ok (.getfield 10, 3) := by decide +kernel
theorem d_P_ofItem_129 : decode prog_1_method_18_code 129 = .ok (.aload_n 0, 1) := by decide +kernel
theorem d_P_ofItem_130 : decode prog_1_method_18_code 130 = .ok (.getfield 22, 3) := by decide +kernel
theorem d_P_ofItem_133 : decode prog_1_method_18_code 133 = .ok (.aload_n 0, 1) := by decide +kernel
theorem d_P_ofItem_134 : decode prog_1_method_18_code 134 = .ok (.getfield 10, 3) := by decide +kernel
theorem d_P_ofItem_137 : decode prog_1_method_18_code 137 = .ok (.invokevirtual 163, 3) := by decide +kernel
theorem d_P_ofItem_140 : decode prog_1_method_18_code 140 = .ok (.invokevirtual 167, 3) := by decide +kernel
theorem d_P_ofItem_143 : decode prog_1_method_18_code 143 = .ok (.ifCond .eq 7, 3) := by decide +kernel
theorem d_P_ofItem_146 : decode prog_1_method_18_code 146 = .ok (.iconst 1, 1) := by decide +kernel
theorem d_P_ofItem_147 : decode prog_1_method_18_code 147 = .ok (.goto 4, 3) := by decide +kernel
theorem d_P_ofItem_150 : decode prog_1_method_18_code 150 = .ok (.iconst 0, 1) := by decide +kernel
theorem d_P_ofItem_151 : decode prog_1_method_18_code 151 = .ok (.ireturn, 1) := by decide +kernel
theorem d_P_ofItem_152 : decode prog_1_method_18_code 152 = .ok (.iload_n 2, 1) := by decide +kernel
theorem d_P_ofItem_153 : decode prog_1_method_18_code 153 = .ok (.iconst 3, 1) := by decide +kernel
theorem d_P_ofItem_154 : decode prog_1_method_18_code 154 = .ok (.if_icmp .lt 20, 3) := by decide +kernel
theorem d_P_ofItem_157 : decode prog_1_method_18_code 157 = .ok (.iload_n 2, 1) := by decide +kernel
theorem d_P_ofItem_158 : decode prog_1_method_18_code 158 = .ok (.bipush 9, 2) := by decide +kernel
theorem d_P_ofItem_160 : decode prog_1_method_18_code 160 = .ok (.if_icmp .ge 14, 3) := by decide +kernel
theorem d_P_ofItem_163 : decode prog_1_method_18_code 163 = .ok (.aload_n 0, 1) := by decide +kernel
theorem d_P_ofItem_164 : decode prog_1_method_18_code 164 = .ok (.aload_n 3, 1) := by decide +kernel
theorem d_P_ofItem_165 : decode prog_1_method_18_code 165 = .ok (.iload_n 2, 1) := by decide +kernel
theorem d_P_ofItem_166 : decode prog_1_method_18_code 166 = .ok (.iconst 3, 1) := by decide +kernel
theorem d_P_ofItem_167 : decode prog_1_method_18_code 167 = .ok (.isub, 1) := by decide +kernel
theorem d_P_ofItem_168 : decode prog_1_method_18_code 168 = .ok (.invokevirtual 170, 3) := by decide +kernel
theorem d_P_ofItem_171 : decode prog_1_method_18_code 171 = .ok (.goto 5, 3) := by decide +kernel
theorem d_P_ofItem_174 : decode prog_1_method_18_code 174 = .ok (.bipush (-2), 2) := by decide +kernel
theorem d_P_ofItem_176 : decode prog_1_method_18_code 176 = .ok (.ireturn, 1) := by decide +kernel
theorem d_P_at_0 : decode prog_1_method_19_code 0 = .ok (.aload_n 0, 1) := by decide +kernel
theorem d_P_at_1 : decode prog_1_method_19_code 1 = .ok (.getfield 10, 3) := by decide +kernel
theorem d_P_at_4 : decode prog_1_method_19_code 4 = .ok (.iload_n 1, 1) := by decide +kernel
theorem d_P_at_5 : decode prog_1_method_19_code 5 = .ok (.invokevirtual 112, 3) := by decide +kernel
theorem d_P_at_8 : decode prog_1_method_19_code 8 = .ok (.ifCond .eq 14, 3) := by decide +kernel
theorem d_P_at_11 : decode prog_1_method_19_code 11 = .ok (.aload_n 0, 1) := by decide +kernel
theorem d_P_at_12 : decode prog_1_method_19_code 12 = .ok (.getfield 10, 3) := by decide +kernel
theorem d_P_at_15 : decode prog_1_method_19_code 15 = .ok (.iload_n 2, 1) := by decide +kernel
theorem d_P_at_16 : decode prog_1_method_19_code 16 = .ok (.invokevirtual 134, 3) := by decide +kernel
theorem d_P_at_19 : decode prog_1_method_19_code 19 = .ok (.ifCond .ne 5, 3) := by decide +kernel
theorem d_P_at_22 : decode prog_1_method_19_code 22 = .ok (.iconst (-1), 1) := by decide +kernel
theorem d_P_at_23 : decode prog_1_method_19_code 23 = .ok (.ireturn, 1) := by decide +kernel
theorem d_P_at_24 : decode prog_1_method_19_code 24 = .ok (.aload_n 0, 1) := by decide +kernel
theorem d_P_at_25 : decode prog_1_method_19_code 25 = .ok (.getfield 10, 3) := by decide +kernel
theorem d_P_at_28 : decode prog_1_method_19_code 28 = .ok (.getfield 137, 3) := by decide +kernel
theorem d_P_at_31 : decode prog_1_method_19_code 31 = .ok (.iload_n 2, 1) := by decide +kernel
theorem d_P_at_32 : decode prog_1_method_19_code 32 = .ok (.aaload, 1) := by decide +kernel
theorem d_P_at_33 : decode prog_1_method_19_code 33 = .ok (.astore 4, 2) := by decide +kernel
theorem d_P_at_35 : decode prog_1_method_19_code 35 = .ok (.aload_n 0, 1) := by decide +kernel
theorem d_P_at_36 : decode prog_1_method_19_code 36 = .ok (.getfield 22, 3) := by decide +kernel
theorem d_P_at_39 : decode prog_1_method_19_code 39 = .ok (.aload_n 0, 1) := by decide +kernel
theorem d_P_at_40 : decode prog_1_method_19_code 40 = .ok (.getfield 10, 3) := by decide +kernel
theorem d_P_at_43 : decode prog_1_method_19_code 43 = .ok (.aload 4, 2) := by decide +kernel
theorem d_P_at_45 : decode prog_1_method_19_code 45 = .ok (.invokevirtual 159, 3) := by decide +kernel
theorem d_P_at_48 : decode prog_1_method_19_code 48 = .ok (.iload_n 3, 1) := by decide +kernel
theorem d_P_at_49 : decode prog_1_method_19_code 49 = .ok (.tableswitch 124 0 6 #[43, 53, 61, 69, 84, 92, 111], 43) := by decide +kernel
theorem d_P_at_92 : decode prog_1_method_19_code 92 = .ok (.aload_n 0, 1) := by decide +kernel
theorem d_P_at_93 : decode prog_1_method_19_code 93 = .ok (.getfield 22, 3) := by decide +kernel
theorem d_P_at_96 : decode prog_1_method_19_code 96 = .ok (.getfield 174, 3) := by decide +kernel
theorem d_P_at_99 : decode prog_1_method_19_code 99 = .ok (.iload_n 1, 1) := by decide +kernel
theorem d_P_at_100 : decode prog_1_method_19_code 100 = .ok (.iaload, 1) := by decide +kernel
theorem d_P_at_101 : decode prog_1_method_19_code 101 = .ok (.ireturn, 1) := by decide +kernel
theorem d_P_at_102 : decode prog_1_method_19_code 102 = .ok (.aload 4, 2) := by decide +kernel
theorem d_P_at_104 : decode prog_1_method_19_code 104 = .ok (.getfield 177, 3) := by decide +kernel
theorem d_P_at_107 : decode prog_1_method_19_code 107 = .ok (.iload_n 1, 1) := by decide +kernel
theorem d_P_at_108 : decode prog_1_method_19_code 108 = .ok (.iaload, 1) := by decide +kernel
theorem d_P_at_109 : decode prog_1_method_19_code 109 = .ok (.ireturn, 1) := by decide +kernel
theorem d_P_at_110 : decode prog_1_method_19_code 110 = .ok (.aload 4, 2) := by decide +kernel
theorem d_P_at_112 : decode prog_1_method_19_code 112 = .ok (.getfield 180, 3) := by decide +kernel
theorem d_P_at_115 : decode prog_1_method_19_code 115 = .ok (.iload_n 1, 1) := by decide +kernel
theorem d_P_at_116 : decode prog_1_method_19_code 116 = .ok (.iaload, 1) := by decide +kernel
theorem d_P_at_117 : decode prog_1_method_19_code 117 = .ok (.ireturn, 1) := by decide +kernel
theorem d_P_at_118 : decode prog_1_method_19_code 118 = .ok (.aload_n 0, 1) := by decide +kernel
theorem d_P_at_119 : decode prog_1_method_19_code 119 = .ok (.getfield 22, 3) := by decide +kernel
theorem d_P_at_122 : decode prog_1_method_19_code 122 = .ok (.aload_n 0, 1) := by decide +kernel
theorem d_P_at_123 : decode prog_1_method_19_code 123 = .ok (.getfield 10, 3) := by decide +kernel
theorem d_P_at_126 : decode prog_1_method_19_code 126 = .ok (.aload 4, 2) := by decide +kernel
theorem d_P_at_128 : decode prog_1_method_19_code 128 = .ok (.iload_n 1, 1) := by decide +kernel
theorem d_P_at_129 : decode prog_1_method_19_code 129 = .ok (.invokevirtual 183, 3) := by decide +kernel
theorem d_P_at_132 : decode prog_1_method_19_code 132 = .ok (.ireturn, 1) := by decide +kernel
theorem d_P_at_133 : decode prog_1_method_19_code 133 = .ok (.aload 4, 2) := by decide +kernel
theorem d_P_at_135 : decode prog_1_method_19_code 135 = .ok (.getfield 187, 3) := by decide +kernel
theorem d_P_at_138 : decode prog_1_method_19_code 138 = .ok (.iload_n 1, 1) := by decide +kernel
theorem d_P_at_139 : decode prog_1_method_19_code 139 = .ok (.iaload, 1) := by decide +kernel
theorem d_P_at_140 : decode prog_1_method_19_code 140 = .ok (.ireturn, 1) := by decide +kernel
theorem d_P_at_141 : decode prog_1_method_19_code 141 = .ok (.aload_n 0, 1) := by decide +kernel
theorem d_P_at_142 : decode prog_1_method_19_code 142 = .ok (.getfield 10, 3) := by decide +kernel
theorem d_P_at_145 : decode prog_1_method_19_code 145 = .ok (.iload_n 1, 1) := by decide +kernel
theorem d_P_at_146 : decode prog_1_method_19_code 146 = .ok (.aload 4, 2) := by decide +kernel
theorem d_P_at_148 : decode prog_1_method_19_code 148 = .ok (.invokevirtual 188, 3) := by decide +kernel
theorem d_P_at_151 : decode prog_1_method_19_code 151 = .ok (.ifCond .eq 7, 3) := by decide +kernel
theorem d_P_at_154 : decode prog_1_method_19_code 154 = .ok (.iconst 1, 1) := by decide +kernel
theorem d_P_at_155 : decode prog_1_method_19_code 155 = .ok (.goto 4, 3) := by decide +kernel
theorem d_P_at_158 : decode prog_1_method_19_code 158 = .ok (.iconst 0, 1) := by decide +kernel
theorem d_P_at_159 : decode prog_1_method_19_code 159 = .ok (.ireturn, 1) := by decide +kernel
theorem d_P_at_160 : decode prog_1_method_19_code 160 = .ok (.aload_n 0, 1) := by decide +kernel
theorem d_P_at_161 : decode prog_1_method_19_code 161 = .ok (.getfield 22, 3) := by decide +kernel
theorem d_P_at_164 : decode prog_1_method_19_code 164 = .ok (.aload_n 0, 1) := by decide +kernel
theorem d_P_at_165 : decode prog_1_method_19_code 165 = .ok (.getfield 10, 3) := by decide +kernel
theorem d_P_at_168 : decode prog_1_method_19_code 168 = .ok (.iload_n 1, 1) := by decide +kernel
theorem d_P_at_169 : decode prog_1_method_19_code 169 = .ok (.invokevirtual 192, 3) := by decide +kernel
theorem d_P_at_172 : decode prog_1_method_19_code 172 = .ok (.ireturn, 1) := by decide +kernel
theorem d_P_at_173 : decode prog_1_method_19_code 173 = .ok (.bipush (-2), 2) := by decide +kernel
theorem d_P_at_175 : decode prog_1_method_19_code 175 = .ok (.ireturn, 1) := by decide +kernel
theorem d_P_count_0 : decode prog_1_method_20_code 0 = .ok (.iload_n 1, 1) := by decide +kernel
theorem d_P_count_1 : decode prog_1_method_20_code 1 = .ok (.bipush 8, 2) := by decide +kernel
theorem d_P_count_3 : decode prog_1_method_20_code 3 = .ok (.if_icmp .lt 21, 3) := by decide +kernel
theorem d_P_count_6 : decode prog_1_method_20_code 6 = .ok (.iload_n 1, 1) := by decide +kernel
theorem d_P_count_7 : decode prog_1_method_20_code 7 = .ok (.bipush 12, 2) := by decide +kernel
theorem d_P_count_9 : decode prog_1_method_20_code 9 = .ok (.if_icmp .gt 15, 3) := by decide +kernel
theorem d_P_count_12 : decode prog_1_method_20_code 12 = .ok (.aload_n 0, 1) := by decide +kernel
theorem d_P_count_13 : decode prog_1_method_20_code 13 = .ok (.getfield 10, 3) := by decide +kernel
theorem d_P_count_16 : decode prog_1_method_20_code 16 = .ok (.iload_n 1, 1) := by decide +kernel
theorem d_P_count_17 : decode prog_1_method_20_code 17 = .ok (.bipush 8, 2) := by decide +kernel
theorem d_P_count_19 : decode prog_1_method_20_code 19 = .ok (.isub, 1) := by decide +kernel
theorem d_P_count_20 : decode prog_1_method_20_code 20 = .ok (.invokevirtual 196, 3) := by decide +kernel
theorem d_P_count_23 : decode prog_1_method_20_code 23 = .ok (.ireturn, 1) := by decide +kernel
theorem d_P_count_24 : decode prog_1_method_20_code 24 = .ok (.iload_n 1, 1) := by decide +kernel
theorem d_P_count_25 : decode prog_1_method_20_code 25 = .ok (.bipush 16, 2) := by decide +kernel
theorem d_P_count_27 : decode prog_1_method_20_code 27 = .ok (.if_icmp .lt 22, 3) := by decide +kernel
theorem d_P_count_30 : decode prog_1_method_20_code 30 = .ok (.iload_n 1, 1) := by decide +kernel
theorem d_P_count_31 : decode prog_1_method_20_code 31 = .ok (.bipush 22, 2) := by decide +kernel
theorem d_P_count_33 : decode prog_1_method_20_code 33 = .ok (.if_icmp .ge 16, 3) := by decide +kernel
theorem d_P_count_36 : decode prog_1_method_20_code 36 = .ok (.aload_n 0, 1) := by decide +kernel
theorem d_P_count_37 : decode prog_1_method_20_code 37 = .ok (.getfield 10, 3) := by decide +kernel
theorem d_P_count_40 : decode prog_1_method_20_code 40 = .ok (.getfield 199, 3) := by decide +kernel
theorem d_P_count_43 : decode prog_1_method_20_code 43 = .ok (.iload_n 1, 1) := by decide +kernel
theorem d_P_count_44 : decode prog_1_method_20_code 44 = .ok (.bipush 16, 2) := by decide +kernel
theorem d_P_count_46 : decode prog_1_method_20_code 46 = .ok (.isub, 1) := by decide +kernel
theorem d_P_count_47 : decode prog_1_method_20_code 47 = .ok (.iaload, 1) := by decide +kernel
theorem d_P_count_48 : decode prog_1_method_20_code 48 = .ok (.ireturn, 1) := by decide +kernel
theorem d_P_count_49 : decode prog_1_method_20_code 49 = .ok (.iload_n 1, 1) := by decide +kernel
theorem d_P_count_50 : decode prog_1_method_20_code 50 = .ok (.tableswitch 170 0 15 #[78, 86, 94, 102, 110, 119, 127, 135, 170, 170, 170, 170, 170, 143, 154, 162], 78) := by decide +kernel
theorem d_P_count_128 : decode prog_1_method_20_code 128 = .ok (.aload_n 0, 1) := by decide +kernel
theorem d_P_count_129 : decode prog_1_method_20_code 129 = .ok (.getfield 10, 3) := by decide +kernel
theorem d_P_count_132 : decode prog_1_method_20_code 132 = .ok (.getfield 202, 3) := by decide +kernel
theorem d_P_count_135 : decode prog_1_method_20_code 135 = .ok (.ireturn, 1) := by decide +kernel
theorem d_P_count_136 : decode prog_1_method_20_code 136 = .ok (.aload_n 0, 1) := by decide +kernel
theorem d_P_count_137 : decode prog_1_method_20_code 137 = .ok (.getfield 10, 3) := by decide +kernel
theorem d_P_count_140 : decode prog_1_method_20_code 140 = .ok (.getfield 205, 3) := by decide +kernel
theorem d_P_count_143 : decode prog_1_method_20_code 143 = .ok (.ireturn, 1) := by decide +kernel
theorem d_P_count_144 : decode prog_1_method_20_code 144 = .ok (.aload_n 0, 1) := by decide +kernel
theorem d_P_count_145 : decode prog_1_method_20_code 145 = .ok (.getfield 10, 3) := by decide +kernel
theorem d_P_count_148 : decode prog_1_method_20_code 148 = .ok (.getfield 208, 3) := by decide +kernel
theorem d_P_count_151 : decode prog_1_method_20_code 151 = .ok (.ireturn, 1) := by decide +kernel
theorem d_P_count_152 : decode prog_1_method_20_code 152 = .ok (.aload_n 0, 1) := by decide +kernel
theorem d_P_count_153 : decode prog_1_method_20_code 153 = .ok (.getfield 10, 3) := by decide +kernel
theorem d_P_count_156 : decode prog_1_method_20_code 156 = .ok (.getfield 211, 3) := by decide +kernel
theorem d_P_count_159 : decode prog_1_method_20_code 159 = .ok (.ireturn, 1) := by decide +kernel
theorem d_P_count_160 : decode prog_1_method_20_code 160 = .ok (.aload_n 0, 1) := by decide +kernel
theorem d_P_count_161 : decode prog_1_method_20_code 161 = .ok (.getfield 10, 3) := by decide +kernel
theorem d_P_count_164 : decode prog_1_method_20_code 164 = .ok (.iconst 1, 1) := by decide +kernel
theorem d_P_count_165 : decode prog_1_method_20_code 165 = .ok (.invokevirtual 214, 3) := by decide +kernel
theorem d_P_count_168 : decode prog_1_method_20_code 168 = .ok (.ireturn, 1) := by decide +kernel
theorem d_P_count_169 : decode prog_1_method_20_code 169 = .ok (.aload_n 0, 1) := by decide +kernel
theorem d_P_count_170 : decode prog_1_method_20_code 170 = .ok (.getfield 10, 3) := by decide +kernel
theorem d_P_count_173 : decode prog_1_method_20_code 173 = .ok (.getfield 217, 3) := by decide +kernel
theorem d_P_count_176 : decode prog_1_method_20_code 176 = .ok (.ireturn, 1) := by decide +kernel
theorem d_P_count_177 : decode prog_1_method_20_code 177 = .ok (.aload_n 0, 1) := by decide +kernel
theorem d_P_count_178 : decode prog_1_method_20_code 178 = .ok (.getfield 10, 3) := by decide +kernel
theorem d_P_count_181 : decode prog_1_method_20_code 181 = .ok (.invokevirtual 220, 3) := by decide +kernel
theorem d_P_count_184 : decode prog_1_method_20_code 184 = .ok (.ireturn, 1) := by decide +kernel
theorem d_P_count_185 : decode prog_1_method_20_code 185 = .ok (.aload_n 0, 1) := by decide +kernel
theorem d_P_count_186 : decode prog_1_method_20_code 186 = .ok (.getfield 10, 3) := by decide +kernel
theorem d_P_count_189 : decode prog_1_method_20_code 189 = .ok (.invokevirtual 224, 3) := by decide +kernel
theorem d_P_count_192 : decode prog_1_method_20_code 192 = .ok (.ireturn, 1) := by decide +kernel
theorem d_P_count_193 : decode prog_1_method_20_code 193 = .ok (.aload_n 0, 1) := by decide +kernel
theorem d_P_count_194 : decode prog_1_method_20_code 194 = .ok (.getfield 10, 3) := by decide +kernel
theorem d_P_count_197 : decode prog_1_method_20_code 197 = .ok (.getfield 227, 3) := by decide +kernel
theorem d_P_count_200 : decode prog_1_method_20_code 200 = .ok (.getfield 231, 3) := by decide +kernel
theorem d_P_count_203 : decode prog_1_method_20_code 203 = .ok (.ireturn, 1) := by decide +kernel
theorem d_P_count_204 : decode prog_1_method_20_code 204 = .ok (.aload_n 0, 1) := by decide +kernel
theorem d_P_count_205 : decode prog_1_method_20_code 205 = .ok (.getfield 36, 3) := by decide +kernel
theorem d_P_count_208 : decode prog_1_method_20_code 208 = .ok (.getfield 236, 3) := by decide +kernel
theorem d_P_count_211 : decode prog_1_method_20_code 211 = .ok (.ireturn, 1) := by decide +kernel
theorem d_P_count_212 : decode prog_1_method_20_code 212 = .ok (.aload_n 0, 1) := by decide +kernel
theorem d_P_count_213 : decode prog_1_method_20_code 213 = .ok (.getfield 29, 3) := by decide +kernel
theorem d_P_count_216 : decode prog_1_method_20_code 216 = .ok (.getfield 239, 3) := by decide +kernel
theorem d_P_count_219 : decode prog_1_method_20_code 219 = .ok (.ireturn, 1) := by decide +kernel
theorem d_P_count_220 : decode prog_1_method_20_code 220 = .ok (.bipush (-2), 2) := by decide +kernel
theorem d_P_count_222 : decode prog_1_method_20_code 222 = .ok (.ireturn, 1) := by decide +kernel
theorem d_P_wouldBe_0 : decode prog_1_method_22_code 0 = .ok (.aload_n 0, 1) := by decide +kernel
theorem d_P_wouldBe_1 : decode prog_1_method_22_code 1 = .ok (.getfield 10, 3) := by decide +kernel
theorem d_P_wouldBe_4 : decode prog_1_method_22_code 4 = .ok (.iload_n 1, 1) := by decide +kernel
theorem d_P_wouldBe_5 : decode prog_1_method_22_code 5 = .ok (.invokevirtual 134, 3) := by decide +kernel
theorem d_P_wouldBe_8 : decode prog_1_method_22_code 8 = .ok (.ifCond .ne 5, 3) := by decide +kernel
theorem d_P_wouldBe_11 : decode prog_1_method_22_code 11 = .ok (.iconst (-1), 1) := by decide +kernel
theorem d_P_wouldBe_12 : decode prog_1_method_22_code 12 = .ok (.ireturn, 1) := by decide +kernel
theorem d_P_wouldBe_13 : decode prog_1_method_22_code 13 = .ok (.aload_n 0, 1) := by decide +kernel
theorem d_P_wouldBe_14 : decode prog_1_method_22_code 14 = .ok (.getfield 10, 3) := by decide +kernel
theorem d_P_wouldBe_17 : decode prog_1_method_22_code 17 = .ok (.getfield 137, 3) := by decide +kernel
theorem d_P_wouldBe_20 : decode prog_1_method_22_code 20 = .ok (.iload_n 1, 1) := by decide +kernel
theorem d_P_wouldBe_21 : decode prog_1_method_22_code 21 = .ok (.aaload, 1) := by decide +kernel
theorem d_P_wouldBe_22 : decode prog_1_method_22_code 22 = .ok (.astore_n 2, 1) := by decide +kernel
theorem d_P_wouldBe_23 : decode prog_1_method_22_code 23 = .ok (.aload_n 2, 1) := by decide +kernel
theorem d_P_wouldBe_24 : decode prog_1_method_22_code 24 = .ok (.invokevirtual 242, 3) := by decide +kernel
theorem d_P_wouldBe_27 : decode prog_1_method_22_code 27 = .ok (.ifCond .ne 6, 3) := by decide +kernel
theorem d_P_wouldBe_30 : decode prog_1_method_22_code 30 = .ok (.bipush (-5), 2) := by decide +kernel
theorem d_P_wouldBe_32 : decode prog_1_method_22_code 32 = .ok (.ireturn, 1) := by decide +kernel
theorem d_P_wouldBe_33 : decode prog_1_method_22_code 33 = .ok (.aload_n 0, 1) := by decide +kernel
theorem d_P_wouldBe_34 : decode prog_1_method_22_code 34 = .ok (.getfield 22, 3) := by decide +kernel
theorem d_P_wouldBe_37 : decode prog_1_method_22_code 37 = .ok (.aload_n 0, 1) := by decide +kernel
theorem d_P_wouldBe_38 : decode prog_1_method_22_code 38 = .ok (.getfield 10, 3) := by decide +kernel
theorem d_P_wouldBe_41 : decode prog_1_method_22_code 41 = .ok (.aload_n 2, 1) := by decide +kernel
theorem d_P_wouldBe_42 : decode prog_1_method_22_code 42 = .ok (.invokevirtual 159, 3) := by decide +kernel
theorem d_P_wouldBe_45 : decode prog_1_method_22_code 45 = .ok (.aload_n 0, 1) := by decide +kernel
theorem d_P_wouldBe_46 : decode prog_1_method_22_code 46 = .ok (.getfield 22, 3) := by decide +kernel
theorem d_P_wouldBe_49 : decode prog_1_method_22_code 49 = .ok (.aload_n 0, 1) := by decide +kernel
theorem d_P_wouldBe_50 : decode prog_1_method_22_code 50 = .ok (.getfield 10, 3) := by decide +kernel
theorem d_P_wouldBe_53 : decode prog_1_method_22_code 53 = .ok (.aload_n 2, 1) := by decide +kernel
theorem d_P_wouldBe_54 : decode prog_1_method_22_code 54 = .ok (.invokevirtual 249, 3) := by decide +kernel
theorem d_P_wouldBe_57 : decode prog_1_method_22_code 57 = .ok (.aload_n 0, 1) := by decide +kernel
theorem d_P_wouldBe_58 : decode prog_1_method_22_code 58 = .ok (.getfield 22, 3) := by decide +kernel
theorem d_P_wouldBe_61 : decode prog_1_method_22_code 61 = .ok (.aload_n 0, 1) := by decide +kernel
theorem d_P_wouldBe_62 : decode prog_1_method_22_code 62 = .ok (.getfield 10, 3) := by decide +kernel
theorem d_P_wouldBe_65 : decode prog_1_method_22_code 65 = .ok (.aload_n 2, 1) := by decide +kernel
theorem d_P_wouldBe_66 : decode prog_1_method_22_code 66 = .ok (.iconst 0, 1) := by decide +kernel
theorem d_P_wouldBe_67 : decode prog_1_method_22_code 67 = .ok (.invokevirtual 253, 3) := by decide +kernel
theorem d_P_wouldBe_70 : decode prog_1_method_22_code 70 = .ok (.ireturn, 1) := by decide +kernel
theorem d_P_canTurn_0 : decode prog_1_method_28_code 0 = .ok (.aload_n 2, 1) := by decide +kernel
theorem d_P_canTurn_1 : decode prog_1_method_28_code 1 = .ok (.getfield 177, 3) := by decide +kernel
theorem d_P_canTurn_4 : decode prog_1_method_28_code 4 = .ok (.iload_n 1, 1) := by decide +kernel
theorem d_P_canTurn_5 : decode prog_1_method_28_code 5 = .ok (.iaload, 1) := by decide +kernel
theorem d_P_canTurn_6 : decode prog_1_method_28_code 6 = .ok (.istore 4, 2) := by decide +kernel
theorem d_P_canTurn_8 : decode prog_1_method_28_code 8 = .ok (.iconst 0, 1) := by decide +kernel
theorem d_P_canTurn_9 : decode prog_1_method_28_code 9 = .ok (.istore 5, 2) := by decide +kernel
theorem d_P_canTurn_11 : decode prog_1_method_28_code 11 = .ok (.iconst 0, 1) := by decide +kernel
theorem d_P_canTurn_12 : decode prog_1_method_28_code 12 = .ok (.istore 6, 2) := by decide +kernel
theorem d_P_canTurn_14 : decode prog_1_method_28_code 14 = .ok (.iload 6, 2) := by decide +kernel
theorem d_P_canTurn_16 : decode prog_1_method_28_code 16 = .ok (.iconst 2, 1) := by decide +kernel
theorem d_P_canTurn_17 : decode prog_1_method_28_code 17 = .ok (.if_icmp .gt 56, 3) := by decide +kernel
theorem d_P_canTurn_20 : decode prog_1_method_28_code 20 = .ok (.aload_n 2, 1) := by decide +kernel
theorem d_P_canTurn_21 : decode prog_1_method_28_code 21 = .ok (.getfield 177, 3) := by decide +kernel
theorem d_P_canTurn_24 : decode prog_1_method_28_code 24 = .ok (.iload_n 1, 1) := by decide +kernel
theorem d_P_canTurn_25 : decode prog_1_method_28_code 25 = .ok (.iload 6, 2) := by decide +kernel
theorem d_P_canTurn_27 : decode prog_1_method_28_code 27 = .ok (.iastore, 1) := by decide +kernel
theorem d_P_canTurn_28 : decode prog_1_method_28_code 28 = .ok (.aload_n 0, 1) := by decide +kernel
theorem d_P_canTurn_29 : decode prog_1_method_28_code 29 = .ok (.getfield 22, 3) := by decide +kernel
theorem d_P_canTurn_32 : decode prog_1_method_28_code 32 = .ok (.aload_n 0, 1) := by decide +kernel
theorem d_P_canTurn_33 : decode prog_1_method_28_code 33 = .ok (.getfield 16, 3) := by decide +kernel
theorem d_P_canTurn_36 : decode prog_1_method_28_code 36 = .ok (.aload_n 2, 1) := by decide +kernel
theorem d_P_canTurn_37 : decode prog_1_method_28_code 37 = .ok (.invokevirtual 249, 3) := by decide +kernel
theorem d_P_canTurn_40 : decode prog_1_method_28_code 40 = .ok (.iload 5, 2) := by decide +kernel
theorem d_P_canTurn_42 : decode prog_1_method_28_code 42 = .ok (.aload_n 0, 1) := by decide +kernel
theorem d_P_canTurn_43 : decode prog_1_method_28_code 43 = .ok (.getfield 22, 3) := by decide +kernel
theorem d_P_canTurn_46 : decode prog_1_method_28_code 46 = .ok (.aload_n 0, 1) := by decide +kernel
theorem d_P_canTurn_47 : decode prog_1_method_28_code 47 = .ok (.getfield 16, 3) := by decide +kernel
theorem d_P_canTurn_50 : decode prog_1_method_28_code 50 = .ok (.aload_n 2, 1) := by decide +kernel
theorem d_P_canTurn_51 : decode prog_1_method_28_code 51 = .ok (.iconst 0, 1) := by decide +kernel
theorem d_P_canTurn_52 : decode prog_1_method_28_code 52 = .ok (.invokevirtual 253, 3) := by decide +kernel
theorem d_P_canTurn_55 : decode prog_1_method_28_code 55 = .ok (.iload_n 3, 1) := by decide +kernel
theorem d_P_canTurn_56 : decode prog_1_method_28_code 56 = .ok (.if_icmp .eq 7, 3) := by decide +kernel
theorem d_P_canTurn_59 : decode prog_1_method_28_code 59 = .ok (.iconst 1, 1) := by decide +kernel
theorem d_P_canTurn_60 : decode prog_1_method_28_code 60 = .ok (.goto 4, 3) := by decide +kernel
theorem d_P_canTurn_63 : decode prog_1_method_28_code 63 = .ok (.iconst 0, 1) := by decide +kernel
theorem d_P_canTurn_64 : decode prog_1_method_28_code 64 = .ok (.ior, 1) := by decide +kernel
theorem d_P_canTurn_65 : decode prog_1_method_28_code 65 = .ok (.istore 5, 2) := by decide +kernel
theorem d_P_canTurn_67 : decode prog_1_method_28_code 67 = .ok (.iinc 6 1, 3) := by decide +kernel
theorem d_P_canTurn_70 : decode prog_1_method_28_code 70 = .ok (.goto (-56), 3) := by decide +kernel
theorem d_P_canTurn_73 : decode prog_1_method_28_code 73 = .ok (.aload_n 2, 1) := by decide +kernel
theorem d_P_canTurn_74 : decode prog_1_method_28_code 74 = .ok (.getfield 177, 3) := by decide +kernel
theorem d_P_canTurn_77 : decode prog_1_method_28_code 77 = .ok (.iload_n 1, 1) := by decide +kernel
theorem d_P_canTurn_78 : decode prog_1_method_28_code 78 = .ok (.iload 4, 2) := by decide +kernel
theorem d_P_canTurn_80 : decode prog_1_method_28_code 80 = .ok (.iastore, 1) := by decide +kernel
theorem d_P_canTurn_81 : decode prog_1_method_28_code 81 = .ok (.iload 5, 2) := by decide +kernel
theorem d_P_canTurn_83 : decode prog_1_method_28_code 83 = .ok (.ireturn, 1) := by decide +kernel
theorem d_P_decisive_0 : decode prog_1_method_23_code 0 = .ok (.aload_n 0, 1) := by decide +kernel
theorem d_P_decisive_1 : decode prog_1_method_23_code 1 = .ok (.getfield 10, 3) := by decide +kernel
theorem d_P_decisive_4 : decode prog_1_method_23_code 4 = .ok (.iload_n 1, 1) := by decide +kernel
theorem d_P_decisive_5 : decode prog_1_method_23_code 5 = .ok (.invokevirtual 134, 3) := by decide +kernel
theorem d_P_decisive_8 : decode prog_1_method_23_code 8 = .ok (.ifCond .ne 5, 3) := by decide +kernel
theorem d_P_decisive_11 : decode prog_1_method_23_code 11 = .ok (.iconst (-1), 1) := by decide +kernel
theorem d_P_decisive_12 : decode prog_1_method_23_code 12 = .ok (.ireturn, 1) := by decide +kernel
theorem d_P_decisive_13 : decode prog_1_method_23_code 13 = .ok (.aload_n 0, 1) := by decide +kernel
theorem d_P_decisive_14 : decode prog_1_method_23_code 14 = .ok (.getfield 10, 3) := by decide +kernel
theorem d_P_decisive_17 : decode prog_1_method_23_code 17 = .ok (.getfield 137, 3) := by decide +kernel
theorem d_P_decisive_20 : decode prog_1_method_23_code 20 = .ok (.iload_n 1, 1) := by decide +kernel
theorem d_P_decisive_21 : decode prog_1_method_23_code 21 = .ok (.aaload, 1) := by decide +kernel
theorem d_P_decisive_22 : decode prog_1_method_23_code 22 = .ok (.invokevirtual 242, 3) := by decide +kernel
theorem d_P_decisive_25 : decode prog_1_method_23_code 25 = .ok (.ifCond .ne 6, 3) := by decide +kernel
theorem d_P_decisive_28 : decode prog_1_method_23_code 28 = .ok (.bipush (-5), 2) := by decide +kernel
theorem d_P_decisive_30 : decode prog_1_method_23_code 30 = .ok (.ireturn, 1) := by decide +kernel
theorem d_P_decisive_31 : decode prog_1_method_23_code 31 = .ok (.aload_n 0, 1) := by decide +kernel
theorem d_P_decisive_32 : decode prog_1_method_23_code 32 = .ok (.getfield 16, 3) := by decide +kernel
theorem d_P_decisive_35 : decode prog_1_method_23_code 35 = .ok (.aload_n 0, 1) := by decide +kernel
theorem d_P_decisive_36 : decode prog_1_method_23_code 36 = .ok (.getfield 10, 3) := by decide +kernel
theorem d_P_decisive_39 : decode prog_1_method_23_code 39 = .ok (.invokevirtual 256, 3) := by decide +kernel
theorem d_P_decisive_42 : decode prog_1_method_23_code 42 = .ok (.aload_n 0, 1) := by decide +kernel
theorem d_P_decisive_43 : decode prog_1_method_23_code 43 = .ok (.getfield 16, 3) := by decide +kernel
theorem d_P_decisive_46 : decode prog_1_method_23_code 46 = .ok (.getfield 137, 3) := by decide +kernel
theorem d_P_decisive_49 : decode prog_1_method_23_code 49 = .ok (.iload_n 1, 1) := by decide +kernel
theorem d_P_decisive_50 : decode prog_1_method_23_code 50 = .ok (.aaload, 1) := by decide +kernel
theorem d_P_decisive_51 : decode prog_1_method_23_code 51 = .ok (.astore_n 2, 1) := by decide +kernel
theorem d_P_decisive_52 : decode prog_1_method_23_code 52 = .ok (.aload_n 0, 1) := by decide +kernel
theorem d_P_decisive_53 : decode prog_1_method_23_code 53 = .ok (.getfield 22, 3) := by decide +kernel
theorem d_P_decisive_56 : decode prog_1_method_23_code 56 = .ok (.aload_n 0, 1) := by decide +kernel
theorem d_P_decisive_57 : decode prog_1_method_23_code 57 = .ok (.getfield 16, 3) := by decide +kernel
theorem d_P_decisive_60 : decode prog_1_method_23_code 60 = .ok (.aload_n 2, 1) := by decide +kernel
theorem d_P_decisive_61 : decode prog_1_method_23_code 61 = .ok (.invokevirtual 159, 3) := by decide +kernel
theorem d_P_decisive_64 : decode prog_1_method_23_code 64 = .ok (.aload_n 0, 1) := by decide +kernel
theorem d_P_decisive_65 : decode prog_1_method_23_code 65 = .ok (.getfield 22, 3) := by decide +kernel
theorem d_P_decisive_68 : decode prog_1_method_23_code 68 = .ok (.aload_n 0, 1) := by decide +kernel
theorem d_P_decisive_69 : decode prog_1_method_23_code 69 = .ok (.getfield 16, 3) := by decide +kernel
theorem d_P_decisive_72 : decode prog_1_method_23_code 72 = .ok (.aload_n 2, 1) := by decide +kernel
theorem d_P_decisive_73 : decode prog_1_method_23_code 73 = .ok (.invokevirtual 249, 3) := by decide +kernel
theorem d_P_decisive_76 : decode prog_1_method_23_code 76 = .ok (.aload_n 0, 1) := by decide +kernel
theorem d_P_decisive_77 : decode prog_1_method_23_code 77 = .ok (.getfield 22, 3) := by decide +kernel
theorem d_P_decisive_80 : decode prog_1_method_23_code 80 = .ok (.aload_n 0, 1) := by decide +kernel
theorem d_P_decisive_81 : decode prog_1_method_23_code 81 = .ok (.getfield 16, 3) := by decide +kernel
theorem d_P_decisive_84 : decode prog_1_method_23_code 84 = .ok (.aload_n 2, 1) := by decide +kernel
theorem d_P_decisive_85 : decode prog_1_method_23_code 85 = .ok (.iconst 0, 1) := by decide +kernel
theorem d_P_decisive_86 : decode prog_1_method_23_code 86 = .ok (.invokevirtual 253, 3) := by decide +kernel
theorem d_P_decisive_89 : decode prog_1_method_23_code 89 = .ok (.istore_n 3, 1) := by decide +kernel
theorem d_P_decisive_90 : decode prog_1_method_23_code 90 = .ok (.iconst 0, 1) := by decide +kernel
theorem d_P_decisive_91 : decode prog_1_method_23_code 91 = .ok (.istore 4, 2) := by decide +kernel
theorem d_P_decisive_93 : decode prog_1_method_23_code 93 = .ok (.iconst 0, 1) := by decide +kernel
theorem d_P_decisive_94 : decode prog_1_method_23_code 94 = .ok (.istore 5, 2) := by decide +kernel
theorem d_P_decisive_96 : decode prog_1_method_23_code 96 = .ok (.iload 5, 2) := by decide +kernel
theorem d_P_decisive_98 : decode prog_1_method_23_code 98 = .ok (.aload_n 0, 1) := by decide +kernel
theorem d_P_decisive_99 : decode prog_1_method_23_code 99 = .ok (.getfield 16, 3) := by decide +kernel
theorem d_P_decisive_102 : decode prog_1_method_23_code 102 = .ok (.getfield 205, 3) := by decide +kernel
theorem d_P_decisive_105 : decode prog_1_method_23_code 105 = .ok (.if_icmp .ge 42, 3) := by decide +kernel
theorem d_P_decisive_108 : decode prog_1_method_23_code 108 = .ok (.aload_n 0, 1) := by decide +kernel
theorem d_P_decisive_109 : decode prog_1_method_23_code 109 = .ok (.getfield 16, 3) := by decide +kernel
theorem d_P_decisive_112 : decode prog_1_method_23_code 112 = .ok (.iload 5, 2) := by decide +kernel
theorem d_P_decisive_114 : decode prog_1_method_23_code 114 = .ok (.aload_n 2, 1) := by decide +kernel
theorem d_P_decisive_115 : decode prog_1_method_23_code 115 = .ok (.invokevirtual 259, 3) := by decide +kernel
theorem d_P_decisive_118 : decode prog_1_method_23_code 118 = .ok (.ifCond .eq 23, 3) := by decide +kernel
theorem d_P_decisive_121 : decode prog_1_method_23_code 121 = .ok (.aload_n 0, 1) := by decide +kernel
theorem d_P_decisive_122 : decode prog_1_method_23_code 122 = .ok (.iload 5, 2) := by decide +kernel
theorem d_P_decisive_124 : decode prog_1_method_23_code 124 = .ok (.aload_n 2, 1) := by decide +kernel
theorem d_P_decisive_125 : decode prog_1_method_23_code 125 = .ok (.iload_n 3, 1) := by decide +kernel
theorem d_P_decisive_126 : decode prog_1_method_23_code 126 = .ok (.invokevirtual 262, 3) := by decide +kernel
theorem d_P_decisive_129 : decode prog_1_method_23_code 129 = .ok (.ifCond .eq 12, 3) := by decide +kernel
theorem d_P_decisive_132 : decode prog_1_method_23_code 132 = .ok (.iload 4, 2) := by decide +kernel
theorem d_P_decisive_134 : decode prog_1_method_23_code 134 = .ok (.iconst 1, 1) := by decide +kernel
theorem d_P_decisive_135 : decode prog_1_method_23_code 135 = .ok (.iload 5, 2) := by decide +kernel
theorem d_P_decisive_137 : decode prog_1_method_23_code 137 = .ok (.ishl, 1) := by decide +kernel
theorem d_P_decisive_138 : decode prog_1_method_23_code 138 = .ok (.ior, 1) := by decide +kernel
theorem d_P_decisive_139 : decode prog_1_method_23_code 139 = .ok (.istore 4, 2) := by decide +kernel
theorem d_P_decisive_141 : decode prog_1_method_23_code 141 = .ok (.iinc 5 1, 3) := by decide +kernel
theorem d_P_decisive_144 : decode prog_1_method_23_code 144 = .ok (.goto (-48), 3) := by decide +kernel
theorem d_P_decisive_147 : decode prog_1_method_23_code 147 = .ok (.iload 4, 2) := by decide +kernel
theorem d_P_decisive_149 : decode prog_1_method_23_code 149 = .ok (.ireturn, 1) := by decide +kernel
theorem d_P_findGains_0 : decode prog_1_method_29_code 0 = .ok (.aload_n 0, 1) := by decide +kernel
theorem d_P_findGains_1 : decode prog_1_method_29_code 1 = .ok (.getfield 22, 3) := by decide +kernel
theorem d_P_findGains_4 : decode prog_1_method_29_code 4 = .ok (.aload_n 0, 1) := by decide +kernel
theorem d_P_findGains_5 : decode prog_1_method_29_code 5 = .ok (.getfield 16, 3) := by decide +kernel
theorem d_P_findGains_8 : decode prog_1_method_29_code 8 = .ok (.aload_n 1, 1) := by decide +kernel
theorem d_P_findGains_9 : decode prog_1_method_29_code 9 = .ok (.invokevirtual 159, 3) := by decide +kernel
theorem d_P_findGains_12 : decode prog_1_method_29_code 12 = .ok (.aload_n 0, 1) := by decide +kernel
theorem d_P_findGains_13 : decode prog_1_method_29_code 13 = .ok (.getfield 22, 3) := by decide +kernel
theorem d_P_findGains_16 : decode prog_1_method_29_code 16 = .ok (.aload_n 0, 1) := by decide +kernel
theorem d_P_findGains_17 : decode prog_1_method_29_code 17 = .ok (.getfield 16, 3) := by decide +kernel
theorem d_P_findGains_20 : decode prog_1_method_29_code 20 = .ok (.aload_n 1, 1) := by decide +kernel
theorem d_P_findGains_21 : decode prog_1_method_29_code 21 = .ok (.invokevirtual 249, 3) := by decide +kernel
theorem d_P_findGains_24 : decode prog_1_method_29_code 24 = .ok (.aload_n 0, 1) := by decide +kernel
theorem d_P_findGains_25 : decode prog_1_method_29_code 25 = .ok (.getfield 22, 3) := by decide +kernel
theorem d_P_findGains_28 : decode prog_1_method_29_code 28 = .ok (.getfield 252, 3) := by decide +kernel
theorem d_P_findGains_31 : decode prog_1_method_29_code 31 = .ok (.iconst 1, 1) := by decide +kernel
theorem d_P_findGains_32 : decode prog_1_method_29_code 32 = .ok (.iaload, 1) := by decide +kernel
theorem d_P_findGains_33 : decode prog_1_method_29_code 33 = .ok (.istore_n 2, 1) := by decide +kernel
theorem d_P_findGains_34 : decode prog_1_method_29_code 34 = .ok (.iconst 0, 1) := by decide +kernel
theorem d_P_findGains_35 : decode prog_1_method_29_code 35 = .ok (.istore_n 3, 1) := by decide +kernel
theorem d_P_findGains_36 : decode prog_1_method_29_code 36 = .ok (.iconst 0, 1) := by decide +kernel
theorem d_P_findGains_37 : decode prog_1_method_29_code 37 = .ok (.istore 4, 2) := by decide +kernel
theorem d_P_findGains_39 : decode prog_1_method_29_code 39 = .ok (.iload 4, 2) := by decide +kernel
theorem d_P_findGains_41 : decode prog_1_method_29_code 41 = .ok (.aload_n 0, 1) := by decide +kernel
theorem d_P_findGains_42 : decode prog_1_method_29_code 42 = .ok (.getfield 16, 3) := by decide +kernel
theorem d_P_findGains_45 : decode prog_1_method_29_code 45 = .ok (.getfield 205, 3) := by decide +kernel
theorem d_P_findGains_48 : decode prog_1_method_29_code 48 = .ok (.if_icmp .ge 88, 3) := by decide +kernel
theorem d_P_findGains_51 : decode prog_1_method_29_code 51 = .ok (.aload_n 0, 1) := by decide +kernel
theorem d_P_findGains_52 : decode prog_1_method_29_code 52 = .ok (.getfield 16, 3) := by decide +kernel
theorem d_P_findGains_55 : decode prog_1_method_29_code 55 = .ok (.iload 4, 2) := by decide +kernel
theorem d_P_findGains_57 : decode prog_1_method_29_code 57 = .ok (.aload_n 1, 1) := by decide +kernel
theorem d_P_findGains_58 : decode prog_1_method_29_code 58 = .ok (.invokevirtual 259, 3) := by decide +kernel
theorem d_P_findGains_61 : decode prog_1_method_29_code 61 = .ok (.ifCond .eq 69, 3) := by decide +kernel
theorem d_P_findGains_64 : decode prog_1_method_29_code 64 = .ok (.aload_n 1, 1) := by decide +kernel
theorem d_P_findGains_65 : decode prog_1_method_29_code 65 = .ok (.getfield 177, 3) := by decide +kernel
theorem d_P_findGains_68 : decode prog_1_method_29_code 68 = .ok (.iload 4, 2) := by decide +kernel
theorem d_P_findGains_70 : decode prog_1_method_29_code 70 = .ok (.iaload, 1) := by decide +kernel
theorem d_P_findGains_71 : decode prog_1_method_29_code 71 = .ok (.bipush (-6), 2) := by decide +kernel
theorem d_P_findGains_73 : decode prog_1_method_29_code 73 = .ok (.if_icmp .ne 57, 3) := by decide +kernel
theorem d_P_findGains_76 : decode prog_1_method_29_code 76 = .ok (.iload_n 3, 1) := by decide +kernel
theorem d_P_findGains_77 : decode prog_1_method_29_code 77 = .ok (.iconst 1, 1) := by decide +kernel
theorem d_P_findGains_78 : decode prog_1_method_29_code 78 = .ok (.iload 4, 2) := by decide +kernel
theorem d_P_findGains_80 : decode prog_1_method_29_code 80 = .ok (.ishl, 1) := by decide +kernel
theorem d_P_findGains_81 : decode prog_1_method_29_code 81 = .ok (.ior, 1) := by decide +kernel
theorem d_P_findGains_82 : decode prog_1_method_29_code 82 = .ok (.istore_n 3, 1) := by decide +kernel
theorem d_P_findGains_83 : decode prog_1_method_29_code 83 = .ok (.aload_n 1, 1) := by decide +kernel
theorem d_P_findGains_84 : decode prog_1_method_29_code 84 = .ok (.getfield 177, 3) := by decide +kernel
theorem d_P_findGains_87 : decode prog_1_method_29_code 87 = .ok (.iload 4, 2) := by decide +kernel
theorem d_P_findGains_89 : decode prog_1_method_29_code 89 = .ok (.iconst 1, 1) := by decide +kernel
theorem d_P_findGains_90 : decode prog_1_method_29_code 90 = .ok (.iastore, 1) := by decide +kernel
theorem d_P_findGains_91 : decode prog_1_method_29_code 91 = .ok (.aload_n 0, 1) := by decide +kernel
theorem d_P_findGains_92 : decode prog_1_method_29_code 92 = .ok (.getfield 22, 3) := by decide +kernel
theorem d_P_findGains_95 : decode prog_1_method_29_code 95 = .ok (.aload_n 0, 1) := by decide +kernel
theorem d_P_findGains_96 : decode prog_1_method_29_code 96 = .ok (.getfield 16, 3) := by decide +kernel
theorem d_P_findGains_99 : decode prog_1_method_29_code 99 = .ok (.aload_n 1, 1) := by decide +kernel
theorem d_P_findGains_100 : decode prog_1_method_29_code 100 = .ok (.invokevirtual 249, 3) := by decide +kernel
theorem d_P_findGains_103 : decode prog_1_method_29_code 103 = .ok (.aload_n 0, 1) := by decide +kernel
theorem d_P_findGains_104 : decode prog_1_method_29_code 104 = .ok (.getfield 48, 3) := by decide +kernel
theorem d_P_findGains_107 : decode prog_1_method_29_code 107 = .ok (.iload 4, 2) := by decide +kernel
theorem d_P_findGains_109 : decode prog_1_method_29_code 109 = .ok (.aload_n 0, 1) := by decide +kernel
theorem d_P_findGains_110 : decode prog_1_method_29_code 110 = .ok (.getfield 22, 3) := by decide +kernel
theorem d_P_findGains_113 : decode prog_1_method_29_code 113 = .ok (.getfield 252, 3) := by decide +kernel
theorem d_P_findGains_116 : decode prog_1_method_29_code 116 = .ok (.iconst 1, 1) := by decide +kernel
theorem d_P_findGains_117 : decode prog_1_method_29_code 117 = .ok (.iaload, 1) := by decide +kernel
theorem d_P_findGains_118 : decode prog_1_method_29_code 118 = .ok (.iload_n 2, 1) := by decide +kernel
theorem d_P_findGains_119 : decode prog_1_method_29_code 119 = .ok (.isub, 1) := by decide +kernel
theorem d_P_findGains_120 : decode prog_1_method_29_code 120 = .ok (.iastore, 1) := by decide +kernel
theorem d_P_findGains_121 : decode prog_1_method_29_code 121 = .ok (.aload_n 1, 1) := by decide +kernel
theorem d_P_findGains_122 : decode prog_1_method_29_code 122 = .ok (.getfield 177, 3) := by decide +kernel
theorem d_P_findGains_125 : decode prog_1_method_29_code 125 = .ok (.iload 4, 2) := by decide +kernel
theorem d_P_findGains_127 : decode prog_1_method_29_code 127 = .ok (.bipush (-6), 2) := by decide +kernel
theorem d_P_findGains_129 : decode prog_1_method_29_code 129 = .ok (.iastore, 1) := by decide +kernel
theorem d_P_findGains_130 : decode prog_1_method_29_code 130 = .ok (.iinc 4 1, 3) := by decide +kernel
theorem d_P_findGains_133 : decode prog_1_method_29_code 133 = .ok (.goto (-94), 3) := by decide +kernel
theorem d_P_findGains_136 : decode prog_1_method_29_code 136 = .ok (.aload_n 0, 1) := by decide +kernel
theorem d_P_findGains_137 : decode prog_1_method_29_code 137 = .ok (.getfield 22, 3) := by decide +kernel
theorem d_P_findGains_140 : decode prog_1_method_29_code 140 = .ok (.aload_n 0, 1) := by decide +kernel
theorem d_P_findGains_141 : decode prog_1_method_29_code 141 = .ok (.getfield 16, 3) := by decide +kernel
theorem d_P_findGains_144 : decode prog_1_method_29_code 144 = .ok (.aload_n 1, 1) := by decide +kernel
theorem d_P_findGains_145 : decode prog_1_method_29_code 145 = .ok (.invokevirtual 249, 3) := by decide +kernel
theorem d_P_findGains_148 : decode prog_1_method_29_code 148 = .ok (.iload_n 3, 1) := by decide +kernel
theorem d_P_findGains_149 : decode prog_1_method_29_code 149 = .ok (.ireturn, 1) := by decide +kernel
theorem d_P_gainOf_0 : decode prog_1_method_31_code 0 = .ok (.iconst 0, 1) := by decide +kernel
theorem d_P_gainOf_1 : decode prog_1_method_31_code 1 = .ok (.istore_n 2, 1) := by decide +kernel
theorem d_P_gainOf_2 : decode prog_1_method_31_code 2 = .ok (.iconst 0, 1) := by decide +kernel
theorem d_P_gainOf_3 : decode prog_1_method_31_code 3 = .ok (.istore_n 3, 1) := by decide +kernel
theorem d_P_gainOf_4 : decode prog_1_method_31_code 4 = .ok (.iload_n 3, 1) := by decide +kernel
theorem d_P_gainOf_5 : decode prog_1_method_31_code 5 = .ok (.aload_n 0, 1) := by decide +kernel
theorem d_P_gainOf_6 : decode prog_1_method_31_code 6 = .ok (.getfield 16, 3) := by decide +kernel
theorem d_P_gainOf_9 : decode prog_1_method_31_code 9 = .ok (.getfield 205, 3) := by decide +kernel
theorem d_P_gainOf_12 : decode prog_1_method_31_code 12 = .ok (.if_icmp .ge 27, 3) := by decide +kernel
theorem d_P_gainOf_15 : decode prog_1_method_31_code 15 = .ok (.iload_n 1, 1) := by decide +kernel
theorem d_P_gainOf_16 : decode prog_1_method_31_code 16 = .ok (.iload_n 3, 1) := by decide +kernel
theorem d_P_gainOf_17 : decode prog_1_method_31_code 17 = .ok (.ishr, 1) := by decide +kernel
theorem d_P_gainOf_18 : decode prog_1_method_31_code 18 = .ok (.iconst 1, 1) := by decide +kernel
theorem d_P_gainOf_19 : decode prog_1_method_31_code 19 = .ok (.iand, 1) := by decide +kernel
theorem d_P_gainOf_20 : decode prog_1_method_31_code 20 = .ok (.iconst 1, 1) := by decide +kernel
theorem d_P_gainOf_21 : decode prog_1_method_31_code 21 = .ok (.if_icmp .ne 12, 3) := by decide +kernel
theorem d_P_gainOf_24 : decode prog_1_method_31_code 24 = .ok (.iload_n 2, 1) := by decide +kernel
theorem d_P_gainOf_25 : decode prog_1_method_31_code 25 = .ok (.aload_n 0, 1) := by decide +kernel
theorem d_P_gainOf_26 : decode prog_1_method_31_code 26 = .ok (.getfield 48, 3) := by decide +kernel
theorem d_P_gainOf_29 : decode prog_1_method_31_code 29 = .ok (.iload_n 3, 1) := by decide +kernel
theorem d_P_gainOf_30 : decode prog_1_method_31_code 30 = .ok (.iaload, 1) := by decide +kernel
theorem d_P_gainOf_31 : decode prog_1_method_31_code 31 = .ok (.iadd, 1) := by decide +kernel
theorem d_P_gainOf_32 : decode prog_1_method_31_code 32 = .ok (.istore_n 2, 1) := by decide +kernel
theorem d_P_gainOf_33 : decode prog_1_method_31_code 33 = .ok (.iinc 3 1, 3) := by decide +kernel
theorem d_P_gainOf_36 : decode prog_1_method_31_code 36 = .ok (.goto (-32), 3) := by decide +kernel
theorem d_P_gainOf_39 : decode prog_1_method_31_code 39 = .ok (.iload_n 2, 1) := by decide +kernel
theorem d_P_gainOf_40 : decode prog_1_method_31_code 40 = .ok (.ireturn, 1) := by decide +kernel
theorem d_P_fewestToCarry_0 : decode prog_1_method_30_code 0 = .ok (.bipush (-6), 2) := by decide +kernel
theorem d_P_fewestToCarry_2 : decode prog_1_method_30_code 2 = .ok (.istore_n 3, 1) := by decide +kernel
theorem d_P_fewestToCarry_3 : decode prog_1_method_30_code 3 = .ok (.bipush 13, 2) := by decide +kernel
theorem d_P_fewestToCarry_5 : decode prog_1_method_30_code 5 = .ok (.istore 4, 2) := by decide +kernel
theorem d_P_fewestToCarry_7 : decode prog_1_method_30_code 7 = .ok (.iconst 0, 1) := by decide +kernel
theorem d_P_fewestToCarry_8 : decode prog_1_method_30_code 8 = .ok (.istore 5, 2) := by decide +kernel
theorem d_P_fewestToCarry_10 : decode prog_1_method_30_code 10 = .ok (.iload 5, 2) := by decide +kernel
theorem d_P_fewestToCarry_12 : decode prog_1_method_30_code 12 = .ok (.iload_n 2, 1) := by decide +kernel
theorem d_P_fewestToCarry_13 : decode prog_1_method_30_code 13 = .ok (.if_icmp .gt 61, 3) := by decide +kernel
theorem d_P_fewestToCarry_16 : decode prog_1_method_30_code 16 = .ok (.iload 5, 2) := by decide +kernel
theorem d_P_fewestToCarry_18 : decode prog_1_method_30_code 18 = .ok (.invokestatic 273, 3) := by decide +kernel
theorem d_P_fewestToCarry_21 : decode prog_1_method_30_code 21 = .ok (.istore 6, 2) := by decide +kernel
theorem d_P_fewestToCarry_23 : decode prog_1_method_30_code 23 = .ok (.iload 5, 2) := by decide +kernel
theorem d_P_fewestToCarry_25 : decode prog_1_method_30_code 25 = .ok (.iload_n 2, 1) := by decide +kernel
theorem d_P_fewestToCarry_26 : decode prog_1_method_30_code 26 = .ok (.iconst (-1), 1) := by decide +kernel
theorem d_P_fewestToCarry_27 : decode prog_1_method_30_code 27 = .ok (.ixor, 1) := by decide +kernel
theorem d_P_fewestToCarry_28 : decode prog_1_method_30_code 28 = .ok (.iand, 1) := by decide +kernel
theorem d_P_fewestToCarry_29 : decode prog_1_method_30_code 29 = .ok (.ifCond .ne 39, 3) := by decide +kernel
theorem d_P_fewestToCarry_32 : decode prog_1_method_30_code 32 = .ok (.iload 6, 2) := by decide +kernel
theorem d_P_fewestToCarry_34 : decode prog_1_method_30_code 34 = .ok (.iload 4, 2) := by decide +kernel
theorem d_P_fewestToCarry_36 : decode prog_1_method_30_code 36 = .ok (.if_icmp .ge 32, 3) := by decide +kernel
theorem d_P_fewestToCarry_39 : decode prog_1_method_30_code 39 = .ok (.aload_n 0, 1) := by decide +kernel
theorem d_P_fewestToCarry_40 : decode prog_1_method_30_code 40 = .ok (.getfield 22, 3) := by decide +kernel
theorem d_P_fewestToCarry_43 : decode prog_1_method_30_code 43 = .ok (.aload_n 0, 1) := by decide +kernel
theorem d_P_fewestToCarry_44 : decode prog_1_method_30_code 44 = .ok (.getfield 16, 3) := by decide +kernel
theorem d_P_fewestToCarry_47 : decode prog_1_method_30_code 47 = .ok (.aload_n 1, 1) := by decide +kernel
theorem d_P_fewestToCarry_48 : decode prog_1_method_30_code 48 = .ok (.aload_n 0, 1) := by decide +kernel
theorem d_P_fewestToCarry_49 : decode prog_1_method_30_code 49 = .ok (.iload 5, 2) := by decide +kernel
theorem d_P_fewestToCarry_51 : decode prog_1_method_30_code 51 = .ok (.invokevirtual 291, 3) := by decide +kernel
theorem d_P_fewestToCarry_54 : decode prog_1_method_30_code 54 = .ok (.invokevirtual 253, 3) := by decide +kernel
theorem d_P_fewestToCarry_57 : decode prog_1_method_30_code 57 = .ok (.iconst 3, 1) := by decide +kernel
theorem d_P_fewestToCarry_58 : decode prog_1_method_30_code 58 = .ok (.if_icmp .ne 10, 3) := by decide +kernel
theorem d_P_fewestToCarry_61 : decode prog_1_method_30_code 61 = .ok (.iload 5, 2) := by decide +kernel
theorem d_P_fewestToCarry_63 : decode prog_1_method_30_code 63 = .ok (.istore_n 3, 1) := by decide +kernel
theorem d_P_fewestToCarry_64 : decode prog_1_method_30_code 64 = .ok (.iload 6, 2) := by decide +kernel
theorem d_P_fewestToCarry_66 : decode prog_1_method_30_code 66 = .ok (.istore 4, 2) := by decide +kernel
theorem d_P_fewestToCarry_68 : decode prog_1_method_30_code 68 = .ok (.iinc 5 1, 3) := by decide +kernel
theorem d_P_fewestToCarry_71 : decode prog_1_method_30_code 71 = .ok (.goto (-61), 3) := by decide +kernel
theorem d_P_fewestToCarry_74 : decode prog_1_method_30_code 74 = .ok (.iload_n 3, 1) := by decide +kernel
theorem d_P_fewestToCarry_75 : decode prog_1_method_30_code 75 = .ok (.ireturn, 1) := by decide +kernel
theorem d_P_needed_0 : decode prog_1_method_24_code 0 = .ok (.aload_n 0, 1) := by decide +kernel
theorem d_P_needed_1 : decode prog_1_method_24_code 1 = .ok (.getfield 10, 3) := by decide +kernel
theorem d_P_needed_4 : decode prog_1_method_24_code 4 = .ok (.iload_n 1, 1) := by decide +kernel
theorem d_P_needed_5 : decode prog_1_method_24_code 5 = .ok (.invokevirtual 134, 3) := by decide +kernel
theorem d_P_needed_8 : decode prog_1_method_24_code 8 = .ok (.ifCond .ne 5, 3) := by decide +kernel
theorem d_P_needed_11 : decode prog_1_method_24_code 11 = .ok (.iconst (-1), 1) := by decide +kernel
theorem d_P_needed_12 : decode prog_1_method_24_code 12 = .ok (.ireturn, 1) := by decide +kernel
theorem d_P_needed_13 : decode prog_1_method_24_code 13 = .ok (.iload_n 2, 1) := by decide +kernel
theorem d_P_needed_14 : decode prog_1_method_24_code 14 = .ok (.ifCond .eq 11, 3) := by decide +kernel
theorem d_P_needed_17 : decode prog_1_method_24_code 17 = .ok (.iload_n 2, 1) := by decide +kernel
theorem d_P_needed_18 : decode prog_1_method_24_code 18 = .ok (.iconst 1, 1) := by decide +kernel
theorem d_P_needed_19 : decode prog_1_method_24_code 19 = .ok (.if_icmp .eq 6, 3) := by decide +kernel
theorem d_P_needed_22 : decode prog_1_method_24_code 22 = .ok (.bipush (-2), 2) := by decide +kernel
theorem d_P_needed_24 : decode prog_1_method_24_code 24 = .ok (.ireturn, 1) := by decide +kernel
theorem d_P_needed_25 : decode prog_1_method_24_code 25 = .ok (.aload_n 0, 1) := by decide +kernel
theorem d_P_needed_26 : decode prog_1_method_24_code 26 = .ok (.getfield 10, 3) := by decide +kernel
theorem d_P_needed_29 : decode prog_1_method_24_code 29 = .ok (.getfield 137, 3) := by decide +kernel
theorem d_P_needed_32 : decode prog_1_method_24_code 32 = .ok (.iload_n 1, 1) := by decide +kernel
theorem d_P_needed_33 : decode prog_1_method_24_code 33 = .ok (.aaload, 1) := by decide +kernel
theorem d_P_needed_34 : decode prog_1_method_24_code 34 = .ok (.invokevirtual 242, 3) := by decide +kernel
theorem d_P_needed_37 : decode prog_1_method_24_code 37 = .ok (.ifCond .ne 6, 3) := by decide +kernel
theorem d_P_needed_40 : decode prog_1_method_24_code 40 = .ok (.bipush (-5), 2) := by decide +kernel
theorem d_P_needed_42 : decode prog_1_method_24_code 42 = .ok (.ireturn, 1) := by decide +kernel
theorem d_P_needed_43 : decode prog_1_method_24_code 43 = .ok (.aload_n 0, 1) := by decide +kernel
theorem d_P_needed_44 : decode prog_1_method_24_code 44 = .ok (.getfield 16, 3) := by decide +kernel
theorem d_P_needed_47 : decode prog_1_method_24_code 47 = .ok (.aload_n 0, 1) := by decide +kernel
theorem d_P_needed_48 : decode prog_1_method_24_code 48 = .ok (.getfield 10, 3) := by decide +kernel
theorem d_P_needed_51 : decode prog_1_method_24_code 51 = .ok (.invokevirtual 256, 3) := by decide +kernel
theorem d_P_needed_54 : decode prog_1_method_24_code 54 = .ok (.aload_n 0, 1) := by decide +kernel
theorem d_P_needed_55 : decode prog_1_method_24_code 55 = .ok (.getfield 16, 3) := by decide +kernel
theorem d_P_needed_58 : decode prog_1_method_24_code 58 = .ok (.getfield 137, 3) := by decide +kernel
theorem d_P_needed_61 : decode prog_1_method_24_code 61 = .ok (.iload_n 1, 1) := by decide +kernel
theorem d_P_needed_62 : decode prog_1_method_24_code 62 = .ok (.aaload, 1) := by decide +kernel
theorem d_P_needed_63 : decode prog_1_method_24_code 63 = .ok (.astore_n 3, 1) := by decide +kernel
theorem d_P_needed_64 : decode prog_1_method_24_code 64 = .ok (.aload_n 0, 1) := by decide +kernel
theorem d_P_needed_65 : decode prog_1_method_24_code 65 = .ok (.aload_n 3, 1) := by decide +kernel
theorem d_P_needed_66 : decode prog_1_method_24_code 66 = .ok (.aload_n 0, 1) := by decide +kernel
theorem d_P_needed_67 : decode prog_1_method_24_code 67 = .ok (.aload_n 3, 1) := by decide +kernel
theorem d_P_needed_68 : decode prog_1_method_24_code 68 = .ok (.invokevirtual 266, 3) := by decide +kernel
theorem d_P_needed_71 : decode prog_1_method_24_code 71 = .ok (.invokevirtual 270, 3) := by decide +kernel
theorem d_P_needed_74 : decode prog_1_method_24_code 74 = .ok (.istore 4, 2) := by decide +kernel
theorem d_P_needed_76 : decode prog_1_method_24_code 76 = .ok (.iload 4, 2) := by decide +kernel
theorem d_P_needed_78 : decode prog_1_method_24_code 78 = .ok (.bipush (-6), 2) := by decide +kernel
theorem d_P_needed_80 : decode prog_1_method_24_code 80 = .ok (.if_icmp .eq 8, 3) := by decide +kernel
theorem d_P_needed_83 : decode prog_1_method_24_code 83 = .ok (.iload_n 2, 1) := by decide +kernel
theorem d_P_needed_84 : decode prog_1_method_24_code 84 = .ok (.iconst 1, 1) := by decide +kernel
theorem d_P_needed_85 : decode prog_1_method_24_code 85 = .ok (.if_icmp .ne 8, 3) := by decide +kernel
theorem d_P_needed_88 : decode prog_1_method_24_code 88 = .ok (.iload 4, 2) := by decide +kernel
theorem d_P_needed_90 : decode prog_1_method_24_code 90 = .ok (.goto 8, 3) := by decide +kernel
theorem d_P_needed_93 : decode prog_1_method_24_code 93 = .ok (.iload 4, 2) := by decide +kernel
theorem d_P_needed_95 : decode prog_1_method_24_code 95 = .ok (.invokestatic 273, 3) := by decide +kernel
theorem d_P_needed_98 : decode prog_1_method_24_code 98 = .ok (.ireturn, 1) := by decide +kernel
theorem d_P_countSetsWithout_0 : decode prog_1_method_32_code 0 = .ok (.aload_n 0, 1) := by decide +kernel
theorem d_P_countSetsWithout_1 : decode prog_1_method_32_code 1 = .ok (.getfield 52, 3) := by decide +kernel
theorem d_P_countSetsWithout_4 : decode prog_1_method_32_code 4 = .ok (.iconst 0, 1) := by decide +kernel
theorem d_P_countSetsWithout_5 : decode prog_1_method_32_code 5 = .ok (.invokestatic 294, 3) := by decide +kernel
theorem d_P_countSetsWithout_8 : decode prog_1_method_32_code 8 = .ok (.aload_n 0, 1) := by decide +kernel
theorem d_P_countSetsWithout_9 : decode prog_1_method_32_code 9 = .ok (.getfield 52, 3) := by decide +kernel
theorem d_P_countSetsWithout_12 : decode prog_1_method_32_code 12 = .ok (.iconst 0, 1) := by decide +kernel
theorem d_P_countSetsWithout_13 : decode prog_1_method_32_code 13 = .ok (.iconst 1, 1) := by decide +kernel
theorem d_P_countSetsWithout_14 : decode prog_1_method_32_code 14 = .ok (.iastore, 1) := by decide +kernel
theorem d_P_countSetsWithout_15 : decode prog_1_method_32_code 15 = .ok (.iconst 0, 1) := by decide +kernel
theorem d_P_countSetsWithout_16 : decode prog_1_method_32_code 16 = .ok (.istore_n 2, 1) := by decide +kernel
theorem d_P_countSetsWithout_17 : decode prog_1_method_32_code 17 = .ok (.iload_n 2, 1) := by decide +kernel
theorem d_P_countSetsWithout_18 : decode prog_1_method_32_code 18 = .ok (.aload_n 0, 1) := by decide +kernel
theorem d_P_countSetsWithout_19 : decode prog_1_method_32_code 19 = .ok (.getfield 10, 3) := by decide +kernel
theorem d_P_countSetsWithout_22 : decode prog_1_method_32_code 22 = .ok (.getfield 205, 3) := by decide +kernel
theorem d_P_countSetsWithout_25 : decode prog_1_method_32_code 25 = .ok (.if_icmp .ge 64, 3) := by decide +kernel
theorem d_P_countSetsWithout_28 : decode prog_1_method_32_code 28 = .ok (.iload_n 2, 1) := by decide +kernel
theorem d_P_countSetsWithout_29 : decode prog_1_method_32_code 29 = .ok (.iload_n 1, 1) := by decide +kernel
theorem d_P_countSetsWithout_30 : decode prog_1_method_32_code 30 = .ok (.if_icmp .eq 53, 3) := by decide +kernel
theorem d_P_countSetsWithout_33 : decode prog_1_method_32_code 33 = .ok (.aload_n 0, 1) := by decide +kernel
theorem d_P_countSetsWithout_34 : decode prog_1_method_32_code 34 = .ok (.getfield 10, 3) := by decide +kernel
theorem d_P_countSetsWithout_37 : decode prog_1_method_32_code 37 = .ok (.getfield 116, 3) := by decide +kernel
theorem d_P_countSetsWithout_40 : decode prog_1_method_32_code 40 = .ok (.iload_n 2, 1) := by decide +kernel
theorem d_P_countSetsWithout_41 : decode prog_1_method_32_code 41 = .ok (.iaload, 1) := by decide +kernel
theorem d_P_countSetsWithout_42 : decode prog_1_method_32_code 42 = .ok (.istore_n 3, 1) := by decide +kernel
theorem d_P_countSetsWithout_43 : decode prog_1_method_32_code 43 = .ok (.aload_n 0, 1) := by decide +kernel
theorem d_P_countSetsWithout_44 : decode prog_1_method_32_code 44 = .ok (.getfield 52, 3) := by decide +kernel
theorem d_P_countSetsWithout_47 : decode prog_1_method_32_code 47 = .ok (.arraylength, 1) := by decide +kernel
theorem d_P_countSetsWithout_48 : decode prog_1_method_32_code 48 = .ok (.iconst 1, 1) := by decide +kernel
theorem d_P_countSetsWithout_49 : decode prog_1_method_32_code 49 = .ok (.isub, 1) := by decide +kernel
theorem d_P_countSetsWithout_50 : decode prog_1_method_32_code 50 = .ok (.istore 4, 2) := by decide +kernel
theorem d_P_countSetsWithout_52 : decode prog_1_method_32_code 52 = .ok (.iload 4, 2) := by decide +kernel
theorem d_P_countSetsWithout_54 : decode prog_1_method_32_code 54 = .ok (.iload_n 3, 1) := by decide +kernel
theorem d_P_countSetsWithout_55 : decode prog_1_method_32_code 55 = .ok (.if_icmp .lt 28, 3) := by decide +kernel
theorem d_P_countSetsWithout_58 : decode prog_1_method_32_code 58 = .ok (.aload_n 0, 1) := by decide +kernel
theorem d_P_countSetsWithout_59 : decode prog_1_method_32_code 59 = .ok (.getfield 52, 3) := by decide +kernel
theorem d_P_countSetsWithout_62 : decode prog_1_method_32_code 62 = .ok (.iload 4, 2) := by decide +kernel
theorem d_P_countSetsWithout_64 : decode prog_1_method_32_code 64 = .ok (.dup2, 1) := by decide +kernel
theorem d_P_countSetsWithout_65 : decode prog_1_method_32_code 65 = .ok (.iaload, 1) := by decide +kernel
theorem d_P_countSetsWithout_66 : decode prog_1_method_32_code 66 = .ok (.aload_n 0, 1) := by decide +kernel
theorem d_P_countSetsWithout_67 : decode prog_1_method_32_code 67 = .ok (.getfield 52, 3) := by decide +kernel
theorem d_P_countSetsWithout_70 : decode prog_1_method_32_code 70 = .ok (.iload 4, 2) := by decide +kernel
theorem d_P_countSetsWithout_72 : decode prog_1_method_32_code 72 = .ok (.iload_n 3, 1) := by decide +kernel
theorem d_P_countSetsWithout_73 : decode prog_1_method_32_code 73 = .ok (.isub, 1) := by decide +kernel
theorem d_P_countSetsWithout_74 : decode prog_1_method_32_code 74 = .ok (.iaload, 1) := by decide +kernel
theorem d_P_countSetsWithout_75 : decode prog_1_method_32_code 75 = .ok (.iadd, 1) := by decide +kernel
theorem d_P_countSetsWithout_76 : decode prog_1_method_32_code 76 = .ok (.iastore, 1) := by decide +kernel
theorem d_P_countSetsWithout_77 : decode prog_1_method_32_code 77 = .ok (.iinc 4 (-1), 3) := by decide +kernel
theorem d_P_countSetsWithout_80 : decode prog_1_method_32_code 80 = .ok (.goto (-28), 3) := by decide +kernel
theorem d_P_countSetsWithout_83 : decode prog_1_method_32_code 83 = .ok (.iinc 2 1, 3) := by decide +kernel
theorem d_P_countSetsWithout_86 : decode prog_1_method_32_code 86 = .ok (.goto (-69), 3) := by decide +kernel
theorem d_P_countSetsWithout_89 : decode prog_1_method_32_code 89 = .ok (.return_, 1) := by decide +kernel
theorem d_P_power_0 : decode prog_1_method_25_code 0 = .ok (.aload_n 0, 1) := by decide +kernel
theorem d_P_power_1 : decode prog_1_method_25_code 1 = .ok (.getfield 10, 3) := by decide +kernel
theorem d_P_power_4 : decode prog_1_method_25_code 4 = .ok (.iload_n 1, 1) := by decide +kernel
theorem d_P_power_5 : decode prog_1_method_25_code 5 = .ok (.invokevirtual 112, 3) := by decide +kernel
theorem d_P_power_8 : decode prog_1_method_25_code 8 = .ok (.ifCond .ne 5, 3) := by decide +kernel
theorem d_P_power_11 : decode prog_1_method_25_code 11 = .ok (.iconst (-1), 1) := by decide +kernel
theorem d_P_power_12 : decode prog_1_method_25_code 12 = .ok (.ireturn, 1) := by decide +kernel
theorem d_P_power_13 : decode prog_1_method_25_code 13 = .ok (.aload_n 0, 1) := by decide +kernel
theorem d_P_power_14 : decode prog_1_method_25_code 14 = .ok (.iload_n 1, 1) := by decide +kernel
theorem d_P_power_15 : decode prog_1_method_25_code 15 = .ok (.invokevirtual 278, 3) := by decide +kernel
theorem d_P_power_18 : decode prog_1_method_25_code 18 = .ok (.aload_n 0, 1) := by decide +kernel
theorem d_P_power_19 : decode prog_1_method_25_code 19 = .ok (.getfield 10, 3) := by decide +kernel
theorem d_P_power_22 : decode prog_1_method_25_code 22 = .ok (.invokevirtual 224, 3) := by decide +kernel
theorem d_P_power_25 : decode prog_1_method_25_code 25 = .ok (.istore_n 2, 1) := by decide +kernel
theorem d_P_power_26 : decode prog_1_method_25_code 26 = .ok (.aload_n 0, 1) := by decide +kernel
theorem d_P_power_27 : decode prog_1_method_25_code 27 = .ok (.getfield 10, 3) := by decide +kernel
theorem d_P_power_30 : decode prog_1_method_25_code 30 = .ok (.getfield 116, 3) := by decide +kernel
theorem d_P_power_33 : decode prog_1_method_25_code 33 = .ok (.iload_n 1, 1) := by decide +kernel
theorem d_P_power_34 : decode prog_1_method_25_code 34 = .ok (.iaload, 1) := by decide +kernel
theorem d_P_power_35 : decode prog_1_method_25_code 35 = .ok (.istore_n 3, 1) := by decide +kernel
theorem d_P_power_36 : decode prog_1_method_25_code 36 = .ok (.iconst 0, 1) := by decide +kernel
theorem d_P_power_37 : decode prog_1_method_25_code 37 = .ok (.istore 4, 2) := by decide +kernel
theorem d_P_power_39 : decode prog_1_method_25_code 39 = .ok (.iconst 0, 1) := by decide +kernel
theorem d_P_power_40 : decode prog_1_method_25_code 40 = .ok (.istore 5, 2) := by decide +kernel
theorem d_P_power_42 : decode prog_1_method_25_code 42 = .ok (.iload 5, 2) := by decide +kernel
theorem d_P_power_44 : decode prog_1_method_25_code 44 = .ok (.aload_n 0, 1) := by decide +kernel
theorem d_P_power_45 : decode prog_1_method_25_code 45 = .ok (.getfield 52, 3) := by decide +kernel
theorem d_P_power_48 : decode prog_1_method_25_code 48 = .ok (.arraylength, 1) := by decide +kernel
theorem d_P_power_49 : decode prog_1_method_25_code 49 = .ok (.if_icmp .ge 39, 3) := by decide +kernel
theorem d_P_power_52 : decode prog_1_method_25_code 52 = .ok (.iconst 2, 1) := by decide +kernel
theorem d_P_power_53 : decode prog_1_method_25_code 53 = .ok (.iload 5, 2) := by decide +kernel
theorem d_P_power_55 : decode prog_1_method_25_code 55 = .ok (.imul, 1) := by decide +kernel
theorem d_P_power_56 : decode prog_1_method_25_code 56 = .ok (.iload_n 2, 1) := by decide +kernel
theorem d_P_power_57 : decode prog_1_method_25_code 57 = .ok (.if_icmp .gt 25, 3) := by decide +kernel
theorem d_P_power_60 : decode prog_1_method_25_code 60 = .ok (.iconst 2, 1) := by decide +kernel
theorem d_P_power_61 : decode prog_1_method_25_code 61 = .ok (.iload 5, 2) := by decide +kernel
theorem d_P_power_63 : decode prog_1_method_25_code 63 = .ok (.iload_n 3, 1) := by decide +kernel
theorem d_P_power_64 : decode prog_1_method_25_code 64 = .ok (.iadd, 1) := by decide +kernel
theorem d_P_power_65 : decode prog_1_method_25_code 65 = .ok (.imul, 1) := by decide +kernel
theorem d_P_power_66 : decode prog_1_method_25_code 66 = .ok (.iload_n 2, 1) := by decide +kernel
theorem d_P_power_67 : decode prog_1_method_25_code 67 = .ok (.if_icmp .le 15, 3) := by decide +kernel
theorem d_P_power_70 : decode prog_1_method_25_code 70 = .ok (.iload 4, 2) := by decide +kernel
theorem d_P_power_72 : decode prog_1_method_25_code 72 = .ok (.aload_n 0, 1) := by decide +kernel
theorem d_P_power_73 : decode prog_1_method_25_code 73 = .ok (.getfield 52, 3) := by decide +kernel
theorem d_P_power_76 : decode prog_1_method_25_code 76 = .ok (.iload 5, 2) := by decide +kernel
theorem d_P_power_78 : decode prog_1_method_25_code 78 = .ok (.iaload, 1) := by decide +kernel
theorem d_P_power_79 : decode prog_1_method_25_code 79 = .ok (.iadd, 1) := by decide +kernel
theorem d_P_power_80 : decode prog_1_method_25_code 80 = .ok (.istore 4, 2) := by decide +kernel
theorem d_P_power_82 : decode prog_1_method_25_code 82 = .ok (.iinc 5 1, 3) := by decide +kernel
theorem d_P_power_85 : decode prog_1_method_25_code 85 = .ok (.goto (-43), 3) := by decide +kernel
theorem d_P_power_88 : decode prog_1_method_25_code 88 = .ok (.iload 4, 2) := by decide +kernel
theorem d_P_power_90 : decode prog_1_method_25_code 90 = .ok (.ireturn, 1) := by decide +kernel
theorem d_P_quorumAt_0 : decode prog_1_method_26_code 0 = .ok (.aload_n 0, 1) := by decide +kernel
theorem d_P_quorumAt_1 : decode prog_1_method_26_code 1 = .ok (.getfield 10, 3) := by decide +kernel
theorem d_P_quorumAt_4 : decode prog_1_method_26_code 4 = .ok (.iload_n 1, 1) := by decide +kernel
theorem d_P_quorumAt_5 : decode prog_1_method_26_code 5 = .ok (.invokevirtual 134, 3) := by decide +kernel
theorem d_P_quorumAt_8 : decode prog_1_method_26_code 8 = .ok (.ifCond .ne 5, 3) := by decide +kernel
theorem d_P_quorumAt_11 : decode prog_1_method_26_code 11 = .ok (.iconst (-1), 1) := by decide +kernel
theorem d_P_quorumAt_12 : decode prog_1_method_26_code 12 = .ok (.ireturn, 1) := by decide +kernel
theorem d_P_quorumAt_13 : decode prog_1_method_26_code 13 = .ok (.aload_n 0, 1) := by decide +kernel
theorem d_P_quorumAt_14 : decode prog_1_method_26_code 14 = .ok (.getfield 16, 3) := by decide +kernel
theorem d_P_quorumAt_17 : decode prog_1_method_26_code 17 = .ok (.aload_n 0, 1) := by decide +kernel
theorem d_P_quorumAt_18 : decode prog_1_method_26_code 18 = .ok (.getfield 10, 3) := by decide +kernel
theorem d_P_quorumAt_21 : decode prog_1_method_26_code 21 = .ok (.invokevirtual 256, 3) := by decide +kernel
theorem d_P_quorumAt_24 : decode prog_1_method_26_code 24 = .ok (.aload_n 0, 1) := by decide +kernel
theorem d_P_quorumAt_25 : decode prog_1_method_26_code 25 = .ok (.getfield 16, 3) := by decide +kernel
theorem d_P_quorumAt_28 : decode prog_1_method_26_code 28 = .ok (.getfield 137, 3) := by decide +kernel
theorem d_P_quorumAt_31 : decode prog_1_method_26_code 31 = .ok (.iload_n 1, 1) := by decide +kernel
theorem d_P_quorumAt_32 : decode prog_1_method_26_code 32 = .ok (.aaload, 1) := by decide +kernel
theorem d_P_quorumAt_33 : decode prog_1_method_26_code 33 = .ok (.astore_n 2, 1) := by decide +kernel
theorem d_P_quorumAt_34 : decode prog_1_method_26_code 34 = .ok (.iconst 0, 1) := by decide +kernel
theorem d_P_quorumAt_35 : decode prog_1_method_26_code 35 = .ok (.istore_n 3, 1) := by decide +kernel
theorem d_P_quorumAt_36 : decode prog_1_method_26_code 36 = .ok (.iload_n 3, 1) := by decide +kernel
theorem d_P_quorumAt_37 : decode prog_1_method_26_code 37 = .ok (.bipush 22, 2) := by decide +kernel
theorem d_P_quorumAt_39 : decode prog_1_method_26_code 39 = .ok (.if_icmp .ge 78, 3) := by decide +kernel
theorem d_P_quorumAt_42 : decode prog_1_method_26_code 42 = .ok (.aload_n 0, 1) := by decide +kernel
theorem d_P_quorumAt_43 : decode prog_1_method_26_code 43 = .ok (.getfield 22, 3) := by decide +kernel
theorem d_P_quorumAt_46 : decode prog_1_method_26_code 46 = .ok (.aload_n 0, 1) := by decide +kernel
theorem d_P_quorumAt_47 : decode prog_1_method_26_code 47 = .ok (.getfield 16, 3) := by decide +kernel
theorem d_P_quorumAt_50 : decode prog_1_method_26_code 50 = .ok (.aload_n 2, 1) := by decide +kernel
theorem d_P_quorumAt_51 : decode prog_1_method_26_code 51 = .ok (.invokevirtual 159, 3) := by decide +kernel
theorem d_P_quorumAt_54 : decode prog_1_method_26_code 54 = .ok (.aload_n 0, 1) := by decide +kernel
theorem d_P_quorumAt_55 : decode prog_1_method_26_code 55 = .ok (.getfield 16, 3) := by decide +kernel
theorem d_P_quorumAt_58 : decode prog_1_method_26_code 58 = .ok (.aload_n 0, 1) := by decide +kernel
theorem d_P_quorumAt_59 : decode prog_1_method_26_code 59 = .ok (.getfield 22, 3) := by decide +kernel
theorem d_P_quorumAt_62 : decode prog_1_method_26_code 62 = .ok (.aload_n 0, 1) := by decide +kernel
theorem d_P_quorumAt_63 : decode prog_1_method_26_code 63 = .ok (.getfield 16, 3) := by decide +kernel
theorem d_P_quorumAt_66 : decode prog_1_method_26_code 66 = .ok (.invokevirtual 163, 3) := by decide +kernel
theorem d_P_quorumAt_69 : decode prog_1_method_26_code 69 = .ok (.invokevirtual 167, 3) := by decide +kernel
theorem d_P_quorumAt_72 : decode prog_1_method_26_code 72 = .ok (.ifCond .eq 11, 3) := by decide +kernel
theorem d_P_quorumAt_75 : decode prog_1_method_26_code 75 = .ok (.aload_n 0, 1) := by decide +kernel
theorem d_P_quorumAt_76 : decode prog_1_method_26_code 76 = .ok (.getfield 16, 3) := by decide +kernel
theorem d_P_quorumAt_79 : decode prog_1_method_26_code 79 = .ok (.getfield 202, 3) := by decide +kernel
theorem d_P_quorumAt_82 : decode prog_1_method_26_code 82 = .ok (.ireturn, 1) := by decide +kernel
theorem d_P_quorumAt_83 : decode prog_1_method_26_code 83 = .ok (.aload_n 0, 1) := by decide +kernel
theorem d_P_quorumAt_84 : decode prog_1_method_26_code 84 = .ok (.getfield 16, 3) := by decide +kernel
theorem d_P_quorumAt_87 : decode prog_1_method_26_code 87 = .ok (.invokevirtual 282, 3) := by decide +kernel
theorem d_P_quorumAt_90 : decode prog_1_method_26_code 90 = .ok (.istore 4, 2) := by decide +kernel
theorem d_P_quorumAt_92 : decode prog_1_method_26_code 92 = .ok (.iload 4, 2) := by decide +kernel
theorem d_P_quorumAt_94 : decode prog_1_method_26_code 94 = .ok (.bipush (-6), 2) := by decide +kernel
theorem d_P_quorumAt_96 : decode prog_1_method_26_code 96 = .ok (.if_icmp .ne 6, 3) := by decide +kernel
theorem d_P_quorumAt_99 : decode prog_1_method_26_code 99 = .ok (.bipush (-6), 2) := by decide +kernel
theorem d_P_quorumAt_101 : decode prog_1_method_26_code 101 = .ok (.ireturn, 1) := by decide +kernel
theorem d_P_quorumAt_102 : decode prog_1_method_26_code 102 = .ok (.aload_n 0, 1) := by decide +kernel
theorem d_P_quorumAt_103 : decode prog_1_method_26_code 103 = .ok (.getfield 16, 3) := by decide +kernel
theorem d_P_quorumAt_106 : decode prog_1_method_26_code 106 = .ok (.iload 4, 2) := by decide +kernel
theorem d_P_quorumAt_108 : decode prog_1_method_26_code 108 = .ok (.invokevirtual 285, 3) := by decide +kernel
theorem d_P_quorumAt_111 : decode prog_1_method_26_code 111 = .ok (.iinc 3 1, 3) := by decide +kernel
theorem d_P_quorumAt_114 : decode prog_1_method_26_code 114 = .ok (.goto (-78), 3) := by decide +kernel
theorem d_P_quorumAt_117 : decode prog_1_method_26_code 117 = .ok (.bipush (-6), 2) := by decide +kernel
theorem d_P_quorumAt_119 : decode prog_1_method_26_code 119 = .ok (.ireturn, 1) := by decide +kernel
theorem d_P_bestHolder_0 : decode prog_1_method_27_code 0 = .ok (.aload_n 0, 1) := by decide +kernel
theorem d_P_bestHolder_1 : decode prog_1_method_27_code 1 = .ok (.getfield 10, 3) := by decide +kernel
theorem d_P_bestHolder_4 : decode prog_1_method_27_code 4 = .ok (.iload_n 1, 1) := by decide +kernel
theorem d_P_bestHolder_5 : decode prog_1_method_27_code 5 = .ok (.invokevirtual 112, 3) := by decide +kernel
theorem d_P_bestHolder_8 : decode prog_1_method_27_code 8 = .ok (.ifCond .eq 14, 3) := by decide +kernel
theorem d_P_bestHolder_11 : decode prog_1_method_27_code 11 = .ok (.aload_n 0, 1) := by decide +kernel
theorem d_P_bestHolder_12 : decode prog_1_method_27_code 12 = .ok (.getfield 10, 3) := by decide +kernel
theorem d_P_bestHolder_15 : decode prog_1_method_27_code 15 = .ok (.iload_n 2, 1) := by decide +kernel
theorem d_P_bestHolder_16 : decode prog_1_method_27_code 16 = .ok (.invokevirtual 134, 3) := by decide +kernel
theorem d_P_bestHolder_19 : decode prog_1_method_27_code 19 = .ok (.ifCond .ne 5, 3) := by decide +kernel
theorem d_P_bestHolder_22 : decode prog_1_method_27_code 22 = .ok (.iconst (-1), 1) := by decide +kernel
theorem d_P_bestHolder_23 : decode prog_1_method_27_code 23 = .ok (.ireturn, 1) := by decide +kernel
theorem d_P_bestHolder_24 : decode prog_1_method_27_code 24 = .ok (.aload_n 0, 1) := by decide +kernel
theorem d_P_bestHolder_25 : decode prog_1_method_27_code 25 = .ok (.getfield 16, 3) := by decide +kernel
theorem d_P_bestHolder_28 : decode prog_1_method_27_code 28 = .ok (.aload_n 0, 1) := by decide +kernel
theorem d_P_bestHolder_29 : decode prog_1_method_27_code 29 = .ok (.getfield 10, 3) := by decide +kernel
theorem d_P_bestHolder_32 : decode prog_1_method_27_code 32 = .ok (.invokevirtual 256, 3) := by decide +kernel
theorem d_P_bestHolder_35 : decode prog_1_method_27_code 35 = .ok (.aload_n 0, 1) := by decide +kernel
theorem d_P_bestHolder_36 : decode prog_1_method_27_code 36 = .ok (.getfield 16, 3) := by decide +kernel
theorem d_P_bestHolder_39 : decode prog_1_method_27_code 39 = .ok (.getfield 137, 3) := by decide +kernel
theorem d_P_bestHolder_42 : decode prog_1_method_27_code 42 = .ok (.iload_n 2, 1) := by decide +kernel
theorem d_P_bestHolder_43 : decode prog_1_method_27_code 43 = .ok (.aaload, 1) := by decide +kernel
theorem d_P_bestHolder_44 : decode prog_1_method_27_code 44 = .ok (.astore_n 3, 1) := by decide +kernel
theorem d_P_bestHolder_45 : decode prog_1_method_27_code 45 = .ok (.aload_n 0, 1) := by decide +kernel
theorem d_P_bestHolder_46 : decode prog_1_method_27_code 46 = .ok (.getfield 16, 3) := by decide +kernel
theorem d_P_bestHolder_49 : decode prog_1_method_27_code 49 = .ok (.iload_n 1, 1) := by decide +kernel
theorem d_P_bestHolder_50 : decode prog_1_method_27_code 50 = .ok (.invokevirtual 122, 3) := by decide +kernel
theorem d_P_bestHolder_53 : decode prog_1_method_27_code 53 = .ok (.ifCond .ne 26, 3) := by decide +kernel
theorem d_P_bestHolder_56 : decode prog_1_method_27_code 56 = .ok (.aload_n 0, 1) := by decide +kernel
theorem d_P_bestHolder_57 : decode prog_1_method_27_code 57 = .ok (.getfield 16, 3) := by decide +kernel
theorem d_P_bestHolder_60 : decode prog_1_method_27_code 60 = .ok (.iload_n 1, 1) := by decide +kernel
theorem d_P_bestHolder_61 : decode prog_1_method_27_code 61 = .ok (.aload_n 3, 1) := by decide +kernel
theorem d_P_bestHolder_62 : decode prog_1_method_27_code 62 = .ok (.invokevirtual 188, 3) := by decide +kernel
theorem d_P_bestHolder_65 : decode prog_1_method_27_code 65 = .ok (.ifCond .ne 14, 3) := by decide +kernel
theorem d_P_bestHolder_68 : decode prog_1_method_27_code 68 = .ok (.aload_n 3, 1) := by decide +kernel
theorem d_P_bestHolder_69 : decode prog_1_method_27_code 69 = .ok (.getfield 187, 3) := by decide +kernel
theorem d_P_bestHolder_72 : decode prog_1_method_27_code 72 = .ok (.iload_n 1, 1) := by decide +kernel
theorem d_P_bestHolder_73 : decode prog_1_method_27_code 73 = .ok (.iaload, 1) := by decide +kernel
theorem d_P_bestHolder_74 : decode prog_1_method_27_code 74 = .ok (.bipush (-6), 2) := by decide +kernel
theorem d_P_bestHolder_76 : decode prog_1_method_27_code 76 = .ok (.if_icmp .eq 6, 3) := by decide +kernel
theorem d_P_bestHolder_79 : decode prog_1_method_27_code 79 = .ok (.bipush (-5), 2) := by decide +kernel
theorem d_P_bestHolder_81 : decode prog_1_method_27_code 81 = .ok (.ireturn, 1) := by decide +kernel
theorem d_P_bestHolder_82 : decode prog_1_method_27_code 82 = .ok (.bipush (-6), 2) := by decide +kernel
theorem d_P_bestHolder_84 : decode prog_1_method_27_code 84 = .ok (.istore 4, 2) := by decide +kernel
theorem d_P_bestHolder_86 : decode prog_1_method_27_code 86 = .ok (.bipush 13, 2) := by decide +kernel
theorem d_P_bestHolder_88 : decode prog_1_method_27_code 88 = .ok (.istore 5, 2) := by decide +kernel
theorem d_P_bestHolder_90 : decode prog_1_method_27_code 90 = .ok (.iconst 0, 1) := by decide +kernel
theorem d_P_bestHolder_91 : decode prog_1_method_27_code 91 = .ok (.istore 6, 2) := by decide +kernel
theorem d_P_bestHolder_93 : decode prog_1_method_27_code 93 = .ok (.iload 6, 2) := by decide +kernel
theorem d_P_bestHolder_95 : decode prog_1_method_27_code 95 = .ok (.aload_n 0, 1) := by decide +kernel
theorem d_P_bestHolder_96 : decode prog_1_method_27_code 96 = .ok (.getfield 16, 3) := by decide +kernel
theorem d_P_bestHolder_99 : decode prog_1_method_27_code 99 = .ok (.getfield 205, 3) := by decide +kernel
theorem d_P_bestHolder_102 : decode prog_1_method_27_code 102 = .ok (.if_icmp .ge 90, 3) := by decide +kernel
theorem d_P_bestHolder_105 : decode prog_1_method_27_code 105 = .ok (.aload_n 0, 1) := by decide +kernel
theorem d_P_bestHolder_106 : decode prog_1_method_27_code 106 = .ok (.getfield 16, 3) := by decide +kernel
theorem d_P_bestHolder_109 : decode prog_1_method_27_code 109 = .ok (.iload 6, 2) := by decide +kernel
theorem d_P_bestHolder_111 : decode prog_1_method_27_code 111 = .ok (.aload_n 3, 1) := by decide +kernel
theorem d_P_bestHolder_112 : decode prog_1_method_27_code 112 = .ok (.invokevirtual 259, 3) := by decide +kernel
theorem d_P_bestHolder_115 : decode prog_1_method_27_code 115 = .ok (.ifCond .eq 71, 3) := by decide +kernel
theorem d_P_bestHolder_118 : decode prog_1_method_27_code 118 = .ok (.aload_n 0, 1) := by decide +kernel
theorem d_P_bestHolder_119 : decode prog_1_method_27_code 119 = .ok (.getfield 16, 3) := by decide +kernel
theorem d_P_bestHolder_122 : decode prog_1_method_27_code 122 = .ok (.getfield 125, 3) := by decide +kernel
theorem d_P_bestHolder_125 : decode prog_1_method_27_code 125 = .ok (.iload_n 1, 1) := by decide +kernel
theorem d_P_bestHolder_126 : decode prog_1_method_27_code 126 = .ok (.iload 6, 2) := by decide +kernel
theorem d_P_bestHolder_128 : decode prog_1_method_27_code 128 = .ok (.iastore, 1) := by decide +kernel
theorem d_P_bestHolder_129 : decode prog_1_method_27_code 129 = .ok (.aload_n 0, 1) := by decide +kernel
theorem d_P_bestHolder_130 : decode prog_1_method_27_code 130 = .ok (.getfield 22, 3) := by decide +kernel
theorem d_P_bestHolder_133 : decode prog_1_method_27_code 133 = .ok (.aload_n 0, 1) := by decide +kernel
theorem d_P_bestHolder_134 : decode prog_1_method_27_code 134 = .ok (.getfield 16, 3) := by decide +kernel
theorem d_P_bestHolder_137 : decode prog_1_method_27_code 137 = .ok (.aload_n 3, 1) := by decide +kernel
theorem d_P_bestHolder_138 : decode prog_1_method_27_code 138 = .ok (.invokevirtual 159, 3) := by decide +kernel
theorem d_P_bestHolder_141 : decode prog_1_method_27_code 141 = .ok (.aload_n 0, 1) := by decide +kernel
theorem d_P_bestHolder_142 : decode prog_1_method_27_code 142 = .ok (.getfield 22, 3) := by decide +kernel
theorem d_P_bestHolder_145 : decode prog_1_method_27_code 145 = .ok (.getfield 174, 3) := by decide +kernel
theorem d_P_bestHolder_148 : decode prog_1_method_27_code 148 = .ok (.iload_n 1, 1) := by decide +kernel
theorem d_P_bestHolder_149 : decode prog_1_method_27_code 149 = .ok (.iaload, 1) := by decide +kernel
theorem d_P_bestHolder_150 : decode prog_1_method_27_code 150 = .ok (.iload 6, 2) := by decide +kernel
theorem d_P_bestHolder_152 : decode prog_1_method_27_code 152 = .ok (.if_icmp .ne 34, 3) := by decide +kernel
theorem d_P_bestHolder_155 : decode prog_1_method_27_code 155 = .ok (.aload_n 0, 1) := by decide +kernel
theorem d_P_bestHolder_156 : decode prog_1_method_27_code 156 = .ok (.getfield 22, 3) := by decide +kernel
theorem d_P_bestHolder_159 : decode prog_1_method_27_code 159 = .ok (.getfield 288, 3) := by decide +kernel
theorem d_P_bestHolder_162 : decode prog_1_method_27_code 162 = .ok (.iload 6, 2) := by decide +kernel
theorem d_P_bestHolder_164 : decode prog_1_method_27_code 164 = .ok (.iaload, 1) := by decide +kernel
theorem d_P_bestHolder_165 : decode prog_1_method_27_code 165 = .ok (.iload 5, 2) := by decide +kernel
theorem d_P_bestHolder_167 : decode prog_1_method_27_code 167 = .ok (.if_icmp .ge 19, 3) := by decide +kernel
theorem d_P_bestHolder_170 : decode prog_1_method_27_code 170 = .ok (.iload 6, 2) := by decide +kernel
theorem d_P_bestHolder_172 : decode prog_1_method_27_code 172 = .ok (.istore 4, 2) := by decide +kernel
theorem d_P_bestHolder_174 : decode prog_1_method_27_code 174 = .ok (.aload_n 0, 1) := by decide +kernel
theorem d_P_bestHolder_175 : decode prog_1_method_27_code 175 = .ok (.getfield 22, 3) := by decide +kernel
theorem d_P_bestHolder_178 : decode prog_1_method_27_code 178 = .ok (.getfield 288, 3) := by decide +kernel
theorem d_P_bestHolder_181 : decode prog_1_method_27_code 181 = .ok (.iload 6, 2) := by decide +kernel
theorem d_P_bestHolder_183 : decode prog_1_method_27_code 183 = .ok (.iaload, 1) := by decide +kernel
theorem d_P_bestHolder_184 : decode prog_1_method_27_code 184 = .ok (.istore 5, 2) := by decide +kernel
theorem d_P_bestHolder_186 : decode prog_1_method_27_code 186 = .ok (.iinc 6 1, 3) := by decide +kernel
theorem d_P_bestHolder_189 : decode prog_1_method_27_code 189 = .ok (.goto (-96), 3) := by decide +kernel
theorem d_P_bestHolder_192 : decode prog_1_method_27_code 192 = .ok (.iload 4, 2) := by decide +kernel
theorem d_P_bestHolder_194 : decode prog_1_method_27_code 194 = .ok (.ireturn, 1) := by decide +kernel
theorem d_P_put_0 : decode prog_1_method_33_code 0 = .ok (.aload_n 0, 1) := by decide +kernel
theorem d_P_put_1 : decode prog_1_method_33_code 1 = .ok (.getfield 36, 3) := by decide +kernel
theorem d_P_put_4 : decode prog_1_method_33_code 4 = .ok (.lload_n 1, 1) := by decide +kernel
theorem d_P_put_5 : decode prog_1_method_33_code 5 = .ok (.invokevirtual 300, 3) := by decide +kernel
theorem d_P_put_8 : decode prog_1_method_33_code 8 = .ok (.ireturn, 1) := by decide +kernel
theorem d_P_wipe_0 : decode prog_1_method_34_code 0 = .ok (.aload_n 0, 1) := by decide +kernel
theorem d_P_wipe_1 : decode prog_1_method_34_code 1 = .ok (.getfield 36, 3) := by decide +kernel
theorem d_P_wipe_4 : decode prog_1_method_34_code 4 = .ok (.invokevirtual 304, 3) := by decide +kernel
theorem d_P_wipe_7 : decode prog_1_method_34_code 7 = .ok (.ireturn, 1) := by decide +kernel
theorem d_P_fault_0 : decode prog_1_method_35_code 0 = .ok (.aload_n 0, 1) := by decide +kernel
theorem d_P_fault_1 : decode prog_1_method_35_code 1 = .ok (.getfield 36, 3) := by decide +kernel
theorem d_P_fault_4 : decode prog_1_method_35_code 4 = .ok (.invokevirtual 307, 3) := by decide +kernel
theorem d_P_fault_7 : decode prog_1_method_35_code 7 = .ok (.ireturn, 1) := by decide +kernel
theorem d_P_carry_0 : decode prog_1_method_37_code 0 = .ok (.aload_n 0, 1) := by decide +kernel
theorem d_P_carry_1 : decode prog_1_method_37_code 1 = .ok (.getfield 36, 3) := by decide +kernel
theorem d_P_carry_4 : decode prog_1_method_37_code 4 = .ok (.getfield 319, 3) := by decide +kernel
theorem d_P_carry_7 : decode prog_1_method_37_code 7 = .ok (.iload_n 1, 1) := by decide +kernel
theorem d_P_carry_8 : decode prog_1_method_37_code 8 = .ok (.iaload, 1) := by decide +kernel
theorem d_P_carry_9 : decode prog_1_method_37_code 9 = .ok (.istore_n 2, 1) := by decide +kernel
theorem d_P_carry_10 : decode prog_1_method_37_code 10 = .ok (.aload_n 0, 1) := by decide +kernel
theorem d_P_carry_11 : decode prog_1_method_37_code 11 = .ok (.getfield 36, 3) := by decide +kernel
theorem d_P_carry_14 : decode prog_1_method_37_code 14 = .ok (.getfield 322, 3) := by decide +kernel
theorem d_P_carry_17 : decode prog_1_method_37_code 17 = .ok (.iload_n 1, 1) := by decide +kernel
theorem d_P_carry_18 : decode prog_1_method_37_code 18 = .ok (.iaload, 1) := by decide +kernel
theorem d_P_carry_19 : decode prog_1_method_37_code 19 = .ok (.istore_n 3, 1) := by decide +kernel
theorem d_P_carry_20 : decode prog_1_method_37_code 20 = .ok (.aload_n 0, 1) := by decide +kernel
theorem d_P_carry_21 : decode prog_1_method_37_code 21 = .ok (.getfield 36, 3) := by decide +kernel
theorem d_P_carry_24 : decode prog_1_method_37_code 24 = .ok (.getfield 325, 3) := by decide +kernel
theorem d_P_carry_27 : decode prog_1_method_37_code 27 = .ok (.iload_n 1, 1) := by decide +kernel
theorem d_P_carry_28 : decode prog_1_method_37_code 28 = .ok (.caload, 1) := by decide +kernel
theorem d_P_carry_29 : decode prog_1_method_37_code 29 = .ok (.lookupswitch 138 #[(43, 67), (45, 76), (99, 108), (109, 129), (111, 85), (118, 98), (120, 120)], 67) := by decide +kernel
theorem d_P_carry_96 : decode prog_1_method_37_code 96 = .ok (.aload_n 0, 1) := by decide +kernel
theorem d_P_carry_97 : decode prog_1_method_37_code 97 = .ok (.getfield 10, 3) := by decide +kernel
theorem d_P_carry_100 : decode prog_1_method_37_code 100 = .ok (.iload_n 2, 1) := by decide +kernel
theorem d_P_carry_101 : decode prog_1_method_37_code 101 = .ok (.invokevirtual 76, 3) := by decide +kernel
theorem d_P_carry_104 : decode prog_1_method_37_code 104 = .ok (.ireturn, 1) := by decide +kernel
theorem d_P_carry_105 : decode prog_1_method_37_code 105 = .ok (.aload_n 0, 1) := by decide +kernel
theorem d_P_carry_106 : decode prog_1_method_37_code 106 = .ok (.getfield 10, 3) := by decide +kernel
theorem d_P_carry_109 : decode prog_1_method_37_code 109 = .ok (.iload_n 2, 1) := by decide +kernel
theorem d_P_carry_110 : decode prog_1_method_37_code 110 = .ok (.invokevirtual 79, 3) := by decide +kernel
theorem d_P_carry_113 : decode prog_1_method_37_code 113 = .ok (.ireturn, 1) := by decide +kernel
theorem d_P_carry_114 : decode prog_1_method_37_code 114 = .ok (.aload_n 0, 1) := by decide +kernel
theorem d_P_carry_115 : decode prog_1_method_37_code 115 = .ok (.getfield 10, 3) := by decide +kernel
theorem d_P_carry_118 : decode prog_1_method_37_code 118 = .ok (.iload_n 3, 1) := by decide +kernel
theorem d_P_carry_119 : decode prog_1_method_37_code 119 = .ok (.aload_n 0, 1) := by decide +kernel
theorem d_P_carry_120 : decode prog_1_method_37_code 120 = .ok (.getfield 22, 3) := by decide +kernel
theorem d_P_carry_123 : decode prog_1_method_37_code 123 = .ok (.invokevirtual 95, 3) := by decide +kernel
theorem d_P_carry_126 : decode prog_1_method_37_code 126 = .ok (.ireturn, 1) := by decide +kernel
theorem d_P_carry_127 : decode prog_1_method_37_code 127 = .ok (.aload_n 0, 1) := by decide +kernel
theorem d_P_carry_128 : decode prog_1_method_37_code 128 = .ok (.getfield 10, 3) := by decide +kernel
theorem d_P_carry_131 : decode prog_1_method_37_code 131 = .ok (.iload_n 2, 1) := by decide +kernel
theorem d_P_carry_132 : decode prog_1_method_37_code 132 = .ok (.iload_n 3, 1) := by decide +kernel
theorem d_P_carry_133 : decode prog_1_method_37_code 133 = .ok (.invokevirtual 99, 3) := by decide +kernel
theorem d_P_carry_136 : decode prog_1_method_37_code 136 = .ok (.ireturn, 1) := by decide +kernel
theorem d_P_carry_137 : decode prog_1_method_37_code 137 = .ok (.aload_n 0, 1) := by decide +kernel
theorem d_P_carry_138 : decode prog_1_method_37_code 138 = .ok (.getfield 10, 3) := by decide +kernel
theorem d_P_carry_141 : decode prog_1_method_37_code 141 = .ok (.aload_n 0, 1) := by decide +kernel
theorem d_P_carry_142 : decode prog_1_method_37_code 142 = .ok (.getfield 22, 3) := by decide +kernel
theorem d_P_carry_145 : decode prog_1_method_37_code 145 = .ok (.invokevirtual 102, 3) := by decide +kernel
theorem d_P_carry_148 : decode prog_1_method_37_code 148 = .ok (.ireturn, 1) := by decide +kernel
theorem d_P_carry_149 : decode prog_1_method_37_code 149 = .ok (.aload_n 0, 1) := by decide +kernel
theorem d_P_carry_150 : decode prog_1_method_37_code 150 = .ok (.getfield 10, 3) := by decide +kernel
theorem d_P_carry_153 : decode prog_1_method_37_code 153 = .ok (.iload_n 3, 1) := by decide +kernel
theorem d_P_carry_154 : decode prog_1_method_37_code 154 = .ok (.invokevirtual 106, 3) := by decide +kernel
theorem d_P_carry_157 : decode prog_1_method_37_code 157 = .ok (.ireturn, 1) := by decide +kernel
theorem d_P_carry_158 : decode prog_1_method_37_code 158 = .ok (.aload_n 0, 1) := by decide +kernel
theorem d_P_carry_159 : decode prog_1_method_37_code 159 = .ok (.getfield 10, 3) := by decide +kernel
theorem d_P_carry_162 : decode prog_1_method_37_code 162 = .ok (.iload_n 3, 1) := by decide +kernel
theorem d_P_carry_163 : decode prog_1_method_37_code 163 = .ok (.invokevirtual 109, 3) := by decide +kernel
theorem d_P_carry_166 : decode prog_1_method_37_code 166 = .ok (.ireturn, 1) := by decide +kernel
theorem d_P_carry_167 : decode prog_1_method_37_code 167 = .ok (.bipush (-3), 2) := by decide +kernel
theorem d_P_carry_169 : decode prog_1_method_37_code 169 = .ok (.ireturn, 1) := by decide +kernel
theorem d_P_carryOut_0 : decode prog_1_method_36_code 0 = .ok (.aload_n 0, 1) := by decide +kernel
theorem d_P_carryOut_1 : decode prog_1_method_36_code 1 = .ok (.getfield 36, 3) := by decide +kernel
theorem d_P_carryOut_4 : decode prog_1_method_36_code 4 = .ok (.invokevirtual 307, 3) := by decide +kernel
theorem d_P_carryOut_7 : decode prog_1_method_36_code 7 = .ok (.bipush (-6), 2) := by decide +kernel
theorem d_P_carryOut_9 : decode prog_1_method_36_code 9 = .ok (.if_icmp .eq 6, 3) := by decide +kernel
theorem d_P_carryOut_12 : decode prog_1_method_36_code 12 = .ok (.bipush (-3), 2) := by decide +kernel
theorem d_P_carryOut_14 : decode prog_1_method_36_code 14 = .ok (.ireturn, 1) := by decide +kernel
theorem d_P_carryOut_15 : decode prog_1_method_36_code 15 = .ok (.aload_n 0, 1) := by decide +kernel
theorem d_P_carryOut_16 : decode prog_1_method_36_code 16 = .ok (.getfield 29, 3) := by decide +kernel
theorem d_P_carryOut_19 : decode prog_1_method_36_code 19 = .ok (.aload_n 0, 1) := by decide +kernel
theorem d_P_carryOut_20 : decode prog_1_method_36_code 20 = .ok (.getfield 10, 3) := by decide +kernel
theorem d_P_carryOut_23 : decode prog_1_method_36_code 23 = .ok (.invokevirtual 55, 3) := by decide +kernel
theorem d_P_carryOut_26 : decode prog_1_method_36_code 26 = .ok (.iconst 0, 1) := by decide +kernel
theorem d_P_carryOut_27 : decode prog_1_method_36_code 27 = .ok (.istore_n 1, 1) := by decide +kernel
theorem d_P_carryOut_28 : decode prog_1_method_36_code 28 = .ok (.iload_n 1, 1) := by decide +kernel
theorem d_P_carryOut_29 : decode prog_1_method_36_code 29 = .ok (.aload_n 0, 1) := by decide +kernel
theorem d_P_carryOut_30 : decode prog_1_method_36_code 30 = .ok (.getfield 36, 3) := by decide +kernel
theorem d_P_carryOut_33 : decode prog_1_method_36_code 33 = .ok (.getfield 310, 3) := by decide +kernel
theorem d_P_carryOut_36 : decode prog_1_method_36_code 36 = .ok (.if_icmp .ge 20, 3) := by decide +kernel
theorem d_P_carryOut_39 : decode prog_1_method_36_code 39 = .ok (.aload_n 0, 1) := by decide +kernel
theorem d_P_carryOut_40 : decode prog_1_method_36_code 40 = .ok (.iload_n 1, 1) := by decide +kernel
theorem d_P_carryOut_41 : decode prog_1_method_36_code 41 = .ok (.invokevirtual 313, 3) := by decide +kernel
theorem d_P_carryOut_44 : decode prog_1_method_36_code 44 = .ok (.invokestatic 316, 3) := by decide +kernel
theorem d_P_carryOut_47 : decode prog_1_method_36_code 47 = .ok (.ifCond .ne 9, 3) := by decide +kernel
theorem d_P_carryOut_50 : decode prog_1_method_36_code 50 = .ok (.iinc 1 1, 3) := by decide +kernel
theorem d_P_carryOut_53 : decode prog_1_method_36_code 53 = .ok (.goto (-25), 3) := by decide +kernel
theorem d_P_carryOut_56 : decode prog_1_method_36_code 56 = .ok (.aload_n 0, 1) := by decide +kernel
theorem d_P_carryOut_57 : decode prog_1_method_36_code 57 = .ok (.getfield 36, 3) := by decide +kernel
theorem d_P_carryOut_60 : decode prog_1_method_36_code 60 = .ok (.invokevirtual 304, 3) := by decide +kernel
theorem d_P_carryOut_63 : decode prog_1_method_36_code 63 = .ok (.pop, 1) := by decide +kernel
theorem d_P_carryOut_64 : decode prog_1_method_36_code 64 = .ok (.aload_n 0, 1) := by decide +kernel
theorem d_P_carryOut_65 : decode prog_1_method_36_code 65 = .ok (.getfield 29, 3) := by decide +kernel
theorem d_P_carryOut_68 : decode prog_1_method_36_code 68 = .ok (.iload_n 1, 1) := by decide +kernel
theorem d_P_carryOut_69 : decode prog_1_method_36_code 69 = .ok (.invokevirtual 63, 3) := by decide +kernel
theorem d_P_carryOut_72 : decode prog_1_method_36_code 72 = .ok (.ireturn, 1) := by decide +kernel
theorem d_P_undo_0 : decode prog_1_method_38_code 0 = .ok (.aload_n 0, 1) := by decide +kernel
theorem d_P_undo_1 : decode prog_1_method_38_code 1 = .ok (.getfield 29, 3) := by decide +kernel
theorem d_P_undo_4 : decode prog_1_method_38_code 4 = .ok (.aload_n 0, 1) := by decide +kernel
theorem d_P_undo_5 : decode prog_1_method_38_code 5 = .ok (.getfield 10, 3) := by decide +kernel
theorem d_P_undo_8 : decode prog_1_method_38_code 8 = .ok (.invokevirtual 329, 3) := by decide +kernel
theorem d_P_undo_11 : decode prog_1_method_38_code 11 = .ok (.ireturn, 1) := by decide +kernel
theorem d_P_save_0 : decode prog_1_method_39_code 0 = .ok (.iload_n 1, 1) := by decide +kernel
theorem d_P_save_1 : decode prog_1_method_39_code 1 = .ok (.ifCond .lt 8, 3) := by decide +kernel
theorem d_P_save_4 : decode prog_1_method_39_code 4 = .ok (.iload_n 1, 1) := by decide +kernel
theorem d_P_save_5 : decode prog_1_method_39_code 5 = .ok (.iconst 2, 1) := by decide +kernel
theorem d_P_save_6 : decode prog_1_method_39_code 6 = .ok (.if_icmp .lt 6, 3) := by decide +kernel
theorem d_P_save_9 : decode prog_1_method_39_code 9 = .ok (.bipush (-2), 2) := by decide +kernel
theorem d_P_save_11 : decode prog_1_method_39_code 11 = .ok (.ireturn, 1) := by decide +kernel
theorem d_P_save_12 : decode prog_1_method_39_code 12 = .ok (.aload_n 0, 1) := by decide +kernel
theorem d_P_save_13 : decode prog_1_method_39_code 13 = .ok (.getfield 40, 3) := by decide +kernel
theorem d_P_save_16 : decode prog_1_method_39_code 16 = .ok (.iload_n 1, 1) := by decide +kernel
theorem d_P_save_17 : decode prog_1_method_39_code 17 = .ok (.aaload, 1) := by decide +kernel
theorem d_P_save_18 : decode prog_1_method_39_code 18 = .ok (.aload_n 0, 1) := by decide +kernel
theorem d_P_save_19 : decode prog_1_method_39_code 19 = .ok (.getfield 10, 3) := by decide +kernel
theorem d_P_save_22 : decode prog_1_method_39_code 22 = .ok (.invokevirtual 256, 3) := by decide +kernel
theorem d_P_save_25 : decode prog_1_method_39_code 25 = .ok (.aload_n 0, 1) := by decide +kernel
theorem d_P_save_26 : decode prog_1_method_39_code 26 = .ok (.getfield 44, 3) := by decide +kernel
theorem d_P_save_29 : decode prog_1_method_39_code 29 = .ok (.iload_n 1, 1) := by decide +kernel
theorem d_P_save_30 : decode prog_1_method_39_code 30 = .ok (.iconst 1, 1) := by decide +kernel
theorem d_P_save_31 : decode prog_1_method_39_code 31 = .ok (.bastore, 1) := by decide +kernel
theorem d_P_save_32 : decode prog_1_method_39_code 32 = .ok (.aload_n 0, 1) := by decide +kernel
theorem d_P_save_33 : decode prog_1_method_39_code 33 = .ok (.getfield 10, 3) := by decide +kernel
theorem d_P_save_36 : decode prog_1_method_39_code 36 = .ok (.getfield 202, 3) := by decide +kernel
theorem d_P_save_39 : decode prog_1_method_39_code 39 = .ok (.ireturn, 1) := by decide +kernel
theorem d_P_restore_0 : decode prog_1_method_40_code 0 = .ok (.iload_n 1, 1) := by decide +kernel
theorem d_P_restore_1 : decode prog_1_method_40_code 1 = .ok (.ifCond .lt 8, 3) := by decide +kernel
theorem d_P_restore_4 : decode prog_1_method_40_code 4 = .ok (.iload_n 1, 1) := by decide +kernel
theorem d_P_restore_5 : decode prog_1_method_40_code 5 = .ok (.iconst 2, 1) := by decide +kernel
theorem d_P_restore_6 : decode prog_1_method_40_code 6 = .ok (.if_icmp .lt 6, 3) := by decide +kernel
theorem d_P_restore_9 : decode prog_1_method_40_code 9 = .ok (.bipush (-2), 2) := by decide +kernel
theorem d_P_restore_11 : decode prog_1_method_40_code 11 = .ok (.ireturn, 1) := by decide +kernel
theorem d_P_restore_12 : decode prog_1_method_40_code 12 = .ok (.aload_n 0, 1) := by decide +kernel
theorem d_P_restore_13 : decode prog_1_method_40_code 13 = .ok (.getfield 44, 3) := by decide +kernel
theorem d_P_restore_16 : decode prog_1_method_40_code 16 = .ok (.iload_n 1, 1) := by decide +kernel
theorem d_P_restore_17 : decode prog_1_method_40_code 17 = .ok (.baload, 1) := by decide +kernel
theorem d_P_restore_18 : decode prog_1_method_40_code 18 = .ok (.ifCond .ne 6, 3) := by decide +kernel
theorem d_P_restore_21 : decode prog_1_method_40_code 21 = .ok (.bipush (-5), 2) := by decide +kernel
theorem d_P_restore_23 : decode prog_1_method_40_code 23 = .ok (.ireturn, 1) := by decide +kernel
theorem d_P_restore_24 : decode prog_1_method_40_code 24 = .ok (.aload_n 0, 1) := by decide +kernel
theorem d_P_restore_25 : decode prog_1_method_40_code 25 = .ok (.getfield 29, 3) := by decide +kernel
theorem d_P_restore_28 : decode prog_1_method_40_code 28 = .ok (.aload_n 0, 1) := by decide +kernel
theorem d_P_restore_29 : decode prog_1_method_40_code 29 = .ok (.getfield 10, 3) := by decide +kernel
theorem d_P_restore_32 : decode prog_1_method_40_code 32 = .ok (.invokevirtual 55, 3) := by decide +kernel
theorem d_P_restore_35 : decode prog_1_method_40_code 35 = .ok (.aload_n 0, 1) := by decide +kernel
theorem d_P_restore_36 : decode prog_1_method_40_code 36 = .ok (.getfield 10, 3) := by decide +kernel
theorem d_P_restore_39 : decode prog_1_method_40_code 39 = .ok (.aload_n 0, 1) := by decide +kernel
theorem d_P_restore_40 : decode prog_1_method_40_code 40 = .ok (.getfield 40, 3) := by decide +kernel
theorem d_P_restore_43 : decode prog_1_method_40_code 43 = .ok (.iload_n 1, 1) := by decide +kernel
theorem d_P_restore_44 : decode prog_1_method_40_code 44 = .ok (.aaload, 1) := by decide +kernel
theorem d_P_restore_45 : decode prog_1_method_40_code 45 = .ok (.invokevirtual 256, 3) := by decide +kernel
theorem d_P_restore_48 : decode prog_1_method_40_code 48 = .ok (.aload_n 0, 1) := by decide +kernel
theorem d_P_restore_49 : decode prog_1_method_40_code 49 = .ok (.getfield 29, 3) := by decide +kernel
theorem d_P_restore_52 : decode prog_1_method_40_code 52 = .ok (.aload_n 0, 1) := by decide +kernel
theorem d_P_restore_53 : decode prog_1_method_40_code 53 = .ok (.getfield 10, 3) := by decide +kernel
theorem d_P_restore_56 : decode prog_1_method_40_code 56 = .ok (.getfield 202, 3) := by decide +kernel
theorem d_P_restore_59 : decode prog_1_method_40_code 59 = .ok (.invokevirtual 63, 3) := by decide +kernel
theorem d_P_restore_62 : decode prog_1_method_40_code 62 = .ok (.ireturn, 1) := by decide +kernel
