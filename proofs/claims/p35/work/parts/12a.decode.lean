/-! DECODE rows: printed by wip/p35/emit.py. -/
theorem d_V_init_0 : decode prog_6_method_1_code 0 = .ok (.aload_n 0, 1) := by decide +kernel
theorem d_V_init_1 : decode prog_6_method_1_code 1 = .ok (.invokespecial 3, 3) := by decide +kernel
theorem d_V_init_4 : decode prog_6_method_1_code 4 = .ok (.aload_n 0, 1) := by decide +kernel
theorem d_V_init_5 : decode prog_6_method_1_code 5 = .ok (.bipush 20, 2) := by decide +kernel
theorem d_V_init_7 : decode prog_6_method_1_code 7 = .ok (.newarray .int, 2) := by decide +kernel
theorem d_V_init_9 : decode prog_6_method_1_code 9 = .ok (.putfield 9, 3) := by decide +kernel
theorem d_V_init_12 : decode prog_6_method_1_code 12 = .ok (.aload_n 0, 1) := by decide +kernel
theorem d_V_init_13 : decode prog_6_method_1_code 13 = .ok (.bipush 20, 2) := by decide +kernel
theorem d_V_init_15 : decode prog_6_method_1_code 15 = .ok (.newarray .int, 2) := by decide +kernel
theorem d_V_init_17 : decode prog_6_method_1_code 17 = .ok (.putfield 15, 3) := by decide +kernel
theorem d_V_init_20 : decode prog_6_method_1_code 20 = .ok (.aload_n 0, 1) := by decide +kernel
theorem d_V_init_21 : decode prog_6_method_1_code 21 = .ok (.bipush 20, 2) := by decide +kernel
theorem d_V_init_23 : decode prog_6_method_1_code 23 = .ok (.newarray .int, 2) := by decide +kernel
theorem d_V_init_25 : decode prog_6_method_1_code 25 = .ok (.putfield 18, 3) := by decide +kernel
theorem d_V_init_28 : decode prog_6_method_1_code 28 = .ok (.return_, 1) := by decide +kernel
theorem d_I_init_0 : decode prog_5_method_1_code 0 = .ok (.aload_n 0, 1) := by decide +kernel
theorem d_I_init_1 : decode prog_5_method_1_code 1 = .ok (.invokespecial 3, 3) := by decide +kernel
theorem d_I_init_4 : decode prog_5_method_1_code 4 = .ok (.aload_n 0, 1) := by decide +kernel
theorem d_I_init_5 : decode prog_5_method_1_code 5 = .ok (.bipush 6, 2) := by decide +kernel
theorem d_I_init_7 : decode prog_5_method_1_code 7 = .ok (.newarray .int, 2) := by decide +kernel
theorem d_I_init_9 : decode prog_5_method_1_code 9 = .ok (.putfield 9, 3) := by decide +kernel
theorem d_I_init_12 : decode prog_5_method_1_code 12 = .ok (.aload_n 0, 1) := by decide +kernel
theorem d_I_init_13 : decode prog_5_method_1_code 13 = .ok (.bipush 12, 2) := by decide +kernel
theorem d_I_init_15 : decode prog_5_method_1_code 15 = .ok (.newarray .int, 2) := by decide +kernel
theorem d_I_init_17 : decode prog_5_method_1_code 17 = .ok (.putfield 15, 3) := by decide +kernel
theorem d_I_init_20 : decode prog_5_method_1_code 20 = .ok (.aload_n 0, 1) := by decide +kernel
theorem d_I_init_21 : decode prog_5_method_1_code 21 = .ok (.bipush 12, 2) := by decide +kernel
theorem d_I_init_23 : decode prog_5_method_1_code 23 = .ok (.newarray .int, 2) := by decide +kernel
theorem d_I_init_25 : decode prog_5_method_1_code 25 = .ok (.putfield 18, 3) := by decide +kernel
theorem d_I_init_28 : decode prog_5_method_1_code 28 = .ok (.aload_n 0, 1) := by decide +kernel
theorem d_I_init_29 : decode prog_5_method_1_code 29 = .ok (.bipush 12, 2) := by decide +kernel
theorem d_I_init_31 : decode prog_5_method_1_code 31 = .ok (.newarray .int, 2) := by decide +kernel
theorem d_I_init_33 : decode prog_5_method_1_code 33 = .ok (.putfield 21, 3) := by decide +kernel
theorem d_I_init_36 : decode prog_5_method_1_code 36 = .ok (.return_, 1) := by decide +kernel
theorem d_C_init_0 : decode prog_2_method_1_code 0 = .ok (.aload_n 0, 1) := by decide +kernel
theorem d_C_init_1 : decode prog_2_method_1_code 1 = .ok (.invokespecial 3, 3) := by decide +kernel
theorem d_C_init_4 : decode prog_2_method_1_code 4 = .ok (.aload_n 0, 1) := by decide +kernel
theorem d_C_init_5 : decode prog_2_method_1_code 5 = .ok (.bipush (-6), 2) := by decide +kernel
theorem d_C_init_7 : decode prog_2_method_1_code 7 = .ok (.putfield 9, 3) := by decide +kernel
theorem d_C_init_10 : decode prog_2_method_1_code 10 = .ok (.aload_n 0, 1) := by decide +kernel
theorem d_C_init_11 : decode prog_2_method_1_code 11 = .ok (.bipush 6, 2) := by decide +kernel
theorem d_C_init_13 : decode prog_2_method_1_code 13 = .ok (.newarray .int, 2) := by decide +kernel
theorem d_C_init_15 : decode prog_2_method_1_code 15 = .ok (.putfield 15, 3) := by decide +kernel
theorem d_C_init_18 : decode prog_2_method_1_code 18 = .ok (.aload_n 0, 1) := by decide +kernel
theorem d_C_init_19 : decode prog_2_method_1_code 19 = .ok (.bipush 12, 2) := by decide +kernel
theorem d_C_init_21 : decode prog_2_method_1_code 21 = .ok (.newarray .int, 2) := by decide +kernel
theorem d_C_init_23 : decode prog_2_method_1_code 23 = .ok (.putfield 19, 3) := by decide +kernel
theorem d_C_init_26 : decode prog_2_method_1_code 26 = .ok (.aload_n 0, 1) := by decide +kernel
theorem d_C_init_27 : decode prog_2_method_1_code 27 = .ok (.bipush 12, 2) := by decide +kernel
theorem d_C_init_29 : decode prog_2_method_1_code 29 = .ok (.newarray .int, 2) := by decide +kernel
theorem d_C_init_31 : decode prog_2_method_1_code 31 = .ok (.putfield 22, 3) := by decide +kernel
theorem d_C_init_34 : decode prog_2_method_1_code 34 = .ok (.aload_n 0, 1) := by decide +kernel
theorem d_C_init_35 : decode prog_2_method_1_code 35 = .ok (.bipush 12, 2) := by decide +kernel
theorem d_C_init_37 : decode prog_2_method_1_code 37 = .ok (.newarray .int, 2) := by decide +kernel
theorem d_C_init_39 : decode prog_2_method_1_code 39 = .ok (.putfield 25, 3) := by decide +kernel
theorem d_C_init_42 : decode prog_2_method_1_code 42 = .ok (.aload_n 0, 1) := by decide +kernel
theorem d_C_init_43 : decode prog_2_method_1_code 43 = .ok (.bipush 12, 2) := by decide +kernel
theorem d_C_init_45 : decode prog_2_method_1_code 45 = .ok (.anewarray 28, 3) := by decide +kernel
theorem d_C_init_48 : decode prog_2_method_1_code 48 = .ok (.putfield 30, 3) := by decide +kernel
theorem d_C_init_51 : decode prog_2_method_1_code 51 = .ok (.aload_n 0, 1) := by decide +kernel
theorem d_C_init_52 : decode prog_2_method_1_code 52 = .ok (.new 34, 3) := by decide +kernel
theorem d_C_init_55 : decode prog_2_method_1_code 55 = .ok (.dup, 1) := by decide +kernel
theorem d_C_init_56 : decode prog_2_method_1_code 56 = .ok (.invokespecial 36, 3) := by decide +kernel
theorem d_C_init_59 : decode prog_2_method_1_code 59 = .ok (.putfield 37, 3) := by decide +kernel
theorem d_C_init_62 : decode prog_2_method_1_code 62 = .ok (.getstatic 41, 3) := by decide +kernel
theorem d_C_init_65 : decode prog_2_method_1_code 65 = .ok (.iconst 0, 1) := by decide +kernel
theorem d_C_init_66 : decode prog_2_method_1_code 66 = .ok (.aload_n 0, 1) := by decide +kernel
theorem d_C_init_67 : decode prog_2_method_1_code 67 = .ok (.getfield 15, 3) := by decide +kernel
theorem d_C_init_70 : decode prog_2_method_1_code 70 = .ok (.iconst 0, 1) := by decide +kernel
theorem d_C_init_71 : decode prog_2_method_1_code 71 = .ok (.bipush 6, 2) := by decide +kernel
theorem d_C_init_73 : decode prog_2_method_1_code 73 = .ok (.invokestatic 44, 3) := by decide +kernel
theorem d_C_init_76 : decode prog_2_method_1_code 76 = .ok (.iconst 0, 1) := by decide +kernel
theorem d_C_init_77 : decode prog_2_method_1_code 77 = .ok (.istore_n 1, 1) := by decide +kernel
theorem d_C_init_78 : decode prog_2_method_1_code 78 = .ok (.iload_n 1, 1) := by decide +kernel
theorem d_C_init_79 : decode prog_2_method_1_code 79 = .ok (.bipush 12, 2) := by decide +kernel
theorem d_C_init_81 : decode prog_2_method_1_code 81 = .ok (.if_icmp .ge 22, 3) := by decide +kernel
theorem d_C_init_84 : decode prog_2_method_1_code 84 = .ok (.aload_n 0, 1) := by decide +kernel
theorem d_C_init_85 : decode prog_2_method_1_code 85 = .ok (.getfield 30, 3) := by decide +kernel
theorem d_C_init_88 : decode prog_2_method_1_code 88 = .ok (.iload_n 1, 1) := by decide +kernel
theorem d_C_init_89 : decode prog_2_method_1_code 89 = .ok (.new 28, 3) := by decide +kernel
theorem d_C_init_92 : decode prog_2_method_1_code 92 = .ok (.dup, 1) := by decide +kernel
theorem d_C_init_93 : decode prog_2_method_1_code 93 = .ok (.invokespecial 50, 3) := by decide +kernel
theorem d_C_init_96 : decode prog_2_method_1_code 96 = .ok (.aastore, 1) := by decide +kernel
theorem d_C_init_97 : decode prog_2_method_1_code 97 = .ok (.iinc 1 1, 3) := by decide +kernel
theorem d_C_init_100 : decode prog_2_method_1_code 100 = .ok (.goto (-22), 3) := by decide +kernel
theorem d_C_init_103 : decode prog_2_method_1_code 103 = .ok (.return_, 1) := by decide +kernel
theorem d_H_init_0 : decode prog_3_method_1_code 0 = .ok (.aload_n 0, 1) := by decide +kernel
theorem d_H_init_1 : decode prog_3_method_1_code 1 = .ok (.invokespecial 3, 3) := by decide +kernel
theorem d_H_init_4 : decode prog_3_method_1_code 4 = .ok (.aload_n 0, 1) := by decide +kernel
theorem d_H_init_5 : decode prog_3_method_1_code 5 = .ok (.bipush 12, 2) := by decide +kernel
theorem d_H_init_7 : decode prog_3_method_1_code 7 = .ok (.newarray .int, 2) := by decide +kernel
theorem d_H_init_9 : decode prog_3_method_1_code 9 = .ok (.putfield 9, 3) := by decide +kernel
theorem d_H_init_12 : decode prog_3_method_1_code 12 = .ok (.aload_n 0, 1) := by decide +kernel
theorem d_H_init_13 : decode prog_3_method_1_code 13 = .ok (.bipush 12, 2) := by decide +kernel
theorem d_H_init_15 : decode prog_3_method_1_code 15 = .ok (.newarray .int, 2) := by decide +kernel
theorem d_H_init_17 : decode prog_3_method_1_code 17 = .ok (.putfield 15, 3) := by decide +kernel
theorem d_H_init_20 : decode prog_3_method_1_code 20 = .ok (.aload_n 0, 1) := by decide +kernel
theorem d_H_init_21 : decode prog_3_method_1_code 21 = .ok (.bipush 6, 2) := by decide +kernel
theorem d_H_init_23 : decode prog_3_method_1_code 23 = .ok (.newarray .int, 2) := by decide +kernel
theorem d_H_init_25 : decode prog_3_method_1_code 25 = .ok (.putfield 18, 3) := by decide +kernel
theorem d_H_init_28 : decode prog_3_method_1_code 28 = .ok (.return_, 1) := by decide +kernel
theorem d_Y_init_0 : decode prog_4_method_1_code 0 = .ok (.aload_n 0, 1) := by decide +kernel
theorem d_Y_init_1 : decode prog_4_method_1_code 1 = .ok (.invokespecial 3, 3) := by decide +kernel
theorem d_Y_init_4 : decode prog_4_method_1_code 4 = .ok (.aload_n 0, 1) := by decide +kernel
theorem d_Y_init_5 : decode prog_4_method_1_code 5 = .ok (.bipush 7, 2) := by decide +kernel
theorem d_Y_init_7 : decode prog_4_method_1_code 7 = .ok (.anewarray 9, 3) := by decide +kernel
theorem d_Y_init_10 : decode prog_4_method_1_code 10 = .ok (.putfield 11, 3) := by decide +kernel
theorem d_Y_init_13 : decode prog_4_method_1_code 13 = .ok (.iconst 0, 1) := by decide +kernel
theorem d_Y_init_14 : decode prog_4_method_1_code 14 = .ok (.istore_n 1, 1) := by decide +kernel
theorem d_Y_init_15 : decode prog_4_method_1_code 15 = .ok (.iload_n 1, 1) := by decide +kernel
theorem d_Y_init_16 : decode prog_4_method_1_code 16 = .ok (.aload_n 0, 1) := by decide +kernel
theorem d_Y_init_17 : decode prog_4_method_1_code 17 = .ok (.getfield 11, 3) := by decide +kernel
theorem d_Y_init_20 : decode prog_4_method_1_code 20 = .ok (.arraylength, 1) := by decide +kernel
theorem d_Y_init_21 : decode prog_4_method_1_code 21 = .ok (.if_icmp .ge 22, 3) := by decide +kernel
theorem d_Y_init_24 : decode prog_4_method_1_code 24 = .ok (.aload_n 0, 1) := by decide +kernel
theorem d_Y_init_25 : decode prog_4_method_1_code 25 = .ok (.getfield 11, 3) := by decide +kernel
theorem d_Y_init_28 : decode prog_4_method_1_code 28 = .ok (.iload_n 1, 1) := by decide +kernel
theorem d_Y_init_29 : decode prog_4_method_1_code 29 = .ok (.new 9, 3) := by decide +kernel
theorem d_Y_init_32 : decode prog_4_method_1_code 32 = .ok (.dup, 1) := by decide +kernel
theorem d_Y_init_33 : decode prog_4_method_1_code 33 = .ok (.invokespecial 17, 3) := by decide +kernel
theorem d_Y_init_36 : decode prog_4_method_1_code 36 = .ok (.aastore, 1) := by decide +kernel
theorem d_Y_init_37 : decode prog_4_method_1_code 37 = .ok (.iinc 1 1, 3) := by decide +kernel
theorem d_Y_init_40 : decode prog_4_method_1_code 40 = .ok (.goto (-25), 3) := by decide +kernel
theorem d_Y_init_43 : decode prog_4_method_1_code 43 = .ok (.return_, 1) := by decide +kernel
theorem d_D_init_0 : decode prog_7_method_1_code 0 = .ok (.aload_n 0, 1) := by decide +kernel
theorem d_D_init_1 : decode prog_7_method_1_code 1 = .ok (.invokespecial 3, 3) := by decide +kernel
theorem d_D_init_4 : decode prog_7_method_1_code 4 = .ok (.aload_n 0, 1) := by decide +kernel
theorem d_D_init_5 : decode prog_7_method_1_code 5 = .ok (.bipush 80, 2) := by decide +kernel
theorem d_D_init_7 : decode prog_7_method_1_code 7 = .ok (.newarray .char, 2) := by decide +kernel
theorem d_D_init_9 : decode prog_7_method_1_code 9 = .ok (.putfield 9, 3) := by decide +kernel
theorem d_D_init_12 : decode prog_7_method_1_code 12 = .ok (.aload_n 0, 1) := by decide +kernel
theorem d_D_init_13 : decode prog_7_method_1_code 13 = .ok (.bipush 80, 2) := by decide +kernel
theorem d_D_init_15 : decode prog_7_method_1_code 15 = .ok (.newarray .char, 2) := by decide +kernel
theorem d_D_init_17 : decode prog_7_method_1_code 17 = .ok (.putfield 15, 3) := by decide +kernel
theorem d_D_init_20 : decode prog_7_method_1_code 20 = .ok (.aload_n 0, 1) := by decide +kernel
theorem d_D_init_21 : decode prog_7_method_1_code 21 = .ok (.bipush 80, 2) := by decide +kernel
theorem d_D_init_23 : decode prog_7_method_1_code 23 = .ok (.newarray .int, 2) := by decide +kernel
theorem d_D_init_25 : decode prog_7_method_1_code 25 = .ok (.putfield 18, 3) := by decide +kernel
theorem d_D_init_28 : decode prog_7_method_1_code 28 = .ok (.aload_n 0, 1) := by decide +kernel
theorem d_D_init_29 : decode prog_7_method_1_code 29 = .ok (.bipush 80, 2) := by decide +kernel
theorem d_D_init_31 : decode prog_7_method_1_code 31 = .ok (.newarray .int, 2) := by decide +kernel
theorem d_D_init_33 : decode prog_7_method_1_code 33 = .ok (.putfield 22, 3) := by decide +kernel
theorem d_D_init_36 : decode prog_7_method_1_code 36 = .ok (.return_, 1) := by decide +kernel
theorem d_I_copyFrom_0 : decode prog_5_method_3_code 0 = .ok (.aload_n 0, 1) := by decide +kernel
theorem d_I_copyFrom_1 : decode prog_5_method_3_code 1 = .ok (.aload_n 1, 1) := by decide +kernel
theorem d_I_copyFrom_2 : decode prog_5_method_3_code 2 = .ok (.getfield 24, 3) := by decide +kernel
theorem d_I_copyFrom_5 : decode prog_5_method_3_code 5 = .ok (.putfield 24, 3) := by decide +kernel
theorem d_I_copyFrom_8 : decode prog_5_method_3_code 8 = .ok (.aload_n 0, 1) := by decide +kernel
theorem d_I_copyFrom_9 : decode prog_5_method_3_code 9 = .ok (.aload_n 1, 1) := by decide +kernel
theorem d_I_copyFrom_10 : decode prog_5_method_3_code 10 = .ok (.getfield 28, 3) := by decide +kernel
theorem d_I_copyFrom_13 : decode prog_5_method_3_code 13 = .ok (.putfield 28, 3) := by decide +kernel
theorem d_I_copyFrom_16 : decode prog_5_method_3_code 16 = .ok (.aload_n 0, 1) := by decide +kernel
theorem d_I_copyFrom_17 : decode prog_5_method_3_code 17 = .ok (.aload_n 1, 1) := by decide +kernel
theorem d_I_copyFrom_18 : decode prog_5_method_3_code 18 = .ok (.getfield 31, 3) := by decide +kernel
theorem d_I_copyFrom_21 : decode prog_5_method_3_code 21 = .ok (.putfield 31, 3) := by decide +kernel
theorem d_I_copyFrom_24 : decode prog_5_method_3_code 24 = .ok (.aload_n 0, 1) := by decide +kernel
theorem d_I_copyFrom_25 : decode prog_5_method_3_code 25 = .ok (.aload_n 1, 1) := by decide +kernel
theorem d_I_copyFrom_26 : decode prog_5_method_3_code 26 = .ok (.getfield 34, 3) := by decide +kernel
theorem d_I_copyFrom_29 : decode prog_5_method_3_code 29 = .ok (.putfield 34, 3) := by decide +kernel
theorem d_I_copyFrom_32 : decode prog_5_method_3_code 32 = .ok (.aload_n 0, 1) := by decide +kernel
theorem d_I_copyFrom_33 : decode prog_5_method_3_code 33 = .ok (.aload_n 1, 1) := by decide +kernel
theorem d_I_copyFrom_34 : decode prog_5_method_3_code 34 = .ok (.getfield 37, 3) := by decide +kernel
theorem d_I_copyFrom_37 : decode prog_5_method_3_code 37 = .ok (.putfield 37, 3) := by decide +kernel
theorem d_I_copyFrom_40 : decode prog_5_method_3_code 40 = .ok (.aload_n 0, 1) := by decide +kernel
theorem d_I_copyFrom_41 : decode prog_5_method_3_code 41 = .ok (.aload_n 1, 1) := by decide +kernel
theorem d_I_copyFrom_42 : decode prog_5_method_3_code 42 = .ok (.getfield 40, 3) := by decide +kernel
theorem d_I_copyFrom_45 : decode prog_5_method_3_code 45 = .ok (.putfield 40, 3) := by decide +kernel
theorem d_I_copyFrom_48 : decode prog_5_method_3_code 48 = .ok (.aload_n 1, 1) := by decide +kernel
theorem d_I_copyFrom_49 : decode prog_5_method_3_code 49 = .ok (.getfield 9, 3) := by decide +kernel
theorem d_I_copyFrom_52 : decode prog_5_method_3_code 52 = .ok (.iconst 0, 1) := by decide +kernel
theorem d_I_copyFrom_53 : decode prog_5_method_3_code 53 = .ok (.aload_n 0, 1) := by decide +kernel
theorem d_I_copyFrom_54 : decode prog_5_method_3_code 54 = .ok (.getfield 9, 3) := by decide +kernel
theorem d_I_copyFrom_57 : decode prog_5_method_3_code 57 = .ok (.iconst 0, 1) := by decide +kernel
theorem d_I_copyFrom_58 : decode prog_5_method_3_code 58 = .ok (.bipush 6, 2) := by decide +kernel
theorem d_I_copyFrom_60 : decode prog_5_method_3_code 60 = .ok (.invokestatic 49, 3) := by decide +kernel
theorem d_I_copyFrom_63 : decode prog_5_method_3_code 63 = .ok (.aload_n 1, 1) := by decide +kernel
theorem d_I_copyFrom_64 : decode prog_5_method_3_code 64 = .ok (.getfield 15, 3) := by decide +kernel
theorem d_I_copyFrom_67 : decode prog_5_method_3_code 67 = .ok (.iconst 0, 1) := by decide +kernel
theorem d_I_copyFrom_68 : decode prog_5_method_3_code 68 = .ok (.aload_n 0, 1) := by decide +kernel
theorem d_I_copyFrom_69 : decode prog_5_method_3_code 69 = .ok (.getfield 15, 3) := by decide +kernel
theorem d_I_copyFrom_72 : decode prog_5_method_3_code 72 = .ok (.iconst 0, 1) := by decide +kernel
theorem d_I_copyFrom_73 : decode prog_5_method_3_code 73 = .ok (.bipush 12, 2) := by decide +kernel
theorem d_I_copyFrom_75 : decode prog_5_method_3_code 75 = .ok (.invokestatic 49, 3) := by decide +kernel
theorem d_I_copyFrom_78 : decode prog_5_method_3_code 78 = .ok (.aload_n 1, 1) := by decide +kernel
theorem d_I_copyFrom_79 : decode prog_5_method_3_code 79 = .ok (.getfield 18, 3) := by decide +kernel
theorem d_I_copyFrom_82 : decode prog_5_method_3_code 82 = .ok (.iconst 0, 1) := by decide +kernel
theorem d_I_copyFrom_83 : decode prog_5_method_3_code 83 = .ok (.aload_n 0, 1) := by decide +kernel
theorem d_I_copyFrom_84 : decode prog_5_method_3_code 84 = .ok (.getfield 18, 3) := by decide +kernel
theorem d_I_copyFrom_87 : decode prog_5_method_3_code 87 = .ok (.iconst 0, 1) := by decide +kernel
theorem d_I_copyFrom_88 : decode prog_5_method_3_code 88 = .ok (.bipush 12, 2) := by decide +kernel
theorem d_I_copyFrom_90 : decode prog_5_method_3_code 90 = .ok (.invokestatic 49, 3) := by decide +kernel
theorem d_I_copyFrom_93 : decode prog_5_method_3_code 93 = .ok (.aload_n 1, 1) := by decide +kernel
theorem d_I_copyFrom_94 : decode prog_5_method_3_code 94 = .ok (.getfield 21, 3) := by decide +kernel
theorem d_I_copyFrom_97 : decode prog_5_method_3_code 97 = .ok (.iconst 0, 1) := by decide +kernel
theorem d_I_copyFrom_98 : decode prog_5_method_3_code 98 = .ok (.aload_n 0, 1) := by decide +kernel
theorem d_I_copyFrom_99 : decode prog_5_method_3_code 99 = .ok (.getfield 21, 3) := by decide +kernel
theorem d_I_copyFrom_102 : decode prog_5_method_3_code 102 = .ok (.iconst 0, 1) := by decide +kernel
theorem d_I_copyFrom_103 : decode prog_5_method_3_code 103 = .ok (.bipush 12, 2) := by decide +kernel
theorem d_I_copyFrom_105 : decode prog_5_method_3_code 105 = .ok (.invokestatic 49, 3) := by decide +kernel
theorem d_I_copyFrom_108 : decode prog_5_method_3_code 108 = .ok (.return_, 1) := by decide +kernel
theorem d_V_copyFrom_0 : decode prog_6_method_5_code 0 = .ok (.aload_n 0, 1) := by decide +kernel
theorem d_V_copyFrom_1 : decode prog_6_method_5_code 1 = .ok (.aload_n 1, 1) := by decide +kernel
theorem d_V_copyFrom_2 : decode prog_6_method_5_code 2 = .ok (.getfield 21, 3) := by decide +kernel
theorem d_V_copyFrom_5 : decode prog_6_method_5_code 5 = .ok (.putfield 21, 3) := by decide +kernel
theorem d_V_copyFrom_8 : decode prog_6_method_5_code 8 = .ok (.aload_n 1, 1) := by decide +kernel
theorem d_V_copyFrom_9 : decode prog_6_method_5_code 9 = .ok (.getfield 9, 3) := by decide +kernel
theorem d_V_copyFrom_12 : decode prog_6_method_5_code 12 = .ok (.iconst 0, 1) := by decide +kernel
theorem d_V_copyFrom_13 : decode prog_6_method_5_code 13 = .ok (.aload_n 0, 1) := by decide +kernel
theorem d_V_copyFrom_14 : decode prog_6_method_5_code 14 = .ok (.getfield 9, 3) := by decide +kernel
theorem d_V_copyFrom_17 : decode prog_6_method_5_code 17 = .ok (.iconst 0, 1) := by decide +kernel
theorem d_V_copyFrom_18 : decode prog_6_method_5_code 18 = .ok (.bipush 20, 2) := by decide +kernel
theorem d_V_copyFrom_20 : decode prog_6_method_5_code 20 = .ok (.invokestatic 25, 3) := by decide +kernel
theorem d_V_copyFrom_23 : decode prog_6_method_5_code 23 = .ok (.aload_n 1, 1) := by decide +kernel
theorem d_V_copyFrom_24 : decode prog_6_method_5_code 24 = .ok (.getfield 15, 3) := by decide +kernel
theorem d_V_copyFrom_27 : decode prog_6_method_5_code 27 = .ok (.iconst 0, 1) := by decide +kernel
theorem d_V_copyFrom_28 : decode prog_6_method_5_code 28 = .ok (.aload_n 0, 1) := by decide +kernel
theorem d_V_copyFrom_29 : decode prog_6_method_5_code 29 = .ok (.getfield 15, 3) := by decide +kernel
theorem d_V_copyFrom_32 : decode prog_6_method_5_code 32 = .ok (.iconst 0, 1) := by decide +kernel
theorem d_V_copyFrom_33 : decode prog_6_method_5_code 33 = .ok (.bipush 20, 2) := by decide +kernel
theorem d_V_copyFrom_35 : decode prog_6_method_5_code 35 = .ok (.invokestatic 25, 3) := by decide +kernel
theorem d_V_copyFrom_38 : decode prog_6_method_5_code 38 = .ok (.aload_n 1, 1) := by decide +kernel
theorem d_V_copyFrom_39 : decode prog_6_method_5_code 39 = .ok (.getfield 18, 3) := by decide +kernel
theorem d_V_copyFrom_42 : decode prog_6_method_5_code 42 = .ok (.iconst 0, 1) := by decide +kernel
theorem d_V_copyFrom_43 : decode prog_6_method_5_code 43 = .ok (.aload_n 0, 1) := by decide +kernel
theorem d_V_copyFrom_44 : decode prog_6_method_5_code 44 = .ok (.getfield 18, 3) := by decide +kernel
theorem d_V_copyFrom_47 : decode prog_6_method_5_code 47 = .ok (.iconst 0, 1) := by decide +kernel
theorem d_V_copyFrom_48 : decode prog_6_method_5_code 48 = .ok (.bipush 20, 2) := by decide +kernel
theorem d_V_copyFrom_50 : decode prog_6_method_5_code 50 = .ok (.invokestatic 25, 3) := by decide +kernel
theorem d_V_copyFrom_53 : decode prog_6_method_5_code 53 = .ok (.return_, 1) := by decide +kernel
theorem d_C_copyFrom_0 : decode prog_2_method_2_code 0 = .ok (.aload_n 0, 1) := by decide +kernel
theorem d_C_copyFrom_1 : decode prog_2_method_2_code 1 = .ok (.aload_n 1, 1) := by decide +kernel
theorem d_C_copyFrom_2 : decode prog_2_method_2_code 2 = .ok (.getfield 51, 3) := by decide +kernel
theorem d_C_copyFrom_5 : decode prog_2_method_2_code 5 = .ok (.putfield 51, 3) := by decide +kernel
theorem d_C_copyFrom_8 : decode prog_2_method_2_code 8 = .ok (.aload_n 0, 1) := by decide +kernel
theorem d_C_copyFrom_9 : decode prog_2_method_2_code 9 = .ok (.aload_n 1, 1) := by decide +kernel
theorem d_C_copyFrom_10 : decode prog_2_method_2_code 10 = .ok (.getfield 54, 3) := by decide +kernel
theorem d_C_copyFrom_13 : decode prog_2_method_2_code 13 = .ok (.putfield 54, 3) := by decide +kernel
theorem d_C_copyFrom_16 : decode prog_2_method_2_code 16 = .ok (.aload_n 0, 1) := by decide +kernel
theorem d_C_copyFrom_17 : decode prog_2_method_2_code 17 = .ok (.aload_n 1, 1) := by decide +kernel
theorem d_C_copyFrom_18 : decode prog_2_method_2_code 18 = .ok (.getfield 57, 3) := by decide +kernel
theorem d_C_copyFrom_21 : decode prog_2_method_2_code 21 = .ok (.putfield 57, 3) := by decide +kernel
theorem d_C_copyFrom_24 : decode prog_2_method_2_code 24 = .ok (.aload_n 0, 1) := by decide +kernel
theorem d_C_copyFrom_25 : decode prog_2_method_2_code 25 = .ok (.aload_n 1, 1) := by decide +kernel
theorem d_C_copyFrom_26 : decode prog_2_method_2_code 26 = .ok (.getfield 60, 3) := by decide +kernel
theorem d_C_copyFrom_29 : decode prog_2_method_2_code 29 = .ok (.putfield 60, 3) := by decide +kernel
theorem d_C_copyFrom_32 : decode prog_2_method_2_code 32 = .ok (.aload_n 0, 1) := by decide +kernel
theorem d_C_copyFrom_33 : decode prog_2_method_2_code 33 = .ok (.aload_n 1, 1) := by decide +kernel
theorem d_C_copyFrom_34 : decode prog_2_method_2_code 34 = .ok (.getfield 9, 3) := by decide +kernel
theorem d_C_copyFrom_37 : decode prog_2_method_2_code 37 = .ok (.putfield 9, 3) := by decide +kernel
theorem d_C_copyFrom_40 : decode prog_2_method_2_code 40 = .ok (.aload_n 1, 1) := by decide +kernel
theorem d_C_copyFrom_41 : decode prog_2_method_2_code 41 = .ok (.getfield 15, 3) := by decide +kernel
theorem d_C_copyFrom_44 : decode prog_2_method_2_code 44 = .ok (.iconst 0, 1) := by decide +kernel
theorem d_C_copyFrom_45 : decode prog_2_method_2_code 45 = .ok (.aload_n 0, 1) := by decide +kernel
theorem d_C_copyFrom_46 : decode prog_2_method_2_code 46 = .ok (.getfield 15, 3) := by decide +kernel
theorem d_C_copyFrom_49 : decode prog_2_method_2_code 49 = .ok (.iconst 0, 1) := by decide +kernel
theorem d_C_copyFrom_50 : decode prog_2_method_2_code 50 = .ok (.bipush 6, 2) := by decide +kernel
theorem d_C_copyFrom_52 : decode prog_2_method_2_code 52 = .ok (.invokestatic 44, 3) := by decide +kernel
theorem d_C_copyFrom_55 : decode prog_2_method_2_code 55 = .ok (.aload_n 1, 1) := by decide +kernel
theorem d_C_copyFrom_56 : decode prog_2_method_2_code 56 = .ok (.getfield 19, 3) := by decide +kernel
theorem d_C_copyFrom_59 : decode prog_2_method_2_code 59 = .ok (.iconst 0, 1) := by decide +kernel
theorem d_C_copyFrom_60 : decode prog_2_method_2_code 60 = .ok (.aload_n 0, 1) := by decide +kernel
theorem d_C_copyFrom_61 : decode prog_2_method_2_code 61 = .ok (.getfield 19, 3) := by decide +kernel
theorem d_C_copyFrom_64 : decode prog_2_method_2_code 64 = .ok (.iconst 0, 1) := by decide +kernel
theorem d_C_copyFrom_65 : decode prog_2_method_2_code 65 = .ok (.bipush 12, 2) := by decide +kernel
theorem d_C_copyFrom_67 : decode prog_2_method_2_code 67 = .ok (.invokestatic 44, 3) := by decide +kernel
theorem d_C_copyFrom_70 : decode prog_2_method_2_code 70 = .ok (.aload_n 1, 1) := by decide +kernel
theorem d_C_copyFrom_71 : decode prog_2_method_2_code 71 = .ok (.getfield 22, 3) := by decide +kernel
theorem d_C_copyFrom_74 : decode prog_2_method_2_code 74 = .ok (.iconst 0, 1) := by decide +kernel
theorem d_C_copyFrom_75 : decode prog_2_method_2_code 75 = .ok (.aload_n 0, 1) := by decide +kernel
theorem d_C_copyFrom_76 : decode prog_2_method_2_code 76 = .ok (.getfield 22, 3) := by decide +kernel
theorem d_C_copyFrom_79 : decode prog_2_method_2_code 79 = .ok (.iconst 0, 1) := by decide +kernel
theorem d_C_copyFrom_80 : decode prog_2_method_2_code 80 = .ok (.bipush 12, 2) := by decide +kernel
theorem d_C_copyFrom_82 : decode prog_2_method_2_code 82 = .ok (.invokestatic 44, 3) := by decide +kernel
theorem d_C_copyFrom_85 : decode prog_2_method_2_code 85 = .ok (.aload_n 1, 1) := by decide +kernel
theorem d_C_copyFrom_86 : decode prog_2_method_2_code 86 = .ok (.getfield 25, 3) := by decide +kernel
theorem d_C_copyFrom_89 : decode prog_2_method_2_code 89 = .ok (.iconst 0, 1) := by decide +kernel
theorem d_C_copyFrom_90 : decode prog_2_method_2_code 90 = .ok (.aload_n 0, 1) := by decide +kernel
theorem d_C_copyFrom_91 : decode prog_2_method_2_code 91 = .ok (.getfield 25, 3) := by decide +kernel
theorem d_C_copyFrom_94 : decode prog_2_method_2_code 94 = .ok (.iconst 0, 1) := by decide +kernel
theorem d_C_copyFrom_95 : decode prog_2_method_2_code 95 = .ok (.bipush 12, 2) := by decide +kernel
theorem d_C_copyFrom_97 : decode prog_2_method_2_code 97 = .ok (.invokestatic 44, 3) := by decide +kernel
theorem d_C_copyFrom_100 : decode prog_2_method_2_code 100 = .ok (.iconst 0, 1) := by decide +kernel
theorem d_C_copyFrom_101 : decode prog_2_method_2_code 101 = .ok (.istore_n 2, 1) := by decide +kernel
theorem d_C_copyFrom_102 : decode prog_2_method_2_code 102 = .ok (.iload_n 2, 1) := by decide +kernel
theorem d_C_copyFrom_103 : decode prog_2_method_2_code 103 = .ok (.aload_n 0, 1) := by decide +kernel
theorem d_C_copyFrom_104 : decode prog_2_method_2_code 104 = .ok (.getfield 57, 3) := by decide +kernel
theorem d_C_copyFrom_107 : decode prog_2_method_2_code 107 = .ok (.if_icmp .ge 24, 3) := by decide +kernel
theorem d_C_copyFrom_110 : decode prog_2_method_2_code 110 = .ok (.aload_n 0, 1) := by decide +kernel
theorem d_C_copyFrom_111 : decode prog_2_method_2_code 111 = .ok (.getfield 30, 3) := by decide +kernel
theorem d_C_copyFrom_114 : decode prog_2_method_2_code 114 = .ok (.iload_n 2, 1) := by decide +kernel
theorem d_C_copyFrom_115 : decode prog_2_method_2_code 115 = .ok (.aaload, 1) := by decide +kernel
theorem d_C_copyFrom_116 : decode prog_2_method_2_code 116 = .ok (.aload_n 1, 1) := by decide +kernel
theorem d_C_copyFrom_117 : decode prog_2_method_2_code 117 = .ok (.getfield 30, 3) := by decide +kernel
theorem d_C_copyFrom_120 : decode prog_2_method_2_code 120 = .ok (.iload_n 2, 1) := by decide +kernel
theorem d_C_copyFrom_121 : decode prog_2_method_2_code 121 = .ok (.aaload, 1) := by decide +kernel
theorem d_C_copyFrom_122 : decode prog_2_method_2_code 122 = .ok (.invokevirtual 63, 3) := by decide +kernel
theorem d_C_copyFrom_125 : decode prog_2_method_2_code 125 = .ok (.iinc 2 1, 3) := by decide +kernel
theorem d_C_copyFrom_128 : decode prog_2_method_2_code 128 = .ok (.goto (-26), 3) := by decide +kernel
theorem d_C_copyFrom_131 : decode prog_2_method_2_code 131 = .ok (.aload_n 0, 1) := by decide +kernel
theorem d_C_copyFrom_132 : decode prog_2_method_2_code 132 = .ok (.getfield 37, 3) := by decide +kernel
theorem d_C_copyFrom_135 : decode prog_2_method_2_code 135 = .ok (.aload_n 1, 1) := by decide +kernel
theorem d_C_copyFrom_136 : decode prog_2_method_2_code 136 = .ok (.getfield 37, 3) := by decide +kernel
theorem d_C_copyFrom_139 : decode prog_2_method_2_code 139 = .ok (.invokevirtual 67, 3) := by decide +kernel
theorem d_C_copyFrom_142 : decode prog_2_method_2_code 142 = .ok (.return_, 1) := by decide +kernel
theorem d_Y_note_0 : decode prog_4_method_2_code 0 = .ok (.aload_n 0, 1) := by decide +kernel
theorem d_Y_note_1 : decode prog_4_method_2_code 1 = .ok (.getfield 11, 3) := by decide +kernel
theorem d_Y_note_4 : decode prog_4_method_2_code 4 = .ok (.aload_n 0, 1) := by decide +kernel
theorem d_Y_note_5 : decode prog_4_method_2_code 5 = .ok (.getfield 18, 3) := by decide +kernel
theorem d_Y_note_8 : decode prog_4_method_2_code 8 = .ok (.aaload, 1) := by decide +kernel
theorem d_Y_note_9 : decode prog_4_method_2_code 9 = .ok (.aload_n 1, 1) := by decide +kernel
theorem d_Y_note_10 : decode prog_4_method_2_code 10 = .ok (.invokevirtual 22, 3) := by decide +kernel
theorem d_Y_note_13 : decode prog_4_method_2_code 13 = .ok (.return_, 1) := by decide +kernel
theorem d_C_changeSetting_0 : decode prog_2_method_16_code 0 = .ok (.iload_n 1, 1) := by decide +kernel
theorem d_C_changeSetting_1 : decode prog_2_method_16_code 1 = .ok (.ifCond .lt 22, 3) := by decide +kernel
theorem d_C_changeSetting_4 : decode prog_2_method_16_code 4 = .ok (.iload_n 1, 1) := by decide +kernel
theorem d_C_changeSetting_5 : decode prog_2_method_16_code 5 = .ok (.bipush 6, 2) := by decide +kernel
theorem d_C_changeSetting_7 : decode prog_2_method_16_code 7 = .ok (.if_icmp .ge 16, 3) := by decide +kernel
theorem d_C_changeSetting_10 : decode prog_2_method_16_code 10 = .ok (.iload_n 2, 1) := by decide +kernel
theorem d_C_changeSetting_11 : decode prog_2_method_16_code 11 = .ok (.ifCond .lt 12, 3) := by decide +kernel
theorem d_C_changeSetting_14 : decode prog_2_method_16_code 14 = .ok (.iload_n 2, 1) := by decide +kernel
theorem d_C_changeSetting_15 : decode prog_2_method_16_code 15 = .ok (.getstatic 98, 3) := by decide +kernel
theorem d_C_changeSetting_18 : decode prog_2_method_16_code 18 = .ok (.iload_n 1, 1) := by decide +kernel
theorem d_C_changeSetting_19 : decode prog_2_method_16_code 19 = .ok (.iaload, 1) := by decide +kernel
theorem d_C_changeSetting_20 : decode prog_2_method_16_code 20 = .ok (.if_icmp .le 6, 3) := by decide +kernel
theorem d_C_changeSetting_23 : decode prog_2_method_16_code 23 = .ok (.bipush (-2), 2) := by decide +kernel
theorem d_C_changeSetting_25 : decode prog_2_method_16_code 25 = .ok (.ireturn, 1) := by decide +kernel
theorem d_C_changeSetting_26 : decode prog_2_method_16_code 26 = .ok (.aload_n 0, 1) := by decide +kernel
theorem d_C_changeSetting_27 : decode prog_2_method_16_code 27 = .ok (.getfield 15, 3) := by decide +kernel
theorem d_C_changeSetting_30 : decode prog_2_method_16_code 30 = .ok (.iload_n 1, 1) := by decide +kernel
theorem d_C_changeSetting_31 : decode prog_2_method_16_code 31 = .ok (.iaload, 1) := by decide +kernel
theorem d_C_changeSetting_32 : decode prog_2_method_16_code 32 = .ok (.istore_n 3, 1) := by decide +kernel
theorem d_C_changeSetting_33 : decode prog_2_method_16_code 33 = .ok (.aload_n 0, 1) := by decide +kernel
theorem d_C_changeSetting_34 : decode prog_2_method_16_code 34 = .ok (.getfield 15, 3) := by decide +kernel
theorem d_C_changeSetting_37 : decode prog_2_method_16_code 37 = .ok (.iload_n 1, 1) := by decide +kernel
theorem d_C_changeSetting_38 : decode prog_2_method_16_code 38 = .ok (.iload_n 2, 1) := by decide +kernel
theorem d_C_changeSetting_39 : decode prog_2_method_16_code 39 = .ok (.iastore, 1) := by decide +kernel
theorem d_C_changeSetting_40 : decode prog_2_method_16_code 40 = .ok (.iload_n 3, 1) := by decide +kernel
theorem d_C_changeSetting_41 : decode prog_2_method_16_code 41 = .ok (.ireturn, 1) := by decide +kernel
theorem d_JM_min_0 : decode prog_11_method_69_code 0 = .ok (.iload_n 0, 1) := by decide +kernel
theorem d_JM_min_1 : decode prog_11_method_69_code 1 = .ok (.iload_n 1, 1) := by decide +kernel
theorem d_JM_min_2 : decode prog_11_method_69_code 2 = .ok (.if_icmp .gt 7, 3) := by decide +kernel
theorem d_JM_min_5 : decode prog_11_method_69_code 5 = .ok (.iload_n 0, 1) := by decide +kernel
theorem d_JM_min_6 : decode prog_11_method_69_code 6 = .ok (.goto 4, 3) := by decide +kernel
theorem d_JM_min_9 : decode prog_11_method_69_code 9 = .ok (.iload_n 1, 1) := by decide +kernel
theorem d_JM_min_10 : decode prog_11_method_69_code 10 = .ok (.ireturn, 1) := by decide +kernel
theorem d_Y_settle_0 : decode prog_4_method_3_code 0 = .ok (.iload_n 1, 1) := by decide +kernel
theorem d_Y_settle_1 : decode prog_4_method_3_code 1 = .ok (.invokestatic 26, 3) := by decide +kernel
theorem d_Y_settle_4 : decode prog_4_method_3_code 4 = .ok (.ifCond .ne 41, 3) := by decide +kernel
theorem d_Y_settle_7 : decode prog_4_method_3_code 7 = .ok (.aload_n 0, 1) := by decide +kernel
theorem d_Y_settle_8 : decode prog_4_method_3_code 8 = .ok (.aload_n 0, 1) := by decide +kernel
theorem d_Y_settle_9 : decode prog_4_method_3_code 9 = .ok (.getfield 18, 3) := by decide +kernel
theorem d_Y_settle_12 : decode prog_4_method_3_code 12 = .ok (.bipush 6, 2) := by decide +kernel
theorem d_Y_settle_14 : decode prog_4_method_3_code 14 = .ok (.if_icmp .ne 7, 3) := by decide +kernel
theorem d_Y_settle_17 : decode prog_4_method_3_code 17 = .ok (.iconst 0, 1) := by decide +kernel
theorem d_Y_settle_18 : decode prog_4_method_3_code 18 = .ok (.goto 9, 3) := by decide +kernel
theorem d_Y_settle_21 : decode prog_4_method_3_code 21 = .ok (.aload_n 0, 1) := by decide +kernel
theorem d_Y_settle_22 : decode prog_4_method_3_code 22 = .ok (.getfield 18, 3) := by decide +kernel
theorem d_Y_settle_25 : decode prog_4_method_3_code 25 = .ok (.iconst 1, 1) := by decide +kernel
theorem d_Y_settle_26 : decode prog_4_method_3_code 26 = .ok (.iadd, 1) := by decide +kernel
theorem d_Y_settle_27 : decode prog_4_method_3_code 27 = .ok (.putfield 18, 3) := by decide +kernel
theorem d_Y_settle_30 : decode prog_4_method_3_code 30 = .ok (.aload_n 0, 1) := by decide +kernel
theorem d_Y_settle_31 : decode prog_4_method_3_code 31 = .ok (.aload_n 0, 1) := by decide +kernel
theorem d_Y_settle_32 : decode prog_4_method_3_code 32 = .ok (.getfield 30, 3) := by decide +kernel
theorem d_Y_settle_35 : decode prog_4_method_3_code 35 = .ok (.iconst 1, 1) := by decide +kernel
theorem d_Y_settle_36 : decode prog_4_method_3_code 36 = .ok (.iadd, 1) := by decide +kernel
theorem d_Y_settle_37 : decode prog_4_method_3_code 37 = .ok (.bipush 6, 2) := by decide +kernel
theorem d_Y_settle_39 : decode prog_4_method_3_code 39 = .ok (.invokestatic 33, 3) := by decide +kernel
theorem d_Y_settle_42 : decode prog_4_method_3_code 42 = .ok (.putfield 30, 3) := by decide +kernel
theorem d_Y_settle_45 : decode prog_4_method_3_code 45 = .ok (.iload_n 1, 1) := by decide +kernel
theorem d_Y_settle_46 : decode prog_4_method_3_code 46 = .ok (.ireturn, 1) := by decide +kernel
theorem d_C_addMember_0 : decode prog_2_method_17_code 0 = .ok (.iload_n 1, 1) := by decide +kernel
theorem d_C_addMember_1 : decode prog_2_method_17_code 1 = .ok (.iconst 1, 1) := by decide +kernel
theorem d_C_addMember_2 : decode prog_2_method_17_code 2 = .ok (.if_icmp .lt 18, 3) := by decide +kernel
theorem d_C_addMember_5 : decode prog_2_method_17_code 5 = .ok (.iload_n 1, 1) := by decide +kernel
theorem d_C_addMember_6 : decode prog_2_method_17_code 6 = .ok (.bipush 9, 2) := by decide +kernel
theorem d_C_addMember_8 : decode prog_2_method_17_code 8 = .ok (.if_icmp .gt 12, 3) := by decide +kernel
theorem d_C_addMember_11 : decode prog_2_method_17_code 11 = .ok (.iload_n 2, 1) := by decide +kernel
theorem d_C_addMember_12 : decode prog_2_method_17_code 12 = .ok (.ifCond .lt 8, 3) := by decide +kernel
theorem d_C_addMember_15 : decode prog_2_method_17_code 15 = .ok (.iload_n 2, 1) := by decide +kernel
theorem d_C_addMember_16 : decode prog_2_method_17_code 16 = .ok (.iconst 3, 1) := by decide +kernel
theorem d_C_addMember_17 : decode prog_2_method_17_code 17 = .ok (.if_icmp .le 6, 3) := by decide +kernel
theorem d_C_addMember_20 : decode prog_2_method_17_code 20 = .ok (.bipush (-2), 2) := by decide +kernel
theorem d_C_addMember_22 : decode prog_2_method_17_code 22 = .ok (.ireturn, 1) := by decide +kernel
theorem d_C_addMember_23 : decode prog_2_method_17_code 23 = .ok (.aload_n 0, 1) := by decide +kernel
theorem d_C_addMember_24 : decode prog_2_method_17_code 24 = .ok (.getfield 54, 3) := by decide +kernel
theorem d_C_addMember_27 : decode prog_2_method_17_code 27 = .ok (.bipush 12, 2) := by decide +kernel
theorem d_C_addMember_29 : decode prog_2_method_17_code 29 = .ok (.if_icmp .lt 6, 3) := by decide +kernel
theorem d_C_addMember_32 : decode prog_2_method_17_code 32 = .ok (.bipush (-4), 2) := by decide +kernel
theorem d_C_addMember_34 : decode prog_2_method_17_code 34 = .ok (.ireturn, 1) := by decide +kernel
theorem d_C_addMember_35 : decode prog_2_method_17_code 35 = .ok (.aload_n 0, 1) := by decide +kernel
theorem d_C_addMember_36 : decode prog_2_method_17_code 36 = .ok (.getfield 19, 3) := by decide +kernel
theorem d_C_addMember_39 : decode prog_2_method_17_code 39 = .ok (.aload_n 0, 1) := by decide +kernel
theorem d_C_addMember_40 : decode prog_2_method_17_code 40 = .ok (.getfield 54, 3) := by decide +kernel
theorem d_C_addMember_43 : decode prog_2_method_17_code 43 = .ok (.iload_n 1, 1) := by decide +kernel
theorem d_C_addMember_44 : decode prog_2_method_17_code 44 = .ok (.iastore, 1) := by decide +kernel
theorem d_C_addMember_45 : decode prog_2_method_17_code 45 = .ok (.aload_n 0, 1) := by decide +kernel
theorem d_C_addMember_46 : decode prog_2_method_17_code 46 = .ok (.getfield 22, 3) := by decide +kernel
theorem d_C_addMember_49 : decode prog_2_method_17_code 49 = .ok (.aload_n 0, 1) := by decide +kernel
theorem d_C_addMember_50 : decode prog_2_method_17_code 50 = .ok (.getfield 54, 3) := by decide +kernel
theorem d_C_addMember_53 : decode prog_2_method_17_code 53 = .ok (.iload_n 2, 1) := by decide +kernel
theorem d_C_addMember_54 : decode prog_2_method_17_code 54 = .ok (.iastore, 1) := by decide +kernel
theorem d_C_addMember_55 : decode prog_2_method_17_code 55 = .ok (.aload_n 0, 1) := by decide +kernel
theorem d_C_addMember_56 : decode prog_2_method_17_code 56 = .ok (.getfield 25, 3) := by decide +kernel
theorem d_C_addMember_59 : decode prog_2_method_17_code 59 = .ok (.aload_n 0, 1) := by decide +kernel
theorem d_C_addMember_60 : decode prog_2_method_17_code 60 = .ok (.getfield 54, 3) := by decide +kernel
theorem d_C_addMember_63 : decode prog_2_method_17_code 63 = .ok (.bipush (-6), 2) := by decide +kernel
theorem d_C_addMember_65 : decode prog_2_method_17_code 65 = .ok (.iastore, 1) := by decide +kernel
theorem d_C_addMember_66 : decode prog_2_method_17_code 66 = .ok (.aload_n 0, 1) := by decide +kernel
theorem d_C_addMember_67 : decode prog_2_method_17_code 67 = .ok (.getfield 54, 3) := by decide +kernel
theorem d_C_addMember_70 : decode prog_2_method_17_code 70 = .ok (.ifCond .ne 8, 3) := by decide +kernel
theorem d_C_addMember_73 : decode prog_2_method_17_code 73 = .ok (.aload_n 0, 1) := by decide +kernel
theorem d_C_addMember_74 : decode prog_2_method_17_code 74 = .ok (.iconst 0, 1) := by decide +kernel
theorem d_C_addMember_75 : decode prog_2_method_17_code 75 = .ok (.putfield 9, 3) := by decide +kernel
theorem d_C_addMember_78 : decode prog_2_method_17_code 78 = .ok (.aload_n 0, 1) := by decide +kernel
theorem d_C_addMember_79 : decode prog_2_method_17_code 79 = .ok (.dup, 1) := by decide +kernel
theorem d_C_addMember_80 : decode prog_2_method_17_code 80 = .ok (.getfield 54, 3) := by decide +kernel
theorem d_C_addMember_83 : decode prog_2_method_17_code 83 = .ok (.dup_x1, 1) := by decide +kernel
theorem d_C_addMember_84 : decode prog_2_method_17_code 84 = .ok (.iconst 1, 1) := by decide +kernel
theorem d_C_addMember_85 : decode prog_2_method_17_code 85 = .ok (.iadd, 1) := by decide +kernel
theorem d_C_addMember_86 : decode prog_2_method_17_code 86 = .ok (.putfield 54, 3) := by decide +kernel
theorem d_C_addMember_89 : decode prog_2_method_17_code 89 = .ok (.ireturn, 1) := by decide +kernel
theorem d_JA_fill_0 : decode prog_13_method_103_code 0 = .ok (.iconst 0, 1) := by decide +kernel
theorem d_JA_fill_1 : decode prog_13_method_103_code 1 = .ok (.istore_n 2, 1) := by decide +kernel
theorem d_JA_fill_2 : decode prog_13_method_103_code 2 = .ok (.aload_n 0, 1) := by decide +kernel
theorem d_JA_fill_3 : decode prog_13_method_103_code 3 = .ok (.arraylength, 1) := by decide +kernel
theorem d_JA_fill_4 : decode prog_13_method_103_code 4 = .ok (.istore_n 3, 1) := by decide +kernel
theorem d_JA_fill_5 : decode prog_13_method_103_code 5 = .ok (.iload_n 2, 1) := by decide +kernel
theorem d_JA_fill_6 : decode prog_13_method_103_code 6 = .ok (.iload_n 3, 1) := by decide +kernel
theorem d_JA_fill_7 : decode prog_13_method_103_code 7 = .ok (.if_icmp .ge 13, 3) := by decide +kernel
theorem d_JA_fill_10 : decode prog_13_method_103_code 10 = .ok (.aload_n 0, 1) := by decide +kernel
theorem d_JA_fill_11 : decode prog_13_method_103_code 11 = .ok (.iload_n 2, 1) := by decide +kernel
theorem d_JA_fill_12 : decode prog_13_method_103_code 12 = .ok (.iload_n 1, 1) := by decide +kernel
theorem d_JA_fill_13 : decode prog_13_method_103_code 13 = .ok (.iastore, 1) := by decide +kernel
theorem d_JA_fill_14 : decode prog_13_method_103_code 14 = .ok (.iinc 2 1, 3) := by decide +kernel
theorem d_JA_fill_17 : decode prog_13_method_103_code 17 = .ok (.goto (-12), 3) := by decide +kernel
theorem d_JA_fill_20 : decode prog_13_method_103_code 20 = .ok (.return_, 1) := by decide +kernel
theorem d_I_begin_0 : decode prog_5_method_2_code 0 = .ok (.aload_n 0, 1) := by decide +kernel
theorem d_I_begin_1 : decode prog_5_method_2_code 1 = .ok (.iload_n 1, 1) := by decide +kernel
theorem d_I_begin_2 : decode prog_5_method_2_code 2 = .ok (.putfield 24, 3) := by decide +kernel
theorem d_I_begin_5 : decode prog_5_method_2_code 5 = .ok (.aload_n 0, 1) := by decide +kernel
theorem d_I_begin_6 : decode prog_5_method_2_code 6 = .ok (.iload_n 2, 1) := by decide +kernel
theorem d_I_begin_7 : decode prog_5_method_2_code 7 = .ok (.putfield 28, 3) := by decide +kernel
theorem d_I_begin_10 : decode prog_5_method_2_code 10 = .ok (.aload_n 0, 1) := by decide +kernel
theorem d_I_begin_11 : decode prog_5_method_2_code 11 = .ok (.iconst 0, 1) := by decide +kernel
theorem d_I_begin_12 : decode prog_5_method_2_code 12 = .ok (.putfield 31, 3) := by decide +kernel
theorem d_I_begin_15 : decode prog_5_method_2_code 15 = .ok (.aload_n 0, 1) := by decide +kernel
theorem d_I_begin_16 : decode prog_5_method_2_code 16 = .ok (.iconst 0, 1) := by decide +kernel
theorem d_I_begin_17 : decode prog_5_method_2_code 17 = .ok (.putfield 34, 3) := by decide +kernel
theorem d_I_begin_20 : decode prog_5_method_2_code 20 = .ok (.aload_n 0, 1) := by decide +kernel
theorem d_I_begin_21 : decode prog_5_method_2_code 21 = .ok (.bipush (-6), 2) := by decide +kernel
theorem d_I_begin_23 : decode prog_5_method_2_code 23 = .ok (.putfield 37, 3) := by decide +kernel
theorem d_I_begin_26 : decode prog_5_method_2_code 26 = .ok (.aload_n 0, 1) := by decide +kernel
theorem d_I_begin_27 : decode prog_5_method_2_code 27 = .ok (.iconst 0, 1) := by decide +kernel
theorem d_I_begin_28 : decode prog_5_method_2_code 28 = .ok (.putfield 40, 3) := by decide +kernel
theorem d_I_begin_31 : decode prog_5_method_2_code 31 = .ok (.aload_n 0, 1) := by decide +kernel
theorem d_I_begin_32 : decode prog_5_method_2_code 32 = .ok (.getfield 9, 3) := by decide +kernel
theorem d_I_begin_35 : decode prog_5_method_2_code 35 = .ok (.iconst 0, 1) := by decide +kernel
theorem d_I_begin_36 : decode prog_5_method_2_code 36 = .ok (.invokestatic 43, 3) := by decide +kernel
theorem d_I_begin_39 : decode prog_5_method_2_code 39 = .ok (.aload_n 0, 1) := by decide +kernel
theorem d_I_begin_40 : decode prog_5_method_2_code 40 = .ok (.getfield 15, 3) := by decide +kernel
theorem d_I_begin_43 : decode prog_5_method_2_code 43 = .ok (.bipush (-6), 2) := by decide +kernel
theorem d_I_begin_45 : decode prog_5_method_2_code 45 = .ok (.invokestatic 43, 3) := by decide +kernel
theorem d_I_begin_48 : decode prog_5_method_2_code 48 = .ok (.aload_n 0, 1) := by decide +kernel
theorem d_I_begin_49 : decode prog_5_method_2_code 49 = .ok (.getfield 18, 3) := by decide +kernel
theorem d_I_begin_52 : decode prog_5_method_2_code 52 = .ok (.bipush (-6), 2) := by decide +kernel
theorem d_I_begin_54 : decode prog_5_method_2_code 54 = .ok (.invokestatic 43, 3) := by decide +kernel
theorem d_I_begin_57 : decode prog_5_method_2_code 57 = .ok (.aload_n 0, 1) := by decide +kernel
theorem d_I_begin_58 : decode prog_5_method_2_code 58 = .ok (.getfield 21, 3) := by decide +kernel
theorem d_I_begin_61 : decode prog_5_method_2_code 61 = .ok (.bipush (-6), 2) := by decide +kernel
theorem d_I_begin_63 : decode prog_5_method_2_code 63 = .ok (.invokestatic 43, 3) := by decide +kernel
theorem d_I_begin_66 : decode prog_5_method_2_code 66 = .ok (.return_, 1) := by decide +kernel
theorem d_C_addItem_0 : decode prog_2_method_18_code 0 = .ok (.iload_n 1, 1) := by decide +kernel
theorem d_C_addItem_1 : decode prog_2_method_18_code 1 = .ok (.ifCond .lt 18, 3) := by decide +kernel
theorem d_C_addItem_4 : decode prog_2_method_18_code 4 = .ok (.iload_n 1, 1) := by decide +kernel
theorem d_C_addItem_5 : decode prog_2_method_18_code 5 = .ok (.iconst 2, 1) := by decide +kernel
theorem d_C_addItem_6 : decode prog_2_method_18_code 6 = .ok (.if_icmp .gt 13, 3) := by decide +kernel
theorem d_C_addItem_9 : decode prog_2_method_18_code 9 = .ok (.iload_n 2, 1) := by decide +kernel
theorem d_C_addItem_10 : decode prog_2_method_18_code 10 = .ok (.ifCond .lt 9, 3) := by decide +kernel
theorem d_C_addItem_13 : decode prog_2_method_18_code 13 = .ok (.iload_n 2, 1) := by decide +kernel
theorem d_C_addItem_14 : decode prog_2_method_18_code 14 = .ok (.bipush 15, 2) := by decide +kernel
theorem d_C_addItem_16 : decode prog_2_method_18_code 16 = .ok (.if_icmp .le 6, 3) := by decide +kernel
theorem d_C_addItem_19 : decode prog_2_method_18_code 19 = .ok (.bipush (-2), 2) := by decide +kernel
theorem d_C_addItem_21 : decode prog_2_method_18_code 21 = .ok (.ireturn, 1) := by decide +kernel
theorem d_C_addItem_22 : decode prog_2_method_18_code 22 = .ok (.aload_n 0, 1) := by decide +kernel
theorem d_C_addItem_23 : decode prog_2_method_18_code 23 = .ok (.getfield 57, 3) := by decide +kernel
theorem d_C_addItem_26 : decode prog_2_method_18_code 26 = .ok (.bipush 12, 2) := by decide +kernel
theorem d_C_addItem_28 : decode prog_2_method_18_code 28 = .ok (.if_icmp .lt 6, 3) := by decide +kernel
theorem d_C_addItem_31 : decode prog_2_method_18_code 31 = .ok (.bipush (-4), 2) := by decide +kernel
theorem d_C_addItem_33 : decode prog_2_method_18_code 33 = .ok (.ireturn, 1) := by decide +kernel
theorem d_C_addItem_34 : decode prog_2_method_18_code 34 = .ok (.aload_n 0, 1) := by decide +kernel
theorem d_C_addItem_35 : decode prog_2_method_18_code 35 = .ok (.getfield 30, 3) := by decide +kernel
theorem d_C_addItem_38 : decode prog_2_method_18_code 38 = .ok (.aload_n 0, 1) := by decide +kernel
theorem d_C_addItem_39 : decode prog_2_method_18_code 39 = .ok (.getfield 57, 3) := by decide +kernel
theorem d_C_addItem_42 : decode prog_2_method_18_code 42 = .ok (.aaload, 1) := by decide +kernel
theorem d_C_addItem_43 : decode prog_2_method_18_code 43 = .ok (.iload_n 1, 1) := by decide +kernel
theorem d_C_addItem_44 : decode prog_2_method_18_code 44 = .ok (.iload_n 2, 1) := by decide +kernel
theorem d_C_addItem_45 : decode prog_2_method_18_code 45 = .ok (.invokevirtual 101, 3) := by decide +kernel
theorem d_C_addItem_48 : decode prog_2_method_18_code 48 = .ok (.aload_n 0, 1) := by decide +kernel
theorem d_C_addItem_49 : decode prog_2_method_18_code 49 = .ok (.dup, 1) := by decide +kernel
theorem d_C_addItem_50 : decode prog_2_method_18_code 50 = .ok (.getfield 57, 3) := by decide +kernel
theorem d_C_addItem_53 : decode prog_2_method_18_code 53 = .ok (.dup_x1, 1) := by decide +kernel
theorem d_C_addItem_54 : decode prog_2_method_18_code 54 = .ok (.iconst 1, 1) := by decide +kernel
theorem d_C_addItem_55 : decode prog_2_method_18_code 55 = .ok (.iadd, 1) := by decide +kernel
theorem d_C_addItem_56 : decode prog_2_method_18_code 56 = .ok (.putfield 57, 3) := by decide +kernel
theorem d_C_addItem_59 : decode prog_2_method_18_code 59 = .ok (.ireturn, 1) := by decide +kernel
theorem d_C_hasMember_0 : decode prog_2_method_3_code 0 = .ok (.iload_n 1, 1) := by decide +kernel
theorem d_C_hasMember_1 : decode prog_2_method_3_code 1 = .ok (.ifCond .lt 15, 3) := by decide +kernel
theorem d_C_hasMember_4 : decode prog_2_method_3_code 4 = .ok (.iload_n 1, 1) := by decide +kernel
theorem d_C_hasMember_5 : decode prog_2_method_3_code 5 = .ok (.aload_n 0, 1) := by decide +kernel
theorem d_C_hasMember_6 : decode prog_2_method_3_code 6 = .ok (.getfield 54, 3) := by decide +kernel
theorem d_C_hasMember_9 : decode prog_2_method_3_code 9 = .ok (.if_icmp .ge 7, 3) := by decide +kernel
theorem d_C_hasMember_12 : decode prog_2_method_3_code 12 = .ok (.iconst 1, 1) := by decide +kernel
theorem d_C_hasMember_13 : decode prog_2_method_3_code 13 = .ok (.goto 4, 3) := by decide +kernel
theorem d_C_hasMember_16 : decode prog_2_method_3_code 16 = .ok (.iconst 0, 1) := by decide +kernel
theorem d_C_hasMember_17 : decode prog_2_method_3_code 17 = .ok (.ireturn, 1) := by decide +kernel
theorem d_C_nameChair_0 : decode prog_2_method_19_code 0 = .ok (.aload_n 0, 1) := by decide +kernel
theorem d_C_nameChair_1 : decode prog_2_method_19_code 1 = .ok (.iload_n 1, 1) := by decide +kernel
theorem d_C_nameChair_2 : decode prog_2_method_19_code 2 = .ok (.invokevirtual 105, 3) := by decide +kernel
theorem d_C_nameChair_5 : decode prog_2_method_19_code 5 = .ok (.ifCond .ne 5, 3) := by decide +kernel
theorem d_C_nameChair_8 : decode prog_2_method_19_code 8 = .ok (.iconst (-1), 1) := by decide +kernel
theorem d_C_nameChair_9 : decode prog_2_method_19_code 9 = .ok (.ireturn, 1) := by decide +kernel
theorem d_C_nameChair_10 : decode prog_2_method_19_code 10 = .ok (.aload_n 0, 1) := by decide +kernel
theorem d_C_nameChair_11 : decode prog_2_method_19_code 11 = .ok (.getfield 9, 3) := by decide +kernel
theorem d_C_nameChair_14 : decode prog_2_method_19_code 14 = .ok (.istore_n 2, 1) := by decide +kernel
theorem d_C_nameChair_15 : decode prog_2_method_19_code 15 = .ok (.aload_n 0, 1) := by decide +kernel
theorem d_C_nameChair_16 : decode prog_2_method_19_code 16 = .ok (.iload_n 1, 1) := by decide +kernel
theorem d_C_nameChair_17 : decode prog_2_method_19_code 17 = .ok (.putfield 9, 3) := by decide +kernel
theorem d_C_nameChair_20 : decode prog_2_method_19_code 20 = .ok (.iload_n 2, 1) := by decide +kernel
theorem d_C_nameChair_21 : decode prog_2_method_19_code 21 = .ok (.ireturn, 1) := by decide +kernel
theorem d_C_isPresent_0 : decode prog_2_method_5_code 0 = .ok (.aload_n 0, 1) := by decide +kernel
theorem d_C_isPresent_1 : decode prog_2_method_5_code 1 = .ok (.getfield 60, 3) := by decide +kernel
theorem d_C_isPresent_4 : decode prog_2_method_5_code 4 = .ok (.iload_n 1, 1) := by decide +kernel
theorem d_C_isPresent_5 : decode prog_2_method_5_code 5 = .ok (.ishr, 1) := by decide +kernel
theorem d_C_isPresent_6 : decode prog_2_method_5_code 6 = .ok (.iconst 1, 1) := by decide +kernel
theorem d_C_isPresent_7 : decode prog_2_method_5_code 7 = .ok (.iand, 1) := by decide +kernel
theorem d_C_isPresent_8 : decode prog_2_method_5_code 8 = .ok (.iconst 1, 1) := by decide +kernel
theorem d_C_isPresent_9 : decode prog_2_method_5_code 9 = .ok (.if_icmp .ne 7, 3) := by decide +kernel
theorem d_C_isPresent_12 : decode prog_2_method_5_code 12 = .ok (.iconst 1, 1) := by decide +kernel
theorem d_C_isPresent_13 : decode prog_2_method_5_code 13 = .ok (.goto 4, 3) := by decide +kernel
theorem d_C_isPresent_16 : decode prog_2_method_5_code 16 = .ok (.iconst 0, 1) := by decide +kernel
theorem d_C_isPresent_17 : decode prog_2_method_5_code 17 = .ok (.ireturn, 1) := by decide +kernel
theorem d_C_votesOf_0 : decode prog_2_method_14_code 0 = .ok (.iconst 0, 1) := by decide +kernel
theorem d_C_votesOf_1 : decode prog_2_method_14_code 1 = .ok (.istore_n 2, 1) := by decide +kernel
theorem d_C_votesOf_2 : decode prog_2_method_14_code 2 = .ok (.iconst 0, 1) := by decide +kernel
theorem d_C_votesOf_3 : decode prog_2_method_14_code 3 = .ok (.istore_n 3, 1) := by decide +kernel
theorem d_C_votesOf_4 : decode prog_2_method_14_code 4 = .ok (.iload_n 3, 1) := by decide +kernel
theorem d_C_votesOf_5 : decode prog_2_method_14_code 5 = .ok (.aload_n 0, 1) := by decide +kernel
theorem d_C_votesOf_6 : decode prog_2_method_14_code 6 = .ok (.getfield 57, 3) := by decide +kernel
theorem d_C_votesOf_9 : decode prog_2_method_14_code 9 = .ok (.if_icmp .ge 28, 3) := by decide +kernel
theorem d_C_votesOf_12 : decode prog_2_method_14_code 12 = .ok (.aload_n 0, 1) := by decide +kernel
theorem d_C_votesOf_13 : decode prog_2_method_14_code 13 = .ok (.getfield 30, 3) := by decide +kernel
theorem d_C_votesOf_16 : decode prog_2_method_14_code 16 = .ok (.iload_n 3, 1) := by decide +kernel
theorem d_C_votesOf_17 : decode prog_2_method_14_code 17 = .ok (.aaload, 1) := by decide +kernel
theorem d_C_votesOf_18 : decode prog_2_method_14_code 18 = .ok (.getfield 92, 3) := by decide +kernel
theorem d_C_votesOf_21 : decode prog_2_method_14_code 21 = .ok (.iload_n 1, 1) := by decide +kernel
theorem d_C_votesOf_22 : decode prog_2_method_14_code 22 = .ok (.iaload, 1) := by decide +kernel
theorem d_C_votesOf_23 : decode prog_2_method_14_code 23 = .ok (.bipush (-6), 2) := by decide +kernel
theorem d_C_votesOf_25 : decode prog_2_method_14_code 25 = .ok (.if_icmp .eq 6, 3) := by decide +kernel
theorem d_C_votesOf_28 : decode prog_2_method_14_code 28 = .ok (.iinc 2 1, 3) := by decide +kernel
theorem d_C_votesOf_31 : decode prog_2_method_14_code 31 = .ok (.iinc 3 1, 3) := by decide +kernel
theorem d_C_votesOf_34 : decode prog_2_method_14_code 34 = .ok (.goto (-30), 3) := by decide +kernel
theorem d_C_votesOf_37 : decode prog_2_method_14_code 37 = .ok (.iload_n 2, 1) := by decide +kernel
theorem d_C_votesOf_38 : decode prog_2_method_14_code 38 = .ok (.ireturn, 1) := by decide +kernel
theorem d_C_tiesBrokenBy_0 : decode prog_2_method_15_code 0 = .ok (.iconst 0, 1) := by decide +kernel
theorem d_C_tiesBrokenBy_1 : decode prog_2_method_15_code 1 = .ok (.istore_n 2, 1) := by decide +kernel
theorem d_C_tiesBrokenBy_2 : decode prog_2_method_15_code 2 = .ok (.iconst 0, 1) := by decide +kernel
theorem d_C_tiesBrokenBy_3 : decode prog_2_method_15_code 3 = .ok (.istore_n 3, 1) := by decide +kernel
theorem d_C_tiesBrokenBy_4 : decode prog_2_method_15_code 4 = .ok (.iload_n 3, 1) := by decide +kernel
theorem d_C_tiesBrokenBy_5 : decode prog_2_method_15_code 5 = .ok (.aload_n 0, 1) := by decide +kernel
theorem d_C_tiesBrokenBy_6 : decode prog_2_method_15_code 6 = .ok (.getfield 57, 3) := by decide +kernel
theorem d_C_tiesBrokenBy_9 : decode prog_2_method_15_code 9 = .ok (.if_icmp .ge 25, 3) := by decide +kernel
theorem d_C_tiesBrokenBy_12 : decode prog_2_method_15_code 12 = .ok (.aload_n 0, 1) := by decide +kernel
theorem d_C_tiesBrokenBy_13 : decode prog_2_method_15_code 13 = .ok (.getfield 30, 3) := by decide +kernel
theorem d_C_tiesBrokenBy_16 : decode prog_2_method_15_code 16 = .ok (.iload_n 3, 1) := by decide +kernel
theorem d_C_tiesBrokenBy_17 : decode prog_2_method_15_code 17 = .ok (.aaload, 1) := by decide +kernel
theorem d_C_tiesBrokenBy_18 : decode prog_2_method_15_code 18 = .ok (.getfield 95, 3) := by decide +kernel
theorem d_C_tiesBrokenBy_21 : decode prog_2_method_15_code 21 = .ok (.iload_n 1, 1) := by decide +kernel
theorem d_C_tiesBrokenBy_22 : decode prog_2_method_15_code 22 = .ok (.if_icmp .ne 6, 3) := by decide +kernel
theorem d_C_tiesBrokenBy_25 : decode prog_2_method_15_code 25 = .ok (.iinc 2 1, 3) := by decide +kernel
theorem d_C_tiesBrokenBy_28 : decode prog_2_method_15_code 28 = .ok (.iinc 3 1, 3) := by decide +kernel
theorem d_C_tiesBrokenBy_31 : decode prog_2_method_15_code 31 = .ok (.goto (-27), 3) := by decide +kernel
theorem d_C_tiesBrokenBy_34 : decode prog_2_method_15_code 34 = .ok (.iload_n 2, 1) := by decide +kernel
theorem d_C_tiesBrokenBy_35 : decode prog_2_method_15_code 35 = .ok (.ireturn, 1) := by decide +kernel
theorem d_C_itemsIn_0 : decode prog_2_method_13_code 0 = .ok (.iconst 0, 1) := by decide +kernel
theorem d_C_itemsIn_1 : decode prog_2_method_13_code 1 = .ok (.istore_n 2, 1) := by decide +kernel
theorem d_C_itemsIn_2 : decode prog_2_method_13_code 2 = .ok (.iconst 0, 1) := by decide +kernel
theorem d_C_itemsIn_3 : decode prog_2_method_13_code 3 = .ok (.istore_n 3, 1) := by decide +kernel
theorem d_C_itemsIn_4 : decode prog_2_method_13_code 4 = .ok (.iload_n 3, 1) := by decide +kernel
theorem d_C_itemsIn_5 : decode prog_2_method_13_code 5 = .ok (.aload_n 0, 1) := by decide +kernel
theorem d_C_itemsIn_6 : decode prog_2_method_13_code 6 = .ok (.getfield 57, 3) := by decide +kernel
theorem d_C_itemsIn_9 : decode prog_2_method_13_code 9 = .ok (.if_icmp .ge 25, 3) := by decide +kernel
theorem d_C_itemsIn_12 : decode prog_2_method_13_code 12 = .ok (.aload_n 0, 1) := by decide +kernel
theorem d_C_itemsIn_13 : decode prog_2_method_13_code 13 = .ok (.getfield 30, 3) := by decide +kernel
theorem d_C_itemsIn_16 : decode prog_2_method_13_code 16 = .ok (.iload_n 3, 1) := by decide +kernel
theorem d_C_itemsIn_17 : decode prog_2_method_13_code 17 = .ok (.aaload, 1) := by decide +kernel
theorem d_C_itemsIn_18 : decode prog_2_method_13_code 18 = .ok (.getfield 89, 3) := by decide +kernel
theorem d_C_itemsIn_21 : decode prog_2_method_13_code 21 = .ok (.iload_n 1, 1) := by decide +kernel
theorem d_C_itemsIn_22 : decode prog_2_method_13_code 22 = .ok (.if_icmp .ne 6, 3) := by decide +kernel
theorem d_C_itemsIn_25 : decode prog_2_method_13_code 25 = .ok (.iinc 2 1, 3) := by decide +kernel
theorem d_C_itemsIn_28 : decode prog_2_method_13_code 28 = .ok (.iinc 3 1, 3) := by decide +kernel
theorem d_C_itemsIn_31 : decode prog_2_method_13_code 31 = .ok (.goto (-27), 3) := by decide +kernel
theorem d_C_itemsIn_34 : decode prog_2_method_13_code 34 = .ok (.iload_n 2, 1) := by decide +kernel
theorem d_C_itemsIn_35 : decode prog_2_method_13_code 35 = .ok (.ireturn, 1) := by decide +kernel
theorem d_C_firstIn_0 : decode prog_2_method_12_code 0 = .ok (.iconst 0, 1) := by decide +kernel
theorem d_C_firstIn_1 : decode prog_2_method_12_code 1 = .ok (.istore_n 2, 1) := by decide +kernel
theorem d_C_firstIn_2 : decode prog_2_method_12_code 2 = .ok (.iload_n 2, 1) := by decide +kernel
theorem d_C_firstIn_3 : decode prog_2_method_12_code 3 = .ok (.aload_n 0, 1) := by decide +kernel
theorem d_C_firstIn_4 : decode prog_2_method_12_code 4 = .ok (.getfield 57, 3) := by decide +kernel
theorem d_C_firstIn_7 : decode prog_2_method_12_code 7 = .ok (.if_icmp .ge 24, 3) := by decide +kernel
theorem d_C_firstIn_10 : decode prog_2_method_12_code 10 = .ok (.aload_n 0, 1) := by decide +kernel
theorem d_C_firstIn_11 : decode prog_2_method_12_code 11 = .ok (.getfield 30, 3) := by decide +kernel
theorem d_C_firstIn_14 : decode prog_2_method_12_code 14 = .ok (.iload_n 2, 1) := by decide +kernel
theorem d_C_firstIn_15 : decode prog_2_method_12_code 15 = .ok (.aaload, 1) := by decide +kernel
theorem d_C_firstIn_16 : decode prog_2_method_12_code 16 = .ok (.getfield 89, 3) := by decide +kernel
theorem d_C_firstIn_19 : decode prog_2_method_12_code 19 = .ok (.iload_n 1, 1) := by decide +kernel
theorem d_C_firstIn_20 : decode prog_2_method_12_code 20 = .ok (.if_icmp .ne 5, 3) := by decide +kernel
theorem d_C_firstIn_23 : decode prog_2_method_12_code 23 = .ok (.iload_n 2, 1) := by decide +kernel
theorem d_C_firstIn_24 : decode prog_2_method_12_code 24 = .ok (.ireturn, 1) := by decide +kernel
theorem d_C_firstIn_25 : decode prog_2_method_12_code 25 = .ok (.iinc 2 1, 3) := by decide +kernel
theorem d_C_firstIn_28 : decode prog_2_method_12_code 28 = .ok (.goto (-26), 3) := by decide +kernel
theorem d_C_firstIn_31 : decode prog_2_method_12_code 31 = .ok (.bipush (-6), 2) := by decide +kernel
theorem d_C_firstIn_33 : decode prog_2_method_12_code 33 = .ok (.ireturn, 1) := by decide +kernel
theorem d_C_chairOfTheMoment_0 : decode prog_2_method_11_code 0 = .ok (.aload_n 0, 1) := by decide +kernel
theorem d_C_chairOfTheMoment_1 : decode prog_2_method_11_code 1 = .ok (.getfield 9, 3) := by decide +kernel
theorem d_C_chairOfTheMoment_4 : decode prog_2_method_11_code 4 = .ok (.bipush (-6), 2) := by decide +kernel
theorem d_C_chairOfTheMoment_6 : decode prog_2_method_11_code 6 = .ok (.if_icmp .eq 19, 3) := by decide +kernel
theorem d_C_chairOfTheMoment_9 : decode prog_2_method_11_code 9 = .ok (.aload_n 0, 1) := by decide +kernel
theorem d_C_chairOfTheMoment_10 : decode prog_2_method_11_code 10 = .ok (.aload_n 0, 1) := by decide +kernel
theorem d_C_chairOfTheMoment_11 : decode prog_2_method_11_code 11 = .ok (.getfield 9, 3) := by decide +kernel
theorem d_C_chairOfTheMoment_14 : decode prog_2_method_11_code 14 = .ok (.invokevirtual 76, 3) := by decide +kernel
theorem d_C_chairOfTheMoment_17 : decode prog_2_method_11_code 17 = .ok (.ifCond .eq 8, 3) := by decide +kernel
theorem d_C_chairOfTheMoment_20 : decode prog_2_method_11_code 20 = .ok (.aload_n 0, 1) := by decide +kernel
theorem d_C_chairOfTheMoment_21 : decode prog_2_method_11_code 21 = .ok (.getfield 9, 3) := by decide +kernel
theorem d_C_chairOfTheMoment_24 : decode prog_2_method_11_code 24 = .ok (.ireturn, 1) := by decide +kernel
theorem d_C_chairOfTheMoment_25 : decode prog_2_method_11_code 25 = .ok (.iconst 0, 1) := by decide +kernel
theorem d_C_chairOfTheMoment_26 : decode prog_2_method_11_code 26 = .ok (.istore_n 1, 1) := by decide +kernel
theorem d_C_chairOfTheMoment_27 : decode prog_2_method_11_code 27 = .ok (.iload_n 1, 1) := by decide +kernel
theorem d_C_chairOfTheMoment_28 : decode prog_2_method_11_code 28 = .ok (.aload_n 0, 1) := by decide +kernel
theorem d_C_chairOfTheMoment_29 : decode prog_2_method_11_code 29 = .ok (.getfield 54, 3) := by decide +kernel
theorem d_C_chairOfTheMoment_32 : decode prog_2_method_11_code 32 = .ok (.if_icmp .ge 19, 3) := by decide +kernel
theorem d_C_chairOfTheMoment_35 : decode prog_2_method_11_code 35 = .ok (.aload_n 0, 1) := by decide +kernel
theorem d_C_chairOfTheMoment_36 : decode prog_2_method_11_code 36 = .ok (.iload_n 1, 1) := by decide +kernel
theorem d_C_chairOfTheMoment_37 : decode prog_2_method_11_code 37 = .ok (.invokevirtual 76, 3) := by decide +kernel
theorem d_C_chairOfTheMoment_40 : decode prog_2_method_11_code 40 = .ok (.ifCond .eq 5, 3) := by decide +kernel
theorem d_C_chairOfTheMoment_43 : decode prog_2_method_11_code 43 = .ok (.iload_n 1, 1) := by decide +kernel
theorem d_C_chairOfTheMoment_44 : decode prog_2_method_11_code 44 = .ok (.ireturn, 1) := by decide +kernel
theorem d_C_chairOfTheMoment_45 : decode prog_2_method_11_code 45 = .ok (.iinc 1 1, 3) := by decide +kernel
theorem d_C_chairOfTheMoment_48 : decode prog_2_method_11_code 48 = .ok (.goto (-21), 3) := by decide +kernel
theorem d_C_chairOfTheMoment_51 : decode prog_2_method_11_code 51 = .ok (.bipush (-6), 2) := by decide +kernel
theorem d_C_chairOfTheMoment_53 : decode prog_2_method_11_code 53 = .ok (.ireturn, 1) := by decide +kernel
theorem d_C_weightOfAll_0 : decode prog_2_method_9_code 0 = .ok (.iconst 0, 1) := by decide +kernel
theorem d_C_weightOfAll_1 : decode prog_2_method_9_code 1 = .ok (.istore_n 1, 1) := by decide +kernel
theorem d_C_weightOfAll_2 : decode prog_2_method_9_code 2 = .ok (.iconst 0, 1) := by decide +kernel
theorem d_C_weightOfAll_3 : decode prog_2_method_9_code 3 = .ok (.istore_n 2, 1) := by decide +kernel
theorem d_C_weightOfAll_4 : decode prog_2_method_9_code 4 = .ok (.iload_n 2, 1) := by decide +kernel
theorem d_C_weightOfAll_5 : decode prog_2_method_9_code 5 = .ok (.aload_n 0, 1) := by decide +kernel
theorem d_C_weightOfAll_6 : decode prog_2_method_9_code 6 = .ok (.getfield 54, 3) := by decide +kernel
theorem d_C_weightOfAll_9 : decode prog_2_method_9_code 9 = .ok (.if_icmp .ge 18, 3) := by decide +kernel
theorem d_C_weightOfAll_12 : decode prog_2_method_9_code 12 = .ok (.iload_n 1, 1) := by decide +kernel
theorem d_C_weightOfAll_13 : decode prog_2_method_9_code 13 = .ok (.aload_n 0, 1) := by decide +kernel
theorem d_C_weightOfAll_14 : decode prog_2_method_9_code 14 = .ok (.getfield 19, 3) := by decide +kernel
theorem d_C_weightOfAll_17 : decode prog_2_method_9_code 17 = .ok (.iload_n 2, 1) := by decide +kernel
theorem d_C_weightOfAll_18 : decode prog_2_method_9_code 18 = .ok (.iaload, 1) := by decide +kernel
theorem d_C_weightOfAll_19 : decode prog_2_method_9_code 19 = .ok (.iadd, 1) := by decide +kernel
theorem d_C_weightOfAll_20 : decode prog_2_method_9_code 20 = .ok (.istore_n 1, 1) := by decide +kernel
theorem d_C_weightOfAll_21 : decode prog_2_method_9_code 21 = .ok (.iinc 2 1, 3) := by decide +kernel
theorem d_C_weightOfAll_24 : decode prog_2_method_9_code 24 = .ok (.goto (-20), 3) := by decide +kernel
theorem d_C_weightOfAll_27 : decode prog_2_method_9_code 27 = .ok (.iload_n 1, 1) := by decide +kernel
theorem d_C_weightOfAll_28 : decode prog_2_method_9_code 28 = .ok (.ireturn, 1) := by decide +kernel
theorem d_C_hasItem_0 : decode prog_2_method_4_code 0 = .ok (.iload_n 1, 1) := by decide +kernel
theorem d_C_hasItem_1 : decode prog_2_method_4_code 1 = .ok (.ifCond .lt 15, 3) := by decide +kernel
theorem d_C_hasItem_4 : decode prog_2_method_4_code 4 = .ok (.iload_n 1, 1) := by decide +kernel
theorem d_C_hasItem_5 : decode prog_2_method_4_code 5 = .ok (.aload_n 0, 1) := by decide +kernel
theorem d_C_hasItem_6 : decode prog_2_method_4_code 6 = .ok (.getfield 57, 3) := by decide +kernel
theorem d_C_hasItem_9 : decode prog_2_method_4_code 9 = .ok (.if_icmp .ge 7, 3) := by decide +kernel
theorem d_C_hasItem_12 : decode prog_2_method_4_code 12 = .ok (.iconst 1, 1) := by decide +kernel
theorem d_C_hasItem_13 : decode prog_2_method_4_code 13 = .ok (.goto 4, 3) := by decide +kernel
theorem d_C_hasItem_16 : decode prog_2_method_4_code 16 = .ok (.iconst 0, 1) := by decide +kernel
theorem d_C_hasItem_17 : decode prog_2_method_4_code 17 = .ok (.ireturn, 1) := by decide +kernel
theorem d_C_isRecused_0 : decode prog_2_method_6_code 0 = .ok (.aload_n 2, 1) := by decide +kernel
theorem d_C_isRecused_1 : decode prog_2_method_6_code 1 = .ok (.getfield 70, 3) := by decide +kernel
theorem d_C_isRecused_4 : decode prog_2_method_6_code 4 = .ok (.aload_n 0, 1) := by decide +kernel
theorem d_C_isRecused_5 : decode prog_2_method_6_code 5 = .ok (.getfield 22, 3) := by decide +kernel
theorem d_C_isRecused_8 : decode prog_2_method_6_code 8 = .ok (.iload_n 1, 1) := by decide +kernel
theorem d_C_isRecused_9 : decode prog_2_method_6_code 9 = .ok (.iaload, 1) := by decide +kernel
theorem d_C_isRecused_10 : decode prog_2_method_6_code 10 = .ok (.ishr, 1) := by decide +kernel
theorem d_C_isRecused_11 : decode prog_2_method_6_code 11 = .ok (.iconst 1, 1) := by decide +kernel
theorem d_C_isRecused_12 : decode prog_2_method_6_code 12 = .ok (.iand, 1) := by decide +kernel
theorem d_C_isRecused_13 : decode prog_2_method_6_code 13 = .ok (.iconst 1, 1) := by decide +kernel
theorem d_C_isRecused_14 : decode prog_2_method_6_code 14 = .ok (.if_icmp .eq 15, 3) := by decide +kernel
theorem d_C_isRecused_17 : decode prog_2_method_6_code 17 = .ok (.aload_n 2, 1) := by decide +kernel
theorem d_C_isRecused_18 : decode prog_2_method_6_code 18 = .ok (.getfield 73, 3) := by decide +kernel
theorem d_C_isRecused_21 : decode prog_2_method_6_code 21 = .ok (.iload_n 1, 1) := by decide +kernel
theorem d_C_isRecused_22 : decode prog_2_method_6_code 22 = .ok (.ishr, 1) := by decide +kernel
theorem d_C_isRecused_23 : decode prog_2_method_6_code 23 = .ok (.iconst 1, 1) := by decide +kernel
theorem d_C_isRecused_24 : decode prog_2_method_6_code 24 = .ok (.iand, 1) := by decide +kernel
theorem d_C_isRecused_25 : decode prog_2_method_6_code 25 = .ok (.iconst 1, 1) := by decide +kernel
theorem d_C_isRecused_26 : decode prog_2_method_6_code 26 = .ok (.if_icmp .ne 7, 3) := by decide +kernel
theorem d_C_isRecused_29 : decode prog_2_method_6_code 29 = .ok (.iconst 1, 1) := by decide +kernel
theorem d_C_isRecused_30 : decode prog_2_method_6_code 30 = .ok (.goto 4, 3) := by decide +kernel
theorem d_C_isRecused_33 : decode prog_2_method_6_code 33 = .ok (.iconst 0, 1) := by decide +kernel
theorem d_C_isRecused_34 : decode prog_2_method_6_code 34 = .ok (.ireturn, 1) := by decide +kernel
theorem d_C_holderFor_0 : decode prog_2_method_8_code 0 = .ok (.aload_n 2, 1) := by decide +kernel
theorem d_C_holderFor_1 : decode prog_2_method_8_code 1 = .ok (.getfield 84, 3) := by decide +kernel
theorem d_C_holderFor_4 : decode prog_2_method_8_code 4 = .ok (.iload_n 1, 1) := by decide +kernel
theorem d_C_holderFor_5 : decode prog_2_method_8_code 5 = .ok (.iaload, 1) := by decide +kernel
theorem d_C_holderFor_6 : decode prog_2_method_8_code 6 = .ok (.bipush (-6), 2) := by decide +kernel
theorem d_C_holderFor_8 : decode prog_2_method_8_code 8 = .ok (.if_icmp .eq 12, 3) := by decide +kernel
theorem d_C_holderFor_11 : decode prog_2_method_8_code 11 = .ok (.aload_n 2, 1) := by decide +kernel
theorem d_C_holderFor_12 : decode prog_2_method_8_code 12 = .ok (.getfield 84, 3) := by decide +kernel
theorem d_C_holderFor_15 : decode prog_2_method_8_code 15 = .ok (.iload_n 1, 1) := by decide +kernel
theorem d_C_holderFor_16 : decode prog_2_method_8_code 16 = .ok (.iaload, 1) := by decide +kernel
theorem d_C_holderFor_17 : decode prog_2_method_8_code 17 = .ok (.goto 9, 3) := by decide +kernel
theorem d_C_holderFor_20 : decode prog_2_method_8_code 20 = .ok (.aload_n 0, 1) := by decide +kernel
theorem d_C_holderFor_21 : decode prog_2_method_8_code 21 = .ok (.getfield 25, 3) := by decide +kernel
theorem d_C_holderFor_24 : decode prog_2_method_8_code 24 = .ok (.iload_n 1, 1) := by decide +kernel
theorem d_C_holderFor_25 : decode prog_2_method_8_code 25 = .ok (.iaload, 1) := by decide +kernel
theorem d_C_holderFor_26 : decode prog_2_method_8_code 26 = .ok (.ireturn, 1) := by decide +kernel
theorem d_H_endOfWay_0 : decode prog_3_method_4_code 0 = .ok (.aload_n 1, 1) := by decide +kernel
theorem d_H_endOfWay_1 : decode prog_3_method_4_code 1 = .ok (.getfield 48, 3) := by decide +kernel
theorem d_H_endOfWay_4 : decode prog_3_method_4_code 4 = .ok (.iconst 4, 1) := by decide +kernel
theorem d_H_endOfWay_5 : decode prog_3_method_4_code 5 = .ok (.iaload, 1) := by decide +kernel
theorem d_H_endOfWay_6 : decode prog_3_method_4_code 6 = .ok (.ifCond .ne 7, 3) := by decide +kernel
theorem d_H_endOfWay_9 : decode prog_3_method_4_code 9 = .ok (.iconst 1, 1) := by decide +kernel
theorem d_H_endOfWay_10 : decode prog_3_method_4_code 10 = .ok (.goto 5, 3) := by decide +kernel
theorem d_H_endOfWay_13 : decode prog_3_method_4_code 13 = .ok (.bipush 12, 2) := by decide +kernel
theorem d_H_endOfWay_15 : decode prog_3_method_4_code 15 = .ok (.istore 4, 2) := by decide +kernel
theorem d_H_endOfWay_17 : decode prog_3_method_4_code 17 = .ok (.iload_n 3, 1) := by decide +kernel
theorem d_H_endOfWay_18 : decode prog_3_method_4_code 18 = .ok (.istore 5, 2) := by decide +kernel
theorem d_H_endOfWay_20 : decode prog_3_method_4_code 20 = .ok (.iconst 0, 1) := by decide +kernel
theorem d_H_endOfWay_21 : decode prog_3_method_4_code 21 = .ok (.istore 6, 2) := by decide +kernel
theorem d_H_endOfWay_23 : decode prog_3_method_4_code 23 = .ok (.iload 6, 2) := by decide +kernel
theorem d_H_endOfWay_25 : decode prog_3_method_4_code 25 = .ok (.iload 4, 2) := by decide +kernel
theorem d_H_endOfWay_27 : decode prog_3_method_4_code 27 = .ok (.if_icmp .ge 55, 3) := by decide +kernel
theorem d_H_endOfWay_30 : decode prog_3_method_4_code 30 = .ok (.aload_n 1, 1) := by decide +kernel
theorem d_H_endOfWay_31 : decode prog_3_method_4_code 31 = .ok (.iload 5, 2) := by decide +kernel
theorem d_H_endOfWay_33 : decode prog_3_method_4_code 33 = .ok (.aload_n 2, 1) := by decide +kernel
theorem d_H_endOfWay_34 : decode prog_3_method_4_code 34 = .ok (.invokevirtual 51, 3) := by decide +kernel
theorem d_H_endOfWay_37 : decode prog_3_method_4_code 37 = .ok (.istore 5, 2) := by decide +kernel
theorem d_H_endOfWay_39 : decode prog_3_method_4_code 39 = .ok (.iload 5, 2) := by decide +kernel
theorem d_H_endOfWay_41 : decode prog_3_method_4_code 41 = .ok (.bipush (-6), 2) := by decide +kernel
theorem d_H_endOfWay_43 : decode prog_3_method_4_code 43 = .ok (.if_icmp .ne 6, 3) := by decide +kernel
theorem d_H_endOfWay_46 : decode prog_3_method_4_code 46 = .ok (.bipush (-6), 2) := by decide +kernel
theorem d_H_endOfWay_48 : decode prog_3_method_4_code 48 = .ok (.ireturn, 1) := by decide +kernel
theorem d_H_endOfWay_49 : decode prog_3_method_4_code 49 = .ok (.aload_n 1, 1) := by decide +kernel
theorem d_H_endOfWay_50 : decode prog_3_method_4_code 50 = .ok (.iload 5, 2) := by decide +kernel
theorem d_H_endOfWay_52 : decode prog_3_method_4_code 52 = .ok (.invokevirtual 37, 3) := by decide +kernel
theorem d_H_endOfWay_55 : decode prog_3_method_4_code 55 = .ok (.ifCond .eq 21, 3) := by decide +kernel
theorem d_H_endOfWay_58 : decode prog_3_method_4_code 58 = .ok (.aload_n 1, 1) := by decide +kernel
theorem d_H_endOfWay_59 : decode prog_3_method_4_code 59 = .ok (.iload 5, 2) := by decide +kernel
theorem d_H_endOfWay_61 : decode prog_3_method_4_code 61 = .ok (.aload_n 2, 1) := by decide +kernel
theorem d_H_endOfWay_62 : decode prog_3_method_4_code 62 = .ok (.invokevirtual 33, 3) := by decide +kernel
theorem d_H_endOfWay_65 : decode prog_3_method_4_code 65 = .ok (.ifCond .eq 8, 3) := by decide +kernel
theorem d_H_endOfWay_68 : decode prog_3_method_4_code 68 = .ok (.bipush (-6), 2) := by decide +kernel
theorem d_H_endOfWay_70 : decode prog_3_method_4_code 70 = .ok (.goto 5, 3) := by decide +kernel
theorem d_H_endOfWay_73 : decode prog_3_method_4_code 73 = .ok (.iload 5, 2) := by decide +kernel
theorem d_H_endOfWay_75 : decode prog_3_method_4_code 75 = .ok (.ireturn, 1) := by decide +kernel
theorem d_H_endOfWay_76 : decode prog_3_method_4_code 76 = .ok (.iinc 6 1, 3) := by decide +kernel
theorem d_H_endOfWay_79 : decode prog_3_method_4_code 79 = .ok (.goto (-56), 3) := by decide +kernel
theorem d_H_endOfWay_82 : decode prog_3_method_4_code 82 = .ok (.bipush (-6), 2) := by decide +kernel
theorem d_H_endOfWay_84 : decode prog_3_method_4_code 84 = .ok (.ireturn, 1) := by decide +kernel
theorem d_H_takenUp_0 : decode prog_3_method_3_code 0 = .ok (.aload_n 0, 1) := by decide +kernel
theorem d_H_takenUp_1 : decode prog_3_method_3_code 1 = .ok (.aload_n 1, 1) := by decide +kernel
theorem d_H_takenUp_2 : decode prog_3_method_3_code 2 = .ok (.aload_n 2, 1) := by decide +kernel
theorem d_H_takenUp_3 : decode prog_3_method_3_code 3 = .ok (.iload_n 3, 1) := by decide +kernel
theorem d_H_takenUp_4 : decode prog_3_method_3_code 4 = .ok (.invokevirtual 45, 3) := by decide +kernel
theorem d_H_takenUp_7 : decode prog_3_method_3_code 7 = .ok (.istore 4, 2) := by decide +kernel
theorem d_H_takenUp_9 : decode prog_3_method_3_code 9 = .ok (.iload 4, 2) := by decide +kernel
theorem d_H_takenUp_11 : decode prog_3_method_3_code 11 = .ok (.bipush (-6), 2) := by decide +kernel
theorem d_H_takenUp_13 : decode prog_3_method_3_code 13 = .ok (.if_icmp .eq 19, 3) := by decide +kernel
theorem d_H_takenUp_16 : decode prog_3_method_3_code 16 = .ok (.aload_n 0, 1) := by decide +kernel
theorem d_H_takenUp_17 : decode prog_3_method_3_code 17 = .ok (.getfield 15, 3) := by decide +kernel
theorem d_H_takenUp_20 : decode prog_3_method_3_code 20 = .ok (.iload 4, 2) := by decide +kernel
theorem d_H_takenUp_22 : decode prog_3_method_3_code 22 = .ok (.iaload, 1) := by decide +kernel
theorem d_H_takenUp_23 : decode prog_3_method_3_code 23 = .ok (.aload_n 1, 1) := by decide +kernel
theorem d_H_takenUp_24 : decode prog_3_method_3_code 24 = .ok (.getfield 48, 3) := by decide +kernel
theorem d_H_takenUp_27 : decode prog_3_method_3_code 27 = .ok (.iconst 3, 1) := by decide +kernel
theorem d_H_takenUp_28 : decode prog_3_method_3_code 28 = .ok (.iaload, 1) := by decide +kernel
theorem d_H_takenUp_29 : decode prog_3_method_3_code 29 = .ok (.if_icmp .lt 6, 3) := by decide +kernel
theorem d_H_takenUp_32 : decode prog_3_method_3_code 32 = .ok (.bipush (-6), 2) := by decide +kernel
theorem d_H_takenUp_34 : decode prog_3_method_3_code 34 = .ok (.ireturn, 1) := by decide +kernel
theorem d_H_takenUp_35 : decode prog_3_method_3_code 35 = .ok (.aload_n 0, 1) := by decide +kernel
theorem d_H_takenUp_36 : decode prog_3_method_3_code 36 = .ok (.getfield 15, 3) := by decide +kernel
theorem d_H_takenUp_39 : decode prog_3_method_3_code 39 = .ok (.iload 4, 2) := by decide +kernel
theorem d_H_takenUp_41 : decode prog_3_method_3_code 41 = .ok (.dup2, 1) := by decide +kernel
theorem d_H_takenUp_42 : decode prog_3_method_3_code 42 = .ok (.iaload, 1) := by decide +kernel
theorem d_H_takenUp_43 : decode prog_3_method_3_code 43 = .ok (.iconst 1, 1) := by decide +kernel
theorem d_H_takenUp_44 : decode prog_3_method_3_code 44 = .ok (.iadd, 1) := by decide +kernel
theorem d_H_takenUp_45 : decode prog_3_method_3_code 45 = .ok (.iastore, 1) := by decide +kernel
theorem d_H_takenUp_46 : decode prog_3_method_3_code 46 = .ok (.iload 4, 2) := by decide +kernel
theorem d_H_takenUp_48 : decode prog_3_method_3_code 48 = .ok (.ireturn, 1) := by decide +kernel
theorem d_H_listen_0 : decode prog_3_method_2_code 0 = .ok (.aload_n 0, 1) := by decide +kernel
theorem d_H_listen_1 : decode prog_3_method_2_code 1 = .ok (.getfield 9, 3) := by decide +kernel
theorem d_H_listen_4 : decode prog_3_method_2_code 4 = .ok (.bipush (-6), 2) := by decide +kernel
theorem d_H_listen_6 : decode prog_3_method_2_code 6 = .ok (.invokestatic 21, 3) := by decide +kernel
theorem d_H_listen_9 : decode prog_3_method_2_code 9 = .ok (.aload_n 0, 1) := by decide +kernel
theorem d_H_listen_10 : decode prog_3_method_2_code 10 = .ok (.getfield 15, 3) := by decide +kernel
theorem d_H_listen_13 : decode prog_3_method_2_code 13 = .ok (.iconst 0, 1) := by decide +kernel
theorem d_H_listen_14 : decode prog_3_method_2_code 14 = .ok (.invokestatic 21, 3) := by decide +kernel
theorem d_H_listen_17 : decode prog_3_method_2_code 17 = .ok (.iconst 0, 1) := by decide +kernel
theorem d_H_listen_18 : decode prog_3_method_2_code 18 = .ok (.istore_n 3, 1) := by decide +kernel
theorem d_H_listen_19 : decode prog_3_method_2_code 19 = .ok (.iload_n 3, 1) := by decide +kernel
theorem d_H_listen_20 : decode prog_3_method_2_code 20 = .ok (.aload_n 1, 1) := by decide +kernel
theorem d_H_listen_21 : decode prog_3_method_2_code 21 = .ok (.getfield 27, 3) := by decide +kernel
theorem d_H_listen_24 : decode prog_3_method_2_code 24 = .ok (.if_icmp .ge 43, 3) := by decide +kernel
theorem d_H_listen_27 : decode prog_3_method_2_code 27 = .ok (.aload_n 1, 1) := by decide +kernel
theorem d_H_listen_28 : decode prog_3_method_2_code 28 = .ok (.iload_n 3, 1) := by decide +kernel
theorem d_H_listen_29 : decode prog_3_method_2_code 29 = .ok (.aload_n 2, 1) := by decide +kernel
theorem d_H_listen_30 : decode prog_3_method_2_code 30 = .ok (.invokevirtual 33, 3) := by decide +kernel
theorem d_H_listen_33 : decode prog_3_method_2_code 33 = .ok (.ifCond .ne 28, 3) := by decide +kernel
theorem d_H_listen_36 : decode prog_3_method_2_code 36 = .ok (.aload_n 0, 1) := by decide +kernel
theorem d_H_listen_37 : decode prog_3_method_2_code 37 = .ok (.getfield 9, 3) := by decide +kernel
theorem d_H_listen_40 : decode prog_3_method_2_code 40 = .ok (.iload_n 3, 1) := by decide +kernel
theorem d_H_listen_41 : decode prog_3_method_2_code 41 = .ok (.aload_n 1, 1) := by decide +kernel
theorem d_H_listen_42 : decode prog_3_method_2_code 42 = .ok (.iload_n 3, 1) := by decide +kernel
theorem d_H_listen_43 : decode prog_3_method_2_code 43 = .ok (.invokevirtual 37, 3) := by decide +kernel
theorem d_H_listen_46 : decode prog_3_method_2_code 46 = .ok (.ifCond .eq 7, 3) := by decide +kernel
theorem d_H_listen_49 : decode prog_3_method_2_code 49 = .ok (.iload_n 3, 1) := by decide +kernel
theorem d_H_listen_50 : decode prog_3_method_2_code 50 = .ok (.goto 10, 3) := by decide +kernel
theorem d_H_listen_53 : decode prog_3_method_2_code 53 = .ok (.aload_n 0, 1) := by decide +kernel
theorem d_H_listen_54 : decode prog_3_method_2_code 54 = .ok (.aload_n 1, 1) := by decide +kernel
theorem d_H_listen_55 : decode prog_3_method_2_code 55 = .ok (.aload_n 2, 1) := by decide +kernel
theorem d_H_listen_56 : decode prog_3_method_2_code 56 = .ok (.iload_n 3, 1) := by decide +kernel
theorem d_H_listen_57 : decode prog_3_method_2_code 57 = .ok (.invokevirtual 41, 3) := by decide +kernel
theorem d_H_listen_60 : decode prog_3_method_2_code 60 = .ok (.iastore, 1) := by decide +kernel
theorem d_H_listen_61 : decode prog_3_method_2_code 61 = .ok (.iinc 3 1, 3) := by decide +kernel
theorem d_H_listen_64 : decode prog_3_method_2_code 64 = .ok (.goto (-45), 3) := by decide +kernel
theorem d_H_listen_67 : decode prog_3_method_2_code 67 = .ok (.return_, 1) := by decide +kernel
theorem d_H_weightThere_0 : decode prog_3_method_6_code 0 = .ok (.iconst 0, 1) := by decide +kernel
theorem d_H_weightThere_1 : decode prog_3_method_6_code 1 = .ok (.istore_n 2, 1) := by decide +kernel
theorem d_H_weightThere_2 : decode prog_3_method_6_code 2 = .ok (.iconst 0, 1) := by decide +kernel
theorem d_H_weightThere_3 : decode prog_3_method_6_code 3 = .ok (.istore_n 3, 1) := by decide +kernel
theorem d_H_weightThere_4 : decode prog_3_method_6_code 4 = .ok (.iload_n 3, 1) := by decide +kernel
theorem d_H_weightThere_5 : decode prog_3_method_6_code 5 = .ok (.aload_n 1, 1) := by decide +kernel
theorem d_H_weightThere_6 : decode prog_3_method_6_code 6 = .ok (.getfield 27, 3) := by decide +kernel
theorem d_H_weightThere_9 : decode prog_3_method_6_code 9 = .ok (.if_icmp .ge 37, 3) := by decide +kernel
theorem d_H_weightThere_12 : decode prog_3_method_6_code 12 = .ok (.aload_n 1, 1) := by decide +kernel
theorem d_H_weightThere_13 : decode prog_3_method_6_code 13 = .ok (.iload_n 3, 1) := by decide +kernel
theorem d_H_weightThere_14 : decode prog_3_method_6_code 14 = .ok (.invokevirtual 37, 3) := by decide +kernel
theorem d_H_weightThere_17 : decode prog_3_method_6_code 17 = .ok (.ifCond .ne 14, 3) := by decide +kernel
theorem d_H_weightThere_20 : decode prog_3_method_6_code 20 = .ok (.aload_n 0, 1) := by decide +kernel
theorem d_H_weightThere_21 : decode prog_3_method_6_code 21 = .ok (.getfield 9, 3) := by decide +kernel
theorem d_H_weightThere_24 : decode prog_3_method_6_code 24 = .ok (.iload_n 3, 1) := by decide +kernel
theorem d_H_weightThere_25 : decode prog_3_method_6_code 25 = .ok (.iaload, 1) := by decide +kernel
theorem d_H_weightThere_26 : decode prog_3_method_6_code 26 = .ok (.bipush (-6), 2) := by decide +kernel
theorem d_H_weightThere_28 : decode prog_3_method_6_code 28 = .ok (.if_icmp .eq 12, 3) := by decide +kernel
theorem d_H_weightThere_31 : decode prog_3_method_6_code 31 = .ok (.iload_n 2, 1) := by decide +kernel
theorem d_H_weightThere_32 : decode prog_3_method_6_code 32 = .ok (.aload_n 1, 1) := by decide +kernel
theorem d_H_weightThere_33 : decode prog_3_method_6_code 33 = .ok (.getfield 55, 3) := by decide +kernel
theorem d_H_weightThere_36 : decode prog_3_method_6_code 36 = .ok (.iload_n 3, 1) := by decide +kernel
theorem d_H_weightThere_37 : decode prog_3_method_6_code 37 = .ok (.iaload, 1) := by decide +kernel
theorem d_H_weightThere_38 : decode prog_3_method_6_code 38 = .ok (.iadd, 1) := by decide +kernel
theorem d_H_weightThere_39 : decode prog_3_method_6_code 39 = .ok (.istore_n 2, 1) := by decide +kernel
theorem d_H_weightThere_40 : decode prog_3_method_6_code 40 = .ok (.iinc 3 1, 3) := by decide +kernel
theorem d_H_weightThere_43 : decode prog_3_method_6_code 43 = .ok (.goto (-39), 3) := by decide +kernel
theorem d_H_weightThere_46 : decode prog_3_method_6_code 46 = .ok (.iload_n 2, 1) := by decide +kernel
theorem d_H_weightThere_47 : decode prog_3_method_6_code 47 = .ok (.ireturn, 1) := by decide +kernel
theorem d_C_isQuorum_0 : decode prog_2_method_10_code 0 = .ok (.aload_n 0, 1) := by decide +kernel
theorem d_C_isQuorum_1 : decode prog_2_method_10_code 1 = .ok (.getfield 51, 3) := by decide +kernel
theorem d_C_isQuorum_4 : decode prog_2_method_10_code 4 = .ok (.aload_n 0, 1) := by decide +kernel
theorem d_C_isQuorum_5 : decode prog_2_method_10_code 5 = .ok (.getfield 15, 3) := by decide +kernel
theorem d_C_isQuorum_8 : decode prog_2_method_10_code 8 = .ok (.iconst 2, 1) := by decide +kernel
theorem d_C_isQuorum_9 : decode prog_2_method_10_code 9 = .ok (.iaload, 1) := by decide +kernel
theorem d_C_isQuorum_10 : decode prog_2_method_10_code 10 = .ok (.if_icmp .lt 12, 3) := by decide +kernel
theorem d_C_isQuorum_13 : decode prog_2_method_10_code 13 = .ok (.aload_n 0, 1) := by decide +kernel
theorem d_C_isQuorum_14 : decode prog_2_method_10_code 14 = .ok (.getfield 15, 3) := by decide +kernel
theorem d_C_isQuorum_17 : decode prog_2_method_10_code 17 = .ok (.iconst 1, 1) := by decide +kernel
theorem d_C_isQuorum_18 : decode prog_2_method_10_code 18 = .ok (.iaload, 1) := by decide +kernel
theorem d_C_isQuorum_19 : decode prog_2_method_10_code 19 = .ok (.goto 9, 3) := by decide +kernel
theorem d_C_isQuorum_22 : decode prog_2_method_10_code 22 = .ok (.aload_n 0, 1) := by decide +kernel
theorem d_C_isQuorum_23 : decode prog_2_method_10_code 23 = .ok (.getfield 15, 3) := by decide +kernel
theorem d_C_isQuorum_26 : decode prog_2_method_10_code 26 = .ok (.iconst 0, 1) := by decide +kernel
theorem d_C_isQuorum_27 : decode prog_2_method_10_code 27 = .ok (.iaload, 1) := by decide +kernel
theorem d_C_isQuorum_28 : decode prog_2_method_10_code 28 = .ok (.istore_n 2, 1) := by decide +kernel
theorem d_C_isQuorum_29 : decode prog_2_method_10_code 29 = .ok (.bipush 100, 2) := by decide +kernel
theorem d_C_isQuorum_31 : decode prog_2_method_10_code 31 = .ok (.iload_n 1, 1) := by decide +kernel
theorem d_C_isQuorum_32 : decode prog_2_method_10_code 32 = .ok (.imul, 1) := by decide +kernel
theorem d_C_isQuorum_33 : decode prog_2_method_10_code 33 = .ok (.aload_n 0, 1) := by decide +kernel
theorem d_C_isQuorum_34 : decode prog_2_method_10_code 34 = .ok (.invokevirtual 85, 3) := by decide +kernel
theorem d_C_isQuorum_37 : decode prog_2_method_10_code 37 = .ok (.iload_n 2, 1) := by decide +kernel
theorem d_C_isQuorum_38 : decode prog_2_method_10_code 38 = .ok (.imul, 1) := by decide +kernel
theorem d_C_isQuorum_39 : decode prog_2_method_10_code 39 = .ok (.if_icmp .lt 7, 3) := by decide +kernel
theorem d_C_isQuorum_42 : decode prog_2_method_10_code 42 = .ok (.iconst 1, 1) := by decide +kernel
theorem d_C_isQuorum_43 : decode prog_2_method_10_code 43 = .ok (.goto 4, 3) := by decide +kernel
theorem d_C_isQuorum_46 : decode prog_2_method_10_code 46 = .ok (.iconst 0, 1) := by decide +kernel
theorem d_C_isQuorum_47 : decode prog_2_method_10_code 47 = .ok (.ireturn, 1) := by decide +kernel
theorem d_I_isPending_0 : decode prog_5_method_4_code 0 = .ok (.aload_n 0, 1) := by decide +kernel
theorem d_I_isPending_1 : decode prog_5_method_4_code 1 = .ok (.getfield 31, 3) := by decide +kernel
theorem d_I_isPending_4 : decode prog_5_method_4_code 4 = .ok (.ifCond .eq 11, 3) := by decide +kernel
theorem d_I_isPending_7 : decode prog_5_method_4_code 7 = .ok (.aload_n 0, 1) := by decide +kernel
theorem d_I_isPending_8 : decode prog_5_method_4_code 8 = .ok (.getfield 31, 3) := by decide +kernel
theorem d_I_isPending_11 : decode prog_5_method_4_code 11 = .ok (.iconst 1, 1) := by decide +kernel
theorem d_I_isPending_12 : decode prog_5_method_4_code 12 = .ok (.if_icmp .ne 7, 3) := by decide +kernel
theorem d_I_isPending_15 : decode prog_5_method_4_code 15 = .ok (.iconst 1, 1) := by decide +kernel
theorem d_I_isPending_16 : decode prog_5_method_4_code 16 = .ok (.goto 4, 3) := by decide +kernel
theorem d_I_isPending_19 : decode prog_5_method_4_code 19 = .ok (.iconst 0, 1) := by decide +kernel
theorem d_I_isPending_20 : decode prog_5_method_4_code 20 = .ok (.ireturn, 1) := by decide +kernel
theorem d_H_wayOf_0 : decode prog_3_method_7_code 0 = .ok (.aload_n 1, 1) := by decide +kernel
theorem d_H_wayOf_1 : decode prog_3_method_7_code 1 = .ok (.iload_n 3, 1) := by decide +kernel
theorem d_H_wayOf_2 : decode prog_3_method_7_code 2 = .ok (.aload_n 2, 1) := by decide +kernel
theorem d_H_wayOf_3 : decode prog_3_method_7_code 3 = .ok (.invokevirtual 33, 3) := by decide +kernel
theorem d_H_wayOf_6 : decode prog_3_method_7_code 6 = .ok (.ifCond .eq 5, 3) := by decide +kernel
theorem d_H_wayOf_9 : decode prog_3_method_7_code 9 = .ok (.iconst 5, 1) := by decide +kernel
theorem d_H_wayOf_10 : decode prog_3_method_7_code 10 = .ok (.ireturn, 1) := by decide +kernel
theorem d_H_wayOf_11 : decode prog_3_method_7_code 11 = .ok (.aload_n 2, 1) := by decide +kernel
theorem d_H_wayOf_12 : decode prog_3_method_7_code 12 = .ok (.getfield 58, 3) := by decide +kernel
theorem d_H_wayOf_15 : decode prog_3_method_7_code 15 = .ok (.iload_n 3, 1) := by decide +kernel
theorem d_H_wayOf_16 : decode prog_3_method_7_code 16 = .ok (.iaload, 1) := by decide +kernel
theorem d_H_wayOf_17 : decode prog_3_method_7_code 17 = .ok (.bipush (-6), 2) := by decide +kernel
theorem d_H_wayOf_19 : decode prog_3_method_7_code 19 = .ok (.if_icmp .eq 10, 3) := by decide +kernel
theorem d_H_wayOf_22 : decode prog_3_method_7_code 22 = .ok (.aload_n 2, 1) := by decide +kernel
theorem d_H_wayOf_23 : decode prog_3_method_7_code 23 = .ok (.getfield 58, 3) := by decide +kernel
theorem d_H_wayOf_26 : decode prog_3_method_7_code 26 = .ok (.iload_n 3, 1) := by decide +kernel
theorem d_H_wayOf_27 : decode prog_3_method_7_code 27 = .ok (.iaload, 1) := by decide +kernel
theorem d_H_wayOf_28 : decode prog_3_method_7_code 28 = .ok (.ireturn, 1) := by decide +kernel
theorem d_H_wayOf_29 : decode prog_3_method_7_code 29 = .ok (.aload_n 1, 1) := by decide +kernel
theorem d_H_wayOf_30 : decode prog_3_method_7_code 30 = .ok (.iload_n 3, 1) := by decide +kernel
theorem d_H_wayOf_31 : decode prog_3_method_7_code 31 = .ok (.invokevirtual 37, 3) := by decide +kernel
theorem d_H_wayOf_34 : decode prog_3_method_7_code 34 = .ok (.ifCond .eq 5, 3) := by decide +kernel
theorem d_H_wayOf_37 : decode prog_3_method_7_code 37 = .ok (.iconst 3, 1) := by decide +kernel
theorem d_H_wayOf_38 : decode prog_3_method_7_code 38 = .ok (.ireturn, 1) := by decide +kernel
theorem d_H_wayOf_39 : decode prog_3_method_7_code 39 = .ok (.aload_n 0, 1) := by decide +kernel
theorem d_H_wayOf_40 : decode prog_3_method_7_code 40 = .ok (.getfield 9, 3) := by decide +kernel
theorem d_H_wayOf_43 : decode prog_3_method_7_code 43 = .ok (.iload_n 3, 1) := by decide +kernel
theorem d_H_wayOf_44 : decode prog_3_method_7_code 44 = .ok (.iaload, 1) := by decide +kernel
theorem d_H_wayOf_45 : decode prog_3_method_7_code 45 = .ok (.istore 4, 2) := by decide +kernel
theorem d_H_wayOf_47 : decode prog_3_method_7_code 47 = .ok (.iload 4, 2) := by decide +kernel
theorem d_H_wayOf_49 : decode prog_3_method_7_code 49 = .ok (.bipush (-6), 2) := by decide +kernel
theorem d_H_wayOf_51 : decode prog_3_method_7_code 51 = .ok (.if_icmp .ne 5, 3) := by decide +kernel
theorem d_H_wayOf_54 : decode prog_3_method_7_code 54 = .ok (.iconst 4, 1) := by decide +kernel
theorem d_H_wayOf_55 : decode prog_3_method_7_code 55 = .ok (.ireturn, 1) := by decide +kernel
theorem d_H_wayOf_56 : decode prog_3_method_7_code 56 = .ok (.aload_n 2, 1) := by decide +kernel
theorem d_H_wayOf_57 : decode prog_3_method_7_code 57 = .ok (.getfield 63, 3) := by decide +kernel
theorem d_H_wayOf_60 : decode prog_3_method_7_code 60 = .ok (.iload_n 3, 1) := by decide +kernel
theorem d_H_wayOf_61 : decode prog_3_method_7_code 61 = .ok (.iaload, 1) := by decide +kernel
theorem d_H_wayOf_62 : decode prog_3_method_7_code 62 = .ok (.bipush (-6), 2) := by decide +kernel
theorem d_H_wayOf_64 : decode prog_3_method_7_code 64 = .ok (.if_icmp .eq 10, 3) := by decide +kernel
theorem d_H_wayOf_67 : decode prog_3_method_7_code 67 = .ok (.aload_n 2, 1) := by decide +kernel
theorem d_H_wayOf_68 : decode prog_3_method_7_code 68 = .ok (.getfield 63, 3) := by decide +kernel
theorem d_H_wayOf_71 : decode prog_3_method_7_code 71 = .ok (.iload_n 3, 1) := by decide +kernel
theorem d_H_wayOf_72 : decode prog_3_method_7_code 72 = .ok (.iaload, 1) := by decide +kernel
theorem d_H_wayOf_73 : decode prog_3_method_7_code 73 = .ok (.ireturn, 1) := by decide +kernel
theorem d_H_wayOf_74 : decode prog_3_method_7_code 74 = .ok (.aload_n 2, 1) := by decide +kernel
theorem d_H_wayOf_75 : decode prog_3_method_7_code 75 = .ok (.getfield 58, 3) := by decide +kernel
theorem d_H_wayOf_78 : decode prog_3_method_7_code 78 = .ok (.iload 4, 2) := by decide +kernel
theorem d_H_wayOf_80 : decode prog_3_method_7_code 80 = .ok (.iaload, 1) := by decide +kernel
theorem d_H_wayOf_81 : decode prog_3_method_7_code 81 = .ok (.bipush (-6), 2) := by decide +kernel
theorem d_H_wayOf_83 : decode prog_3_method_7_code 83 = .ok (.if_icmp .eq 13, 3) := by decide +kernel
theorem d_H_wayOf_86 : decode prog_3_method_7_code 86 = .ok (.aload_n 2, 1) := by decide +kernel
theorem d_H_wayOf_87 : decode prog_3_method_7_code 87 = .ok (.getfield 58, 3) := by decide +kernel
theorem d_H_wayOf_90 : decode prog_3_method_7_code 90 = .ok (.iload 4, 2) := by decide +kernel
theorem d_H_wayOf_92 : decode prog_3_method_7_code 92 = .ok (.iaload, 1) := by decide +kernel
theorem d_H_wayOf_93 : decode prog_3_method_7_code 93 = .ok (.goto 4, 3) := by decide +kernel
theorem d_H_wayOf_96 : decode prog_3_method_7_code 96 = .ok (.iconst 3, 1) := by decide +kernel
theorem d_H_wayOf_97 : decode prog_3_method_7_code 97 = .ok (.ireturn, 1) := by decide +kernel
theorem d_H_tally_0 : decode prog_3_method_8_code 0 = .ok (.aload_n 0, 1) := by decide +kernel
theorem d_H_tally_1 : decode prog_3_method_8_code 1 = .ok (.getfield 18, 3) := by decide +kernel
theorem d_H_tally_4 : decode prog_3_method_8_code 4 = .ok (.iconst 0, 1) := by decide +kernel
theorem d_H_tally_5 : decode prog_3_method_8_code 5 = .ok (.invokestatic 21, 3) := by decide +kernel
theorem d_H_tally_8 : decode prog_3_method_8_code 8 = .ok (.iconst 0, 1) := by decide +kernel
theorem d_H_tally_9 : decode prog_3_method_8_code 9 = .ok (.istore_n 3, 1) := by decide +kernel
theorem d_H_tally_10 : decode prog_3_method_8_code 10 = .ok (.iload_n 3, 1) := by decide +kernel
theorem d_H_tally_11 : decode prog_3_method_8_code 11 = .ok (.aload_n 1, 1) := by decide +kernel
theorem d_H_tally_12 : decode prog_3_method_8_code 12 = .ok (.getfield 27, 3) := by decide +kernel
theorem d_H_tally_15 : decode prog_3_method_8_code 15 = .ok (.if_icmp .ge 30, 3) := by decide +kernel
theorem d_H_tally_18 : decode prog_3_method_8_code 18 = .ok (.aload_n 0, 1) := by decide +kernel
theorem d_H_tally_19 : decode prog_3_method_8_code 19 = .ok (.getfield 18, 3) := by decide +kernel
theorem d_H_tally_22 : decode prog_3_method_8_code 22 = .ok (.aload_n 0, 1) := by decide +kernel
theorem d_H_tally_23 : decode prog_3_method_8_code 23 = .ok (.aload_n 1, 1) := by decide +kernel
theorem d_H_tally_24 : decode prog_3_method_8_code 24 = .ok (.aload_n 2, 1) := by decide +kernel
theorem d_H_tally_25 : decode prog_3_method_8_code 25 = .ok (.iload_n 3, 1) := by decide +kernel
theorem d_H_tally_26 : decode prog_3_method_8_code 26 = .ok (.invokevirtual 66, 3) := by decide +kernel
theorem d_H_tally_29 : decode prog_3_method_8_code 29 = .ok (.dup2, 1) := by decide +kernel
theorem d_H_tally_30 : decode prog_3_method_8_code 30 = .ok (.iaload, 1) := by decide +kernel
theorem d_H_tally_31 : decode prog_3_method_8_code 31 = .ok (.aload_n 1, 1) := by decide +kernel
theorem d_H_tally_32 : decode prog_3_method_8_code 32 = .ok (.getfield 55, 3) := by decide +kernel
theorem d_H_tally_35 : decode prog_3_method_8_code 35 = .ok (.iload_n 3, 1) := by decide +kernel
theorem d_H_tally_36 : decode prog_3_method_8_code 36 = .ok (.iaload, 1) := by decide +kernel
theorem d_H_tally_37 : decode prog_3_method_8_code 37 = .ok (.iadd, 1) := by decide +kernel
theorem d_H_tally_38 : decode prog_3_method_8_code 38 = .ok (.iastore, 1) := by decide +kernel
theorem d_H_tally_39 : decode prog_3_method_8_code 39 = .ok (.iinc 3 1, 3) := by decide +kernel
theorem d_H_tally_42 : decode prog_3_method_8_code 42 = .ok (.goto (-32), 3) := by decide +kernel
theorem d_H_tally_45 : decode prog_3_method_8_code 45 = .ok (.return_, 1) := by decide +kernel
theorem d_H_spokenForBy_0 : decode prog_3_method_5_code 0 = .ok (.iconst 0, 1) := by decide +kernel
theorem d_H_spokenForBy_1 : decode prog_3_method_5_code 1 = .ok (.istore_n 3, 1) := by decide +kernel
theorem d_H_spokenForBy_2 : decode prog_3_method_5_code 2 = .ok (.iconst 0, 1) := by decide +kernel
theorem d_H_spokenForBy_3 : decode prog_3_method_5_code 3 = .ok (.istore 4, 2) := by decide +kernel
theorem d_H_spokenForBy_5 : decode prog_3_method_5_code 5 = .ok (.iload 4, 2) := by decide +kernel
theorem d_H_spokenForBy_7 : decode prog_3_method_5_code 7 = .ok (.aload_n 1, 1) := by decide +kernel
theorem d_H_spokenForBy_8 : decode prog_3_method_5_code 8 = .ok (.getfield 27, 3) := by decide +kernel
theorem d_H_spokenForBy_11 : decode prog_3_method_5_code 11 = .ok (.if_icmp .ge 36, 3) := by decide +kernel
theorem d_H_spokenForBy_14 : decode prog_3_method_5_code 14 = .ok (.aload_n 0, 1) := by decide +kernel
theorem d_H_spokenForBy_15 : decode prog_3_method_5_code 15 = .ok (.getfield 9, 3) := by decide +kernel
theorem d_H_spokenForBy_18 : decode prog_3_method_5_code 18 = .ok (.iload 4, 2) := by decide +kernel
theorem d_H_spokenForBy_20 : decode prog_3_method_5_code 20 = .ok (.iaload, 1) := by decide +kernel
theorem d_H_spokenForBy_21 : decode prog_3_method_5_code 21 = .ok (.iload_n 2, 1) := by decide +kernel
theorem d_H_spokenForBy_22 : decode prog_3_method_5_code 22 = .ok (.if_icmp .ne 19, 3) := by decide +kernel
theorem d_H_spokenForBy_25 : decode prog_3_method_5_code 25 = .ok (.aload_n 1, 1) := by decide +kernel
theorem d_H_spokenForBy_26 : decode prog_3_method_5_code 26 = .ok (.iload 4, 2) := by decide +kernel
theorem d_H_spokenForBy_28 : decode prog_3_method_5_code 28 = .ok (.invokevirtual 37, 3) := by decide +kernel
theorem d_H_spokenForBy_31 : decode prog_3_method_5_code 31 = .ok (.ifCond .ne 10, 3) := by decide +kernel
theorem d_H_spokenForBy_34 : decode prog_3_method_5_code 34 = .ok (.iload_n 3, 1) := by decide +kernel
theorem d_H_spokenForBy_35 : decode prog_3_method_5_code 35 = .ok (.iconst 1, 1) := by decide +kernel
theorem d_H_spokenForBy_36 : decode prog_3_method_5_code 36 = .ok (.iload 4, 2) := by decide +kernel
theorem d_H_spokenForBy_38 : decode prog_3_method_5_code 38 = .ok (.ishl, 1) := by decide +kernel
theorem d_H_spokenForBy_39 : decode prog_3_method_5_code 39 = .ok (.ior, 1) := by decide +kernel
theorem d_H_spokenForBy_40 : decode prog_3_method_5_code 40 = .ok (.istore_n 3, 1) := by decide +kernel
theorem d_H_spokenForBy_41 : decode prog_3_method_5_code 41 = .ok (.iinc 4 1, 3) := by decide +kernel
theorem d_H_spokenForBy_44 : decode prog_3_method_5_code 44 = .ok (.goto (-39), 3) := by decide +kernel
theorem d_H_spokenForBy_47 : decode prog_3_method_5_code 47 = .ok (.iload_n 3, 1) := by decide +kernel
theorem d_H_spokenForBy_48 : decode prog_3_method_5_code 48 = .ok (.ireturn, 1) := by decide +kernel
theorem d_H_outcome_0 : decode prog_3_method_9_code 0 = .ok (.aload_n 0, 1) := by decide +kernel
theorem d_H_outcome_1 : decode prog_3_method_9_code 1 = .ok (.getfield 18, 3) := by decide +kernel
theorem d_H_outcome_4 : decode prog_3_method_9_code 4 = .ok (.iconst 1, 1) := by decide +kernel
theorem d_H_outcome_5 : decode prog_3_method_9_code 5 = .ok (.iaload, 1) := by decide +kernel
theorem d_H_outcome_6 : decode prog_3_method_9_code 6 = .ok (.iload_n 3, 1) := by decide +kernel
theorem d_H_outcome_7 : decode prog_3_method_9_code 7 = .ok (.iadd, 1) := by decide +kernel
theorem d_H_outcome_8 : decode prog_3_method_9_code 8 = .ok (.istore 4, 2) := by decide +kernel
theorem d_H_outcome_10 : decode prog_3_method_9_code 10 = .ok (.aload_n 0, 1) := by decide +kernel
theorem d_H_outcome_11 : decode prog_3_method_9_code 11 = .ok (.getfield 18, 3) := by decide +kernel
theorem d_H_outcome_14 : decode prog_3_method_9_code 14 = .ok (.iconst 2, 1) := by decide +kernel
theorem d_H_outcome_15 : decode prog_3_method_9_code 15 = .ok (.iaload, 1) := by decide +kernel
theorem d_H_outcome_16 : decode prog_3_method_9_code 16 = .ok (.istore 5, 2) := by decide +kernel
theorem d_H_outcome_18 : decode prog_3_method_9_code 18 = .ok (.aload_n 2, 1) := by decide +kernel
theorem d_H_outcome_19 : decode prog_3_method_9_code 19 = .ok (.getfield 69, 3) := by decide +kernel
theorem d_H_outcome_22 : decode prog_3_method_9_code 22 = .ok (.lookupswitch 83 #[(0, 26), (1, 58)], 26) := by decide +kernel
theorem d_H_outcome_48 : decode prog_3_method_9_code 48 = .ok (.iload 4, 2) := by decide +kernel
theorem d_H_outcome_50 : decode prog_3_method_9_code 50 = .ok (.iload 5, 2) := by decide +kernel
theorem d_H_outcome_52 : decode prog_3_method_9_code 52 = .ok (.if_icmp .ne 15, 3) := by decide +kernel
theorem d_H_outcome_55 : decode prog_3_method_9_code 55 = .ok (.aload_n 1, 1) := by decide +kernel
theorem d_H_outcome_56 : decode prog_3_method_9_code 56 = .ok (.getfield 48, 3) := by decide +kernel
theorem d_H_outcome_59 : decode prog_3_method_9_code 59 = .ok (.iconst 5, 1) := by decide +kernel
theorem d_H_outcome_60 : decode prog_3_method_9_code 60 = .ok (.iaload, 1) := by decide +kernel
theorem d_H_outcome_61 : decode prog_3_method_9_code 61 = .ok (.iconst 1, 1) := by decide +kernel
theorem d_H_outcome_62 : decode prog_3_method_9_code 62 = .ok (.if_icmp .ne 5, 3) := by decide +kernel
theorem d_H_outcome_65 : decode prog_3_method_9_code 65 = .ok (.iconst 2, 1) := by decide +kernel
theorem d_H_outcome_66 : decode prog_3_method_9_code 66 = .ok (.ireturn, 1) := by decide +kernel
theorem d_H_outcome_67 : decode prog_3_method_9_code 67 = .ok (.iload 4, 2) := by decide +kernel
theorem d_H_outcome_69 : decode prog_3_method_9_code 69 = .ok (.iload 5, 2) := by decide +kernel
theorem d_H_outcome_71 : decode prog_3_method_9_code 71 = .ok (.if_icmp .le 7, 3) := by decide +kernel
theorem d_H_outcome_74 : decode prog_3_method_9_code 74 = .ok (.iconst 3, 1) := by decide +kernel
theorem d_H_outcome_75 : decode prog_3_method_9_code 75 = .ok (.goto 4, 3) := by decide +kernel
theorem d_H_outcome_78 : decode prog_3_method_9_code 78 = .ok (.iconst 4, 1) := by decide +kernel
theorem d_H_outcome_79 : decode prog_3_method_9_code 79 = .ok (.ireturn, 1) := by decide +kernel
theorem d_H_outcome_80 : decode prog_3_method_9_code 80 = .ok (.iload 4, 2) := by decide +kernel
theorem d_H_outcome_82 : decode prog_3_method_9_code 82 = .ok (.ifCond .le 21, 3) := by decide +kernel
theorem d_H_outcome_85 : decode prog_3_method_9_code 85 = .ok (.iconst 3, 1) := by decide +kernel
theorem d_H_outcome_86 : decode prog_3_method_9_code 86 = .ok (.iload 4, 2) := by decide +kernel
theorem d_H_outcome_88 : decode prog_3_method_9_code 88 = .ok (.imul, 1) := by decide +kernel
theorem d_H_outcome_89 : decode prog_3_method_9_code 89 = .ok (.iconst 2, 1) := by decide +kernel
theorem d_H_outcome_90 : decode prog_3_method_9_code 90 = .ok (.iload 4, 2) := by decide +kernel
theorem d_H_outcome_92 : decode prog_3_method_9_code 92 = .ok (.iload 5, 2) := by decide +kernel
theorem d_H_outcome_94 : decode prog_3_method_9_code 94 = .ok (.iadd, 1) := by decide +kernel
theorem d_H_outcome_95 : decode prog_3_method_9_code 95 = .ok (.imul, 1) := by decide +kernel
theorem d_H_outcome_96 : decode prog_3_method_9_code 96 = .ok (.if_icmp .lt 7, 3) := by decide +kernel
theorem d_H_outcome_99 : decode prog_3_method_9_code 99 = .ok (.iconst 3, 1) := by decide +kernel
theorem d_H_outcome_100 : decode prog_3_method_9_code 100 = .ok (.goto 4, 3) := by decide +kernel
theorem d_H_outcome_103 : decode prog_3_method_9_code 103 = .ok (.iconst 4, 1) := by decide +kernel
theorem d_H_outcome_104 : decode prog_3_method_9_code 104 = .ok (.ireturn, 1) := by decide +kernel
theorem d_H_outcome_105 : decode prog_3_method_9_code 105 = .ok (.iload 4, 2) := by decide +kernel
theorem d_H_outcome_107 : decode prog_3_method_9_code 107 = .ok (.ifCond .le 21, 3) := by decide +kernel
theorem d_H_outcome_110 : decode prog_3_method_9_code 110 = .ok (.aload_n 0, 1) := by decide +kernel
theorem d_H_outcome_111 : decode prog_3_method_9_code 111 = .ok (.getfield 18, 3) := by decide +kernel
theorem d_H_outcome_114 : decode prog_3_method_9_code 114 = .ok (.iconst 0, 1) := by decide +kernel
theorem d_H_outcome_115 : decode prog_3_method_9_code 115 = .ok (.iaload, 1) := by decide +kernel
theorem d_H_outcome_116 : decode prog_3_method_9_code 116 = .ok (.ifCond .ne 12, 3) := by decide +kernel
theorem d_H_outcome_119 : decode prog_3_method_9_code 119 = .ok (.iload 5, 2) := by decide +kernel
theorem d_H_outcome_121 : decode prog_3_method_9_code 121 = .ok (.ifCond .ne 7, 3) := by decide +kernel
theorem d_H_outcome_124 : decode prog_3_method_9_code 124 = .ok (.iconst 3, 1) := by decide +kernel
theorem d_H_outcome_125 : decode prog_3_method_9_code 125 = .ok (.goto 4, 3) := by decide +kernel
theorem d_H_outcome_128 : decode prog_3_method_9_code 128 = .ok (.iconst 4, 1) := by decide +kernel
theorem d_H_outcome_129 : decode prog_3_method_9_code 129 = .ok (.ireturn, 1) := by decide +kernel
theorem d_JI_bitCount_0 : decode prog_10_method_49_code 0 = .ok (.iload_n 0, 1) := by decide +kernel
theorem d_JI_bitCount_1 : decode prog_10_method_49_code 1 = .ok (.iload_n 0, 1) := by decide +kernel
theorem d_JI_bitCount_2 : decode prog_10_method_49_code 2 = .ok (.iconst 1, 1) := by decide +kernel
theorem d_JI_bitCount_3 : decode prog_10_method_49_code 3 = .ok (.iushr, 1) := by decide +kernel
theorem d_JI_bitCount_4 : decode prog_10_method_49_code 4 = .ok (.ldc_w 265, 3) := by decide +kernel
theorem d_JI_bitCount_7 : decode prog_10_method_49_code 7 = .ok (.iand, 1) := by decide +kernel
theorem d_JI_bitCount_8 : decode prog_10_method_49_code 8 = .ok (.isub, 1) := by decide +kernel
theorem d_JI_bitCount_9 : decode prog_10_method_49_code 9 = .ok (.istore_n 0, 1) := by decide +kernel
theorem d_JI_bitCount_10 : decode prog_10_method_49_code 10 = .ok (.iload_n 0, 1) := by decide +kernel
theorem d_JI_bitCount_11 : decode prog_10_method_49_code 11 = .ok (.ldc_w 266, 3) := by decide +kernel
theorem d_JI_bitCount_14 : decode prog_10_method_49_code 14 = .ok (.iand, 1) := by decide +kernel
theorem d_JI_bitCount_15 : decode prog_10_method_49_code 15 = .ok (.iload_n 0, 1) := by decide +kernel
theorem d_JI_bitCount_16 : decode prog_10_method_49_code 16 = .ok (.iconst 2, 1) := by decide +kernel
theorem d_JI_bitCount_17 : decode prog_10_method_49_code 17 = .ok (.iushr, 1) := by decide +kernel
theorem d_JI_bitCount_18 : decode prog_10_method_49_code 18 = .ok (.ldc_w 266, 3) := by decide +kernel
theorem d_JI_bitCount_21 : decode prog_10_method_49_code 21 = .ok (.iand, 1) := by decide +kernel
theorem d_JI_bitCount_22 : decode prog_10_method_49_code 22 = .ok (.iadd, 1) := by decide +kernel
theorem d_JI_bitCount_23 : decode prog_10_method_49_code 23 = .ok (.istore_n 0, 1) := by decide +kernel
theorem d_JI_bitCount_24 : decode prog_10_method_49_code 24 = .ok (.iload_n 0, 1) := by decide +kernel
theorem d_JI_bitCount_25 : decode prog_10_method_49_code 25 = .ok (.iload_n 0, 1) := by decide +kernel
theorem d_JI_bitCount_26 : decode prog_10_method_49_code 26 = .ok (.iconst 4, 1) := by decide +kernel
theorem d_JI_bitCount_27 : decode prog_10_method_49_code 27 = .ok (.iushr, 1) := by decide +kernel
theorem d_JI_bitCount_28 : decode prog_10_method_49_code 28 = .ok (.iadd, 1) := by decide +kernel
theorem d_JI_bitCount_29 : decode prog_10_method_49_code 29 = .ok (.ldc_w 267, 3) := by decide +kernel
theorem d_JI_bitCount_32 : decode prog_10_method_49_code 32 = .ok (.iand, 1) := by decide +kernel
theorem d_JI_bitCount_33 : decode prog_10_method_49_code 33 = .ok (.istore_n 0, 1) := by decide +kernel
theorem d_JI_bitCount_34 : decode prog_10_method_49_code 34 = .ok (.iload_n 0, 1) := by decide +kernel
theorem d_JI_bitCount_35 : decode prog_10_method_49_code 35 = .ok (.iload_n 0, 1) := by decide +kernel
theorem d_JI_bitCount_36 : decode prog_10_method_49_code 36 = .ok (.bipush 8, 2) := by decide +kernel
theorem d_JI_bitCount_38 : decode prog_10_method_49_code 38 = .ok (.iushr, 1) := by decide +kernel
theorem d_JI_bitCount_39 : decode prog_10_method_49_code 39 = .ok (.iadd, 1) := by decide +kernel
theorem d_JI_bitCount_40 : decode prog_10_method_49_code 40 = .ok (.istore_n 0, 1) := by decide +kernel
theorem d_JI_bitCount_41 : decode prog_10_method_49_code 41 = .ok (.iload_n 0, 1) := by decide +kernel
theorem d_JI_bitCount_42 : decode prog_10_method_49_code 42 = .ok (.iload_n 0, 1) := by decide +kernel
theorem d_JI_bitCount_43 : decode prog_10_method_49_code 43 = .ok (.bipush 16, 2) := by decide +kernel
theorem d_JI_bitCount_45 : decode prog_10_method_49_code 45 = .ok (.iushr, 1) := by decide +kernel
theorem d_JI_bitCount_46 : decode prog_10_method_49_code 46 = .ok (.iadd, 1) := by decide +kernel
theorem d_JI_bitCount_47 : decode prog_10_method_49_code 47 = .ok (.istore_n 0, 1) := by decide +kernel
theorem d_JI_bitCount_48 : decode prog_10_method_49_code 48 = .ok (.iload_n 0, 1) := by decide +kernel
theorem d_JI_bitCount_49 : decode prog_10_method_49_code 49 = .ok (.bipush 63, 2) := by decide +kernel
theorem d_JI_bitCount_51 : decode prog_10_method_49_code 51 = .ok (.iand, 1) := by decide +kernel
theorem d_JI_bitCount_52 : decode prog_10_method_49_code 52 = .ok (.ireturn, 1) := by decide +kernel
theorem d_C_bringIn_0 : decode prog_2_method_20_code 0 = .ok (.aload_n 0, 1) := by decide +kernel
theorem d_C_bringIn_1 : decode prog_2_method_20_code 1 = .ok (.iload_n 1, 1) := by decide +kernel
theorem d_C_bringIn_2 : decode prog_2_method_20_code 2 = .ok (.invokevirtual 105, 3) := by decide +kernel
theorem d_C_bringIn_5 : decode prog_2_method_20_code 5 = .ok (.ifCond .ne 5, 3) := by decide +kernel
theorem d_C_bringIn_8 : decode prog_2_method_20_code 8 = .ok (.iconst (-1), 1) := by decide +kernel
theorem d_C_bringIn_9 : decode prog_2_method_20_code 9 = .ok (.ireturn, 1) := by decide +kernel
theorem d_C_bringIn_10 : decode prog_2_method_20_code 10 = .ok (.aload_n 0, 1) := by decide +kernel
theorem d_C_bringIn_11 : decode prog_2_method_20_code 11 = .ok (.iload_n 1, 1) := by decide +kernel
theorem d_C_bringIn_12 : decode prog_2_method_20_code 12 = .ok (.invokevirtual 76, 3) := by decide +kernel
theorem d_C_bringIn_15 : decode prog_2_method_20_code 15 = .ok (.ifCond .eq 6, 3) := by decide +kernel
theorem d_C_bringIn_18 : decode prog_2_method_20_code 18 = .ok (.bipush (-5), 2) := by decide +kernel
theorem d_C_bringIn_20 : decode prog_2_method_20_code 20 = .ok (.ireturn, 1) := by decide +kernel
theorem d_C_bringIn_21 : decode prog_2_method_20_code 21 = .ok (.aload_n 0, 1) := by decide +kernel
theorem d_C_bringIn_22 : decode prog_2_method_20_code 22 = .ok (.dup, 1) := by decide +kernel
theorem d_C_bringIn_23 : decode prog_2_method_20_code 23 = .ok (.getfield 60, 3) := by decide +kernel
theorem d_C_bringIn_26 : decode prog_2_method_20_code 26 = .ok (.iconst 1, 1) := by decide +kernel
theorem d_C_bringIn_27 : decode prog_2_method_20_code 27 = .ok (.iload_n 1, 1) := by decide +kernel
theorem d_C_bringIn_28 : decode prog_2_method_20_code 28 = .ok (.ishl, 1) := by decide +kernel
theorem d_C_bringIn_29 : decode prog_2_method_20_code 29 = .ok (.ior, 1) := by decide +kernel
theorem d_C_bringIn_30 : decode prog_2_method_20_code 30 = .ok (.putfield 60, 3) := by decide +kernel
theorem d_C_bringIn_33 : decode prog_2_method_20_code 33 = .ok (.aload_n 0, 1) := by decide +kernel
theorem d_C_bringIn_34 : decode prog_2_method_20_code 34 = .ok (.getfield 60, 3) := by decide +kernel
theorem d_C_bringIn_37 : decode prog_2_method_20_code 37 = .ok (.invokestatic 108, 3) := by decide +kernel
theorem d_C_bringIn_40 : decode prog_2_method_20_code 40 = .ok (.ireturn, 1) := by decide +kernel
theorem d_C_sendAway_0 : decode prog_2_method_21_code 0 = .ok (.aload_n 0, 1) := by decide +kernel
theorem d_C_sendAway_1 : decode prog_2_method_21_code 1 = .ok (.iload_n 1, 1) := by decide +kernel
theorem d_C_sendAway_2 : decode prog_2_method_21_code 2 = .ok (.invokevirtual 105, 3) := by decide +kernel
theorem d_C_sendAway_5 : decode prog_2_method_21_code 5 = .ok (.ifCond .ne 5, 3) := by decide +kernel
theorem d_C_sendAway_8 : decode prog_2_method_21_code 8 = .ok (.iconst (-1), 1) := by decide +kernel
theorem d_C_sendAway_9 : decode prog_2_method_21_code 9 = .ok (.ireturn, 1) := by decide +kernel
theorem d_C_sendAway_10 : decode prog_2_method_21_code 10 = .ok (.aload_n 0, 1) := by decide +kernel
theorem d_C_sendAway_11 : decode prog_2_method_21_code 11 = .ok (.iload_n 1, 1) := by decide +kernel
theorem d_C_sendAway_12 : decode prog_2_method_21_code 12 = .ok (.invokevirtual 76, 3) := by decide +kernel
theorem d_C_sendAway_15 : decode prog_2_method_21_code 15 = .ok (.ifCond .ne 6, 3) := by decide +kernel
theorem d_C_sendAway_18 : decode prog_2_method_21_code 18 = .ok (.bipush (-5), 2) := by decide +kernel
theorem d_C_sendAway_20 : decode prog_2_method_21_code 20 = .ok (.ireturn, 1) := by decide +kernel
theorem d_C_sendAway_21 : decode prog_2_method_21_code 21 = .ok (.aload_n 0, 1) := by decide +kernel
theorem d_C_sendAway_22 : decode prog_2_method_21_code 22 = .ok (.dup, 1) := by decide +kernel
theorem d_C_sendAway_23 : decode prog_2_method_21_code 23 = .ok (.getfield 60, 3) := by decide +kernel
theorem d_C_sendAway_26 : decode prog_2_method_21_code 26 = .ok (.iconst 1, 1) := by decide +kernel
theorem d_C_sendAway_27 : decode prog_2_method_21_code 27 = .ok (.iload_n 1, 1) := by decide +kernel
theorem d_C_sendAway_28 : decode prog_2_method_21_code 28 = .ok (.ishl, 1) := by decide +kernel
theorem d_C_sendAway_29 : decode prog_2_method_21_code 29 = .ok (.iconst (-1), 1) := by decide +kernel
theorem d_C_sendAway_30 : decode prog_2_method_21_code 30 = .ok (.ixor, 1) := by decide +kernel
theorem d_C_sendAway_31 : decode prog_2_method_21_code 31 = .ok (.iand, 1) := by decide +kernel
theorem d_C_sendAway_32 : decode prog_2_method_21_code 32 = .ok (.putfield 60, 3) := by decide +kernel
theorem d_C_sendAway_35 : decode prog_2_method_21_code 35 = .ok (.aload_n 0, 1) := by decide +kernel
theorem d_C_sendAway_36 : decode prog_2_method_21_code 36 = .ok (.getfield 60, 3) := by decide +kernel
theorem d_C_sendAway_39 : decode prog_2_method_21_code 39 = .ok (.invokestatic 108, 3) := by decide +kernel
theorem d_C_sendAway_42 : decode prog_2_method_21_code 42 = .ok (.ireturn, 1) := by decide +kernel
theorem d_C_nameHolder_0 : decode prog_2_method_23_code 0 = .ok (.iload_n 2, 1) := by decide +kernel
theorem d_C_nameHolder_1 : decode prog_2_method_23_code 1 = .ok (.bipush (-6), 2) := by decide +kernel
theorem d_C_nameHolder_3 : decode prog_2_method_23_code 3 = .ok (.if_icmp .ne 7, 3) := by decide +kernel
theorem d_C_nameHolder_6 : decode prog_2_method_23_code 6 = .ok (.iconst 1, 1) := by decide +kernel
theorem d_C_nameHolder_7 : decode prog_2_method_23_code 7 = .ok (.goto 4, 3) := by decide +kernel
theorem d_C_nameHolder_10 : decode prog_2_method_23_code 10 = .ok (.iconst 0, 1) := by decide +kernel
theorem d_C_nameHolder_11 : decode prog_2_method_23_code 11 = .ok (.istore 4, 2) := by decide +kernel
theorem d_C_nameHolder_13 : decode prog_2_method_23_code 13 = .ok (.iload 4, 2) := by decide +kernel
theorem d_C_nameHolder_15 : decode prog_2_method_23_code 15 = .ok (.ifCond .ne 11, 3) := by decide +kernel
theorem d_C_nameHolder_18 : decode prog_2_method_23_code 18 = .ok (.aload_n 0, 1) := by decide +kernel
theorem d_C_nameHolder_19 : decode prog_2_method_23_code 19 = .ok (.iload_n 2, 1) := by decide +kernel
theorem d_C_nameHolder_20 : decode prog_2_method_23_code 20 = .ok (.invokevirtual 121, 3) := by decide +kernel
theorem d_C_nameHolder_23 : decode prog_2_method_23_code 23 = .ok (.ifCond .eq 7, 3) := by decide +kernel
theorem d_C_nameHolder_26 : decode prog_2_method_23_code 26 = .ok (.iconst 1, 1) := by decide +kernel
theorem d_C_nameHolder_27 : decode prog_2_method_23_code 27 = .ok (.goto 4, 3) := by decide +kernel
theorem d_C_nameHolder_30 : decode prog_2_method_23_code 30 = .ok (.iconst 0, 1) := by decide +kernel
theorem d_C_nameHolder_31 : decode prog_2_method_23_code 31 = .ok (.istore 5, 2) := by decide +kernel
theorem d_C_nameHolder_33 : decode prog_2_method_23_code 33 = .ok (.iload_n 3, 1) := by decide +kernel
theorem d_C_nameHolder_34 : decode prog_2_method_23_code 34 = .ok (.bipush (-6), 2) := by decide +kernel
theorem d_C_nameHolder_36 : decode prog_2_method_23_code 36 = .ok (.if_icmp .eq 16, 3) := by decide +kernel
theorem d_C_nameHolder_39 : decode prog_2_method_23_code 39 = .ok (.aload_n 0, 1) := by decide +kernel
theorem d_C_nameHolder_40 : decode prog_2_method_23_code 40 = .ok (.iload_n 3, 1) := by decide +kernel
theorem d_C_nameHolder_41 : decode prog_2_method_23_code 41 = .ok (.invokevirtual 105, 3) := by decide +kernel
theorem d_C_nameHolder_44 : decode prog_2_method_23_code 44 = .ok (.ifCond .eq 12, 3) := by decide +kernel
theorem d_C_nameHolder_47 : decode prog_2_method_23_code 47 = .ok (.iload_n 3, 1) := by decide +kernel
theorem d_C_nameHolder_48 : decode prog_2_method_23_code 48 = .ok (.iload_n 1, 1) := by decide +kernel
theorem d_C_nameHolder_49 : decode prog_2_method_23_code 49 = .ok (.if_icmp .eq 7, 3) := by decide +kernel
theorem d_C_nameHolder_52 : decode prog_2_method_23_code 52 = .ok (.iconst 1, 1) := by decide +kernel
theorem d_C_nameHolder_53 : decode prog_2_method_23_code 53 = .ok (.goto 4, 3) := by decide +kernel
theorem d_C_nameHolder_56 : decode prog_2_method_23_code 56 = .ok (.iconst 0, 1) := by decide +kernel
theorem d_C_nameHolder_57 : decode prog_2_method_23_code 57 = .ok (.istore 6, 2) := by decide +kernel
theorem d_C_nameHolder_59 : decode prog_2_method_23_code 59 = .ok (.aload_n 0, 1) := by decide +kernel
theorem d_C_nameHolder_60 : decode prog_2_method_23_code 60 = .ok (.iload_n 1, 1) := by decide +kernel
theorem d_C_nameHolder_61 : decode prog_2_method_23_code 61 = .ok (.invokevirtual 105, 3) := by decide +kernel
theorem d_C_nameHolder_64 : decode prog_2_method_23_code 64 = .ok (.ifCond .eq 13, 3) := by decide +kernel
theorem d_C_nameHolder_67 : decode prog_2_method_23_code 67 = .ok (.iload 5, 2) := by decide +kernel
theorem d_C_nameHolder_69 : decode prog_2_method_23_code 69 = .ok (.ifCond .eq 8, 3) := by decide +kernel
theorem d_C_nameHolder_72 : decode prog_2_method_23_code 72 = .ok (.iload 6, 2) := by decide +kernel
theorem d_C_nameHolder_74 : decode prog_2_method_23_code 74 = .ok (.ifCond .ne 5, 3) := by decide +kernel
theorem d_C_nameHolder_77 : decode prog_2_method_23_code 77 = .ok (.iconst (-1), 1) := by decide +kernel
theorem d_C_nameHolder_78 : decode prog_2_method_23_code 78 = .ok (.ireturn, 1) := by decide +kernel
theorem d_C_nameHolder_79 : decode prog_2_method_23_code 79 = .ok (.iload 4, 2) := by decide +kernel
theorem d_C_nameHolder_81 : decode prog_2_method_23_code 81 = .ok (.ifCond .eq 10, 3) := by decide +kernel
theorem d_C_nameHolder_84 : decode prog_2_method_23_code 84 = .ok (.aload_n 0, 1) := by decide +kernel
theorem d_C_nameHolder_85 : decode prog_2_method_23_code 85 = .ok (.getfield 25, 3) := by decide +kernel
theorem d_C_nameHolder_88 : decode prog_2_method_23_code 88 = .ok (.goto 12, 3) := by decide +kernel
theorem d_C_nameHolder_91 : decode prog_2_method_23_code 91 = .ok (.aload_n 0, 1) := by decide +kernel
theorem d_C_nameHolder_92 : decode prog_2_method_23_code 92 = .ok (.getfield 30, 3) := by decide +kernel
theorem d_C_nameHolder_95 : decode prog_2_method_23_code 95 = .ok (.iload_n 2, 1) := by decide +kernel
theorem d_C_nameHolder_96 : decode prog_2_method_23_code 96 = .ok (.aaload, 1) := by decide +kernel
theorem d_C_nameHolder_97 : decode prog_2_method_23_code 97 = .ok (.getfield 84, 3) := by decide +kernel
theorem d_C_nameHolder_100 : decode prog_2_method_23_code 100 = .ok (.astore 7, 2) := by decide +kernel
theorem d_C_nameHolder_102 : decode prog_2_method_23_code 102 = .ok (.aload 7, 2) := by decide +kernel
theorem d_C_nameHolder_104 : decode prog_2_method_23_code 104 = .ok (.iload_n 1, 1) := by decide +kernel
theorem d_C_nameHolder_105 : decode prog_2_method_23_code 105 = .ok (.iaload, 1) := by decide +kernel
theorem d_C_nameHolder_106 : decode prog_2_method_23_code 106 = .ok (.istore 8, 2) := by decide +kernel
theorem d_C_nameHolder_108 : decode prog_2_method_23_code 108 = .ok (.aload 7, 2) := by decide +kernel
theorem d_C_nameHolder_110 : decode prog_2_method_23_code 110 = .ok (.iload_n 1, 1) := by decide +kernel
theorem d_C_nameHolder_111 : decode prog_2_method_23_code 111 = .ok (.iload_n 3, 1) := by decide +kernel
theorem d_C_nameHolder_112 : decode prog_2_method_23_code 112 = .ok (.iastore, 1) := by decide +kernel
theorem d_C_nameHolder_113 : decode prog_2_method_23_code 113 = .ok (.iload 8, 2) := by decide +kernel
theorem d_C_nameHolder_115 : decode prog_2_method_23_code 115 = .ok (.ireturn, 1) := by decide +kernel
theorem d_C_tellChoice_0 : decode prog_2_method_24_code 0 = .ok (.aload_n 0, 1) := by decide +kernel
theorem d_C_tellChoice_1 : decode prog_2_method_24_code 1 = .ok (.iload_n 1, 1) := by decide +kernel
theorem d_C_tellChoice_2 : decode prog_2_method_24_code 2 = .ok (.invokevirtual 105, 3) := by decide +kernel
theorem d_C_tellChoice_5 : decode prog_2_method_24_code 5 = .ok (.ifCond .eq 11, 3) := by decide +kernel
theorem d_C_tellChoice_8 : decode prog_2_method_24_code 8 = .ok (.aload_n 0, 1) := by decide +kernel
theorem d_C_tellChoice_9 : decode prog_2_method_24_code 9 = .ok (.iload_n 2, 1) := by decide +kernel
theorem d_C_tellChoice_10 : decode prog_2_method_24_code 10 = .ok (.invokevirtual 121, 3) := by decide +kernel
theorem d_C_tellChoice_13 : decode prog_2_method_24_code 13 = .ok (.ifCond .ne 5, 3) := by decide +kernel
theorem d_C_tellChoice_16 : decode prog_2_method_24_code 16 = .ok (.iconst (-1), 1) := by decide +kernel
theorem d_C_tellChoice_17 : decode prog_2_method_24_code 17 = .ok (.ireturn, 1) := by decide +kernel
theorem d_C_tellChoice_18 : decode prog_2_method_24_code 18 = .ok (.iload_n 3, 1) := by decide +kernel
theorem d_C_tellChoice_19 : decode prog_2_method_24_code 19 = .ok (.bipush (-6), 2) := by decide +kernel
theorem d_C_tellChoice_21 : decode prog_2_method_24_code 21 = .ok (.if_icmp .eq 13, 3) := by decide +kernel
theorem d_C_tellChoice_24 : decode prog_2_method_24_code 24 = .ok (.iload_n 3, 1) := by decide +kernel
theorem d_C_tellChoice_25 : decode prog_2_method_24_code 25 = .ok (.invokestatic 124, 3) := by decide +kernel
theorem d_C_tellChoice_28 : decode prog_2_method_24_code 28 = .ok (.ifCond .ne 6, 3) := by decide +kernel
theorem d_C_tellChoice_31 : decode prog_2_method_24_code 31 = .ok (.bipush (-2), 2) := by decide +kernel
theorem d_C_tellChoice_33 : decode prog_2_method_24_code 33 = .ok (.ireturn, 1) := by decide +kernel
theorem d_C_tellChoice_34 : decode prog_2_method_24_code 34 = .ok (.aload_n 0, 1) := by decide +kernel
theorem d_C_tellChoice_35 : decode prog_2_method_24_code 35 = .ok (.getfield 30, 3) := by decide +kernel
theorem d_C_tellChoice_38 : decode prog_2_method_24_code 38 = .ok (.iload_n 2, 1) := by decide +kernel
theorem d_C_tellChoice_39 : decode prog_2_method_24_code 39 = .ok (.aaload, 1) := by decide +kernel
theorem d_C_tellChoice_40 : decode prog_2_method_24_code 40 = .ok (.invokevirtual 127, 3) := by decide +kernel
theorem d_C_tellChoice_43 : decode prog_2_method_24_code 43 = .ok (.ifCond .ne 6, 3) := by decide +kernel
theorem d_C_tellChoice_46 : decode prog_2_method_24_code 46 = .ok (.bipush (-5), 2) := by decide +kernel
theorem d_C_tellChoice_48 : decode prog_2_method_24_code 48 = .ok (.ireturn, 1) := by decide +kernel
theorem d_C_tellChoice_49 : decode prog_2_method_24_code 49 = .ok (.aload_n 0, 1) := by decide +kernel
theorem d_C_tellChoice_50 : decode prog_2_method_24_code 50 = .ok (.getfield 30, 3) := by decide +kernel
theorem d_C_tellChoice_53 : decode prog_2_method_24_code 53 = .ok (.iload_n 2, 1) := by decide +kernel
theorem d_C_tellChoice_54 : decode prog_2_method_24_code 54 = .ok (.aaload, 1) := by decide +kernel
theorem d_C_tellChoice_55 : decode prog_2_method_24_code 55 = .ok (.getfield 131, 3) := by decide +kernel
theorem d_C_tellChoice_58 : decode prog_2_method_24_code 58 = .ok (.iload_n 1, 1) := by decide +kernel
theorem d_C_tellChoice_59 : decode prog_2_method_24_code 59 = .ok (.iaload, 1) := by decide +kernel
theorem d_C_tellChoice_60 : decode prog_2_method_24_code 60 = .ok (.istore 4, 2) := by decide +kernel
theorem d_C_tellChoice_62 : decode prog_2_method_24_code 62 = .ok (.aload_n 0, 1) := by decide +kernel
theorem d_C_tellChoice_63 : decode prog_2_method_24_code 63 = .ok (.getfield 30, 3) := by decide +kernel
theorem d_C_tellChoice_66 : decode prog_2_method_24_code 66 = .ok (.iload_n 2, 1) := by decide +kernel
theorem d_C_tellChoice_67 : decode prog_2_method_24_code 67 = .ok (.aaload, 1) := by decide +kernel
theorem d_C_tellChoice_68 : decode prog_2_method_24_code 68 = .ok (.getfield 131, 3) := by decide +kernel
theorem d_C_tellChoice_71 : decode prog_2_method_24_code 71 = .ok (.iload_n 1, 1) := by decide +kernel
theorem d_C_tellChoice_72 : decode prog_2_method_24_code 72 = .ok (.iload_n 3, 1) := by decide +kernel
theorem d_C_tellChoice_73 : decode prog_2_method_24_code 73 = .ok (.iastore, 1) := by decide +kernel
theorem d_C_tellChoice_74 : decode prog_2_method_24_code 74 = .ok (.iload 4, 2) := by decide +kernel
theorem d_C_tellChoice_76 : decode prog_2_method_24_code 76 = .ok (.ireturn, 1) := by decide +kernel
theorem d_C_recuseByHand_0 : decode prog_2_method_25_code 0 = .ok (.aload_n 0, 1) := by decide +kernel
theorem d_C_recuseByHand_1 : decode prog_2_method_25_code 1 = .ok (.iload_n 1, 1) := by decide +kernel
theorem d_C_recuseByHand_2 : decode prog_2_method_25_code 2 = .ok (.invokevirtual 105, 3) := by decide +kernel
theorem d_C_recuseByHand_5 : decode prog_2_method_25_code 5 = .ok (.ifCond .eq 11, 3) := by decide +kernel
theorem d_C_recuseByHand_8 : decode prog_2_method_25_code 8 = .ok (.aload_n 0, 1) := by decide +kernel
theorem d_C_recuseByHand_9 : decode prog_2_method_25_code 9 = .ok (.iload_n 2, 1) := by decide +kernel
theorem d_C_recuseByHand_10 : decode prog_2_method_25_code 10 = .ok (.invokevirtual 121, 3) := by decide +kernel
theorem d_C_recuseByHand_13 : decode prog_2_method_25_code 13 = .ok (.ifCond .ne 5, 3) := by decide +kernel
theorem d_C_recuseByHand_16 : decode prog_2_method_25_code 16 = .ok (.iconst (-1), 1) := by decide +kernel
theorem d_C_recuseByHand_17 : decode prog_2_method_25_code 17 = .ok (.ireturn, 1) := by decide +kernel
theorem d_C_recuseByHand_18 : decode prog_2_method_25_code 18 = .ok (.iload_n 3, 1) := by decide +kernel
theorem d_C_recuseByHand_19 : decode prog_2_method_25_code 19 = .ok (.ifCond .eq 11, 3) := by decide +kernel
theorem d_C_recuseByHand_22 : decode prog_2_method_25_code 22 = .ok (.iload_n 3, 1) := by decide +kernel
theorem d_C_recuseByHand_23 : decode prog_2_method_25_code 23 = .ok (.iconst 1, 1) := by decide +kernel
theorem d_C_recuseByHand_24 : decode prog_2_method_25_code 24 = .ok (.if_icmp .eq 6, 3) := by decide +kernel
theorem d_C_recuseByHand_27 : decode prog_2_method_25_code 27 = .ok (.bipush (-2), 2) := by decide +kernel
theorem d_C_recuseByHand_29 : decode prog_2_method_25_code 29 = .ok (.ireturn, 1) := by decide +kernel
theorem d_C_recuseByHand_30 : decode prog_2_method_25_code 30 = .ok (.aload_n 0, 1) := by decide +kernel
theorem d_C_recuseByHand_31 : decode prog_2_method_25_code 31 = .ok (.getfield 30, 3) := by decide +kernel
theorem d_C_recuseByHand_34 : decode prog_2_method_25_code 34 = .ok (.iload_n 2, 1) := by decide +kernel
theorem d_C_recuseByHand_35 : decode prog_2_method_25_code 35 = .ok (.aaload, 1) := by decide +kernel
theorem d_C_recuseByHand_36 : decode prog_2_method_25_code 36 = .ok (.astore 4, 2) := by decide +kernel
theorem d_C_recuseByHand_38 : decode prog_2_method_25_code 38 = .ok (.aload 4, 2) := by decide +kernel
theorem d_C_recuseByHand_40 : decode prog_2_method_25_code 40 = .ok (.invokevirtual 127, 3) := by decide +kernel
theorem d_C_recuseByHand_43 : decode prog_2_method_25_code 43 = .ok (.ifCond .ne 6, 3) := by decide +kernel
theorem d_C_recuseByHand_46 : decode prog_2_method_25_code 46 = .ok (.bipush (-5), 2) := by decide +kernel
theorem d_C_recuseByHand_48 : decode prog_2_method_25_code 48 = .ok (.ireturn, 1) := by decide +kernel
theorem d_C_recuseByHand_49 : decode prog_2_method_25_code 49 = .ok (.aload 4, 2) := by decide +kernel
theorem d_C_recuseByHand_51 : decode prog_2_method_25_code 51 = .ok (.aload 4, 2) := by decide +kernel
theorem d_C_recuseByHand_53 : decode prog_2_method_25_code 53 = .ok (.getfield 73, 3) := by decide +kernel
theorem d_C_recuseByHand_56 : decode prog_2_method_25_code 56 = .ok (.iconst 1, 1) := by decide +kernel
theorem d_C_recuseByHand_57 : decode prog_2_method_25_code 57 = .ok (.iload_n 1, 1) := by decide +kernel
theorem d_C_recuseByHand_58 : decode prog_2_method_25_code 58 = .ok (.ishl, 1) := by decide +kernel
theorem d_C_recuseByHand_59 : decode prog_2_method_25_code 59 = .ok (.iconst (-1), 1) := by decide +kernel
theorem d_C_recuseByHand_60 : decode prog_2_method_25_code 60 = .ok (.ixor, 1) := by decide +kernel
theorem d_C_recuseByHand_61 : decode prog_2_method_25_code 61 = .ok (.iand, 1) := by decide +kernel
theorem d_C_recuseByHand_62 : decode prog_2_method_25_code 62 = .ok (.iload_n 3, 1) := by decide +kernel
theorem d_C_recuseByHand_63 : decode prog_2_method_25_code 63 = .ok (.iload_n 1, 1) := by decide +kernel
theorem d_C_recuseByHand_64 : decode prog_2_method_25_code 64 = .ok (.ishl, 1) := by decide +kernel
theorem d_C_recuseByHand_65 : decode prog_2_method_25_code 65 = .ok (.ior, 1) := by decide +kernel
theorem d_C_recuseByHand_66 : decode prog_2_method_25_code 66 = .ok (.putfield 73, 3) := by decide +kernel
theorem d_C_recuseByHand_69 : decode prog_2_method_25_code 69 = .ok (.aload_n 0, 1) := by decide +kernel
theorem d_C_recuseByHand_70 : decode prog_2_method_25_code 70 = .ok (.iload_n 1, 1) := by decide +kernel
theorem d_C_recuseByHand_71 : decode prog_2_method_25_code 71 = .ok (.aload 4, 2) := by decide +kernel
theorem d_C_recuseByHand_73 : decode prog_2_method_25_code 73 = .ok (.invokevirtual 80, 3) := by decide +kernel
theorem d_C_recuseByHand_76 : decode prog_2_method_25_code 76 = .ok (.ifCond .eq 7, 3) := by decide +kernel
theorem d_C_recuseByHand_79 : decode prog_2_method_25_code 79 = .ok (.iconst 1, 1) := by decide +kernel
theorem d_C_recuseByHand_80 : decode prog_2_method_25_code 80 = .ok (.goto 4, 3) := by decide +kernel
theorem d_C_recuseByHand_83 : decode prog_2_method_25_code 83 = .ok (.iconst 0, 1) := by decide +kernel
theorem d_C_recuseByHand_84 : decode prog_2_method_25_code 84 = .ok (.ireturn, 1) := by decide +kernel
theorem d_C_openItem_0 : decode prog_2_method_26_code 0 = .ok (.aload_n 0, 1) := by decide +kernel
theorem d_C_openItem_1 : decode prog_2_method_26_code 1 = .ok (.iload_n 1, 1) := by decide +kernel
theorem d_C_openItem_2 : decode prog_2_method_26_code 2 = .ok (.invokevirtual 121, 3) := by decide +kernel
theorem d_C_openItem_5 : decode prog_2_method_26_code 5 = .ok (.ifCond .ne 5, 3) := by decide +kernel
theorem d_C_openItem_8 : decode prog_2_method_26_code 8 = .ok (.iconst (-1), 1) := by decide +kernel
theorem d_C_openItem_9 : decode prog_2_method_26_code 9 = .ok (.ireturn, 1) := by decide +kernel
theorem d_C_openItem_10 : decode prog_2_method_26_code 10 = .ok (.aload_n 0, 1) := by decide +kernel
theorem d_C_openItem_11 : decode prog_2_method_26_code 11 = .ok (.getfield 30, 3) := by decide +kernel
theorem d_C_openItem_14 : decode prog_2_method_26_code 14 = .ok (.iload_n 1, 1) := by decide +kernel
theorem d_C_openItem_15 : decode prog_2_method_26_code 15 = .ok (.aaload, 1) := by decide +kernel
theorem d_C_openItem_16 : decode prog_2_method_26_code 16 = .ok (.astore_n 3, 1) := by decide +kernel
theorem d_C_openItem_17 : decode prog_2_method_26_code 17 = .ok (.aload_n 2, 1) := by decide +kernel
theorem d_C_openItem_18 : decode prog_2_method_26_code 18 = .ok (.aload_n 0, 1) := by decide +kernel
theorem d_C_openItem_19 : decode prog_2_method_26_code 19 = .ok (.aload_n 3, 1) := by decide +kernel
theorem d_C_openItem_20 : decode prog_2_method_26_code 20 = .ok (.invokevirtual 134, 3) := by decide +kernel
theorem d_C_openItem_23 : decode prog_2_method_26_code 23 = .ok (.aload_n 2, 1) := by decide +kernel
theorem d_C_openItem_24 : decode prog_2_method_26_code 24 = .ok (.aload_n 0, 1) := by decide +kernel
theorem d_C_openItem_25 : decode prog_2_method_26_code 25 = .ok (.invokevirtual 140, 3) := by decide +kernel
theorem d_C_openItem_28 : decode prog_2_method_26_code 28 = .ok (.istore 4, 2) := by decide +kernel
theorem d_C_openItem_30 : decode prog_2_method_26_code 30 = .ok (.aload_n 3, 1) := by decide +kernel
theorem d_C_openItem_31 : decode prog_2_method_26_code 31 = .ok (.getfield 89, 3) := by decide +kernel
theorem d_C_openItem_34 : decode prog_2_method_26_code 34 = .ok (.ifCond .ne 22, 3) := by decide +kernel
theorem d_C_openItem_37 : decode prog_2_method_26_code 37 = .ok (.aload_n 0, 1) := by decide +kernel
theorem d_C_openItem_38 : decode prog_2_method_26_code 38 = .ok (.iconst 1, 1) := by decide +kernel
theorem d_C_openItem_39 : decode prog_2_method_26_code 39 = .ok (.invokevirtual 144, 3) := by decide +kernel
theorem d_C_openItem_42 : decode prog_2_method_26_code 42 = .ok (.bipush (-6), 2) := by decide +kernel
theorem d_C_openItem_44 : decode prog_2_method_26_code 44 = .ok (.if_icmp .ne 12, 3) := by decide +kernel
theorem d_C_openItem_47 : decode prog_2_method_26_code 47 = .ok (.aload_n 0, 1) := by decide +kernel
theorem d_C_openItem_48 : decode prog_2_method_26_code 48 = .ok (.iload 4, 2) := by decide +kernel
theorem d_C_openItem_50 : decode prog_2_method_26_code 50 = .ok (.invokevirtual 147, 3) := by decide +kernel
theorem d_C_openItem_53 : decode prog_2_method_26_code 53 = .ok (.ifCond .ne 6, 3) := by decide +kernel
theorem d_C_openItem_56 : decode prog_2_method_26_code 56 = .ok (.bipush (-5), 2) := by decide +kernel
theorem d_C_openItem_58 : decode prog_2_method_26_code 58 = .ok (.ireturn, 1) := by decide +kernel
theorem d_C_openItem_59 : decode prog_2_method_26_code 59 = .ok (.aload_n 3, 1) := by decide +kernel
theorem d_C_openItem_60 : decode prog_2_method_26_code 60 = .ok (.iconst 1, 1) := by decide +kernel
theorem d_C_openItem_61 : decode prog_2_method_26_code 61 = .ok (.putfield 89, 3) := by decide +kernel
theorem d_C_openItem_64 : decode prog_2_method_26_code 64 = .ok (.iload 4, 2) := by decide +kernel
theorem d_C_openItem_66 : decode prog_2_method_26_code 66 = .ok (.ireturn, 1) := by decide +kernel
theorem d_C_canVote_0 : decode prog_2_method_7_code 0 = .ok (.aload_n 0, 1) := by decide +kernel
theorem d_C_canVote_1 : decode prog_2_method_7_code 1 = .ok (.iload_n 1, 1) := by decide +kernel
theorem d_C_canVote_2 : decode prog_2_method_7_code 2 = .ok (.invokevirtual 76, 3) := by decide +kernel
theorem d_C_canVote_5 : decode prog_2_method_7_code 5 = .ok (.ifCond .eq 16, 3) := by decide +kernel
theorem d_C_canVote_8 : decode prog_2_method_7_code 8 = .ok (.aload_n 0, 1) := by decide +kernel
theorem d_C_canVote_9 : decode prog_2_method_7_code 9 = .ok (.iload_n 1, 1) := by decide +kernel
theorem d_C_canVote_10 : decode prog_2_method_7_code 10 = .ok (.aload_n 2, 1) := by decide +kernel
theorem d_C_canVote_11 : decode prog_2_method_7_code 11 = .ok (.invokevirtual 80, 3) := by decide +kernel
theorem d_C_canVote_14 : decode prog_2_method_7_code 14 = .ok (.ifCond .ne 7, 3) := by decide +kernel
theorem d_C_canVote_17 : decode prog_2_method_7_code 17 = .ok (.iconst 1, 1) := by decide +kernel
theorem d_C_canVote_18 : decode prog_2_method_7_code 18 = .ok (.goto 4, 3) := by decide +kernel
theorem d_C_canVote_21 : decode prog_2_method_7_code 21 = .ok (.iconst 0, 1) := by decide +kernel
theorem d_C_canVote_22 : decode prog_2_method_7_code 22 = .ok (.ireturn, 1) := by decide +kernel
theorem d_C_giveVote_0 : decode prog_2_method_27_code 0 = .ok (.aload_n 0, 1) := by decide +kernel
theorem d_C_giveVote_1 : decode prog_2_method_27_code 1 = .ok (.iload_n 1, 1) := by decide +kernel
theorem d_C_giveVote_2 : decode prog_2_method_27_code 2 = .ok (.invokevirtual 105, 3) := by decide +kernel
theorem d_C_giveVote_5 : decode prog_2_method_27_code 5 = .ok (.ifCond .ne 5, 3) := by decide +kernel
theorem d_C_giveVote_8 : decode prog_2_method_27_code 8 = .ok (.iconst (-1), 1) := by decide +kernel
theorem d_C_giveVote_9 : decode prog_2_method_27_code 9 = .ok (.ireturn, 1) := by decide +kernel
theorem d_C_giveVote_10 : decode prog_2_method_27_code 10 = .ok (.iload_n 2, 1) := by decide +kernel
theorem d_C_giveVote_11 : decode prog_2_method_27_code 11 = .ok (.invokestatic 124, 3) := by decide +kernel
theorem d_C_giveVote_14 : decode prog_2_method_27_code 14 = .ok (.ifCond .ne 6, 3) := by decide +kernel
theorem d_C_giveVote_17 : decode prog_2_method_27_code 17 = .ok (.bipush (-2), 2) := by decide +kernel
theorem d_C_giveVote_19 : decode prog_2_method_27_code 19 = .ok (.ireturn, 1) := by decide +kernel
theorem d_C_giveVote_20 : decode prog_2_method_27_code 20 = .ok (.aload_n 0, 1) := by decide +kernel
theorem d_C_giveVote_21 : decode prog_2_method_27_code 21 = .ok (.iconst 1, 1) := by decide +kernel
theorem d_C_giveVote_22 : decode prog_2_method_27_code 22 = .ok (.invokevirtual 144, 3) := by decide +kernel
theorem d_C_giveVote_25 : decode prog_2_method_27_code 25 = .ok (.istore_n 3, 1) := by decide +kernel
theorem d_C_giveVote_26 : decode prog_2_method_27_code 26 = .ok (.iload_n 3, 1) := by decide +kernel
theorem d_C_giveVote_27 : decode prog_2_method_27_code 27 = .ok (.bipush (-6), 2) := by decide +kernel
theorem d_C_giveVote_29 : decode prog_2_method_27_code 29 = .ok (.if_icmp .eq 17, 3) := by decide +kernel
theorem d_C_giveVote_32 : decode prog_2_method_27_code 32 = .ok (.aload_n 0, 1) := by decide +kernel
theorem d_C_giveVote_33 : decode prog_2_method_27_code 33 = .ok (.iload_n 1, 1) := by decide +kernel
theorem d_C_giveVote_34 : decode prog_2_method_27_code 34 = .ok (.aload_n 0, 1) := by decide +kernel
theorem d_C_giveVote_35 : decode prog_2_method_27_code 35 = .ok (.getfield 30, 3) := by decide +kernel
theorem d_C_giveVote_38 : decode prog_2_method_27_code 38 = .ok (.iload_n 3, 1) := by decide +kernel
theorem d_C_giveVote_39 : decode prog_2_method_27_code 39 = .ok (.aaload, 1) := by decide +kernel
theorem d_C_giveVote_40 : decode prog_2_method_27_code 40 = .ok (.invokevirtual 150, 3) := by decide +kernel
theorem d_C_giveVote_43 : decode prog_2_method_27_code 43 = .ok (.ifCond .ne 6, 3) := by decide +kernel
theorem d_C_giveVote_46 : decode prog_2_method_27_code 46 = .ok (.bipush (-5), 2) := by decide +kernel
theorem d_C_giveVote_48 : decode prog_2_method_27_code 48 = .ok (.ireturn, 1) := by decide +kernel
theorem d_C_giveVote_49 : decode prog_2_method_27_code 49 = .ok (.aload_n 0, 1) := by decide +kernel
theorem d_C_giveVote_50 : decode prog_2_method_27_code 50 = .ok (.getfield 30, 3) := by decide +kernel
theorem d_C_giveVote_53 : decode prog_2_method_27_code 53 = .ok (.iload_n 3, 1) := by decide +kernel
theorem d_C_giveVote_54 : decode prog_2_method_27_code 54 = .ok (.aaload, 1) := by decide +kernel
theorem d_C_giveVote_55 : decode prog_2_method_27_code 55 = .ok (.getfield 92, 3) := by decide +kernel
theorem d_C_giveVote_58 : decode prog_2_method_27_code 58 = .ok (.iload_n 1, 1) := by decide +kernel
theorem d_C_giveVote_59 : decode prog_2_method_27_code 59 = .ok (.iaload, 1) := by decide +kernel
theorem d_C_giveVote_60 : decode prog_2_method_27_code 60 = .ok (.istore 4, 2) := by decide +kernel
theorem d_C_giveVote_62 : decode prog_2_method_27_code 62 = .ok (.aload_n 0, 1) := by decide +kernel
theorem d_C_giveVote_63 : decode prog_2_method_27_code 63 = .ok (.getfield 30, 3) := by decide +kernel
theorem d_C_giveVote_66 : decode prog_2_method_27_code 66 = .ok (.iload_n 3, 1) := by decide +kernel
theorem d_C_giveVote_67 : decode prog_2_method_27_code 67 = .ok (.aaload, 1) := by decide +kernel
theorem d_C_giveVote_68 : decode prog_2_method_27_code 68 = .ok (.getfield 92, 3) := by decide +kernel
theorem d_C_giveVote_71 : decode prog_2_method_27_code 71 = .ok (.iload_n 1, 1) := by decide +kernel
theorem d_C_giveVote_72 : decode prog_2_method_27_code 72 = .ok (.iload_n 2, 1) := by decide +kernel
theorem d_C_giveVote_73 : decode prog_2_method_27_code 73 = .ok (.iastore, 1) := by decide +kernel
theorem d_C_giveVote_74 : decode prog_2_method_27_code 74 = .ok (.iload 4, 2) := by decide +kernel
theorem d_C_giveVote_76 : decode prog_2_method_27_code 76 = .ok (.ireturn, 1) := by decide +kernel
theorem d_I_putOff_0 : decode prog_5_method_5_code 0 = .ok (.aload_n 0, 1) := by decide +kernel
theorem d_I_putOff_1 : decode prog_5_method_5_code 1 = .ok (.iconst 0, 1) := by decide +kernel
theorem d_I_putOff_2 : decode prog_5_method_5_code 2 = .ok (.putfield 31, 3) := by decide +kernel
theorem d_I_putOff_5 : decode prog_5_method_5_code 5 = .ok (.aload_n 0, 1) := by decide +kernel
theorem d_I_putOff_6 : decode prog_5_method_5_code 6 = .ok (.dup, 1) := by decide +kernel
theorem d_I_putOff_7 : decode prog_5_method_5_code 7 = .ok (.getfield 40, 3) := by decide +kernel
theorem d_I_putOff_10 : decode prog_5_method_5_code 10 = .ok (.iconst 1, 1) := by decide +kernel
theorem d_I_putOff_11 : decode prog_5_method_5_code 11 = .ok (.iadd, 1) := by decide +kernel
theorem d_I_putOff_12 : decode prog_5_method_5_code 12 = .ok (.putfield 40, 3) := by decide +kernel
theorem d_I_putOff_15 : decode prog_5_method_5_code 15 = .ok (.aload_n 0, 1) := by decide +kernel
theorem d_I_putOff_16 : decode prog_5_method_5_code 16 = .ok (.getfield 15, 3) := by decide +kernel
theorem d_I_putOff_19 : decode prog_5_method_5_code 19 = .ok (.bipush (-6), 2) := by decide +kernel
theorem d_I_putOff_21 : decode prog_5_method_5_code 21 = .ok (.invokestatic 43, 3) := by decide +kernel
theorem d_I_putOff_24 : decode prog_5_method_5_code 24 = .ok (.return_, 1) := by decide +kernel
theorem d_C_closeItem_0 : decode prog_2_method_28_code 0 = .ok (.aload_n 0, 1) := by decide +kernel
theorem d_C_closeItem_1 : decode prog_2_method_28_code 1 = .ok (.iconst 1, 1) := by decide +kernel
theorem d_C_closeItem_2 : decode prog_2_method_28_code 2 = .ok (.invokevirtual 144, 3) := by decide +kernel
theorem d_C_closeItem_5 : decode prog_2_method_28_code 5 = .ok (.istore_n 2, 1) := by decide +kernel
theorem d_C_closeItem_6 : decode prog_2_method_28_code 6 = .ok (.iload_n 2, 1) := by decide +kernel
theorem d_C_closeItem_7 : decode prog_2_method_28_code 7 = .ok (.bipush (-6), 2) := by decide +kernel
theorem d_C_closeItem_9 : decode prog_2_method_28_code 9 = .ok (.if_icmp .ne 6, 3) := by decide +kernel
theorem d_C_closeItem_12 : decode prog_2_method_28_code 12 = .ok (.bipush (-5), 2) := by decide +kernel
theorem d_C_closeItem_14 : decode prog_2_method_28_code 14 = .ok (.ireturn, 1) := by decide +kernel
theorem d_C_closeItem_15 : decode prog_2_method_28_code 15 = .ok (.aload_n 0, 1) := by decide +kernel
theorem d_C_closeItem_16 : decode prog_2_method_28_code 16 = .ok (.getfield 30, 3) := by decide +kernel
theorem d_C_closeItem_19 : decode prog_2_method_28_code 19 = .ok (.iload_n 2, 1) := by decide +kernel
theorem d_C_closeItem_20 : decode prog_2_method_28_code 20 = .ok (.aaload, 1) := by decide +kernel
theorem d_C_closeItem_21 : decode prog_2_method_28_code 21 = .ok (.astore_n 3, 1) := by decide +kernel
theorem d_C_closeItem_22 : decode prog_2_method_28_code 22 = .ok (.aload_n 1, 1) := by decide +kernel
theorem d_C_closeItem_23 : decode prog_2_method_28_code 23 = .ok (.aload_n 0, 1) := by decide +kernel
theorem d_C_closeItem_24 : decode prog_2_method_28_code 24 = .ok (.aload_n 3, 1) := by decide +kernel
theorem d_C_closeItem_25 : decode prog_2_method_28_code 25 = .ok (.invokevirtual 134, 3) := by decide +kernel
theorem d_C_closeItem_28 : decode prog_2_method_28_code 28 = .ok (.aload_n 0, 1) := by decide +kernel
theorem d_C_closeItem_29 : decode prog_2_method_28_code 29 = .ok (.aload_n 1, 1) := by decide +kernel
theorem d_C_closeItem_30 : decode prog_2_method_28_code 30 = .ok (.aload_n 0, 1) := by decide +kernel
theorem d_C_closeItem_31 : decode prog_2_method_28_code 31 = .ok (.invokevirtual 140, 3) := by decide +kernel
theorem d_C_closeItem_34 : decode prog_2_method_28_code 34 = .ok (.invokevirtual 147, 3) := by decide +kernel
theorem d_C_closeItem_37 : decode prog_2_method_28_code 37 = .ok (.ifCond .eq 38, 3) := by decide +kernel
theorem d_C_closeItem_40 : decode prog_2_method_28_code 40 = .ok (.aload_n 1, 1) := by decide +kernel
theorem d_C_closeItem_41 : decode prog_2_method_28_code 41 = .ok (.aload_n 0, 1) := by decide +kernel
theorem d_C_closeItem_42 : decode prog_2_method_28_code 42 = .ok (.aload_n 3, 1) := by decide +kernel
theorem d_C_closeItem_43 : decode prog_2_method_28_code 43 = .ok (.invokevirtual 153, 3) := by decide +kernel
theorem d_C_closeItem_46 : decode prog_2_method_28_code 46 = .ok (.aload_n 1, 1) := by decide +kernel
theorem d_C_closeItem_47 : decode prog_2_method_28_code 47 = .ok (.getfield 156, 3) := by decide +kernel
theorem d_C_closeItem_50 : decode prog_2_method_28_code 50 = .ok (.iconst 0, 1) := by decide +kernel
theorem d_C_closeItem_51 : decode prog_2_method_28_code 51 = .ok (.aload_n 3, 1) := by decide +kernel
theorem d_C_closeItem_52 : decode prog_2_method_28_code 52 = .ok (.getfield 159, 3) := by decide +kernel
theorem d_C_closeItem_55 : decode prog_2_method_28_code 55 = .ok (.iconst 0, 1) := by decide +kernel
theorem d_C_closeItem_56 : decode prog_2_method_28_code 56 = .ok (.bipush 6, 2) := by decide +kernel
theorem d_C_closeItem_58 : decode prog_2_method_28_code 58 = .ok (.invokestatic 44, 3) := by decide +kernel
theorem d_C_closeItem_61 : decode prog_2_method_28_code 61 = .ok (.aload_n 3, 1) := by decide +kernel
theorem d_C_closeItem_62 : decode prog_2_method_28_code 62 = .ok (.aload_n 1, 1) := by decide +kernel
theorem d_C_closeItem_63 : decode prog_2_method_28_code 63 = .ok (.aload_n 0, 1) := by decide +kernel
theorem d_C_closeItem_64 : decode prog_2_method_28_code 64 = .ok (.aload_n 3, 1) := by decide +kernel
theorem d_C_closeItem_65 : decode prog_2_method_28_code 65 = .ok (.iconst 0, 1) := by decide +kernel
theorem d_C_closeItem_66 : decode prog_2_method_28_code 66 = .ok (.invokevirtual 160, 3) := by decide +kernel
theorem d_C_closeItem_69 : decode prog_2_method_28_code 69 = .ok (.putfield 89, 3) := by decide +kernel
theorem d_C_closeItem_72 : decode prog_2_method_28_code 72 = .ok (.goto 7, 3) := by decide +kernel
theorem d_C_closeItem_75 : decode prog_2_method_28_code 75 = .ok (.aload_n 3, 1) := by decide +kernel
theorem d_C_closeItem_76 : decode prog_2_method_28_code 76 = .ok (.invokevirtual 164, 3) := by decide +kernel
theorem d_C_closeItem_79 : decode prog_2_method_28_code 79 = .ok (.aload_n 3, 1) := by decide +kernel
theorem d_C_closeItem_80 : decode prog_2_method_28_code 80 = .ok (.getfield 89, 3) := by decide +kernel
theorem d_C_closeItem_83 : decode prog_2_method_28_code 83 = .ok (.ireturn, 1) := by decide +kernel
theorem d_C_breakTie_0 : decode prog_2_method_29_code 0 = .ok (.iload_n 1, 1) := by decide +kernel
theorem d_C_breakTie_1 : decode prog_2_method_29_code 1 = .ok (.iconst 1, 1) := by decide +kernel
theorem d_C_breakTie_2 : decode prog_2_method_29_code 2 = .ok (.if_icmp .eq 11, 3) := by decide +kernel
theorem d_C_breakTie_5 : decode prog_2_method_29_code 5 = .ok (.iload_n 1, 1) := by decide +kernel
theorem d_C_breakTie_6 : decode prog_2_method_29_code 6 = .ok (.iconst 2, 1) := by decide +kernel
theorem d_C_breakTie_7 : decode prog_2_method_29_code 7 = .ok (.if_icmp .eq 6, 3) := by decide +kernel
theorem d_C_breakTie_10 : decode prog_2_method_29_code 10 = .ok (.bipush (-2), 2) := by decide +kernel
theorem d_C_breakTie_12 : decode prog_2_method_29_code 12 = .ok (.ireturn, 1) := by decide +kernel
theorem d_C_breakTie_13 : decode prog_2_method_29_code 13 = .ok (.aload_n 0, 1) := by decide +kernel
theorem d_C_breakTie_14 : decode prog_2_method_29_code 14 = .ok (.iconst 2, 1) := by decide +kernel
theorem d_C_breakTie_15 : decode prog_2_method_29_code 15 = .ok (.invokevirtual 144, 3) := by decide +kernel
theorem d_C_breakTie_18 : decode prog_2_method_29_code 18 = .ok (.istore_n 2, 1) := by decide +kernel
theorem d_C_breakTie_19 : decode prog_2_method_29_code 19 = .ok (.aload_n 0, 1) := by decide +kernel
theorem d_C_breakTie_20 : decode prog_2_method_29_code 20 = .ok (.invokevirtual 167, 3) := by decide +kernel
theorem d_C_breakTie_23 : decode prog_2_method_29_code 23 = .ok (.istore_n 3, 1) := by decide +kernel
theorem d_C_breakTie_24 : decode prog_2_method_29_code 24 = .ok (.iload_n 2, 1) := by decide +kernel
theorem d_C_breakTie_25 : decode prog_2_method_29_code 25 = .ok (.bipush (-6), 2) := by decide +kernel
theorem d_C_breakTie_27 : decode prog_2_method_29_code 27 = .ok (.if_icmp .eq 23, 3) := by decide +kernel
theorem d_C_breakTie_30 : decode prog_2_method_29_code 30 = .ok (.iload_n 3, 1) := by decide +kernel
theorem d_C_breakTie_31 : decode prog_2_method_29_code 31 = .ok (.bipush (-6), 2) := by decide +kernel
theorem d_C_breakTie_33 : decode prog_2_method_29_code 33 = .ok (.if_icmp .eq 17, 3) := by decide +kernel
theorem d_C_breakTie_36 : decode prog_2_method_29_code 36 = .ok (.aload_n 0, 1) := by decide +kernel
theorem d_C_breakTie_37 : decode prog_2_method_29_code 37 = .ok (.iload_n 3, 1) := by decide +kernel
theorem d_C_breakTie_38 : decode prog_2_method_29_code 38 = .ok (.aload_n 0, 1) := by decide +kernel
theorem d_C_breakTie_39 : decode prog_2_method_29_code 39 = .ok (.getfield 30, 3) := by decide +kernel
theorem d_C_breakTie_42 : decode prog_2_method_29_code 42 = .ok (.iload_n 2, 1) := by decide +kernel
theorem d_C_breakTie_43 : decode prog_2_method_29_code 43 = .ok (.aaload, 1) := by decide +kernel
theorem d_C_breakTie_44 : decode prog_2_method_29_code 44 = .ok (.invokevirtual 80, 3) := by decide +kernel
theorem d_C_breakTie_47 : decode prog_2_method_29_code 47 = .ok (.ifCond .eq 6, 3) := by decide +kernel
theorem d_C_breakTie_50 : decode prog_2_method_29_code 50 = .ok (.bipush (-5), 2) := by decide +kernel
theorem d_C_breakTie_52 : decode prog_2_method_29_code 52 = .ok (.ireturn, 1) := by decide +kernel
theorem d_C_breakTie_53 : decode prog_2_method_29_code 53 = .ok (.aload_n 0, 1) := by decide +kernel
theorem d_C_breakTie_54 : decode prog_2_method_29_code 54 = .ok (.getfield 30, 3) := by decide +kernel
theorem d_C_breakTie_57 : decode prog_2_method_29_code 57 = .ok (.iload_n 2, 1) := by decide +kernel
theorem d_C_breakTie_58 : decode prog_2_method_29_code 58 = .ok (.aaload, 1) := by decide +kernel
theorem d_C_breakTie_59 : decode prog_2_method_29_code 59 = .ok (.iload_n 1, 1) := by decide +kernel
theorem d_C_breakTie_60 : decode prog_2_method_29_code 60 = .ok (.iconst 1, 1) := by decide +kernel
theorem d_C_breakTie_61 : decode prog_2_method_29_code 61 = .ok (.if_icmp .ne 7, 3) := by decide +kernel
theorem d_C_breakTie_64 : decode prog_2_method_29_code 64 = .ok (.iconst 3, 1) := by decide +kernel
theorem d_C_breakTie_65 : decode prog_2_method_29_code 65 = .ok (.goto 4, 3) := by decide +kernel
theorem d_C_breakTie_68 : decode prog_2_method_29_code 68 = .ok (.iconst 4, 1) := by decide +kernel
theorem d_C_breakTie_69 : decode prog_2_method_29_code 69 = .ok (.putfield 89, 3) := by decide +kernel
theorem d_C_breakTie_72 : decode prog_2_method_29_code 72 = .ok (.aload_n 0, 1) := by decide +kernel
theorem d_C_breakTie_73 : decode prog_2_method_29_code 73 = .ok (.getfield 30, 3) := by decide +kernel
theorem d_C_breakTie_76 : decode prog_2_method_29_code 76 = .ok (.iload_n 2, 1) := by decide +kernel
theorem d_C_breakTie_77 : decode prog_2_method_29_code 77 = .ok (.aaload, 1) := by decide +kernel
theorem d_C_breakTie_78 : decode prog_2_method_29_code 78 = .ok (.iload_n 3, 1) := by decide +kernel
theorem d_C_breakTie_79 : decode prog_2_method_29_code 79 = .ok (.putfield 95, 3) := by decide +kernel
theorem d_C_breakTie_82 : decode prog_2_method_29_code 82 = .ok (.aload_n 0, 1) := by decide +kernel
theorem d_C_breakTie_83 : decode prog_2_method_29_code 83 = .ok (.getfield 30, 3) := by decide +kernel
theorem d_C_breakTie_86 : decode prog_2_method_29_code 86 = .ok (.iload_n 2, 1) := by decide +kernel
theorem d_C_breakTie_87 : decode prog_2_method_29_code 87 = .ok (.aaload, 1) := by decide +kernel
theorem d_C_breakTie_88 : decode prog_2_method_29_code 88 = .ok (.getfield 89, 3) := by decide +kernel
theorem d_C_breakTie_91 : decode prog_2_method_29_code 91 = .ok (.ireturn, 1) := by decide +kernel
theorem d_V_append_0 : decode prog_6_method_2_code 0 = .ok (.aload_n 0, 1) := by decide +kernel
theorem d_V_append_1 : decode prog_6_method_2_code 1 = .ok (.getfield 9, 3) := by decide +kernel
theorem d_V_append_4 : decode prog_6_method_2_code 4 = .ok (.aload_n 0, 1) := by decide +kernel
theorem d_V_append_5 : decode prog_6_method_2_code 5 = .ok (.getfield 21, 3) := by decide +kernel
theorem d_V_append_8 : decode prog_6_method_2_code 8 = .ok (.iload_n 1, 1) := by decide +kernel
theorem d_V_append_9 : decode prog_6_method_2_code 9 = .ok (.iastore, 1) := by decide +kernel
theorem d_V_append_10 : decode prog_6_method_2_code 10 = .ok (.aload_n 0, 1) := by decide +kernel
theorem d_V_append_11 : decode prog_6_method_2_code 11 = .ok (.getfield 15, 3) := by decide +kernel
theorem d_V_append_14 : decode prog_6_method_2_code 14 = .ok (.aload_n 0, 1) := by decide +kernel
theorem d_V_append_15 : decode prog_6_method_2_code 15 = .ok (.getfield 21, 3) := by decide +kernel
theorem d_V_append_18 : decode prog_6_method_2_code 18 = .ok (.iload_n 2, 1) := by decide +kernel
theorem d_V_append_19 : decode prog_6_method_2_code 19 = .ok (.iastore, 1) := by decide +kernel
theorem d_V_append_20 : decode prog_6_method_2_code 20 = .ok (.aload_n 0, 1) := by decide +kernel
theorem d_V_append_21 : decode prog_6_method_2_code 21 = .ok (.getfield 18, 3) := by decide +kernel
theorem d_V_append_24 : decode prog_6_method_2_code 24 = .ok (.aload_n 0, 1) := by decide +kernel
theorem d_V_append_25 : decode prog_6_method_2_code 25 = .ok (.getfield 21, 3) := by decide +kernel
theorem d_V_append_28 : decode prog_6_method_2_code 28 = .ok (.iload_n 3, 1) := by decide +kernel
theorem d_V_append_29 : decode prog_6_method_2_code 29 = .ok (.iastore, 1) := by decide +kernel
theorem d_V_append_30 : decode prog_6_method_2_code 30 = .ok (.aload_n 0, 1) := by decide +kernel
theorem d_V_append_31 : decode prog_6_method_2_code 31 = .ok (.dup, 1) := by decide +kernel
theorem d_V_append_32 : decode prog_6_method_2_code 32 = .ok (.getfield 21, 3) := by decide +kernel
theorem d_V_append_35 : decode prog_6_method_2_code 35 = .ok (.iconst 1, 1) := by decide +kernel
theorem d_V_append_36 : decode prog_6_method_2_code 36 = .ok (.iadd, 1) := by decide +kernel
theorem d_V_append_37 : decode prog_6_method_2_code 37 = .ok (.putfield 21, 3) := by decide +kernel
theorem d_V_append_40 : decode prog_6_method_2_code 40 = .ok (.return_, 1) := by decide +kernel
theorem d_C_addMovement_0 : decode prog_2_method_22_code 0 = .ok (.aload_n 0, 1) := by decide +kernel
theorem d_C_addMovement_1 : decode prog_2_method_22_code 1 = .ok (.iload_n 2, 1) := by decide +kernel
theorem d_C_addMovement_2 : decode prog_2_method_22_code 2 = .ok (.invokevirtual 105, 3) := by decide +kernel
theorem d_C_addMovement_5 : decode prog_2_method_22_code 5 = .ok (.ifCond .ne 5, 3) := by decide +kernel
theorem d_C_addMovement_8 : decode prog_2_method_22_code 8 = .ok (.iconst (-1), 1) := by decide +kernel
theorem d_C_addMovement_9 : decode prog_2_method_22_code 9 = .ok (.ireturn, 1) := by decide +kernel
theorem d_C_addMovement_10 : decode prog_2_method_22_code 10 = .ok (.iload_n 1, 1) := by decide +kernel
theorem d_C_addMovement_11 : decode prog_2_method_22_code 11 = .ok (.aload_n 0, 1) := by decide +kernel
theorem d_C_addMovement_12 : decode prog_2_method_22_code 12 = .ok (.getfield 51, 3) := by decide +kernel
theorem d_C_addMovement_15 : decode prog_2_method_22_code 15 = .ok (.if_icmp .le 24, 3) := by decide +kernel
theorem d_C_addMovement_18 : decode prog_2_method_22_code 18 = .ok (.iload_n 1, 1) := by decide +kernel
theorem d_C_addMovement_19 : decode prog_2_method_22_code 19 = .ok (.aload_n 0, 1) := by decide +kernel
theorem d_C_addMovement_20 : decode prog_2_method_22_code 20 = .ok (.getfield 51, 3) := by decide +kernel
theorem d_C_addMovement_23 : decode prog_2_method_22_code 23 = .ok (.sipush 600, 3) := by decide +kernel
theorem d_C_addMovement_26 : decode prog_2_method_22_code 26 = .ok (.iadd, 1) := by decide +kernel
theorem d_C_addMovement_27 : decode prog_2_method_22_code 27 = .ok (.if_icmp .gt 12, 3) := by decide +kernel
theorem d_C_addMovement_30 : decode prog_2_method_22_code 30 = .ok (.iload_n 3, 1) := by decide +kernel
theorem d_C_addMovement_31 : decode prog_2_method_22_code 31 = .ok (.ifCond .lt 8, 3) := by decide +kernel
theorem d_C_addMovement_34 : decode prog_2_method_22_code 34 = .ok (.iload_n 3, 1) := by decide +kernel
theorem d_C_addMovement_35 : decode prog_2_method_22_code 35 = .ok (.iconst 1, 1) := by decide +kernel
theorem d_C_addMovement_36 : decode prog_2_method_22_code 36 = .ok (.if_icmp .le 6, 3) := by decide +kernel
theorem d_C_addMovement_39 : decode prog_2_method_22_code 39 = .ok (.bipush (-2), 2) := by decide +kernel
theorem d_C_addMovement_41 : decode prog_2_method_22_code 41 = .ok (.ireturn, 1) := by decide +kernel
theorem d_C_addMovement_42 : decode prog_2_method_22_code 42 = .ok (.aload_n 0, 1) := by decide +kernel
theorem d_C_addMovement_43 : decode prog_2_method_22_code 43 = .ok (.getfield 37, 3) := by decide +kernel
theorem d_C_addMovement_46 : decode prog_2_method_22_code 46 = .ok (.getfield 114, 3) := by decide +kernel
theorem d_C_addMovement_49 : decode prog_2_method_22_code 49 = .ok (.bipush 20, 2) := by decide +kernel
theorem d_C_addMovement_51 : decode prog_2_method_22_code 51 = .ok (.if_icmp .lt 6, 3) := by decide +kernel
theorem d_C_addMovement_54 : decode prog_2_method_22_code 54 = .ok (.bipush (-4), 2) := by decide +kernel
theorem d_C_addMovement_56 : decode prog_2_method_22_code 56 = .ok (.ireturn, 1) := by decide +kernel
theorem d_C_addMovement_57 : decode prog_2_method_22_code 57 = .ok (.aload_n 0, 1) := by decide +kernel
theorem d_C_addMovement_58 : decode prog_2_method_22_code 58 = .ok (.getfield 37, 3) := by decide +kernel
theorem d_C_addMovement_61 : decode prog_2_method_22_code 61 = .ok (.iload_n 1, 1) := by decide +kernel
theorem d_C_addMovement_62 : decode prog_2_method_22_code 62 = .ok (.iload_n 2, 1) := by decide +kernel
theorem d_C_addMovement_63 : decode prog_2_method_22_code 63 = .ok (.iload_n 3, 1) := by decide +kernel
theorem d_C_addMovement_64 : decode prog_2_method_22_code 64 = .ok (.invokevirtual 117, 3) := by decide +kernel
theorem d_C_addMovement_67 : decode prog_2_method_22_code 67 = .ok (.aload_n 0, 1) := by decide +kernel
theorem d_C_addMovement_68 : decode prog_2_method_22_code 68 = .ok (.getfield 37, 3) := by decide +kernel
theorem d_C_addMovement_71 : decode prog_2_method_22_code 71 = .ok (.getfield 114, 3) := by decide +kernel
theorem d_C_addMovement_74 : decode prog_2_method_22_code 74 = .ok (.ireturn, 1) := by decide +kernel
theorem d_V_next_0 : decode prog_6_method_3_code 0 = .ok (.bipush (-6), 2) := by decide +kernel
theorem d_V_next_2 : decode prog_6_method_3_code 2 = .ok (.istore_n 1, 1) := by decide +kernel
theorem d_V_next_3 : decode prog_6_method_3_code 3 = .ok (.iconst 0, 1) := by decide +kernel
theorem d_V_next_4 : decode prog_6_method_3_code 4 = .ok (.istore_n 2, 1) := by decide +kernel
theorem d_V_next_5 : decode prog_6_method_3_code 5 = .ok (.iload_n 2, 1) := by decide +kernel
theorem d_V_next_6 : decode prog_6_method_3_code 6 = .ok (.aload_n 0, 1) := by decide +kernel
theorem d_V_next_7 : decode prog_6_method_3_code 7 = .ok (.getfield 21, 3) := by decide +kernel
theorem d_V_next_10 : decode prog_6_method_3_code 10 = .ok (.if_icmp .ge 32, 3) := by decide +kernel
theorem d_V_next_13 : decode prog_6_method_3_code 13 = .ok (.iload_n 1, 1) := by decide +kernel
theorem d_V_next_14 : decode prog_6_method_3_code 14 = .ok (.bipush (-6), 2) := by decide +kernel
theorem d_V_next_16 : decode prog_6_method_3_code 16 = .ok (.if_icmp .eq 18, 3) := by decide +kernel
theorem d_V_next_19 : decode prog_6_method_3_code 19 = .ok (.aload_n 0, 1) := by decide +kernel
theorem d_V_next_20 : decode prog_6_method_3_code 20 = .ok (.getfield 9, 3) := by decide +kernel
theorem d_V_next_23 : decode prog_6_method_3_code 23 = .ok (.iload_n 2, 1) := by decide +kernel
theorem d_V_next_24 : decode prog_6_method_3_code 24 = .ok (.iaload, 1) := by decide +kernel
theorem d_V_next_25 : decode prog_6_method_3_code 25 = .ok (.aload_n 0, 1) := by decide +kernel
theorem d_V_next_26 : decode prog_6_method_3_code 26 = .ok (.getfield 9, 3) := by decide +kernel
theorem d_V_next_29 : decode prog_6_method_3_code 29 = .ok (.iload_n 1, 1) := by decide +kernel
theorem d_V_next_30 : decode prog_6_method_3_code 30 = .ok (.iaload, 1) := by decide +kernel
theorem d_V_next_31 : decode prog_6_method_3_code 31 = .ok (.if_icmp .ge 5, 3) := by decide +kernel
theorem d_V_next_34 : decode prog_6_method_3_code 34 = .ok (.iload_n 2, 1) := by decide +kernel
theorem d_V_next_35 : decode prog_6_method_3_code 35 = .ok (.istore_n 1, 1) := by decide +kernel
theorem d_V_next_36 : decode prog_6_method_3_code 36 = .ok (.iinc 2 1, 3) := by decide +kernel
theorem d_V_next_39 : decode prog_6_method_3_code 39 = .ok (.goto (-34), 3) := by decide +kernel
theorem d_V_next_42 : decode prog_6_method_3_code 42 = .ok (.iload_n 1, 1) := by decide +kernel
theorem d_V_next_43 : decode prog_6_method_3_code 43 = .ok (.ireturn, 1) := by decide +kernel
theorem d_V_drop_0 : decode prog_6_method_4_code 0 = .ok (.aload_n 0, 1) := by decide +kernel
theorem d_V_drop_1 : decode prog_6_method_4_code 1 = .ok (.getfield 21, 3) := by decide +kernel
theorem d_V_drop_4 : decode prog_6_method_4_code 4 = .ok (.iload_n 1, 1) := by decide +kernel
theorem d_V_drop_5 : decode prog_6_method_4_code 5 = .ok (.isub, 1) := by decide +kernel
theorem d_V_drop_6 : decode prog_6_method_4_code 6 = .ok (.iconst 1, 1) := by decide +kernel
theorem d_V_drop_7 : decode prog_6_method_4_code 7 = .ok (.isub, 1) := by decide +kernel
theorem d_V_drop_8 : decode prog_6_method_4_code 8 = .ok (.istore_n 2, 1) := by decide +kernel
theorem d_V_drop_9 : decode prog_6_method_4_code 9 = .ok (.aload_n 0, 1) := by decide +kernel
theorem d_V_drop_10 : decode prog_6_method_4_code 10 = .ok (.getfield 9, 3) := by decide +kernel
theorem d_V_drop_13 : decode prog_6_method_4_code 13 = .ok (.iload_n 1, 1) := by decide +kernel
theorem d_V_drop_14 : decode prog_6_method_4_code 14 = .ok (.iconst 1, 1) := by decide +kernel
theorem d_V_drop_15 : decode prog_6_method_4_code 15 = .ok (.iadd, 1) := by decide +kernel
theorem d_V_drop_16 : decode prog_6_method_4_code 16 = .ok (.aload_n 0, 1) := by decide +kernel
theorem d_V_drop_17 : decode prog_6_method_4_code 17 = .ok (.getfield 9, 3) := by decide +kernel
theorem d_V_drop_20 : decode prog_6_method_4_code 20 = .ok (.iload_n 1, 1) := by decide +kernel
theorem d_V_drop_21 : decode prog_6_method_4_code 21 = .ok (.iload_n 2, 1) := by decide +kernel
theorem d_V_drop_22 : decode prog_6_method_4_code 22 = .ok (.invokestatic 25, 3) := by decide +kernel
theorem d_V_drop_25 : decode prog_6_method_4_code 25 = .ok (.aload_n 0, 1) := by decide +kernel
theorem d_V_drop_26 : decode prog_6_method_4_code 26 = .ok (.getfield 15, 3) := by decide +kernel
theorem d_V_drop_29 : decode prog_6_method_4_code 29 = .ok (.iload_n 1, 1) := by decide +kernel
theorem d_V_drop_30 : decode prog_6_method_4_code 30 = .ok (.iconst 1, 1) := by decide +kernel
theorem d_V_drop_31 : decode prog_6_method_4_code 31 = .ok (.iadd, 1) := by decide +kernel
theorem d_V_drop_32 : decode prog_6_method_4_code 32 = .ok (.aload_n 0, 1) := by decide +kernel
theorem d_V_drop_33 : decode prog_6_method_4_code 33 = .ok (.getfield 15, 3) := by decide +kernel
theorem d_V_drop_36 : decode prog_6_method_4_code 36 = .ok (.iload_n 1, 1) := by decide +kernel
theorem d_V_drop_37 : decode prog_6_method_4_code 37 = .ok (.iload_n 2, 1) := by decide +kernel
theorem d_V_drop_38 : decode prog_6_method_4_code 38 = .ok (.invokestatic 25, 3) := by decide +kernel
theorem d_V_drop_41 : decode prog_6_method_4_code 41 = .ok (.aload_n 0, 1) := by decide +kernel
theorem d_V_drop_42 : decode prog_6_method_4_code 42 = .ok (.getfield 18, 3) := by decide +kernel
theorem d_V_drop_45 : decode prog_6_method_4_code 45 = .ok (.iload_n 1, 1) := by decide +kernel
theorem d_V_drop_46 : decode prog_6_method_4_code 46 = .ok (.iconst 1, 1) := by decide +kernel
theorem d_V_drop_47 : decode prog_6_method_4_code 47 = .ok (.iadd, 1) := by decide +kernel
theorem d_V_drop_48 : decode prog_6_method_4_code 48 = .ok (.aload_n 0, 1) := by decide +kernel
theorem d_V_drop_49 : decode prog_6_method_4_code 49 = .ok (.getfield 18, 3) := by decide +kernel
theorem d_V_drop_52 : decode prog_6_method_4_code 52 = .ok (.iload_n 1, 1) := by decide +kernel
theorem d_V_drop_53 : decode prog_6_method_4_code 53 = .ok (.iload_n 2, 1) := by decide +kernel
theorem d_V_drop_54 : decode prog_6_method_4_code 54 = .ok (.invokestatic 25, 3) := by decide +kernel
theorem d_V_drop_57 : decode prog_6_method_4_code 57 = .ok (.aload_n 0, 1) := by decide +kernel
theorem d_V_drop_58 : decode prog_6_method_4_code 58 = .ok (.dup, 1) := by decide +kernel
theorem d_V_drop_59 : decode prog_6_method_4_code 59 = .ok (.getfield 21, 3) := by decide +kernel
theorem d_V_drop_62 : decode prog_6_method_4_code 62 = .ok (.iconst 1, 1) := by decide +kernel
theorem d_V_drop_63 : decode prog_6_method_4_code 63 = .ok (.isub, 1) := by decide +kernel
theorem d_V_drop_64 : decode prog_6_method_4_code 64 = .ok (.putfield 21, 3) := by decide +kernel
theorem d_V_drop_67 : decode prog_6_method_4_code 67 = .ok (.return_, 1) := by decide +kernel
theorem d_C_moveTo_0 : decode prog_2_method_31_code 0 = .ok (.aload_n 0, 1) := by decide +kernel
theorem d_C_moveTo_1 : decode prog_2_method_31_code 1 = .ok (.getfield 37, 3) := by decide +kernel
theorem d_C_moveTo_4 : decode prog_2_method_31_code 4 = .ok (.getfield 114, 3) := by decide +kernel
theorem d_C_moveTo_7 : decode prog_2_method_31_code 7 = .ok (.istore_n 2, 1) := by decide +kernel
theorem d_C_moveTo_8 : decode prog_2_method_31_code 8 = .ok (.iload_n 2, 1) := by decide +kernel
theorem d_C_moveTo_9 : decode prog_2_method_31_code 9 = .ok (.ifCond .le 96, 3) := by decide +kernel
theorem d_C_moveTo_12 : decode prog_2_method_31_code 12 = .ok (.aload_n 0, 1) := by decide +kernel
theorem d_C_moveTo_13 : decode prog_2_method_31_code 13 = .ok (.getfield 37, 3) := by decide +kernel
theorem d_C_moveTo_16 : decode prog_2_method_31_code 16 = .ok (.invokevirtual 174, 3) := by decide +kernel
theorem d_C_moveTo_19 : decode prog_2_method_31_code 19 = .ok (.istore_n 3, 1) := by decide +kernel
theorem d_C_moveTo_20 : decode prog_2_method_31_code 20 = .ok (.iload_n 3, 1) := by decide +kernel
theorem d_C_moveTo_21 : decode prog_2_method_31_code 21 = .ok (.bipush (-6), 2) := by decide +kernel
theorem d_C_moveTo_23 : decode prog_2_method_31_code 23 = .ok (.if_icmp .eq 82, 3) := by decide +kernel
theorem d_C_moveTo_26 : decode prog_2_method_31_code 26 = .ok (.aload_n 0, 1) := by decide +kernel
theorem d_C_moveTo_27 : decode prog_2_method_31_code 27 = .ok (.getfield 37, 3) := by decide +kernel
theorem d_C_moveTo_30 : decode prog_2_method_31_code 30 = .ok (.getfield 177, 3) := by decide +kernel
theorem d_C_moveTo_33 : decode prog_2_method_31_code 33 = .ok (.iload_n 3, 1) := by decide +kernel
theorem d_C_moveTo_34 : decode prog_2_method_31_code 34 = .ok (.iaload, 1) := by decide +kernel
theorem d_C_moveTo_35 : decode prog_2_method_31_code 35 = .ok (.iload_n 1, 1) := by decide +kernel
theorem d_C_moveTo_36 : decode prog_2_method_31_code 36 = .ok (.if_icmp .le 6, 3) := by decide +kernel
theorem d_C_moveTo_39 : decode prog_2_method_31_code 39 = .ok (.goto 66, 3) := by decide +kernel
theorem d_C_moveTo_42 : decode prog_2_method_31_code 42 = .ok (.iconst 1, 1) := by decide +kernel
theorem d_C_moveTo_43 : decode prog_2_method_31_code 43 = .ok (.aload_n 0, 1) := by decide +kernel
theorem d_C_moveTo_44 : decode prog_2_method_31_code 44 = .ok (.getfield 37, 3) := by decide +kernel
theorem d_C_moveTo_47 : decode prog_2_method_31_code 47 = .ok (.getfield 180, 3) := by decide +kernel
theorem d_C_moveTo_50 : decode prog_2_method_31_code 50 = .ok (.iload_n 3, 1) := by decide +kernel
theorem d_C_moveTo_51 : decode prog_2_method_31_code 51 = .ok (.iaload, 1) := by decide +kernel
theorem d_C_moveTo_52 : decode prog_2_method_31_code 52 = .ok (.ishl, 1) := by decide +kernel
theorem d_C_moveTo_53 : decode prog_2_method_31_code 53 = .ok (.istore 4, 2) := by decide +kernel
theorem d_C_moveTo_55 : decode prog_2_method_31_code 55 = .ok (.aload_n 0, 1) := by decide +kernel
theorem d_C_moveTo_56 : decode prog_2_method_31_code 56 = .ok (.aload_n 0, 1) := by decide +kernel
theorem d_C_moveTo_57 : decode prog_2_method_31_code 57 = .ok (.getfield 37, 3) := by decide +kernel
theorem d_C_moveTo_60 : decode prog_2_method_31_code 60 = .ok (.getfield 183, 3) := by decide +kernel
theorem d_C_moveTo_63 : decode prog_2_method_31_code 63 = .ok (.iload_n 3, 1) := by decide +kernel
theorem d_C_moveTo_64 : decode prog_2_method_31_code 64 = .ok (.iaload, 1) := by decide +kernel
theorem d_C_moveTo_65 : decode prog_2_method_31_code 65 = .ok (.iconst 1, 1) := by decide +kernel
theorem d_C_moveTo_66 : decode prog_2_method_31_code 66 = .ok (.if_icmp .ne 13, 3) := by decide +kernel
theorem d_C_moveTo_69 : decode prog_2_method_31_code 69 = .ok (.aload_n 0, 1) := by decide +kernel
theorem d_C_moveTo_70 : decode prog_2_method_31_code 70 = .ok (.getfield 60, 3) := by decide +kernel
theorem d_C_moveTo_73 : decode prog_2_method_31_code 73 = .ok (.iload 4, 2) := by decide +kernel
theorem d_C_moveTo_75 : decode prog_2_method_31_code 75 = .ok (.ior, 1) := by decide +kernel
theorem d_C_moveTo_76 : decode prog_2_method_31_code 76 = .ok (.goto 12, 3) := by decide +kernel
theorem d_C_moveTo_79 : decode prog_2_method_31_code 79 = .ok (.aload_n 0, 1) := by decide +kernel
theorem d_C_moveTo_80 : decode prog_2_method_31_code 80 = .ok (.getfield 60, 3) := by decide +kernel
theorem d_C_moveTo_83 : decode prog_2_method_31_code 83 = .ok (.iload 4, 2) := by decide +kernel
theorem d_C_moveTo_85 : decode prog_2_method_31_code 85 = .ok (.iconst (-1), 1) := by decide +kernel
theorem d_C_moveTo_86 : decode prog_2_method_31_code 86 = .ok (.ixor, 1) := by decide +kernel
theorem d_C_moveTo_87 : decode prog_2_method_31_code 87 = .ok (.iand, 1) := by decide +kernel
theorem d_C_moveTo_88 : decode prog_2_method_31_code 88 = .ok (.putfield 60, 3) := by decide +kernel
theorem d_C_moveTo_91 : decode prog_2_method_31_code 91 = .ok (.aload_n 0, 1) := by decide +kernel
theorem d_C_moveTo_92 : decode prog_2_method_31_code 92 = .ok (.getfield 37, 3) := by decide +kernel
theorem d_C_moveTo_95 : decode prog_2_method_31_code 95 = .ok (.iload_n 3, 1) := by decide +kernel
theorem d_C_moveTo_96 : decode prog_2_method_31_code 96 = .ok (.invokevirtual 186, 3) := by decide +kernel
theorem d_C_moveTo_99 : decode prog_2_method_31_code 99 = .ok (.iinc 2 (-1), 3) := by decide +kernel
theorem d_C_moveTo_102 : decode prog_2_method_31_code 102 = .ok (.goto (-94), 3) := by decide +kernel
theorem d_C_moveTo_105 : decode prog_2_method_31_code 105 = .ok (.aload_n 0, 1) := by decide +kernel
theorem d_C_moveTo_106 : decode prog_2_method_31_code 106 = .ok (.iload_n 1, 1) := by decide +kernel
theorem d_C_moveTo_107 : decode prog_2_method_31_code 107 = .ok (.putfield 51, 3) := by decide +kernel
theorem d_C_moveTo_110 : decode prog_2_method_31_code 110 = .ok (.return_, 1) := by decide +kernel
theorem d_C_letPass_0 : decode prog_2_method_30_code 0 = .ok (.iload_n 1, 1) := by decide +kernel
theorem d_C_letPass_1 : decode prog_2_method_30_code 1 = .ok (.iconst 1, 1) := by decide +kernel
theorem d_C_letPass_2 : decode prog_2_method_30_code 2 = .ok (.if_icmp .lt 10, 3) := by decide +kernel
theorem d_C_letPass_5 : decode prog_2_method_30_code 5 = .ok (.iload_n 1, 1) := by decide +kernel
theorem d_C_letPass_6 : decode prog_2_method_30_code 6 = .ok (.sipush 600, 3) := by decide +kernel
theorem d_C_letPass_9 : decode prog_2_method_30_code 9 = .ok (.if_icmp .le 6, 3) := by decide +kernel
theorem d_C_letPass_12 : decode prog_2_method_30_code 12 = .ok (.bipush (-2), 2) := by decide +kernel
theorem d_C_letPass_14 : decode prog_2_method_30_code 14 = .ok (.ireturn, 1) := by decide +kernel
theorem d_C_letPass_15 : decode prog_2_method_30_code 15 = .ok (.aload_n 0, 1) := by decide +kernel
theorem d_C_letPass_16 : decode prog_2_method_30_code 16 = .ok (.getfield 51, 3) := by decide +kernel
theorem d_C_letPass_19 : decode prog_2_method_30_code 19 = .ok (.iload_n 1, 1) := by decide +kernel
theorem d_C_letPass_20 : decode prog_2_method_30_code 20 = .ok (.iadd, 1) := by decide +kernel
theorem d_C_letPass_21 : decode prog_2_method_30_code 21 = .ok (.sipush 9000, 3) := by decide +kernel
theorem d_C_letPass_24 : decode prog_2_method_30_code 24 = .ok (.if_icmp .le 6, 3) := by decide +kernel
theorem d_C_letPass_27 : decode prog_2_method_30_code 27 = .ok (.bipush (-5), 2) := by decide +kernel
theorem d_C_letPass_29 : decode prog_2_method_30_code 29 = .ok (.ireturn, 1) := by decide +kernel
theorem d_C_letPass_30 : decode prog_2_method_30_code 30 = .ok (.aload_n 0, 1) := by decide +kernel
theorem d_C_letPass_31 : decode prog_2_method_30_code 31 = .ok (.aload_n 0, 1) := by decide +kernel
theorem d_C_letPass_32 : decode prog_2_method_30_code 32 = .ok (.getfield 51, 3) := by decide +kernel
theorem d_C_letPass_35 : decode prog_2_method_30_code 35 = .ok (.iload_n 1, 1) := by decide +kernel
theorem d_C_letPass_36 : decode prog_2_method_30_code 36 = .ok (.iadd, 1) := by decide +kernel
theorem d_C_letPass_37 : decode prog_2_method_30_code 37 = .ok (.invokevirtual 170, 3) := by decide +kernel
theorem d_C_letPass_40 : decode prog_2_method_30_code 40 = .ok (.aload_n 0, 1) := by decide +kernel
theorem d_C_letPass_41 : decode prog_2_method_30_code 41 = .ok (.getfield 51, 3) := by decide +kernel
theorem d_C_letPass_44 : decode prog_2_method_30_code 44 = .ok (.ireturn, 1) := by decide +kernel
