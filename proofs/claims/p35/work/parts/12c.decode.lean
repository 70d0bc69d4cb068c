/-! DECODE rows: printed by wip/p35/emit.py. -/
theorem d_L_cell_0 : decode method_2_code 0 = .ok (.aload_n 0, 1) := by decide +kernel
theorem d_L_cell_1 : decode method_2_code 1 = .ok (.arraylength, 1) := by decide +kernel
theorem d_L_cell_2 : decode method_2_code 2 = .ok (.ifCond .ne 12, 3) := by decide +kernel
theorem d_L_cell_5 : decode method_2_code 5 = .ok (.iload_n 1, 1) := by decide +kernel
theorem d_L_cell_6 : decode method_2_code 6 = .ok (.bipush 37, 2) := by decide +kernel
theorem d_L_cell_8 : decode method_2_code 8 = .ok (.imul, 1) := by decide +kernel
theorem d_L_cell_9 : decode method_2_code 9 = .ok (.iconst 5, 1) := by decide +kernel
theorem d_L_cell_10 : decode method_2_code 10 = .ok (.iadd, 1) := by decide +kernel
theorem d_L_cell_11 : decode method_2_code 11 = .ok (.goto 17, 3) := by decide +kernel
theorem d_L_cell_14 : decode method_2_code 14 = .ok (.aload_n 0, 1) := by decide +kernel
theorem d_L_cell_15 : decode method_2_code 15 = .ok (.iload_n 1, 1) := by decide +kernel
theorem d_L_cell_16 : decode method_2_code 16 = .ok (.aload_n 0, 1) := by decide +kernel
theorem d_L_cell_17 : decode method_2_code 17 = .ok (.arraylength, 1) := by decide +kernel
theorem d_L_cell_18 : decode method_2_code 18 = .ok (.irem, 1) := by decide +kernel
theorem d_L_cell_19 : decode method_2_code 19 = .ok (.iaload, 1) := by decide +kernel
theorem d_L_cell_20 : decode method_2_code 20 = .ok (.iload_n 1, 1) := by decide +kernel
theorem d_L_cell_21 : decode method_2_code 21 = .ok (.bipush 7, 2) := by decide +kernel
theorem d_L_cell_23 : decode method_2_code 23 = .ok (.irem, 1) := by decide +kernel
theorem d_L_cell_24 : decode method_2_code 24 = .ok (.ishr, 1) := by decide +kernel
theorem d_L_cell_25 : decode method_2_code 25 = .ok (.ldc 7, 2) := by decide +kernel
theorem d_L_cell_27 : decode method_2_code 27 = .ok (.iand, 1) := by decide +kernel
theorem d_L_cell_28 : decode method_2_code 28 = .ok (.iload_n 2, 1) := by decide +kernel
theorem d_L_cell_29 : decode method_2_code 29 = .ok (.irem, 1) := by decide +kernel
theorem d_L_cell_30 : decode method_2_code 30 = .ok (.ireturn, 1) := by decide +kernel
theorem d_L_has_0 : decode method_3_code 0 = .ok (.iload_n 0, 1) := by decide +kernel
theorem d_L_has_1 : decode method_3_code 1 = .ok (.iload_n 1, 1) := by decide +kernel
theorem d_L_has_2 : decode method_3_code 2 = .ok (.ishr, 1) := by decide +kernel
theorem d_L_has_3 : decode method_3_code 3 = .ok (.iconst 1, 1) := by decide +kernel
theorem d_L_has_4 : decode method_3_code 4 = .ok (.iand, 1) := by decide +kernel
theorem d_L_has_5 : decode method_3_code 5 = .ok (.iconst 1, 1) := by decide +kernel
theorem d_L_has_6 : decode method_3_code 6 = .ok (.if_icmp .ne 7, 3) := by decide +kernel
theorem d_L_has_9 : decode method_3_code 9 = .ok (.iconst 1, 1) := by decide +kernel
theorem d_L_has_10 : decode method_3_code 10 = .ok (.goto 4, 3) := by decide +kernel
theorem d_L_has_13 : decode method_3_code 13 = .ok (.iconst 0, 1) := by decide +kernel
theorem d_L_has_14 : decode method_3_code 14 = .ok (.ireturn, 1) := by decide +kernel
theorem d_L_holder_0 : decode method_5_code 0 = .ok (.aload_n 0, 1) := by decide +kernel
theorem d_L_holder_1 : decode method_5_code 1 = .ok (.iload_n 1, 1) := by decide +kernel
theorem d_L_holder_2 : decode method_5_code 2 = .ok (.iload_n 2, 1) := by decide +kernel
theorem d_L_holder_3 : decode method_5_code 3 = .ok (.iconst 4, 1) := by decide +kernel
theorem d_L_holder_4 : decode method_5_code 4 = .ok (.invokevirtual 8, 3) := by decide +kernel
theorem d_L_holder_7 : decode method_5_code 7 = .ok (.istore_n 3, 1) := by decide +kernel
theorem d_L_holder_8 : decode method_5_code 8 = .ok (.iload_n 3, 1) := by decide +kernel
theorem d_L_holder_9 : decode method_5_code 9 = .ok (.ifCond .lt 7, 3) := by decide +kernel
theorem d_L_holder_12 : decode method_5_code 12 = .ok (.iload_n 3, 1) := by decide +kernel
theorem d_L_holder_13 : decode method_5_code 13 = .ok (.goto 9, 3) := by decide +kernel
theorem d_L_holder_16 : decode method_5_code 16 = .ok (.aload_n 0, 1) := by decide +kernel
theorem d_L_holder_17 : decode method_5_code 17 = .ok (.iload_n 1, 1) := by decide +kernel
theorem d_L_holder_18 : decode method_5_code 18 = .ok (.iconst 3, 1) := by decide +kernel
theorem d_L_holder_19 : decode method_5_code 19 = .ok (.invokevirtual 14, 3) := by decide +kernel
theorem d_L_holder_22 : decode method_5_code 22 = .ok (.ireturn, 1) := by decide +kernel
theorem d_L_end_0 : decode method_6_code 0 = .ok (.aload_n 0, 1) := by decide +kernel
theorem d_L_end_1 : decode method_6_code 1 = .ok (.iload_n 1, 1) := by decide +kernel
theorem d_L_end_2 : decode method_6_code 2 = .ok (.iload_n 2, 1) := by decide +kernel
theorem d_L_end_3 : decode method_6_code 3 = .ok (.invokestatic 18, 3) := by decide +kernel
theorem d_L_end_6 : decode method_6_code 6 = .ok (.istore_n 3, 1) := by decide +kernel
theorem d_L_end_7 : decode method_6_code 7 = .ok (.iconst 1, 1) := by decide +kernel
theorem d_L_end_8 : decode method_6_code 8 = .ok (.iload_n 1, 1) := by decide +kernel
theorem d_L_end_9 : decode method_6_code 9 = .ok (.ishl, 1) := by decide +kernel
theorem d_L_end_10 : decode method_6_code 10 = .ok (.istore 4, 2) := by decide +kernel
theorem d_L_end_12 : decode method_6_code 12 = .ok (.iconst 0, 1) := by decide +kernel
theorem d_L_end_13 : decode method_6_code 13 = .ok (.istore 5, 2) := by decide +kernel
theorem d_L_end_15 : decode method_6_code 15 = .ok (.iload 5, 2) := by decide +kernel
theorem d_L_end_17 : decode method_6_code 17 = .ok (.bipush 12, 2) := by decide +kernel
theorem d_L_end_19 : decode method_6_code 19 = .ok (.if_icmp .ge 83, 3) := by decide +kernel
theorem d_L_end_22 : decode method_6_code 22 = .ok (.iload_n 3, 1) := by decide +kernel
theorem d_L_end_23 : decode method_6_code 23 = .ok (.ifCond .lt 79, 3) := by decide +kernel
theorem d_L_end_26 : decode method_6_code 26 = .ok (.iload 4, 2) := by decide +kernel
theorem d_L_end_28 : decode method_6_code 28 = .ok (.iload_n 3, 1) := by decide +kernel
theorem d_L_end_29 : decode method_6_code 29 = .ok (.invokestatic 24, 3) := by decide +kernel
theorem d_L_end_32 : decode method_6_code 32 = .ok (.ifCond .eq 6, 3) := by decide +kernel
theorem d_L_end_35 : decode method_6_code 35 = .ok (.bipush (-6), 2) := by decide +kernel
theorem d_L_end_37 : decode method_6_code 37 = .ok (.ireturn, 1) := by decide +kernel
theorem d_L_end_38 : decode method_6_code 38 = .ok (.aload_n 0, 1) := by decide +kernel
theorem d_L_end_39 : decode method_6_code 39 = .ok (.iload_n 3, 1) := by decide +kernel
theorem d_L_end_40 : decode method_6_code 40 = .ok (.iconst 2, 1) := by decide +kernel
theorem d_L_end_41 : decode method_6_code 41 = .ok (.invokevirtual 14, 3) := by decide +kernel
theorem d_L_end_44 : decode method_6_code 44 = .ok (.iconst 1, 1) := by decide +kernel
theorem d_L_end_45 : decode method_6_code 45 = .ok (.if_icmp .ne 21, 3) := by decide +kernel
theorem d_L_end_48 : decode method_6_code 48 = .ok (.aload_n 0, 1) := by decide +kernel
theorem d_L_end_49 : decode method_6_code 49 = .ok (.iload_n 3, 1) := by decide +kernel
theorem d_L_end_50 : decode method_6_code 50 = .ok (.iload_n 2, 1) := by decide +kernel
theorem d_L_end_51 : decode method_6_code 51 = .ok (.iconst 5, 1) := by decide +kernel
theorem d_L_end_52 : decode method_6_code 52 = .ok (.invokevirtual 8, 3) := by decide +kernel
theorem d_L_end_55 : decode method_6_code 55 = .ok (.iconst 1, 1) := by decide +kernel
theorem d_L_end_56 : decode method_6_code 56 = .ok (.if_icmp .ne 8, 3) := by decide +kernel
theorem d_L_end_59 : decode method_6_code 59 = .ok (.bipush (-6), 2) := by decide +kernel
theorem d_L_end_61 : decode method_6_code 61 = .ok (.goto 4, 3) := by decide +kernel
theorem d_L_end_64 : decode method_6_code 64 = .ok (.iload_n 3, 1) := by decide +kernel
theorem d_L_end_65 : decode method_6_code 65 = .ok (.ireturn, 1) := by decide +kernel
theorem d_L_end_66 : decode method_6_code 66 = .ok (.iload 4, 2) := by decide +kernel
theorem d_L_end_68 : decode method_6_code 68 = .ok (.iconst 1, 1) := by decide +kernel
theorem d_L_end_69 : decode method_6_code 69 = .ok (.iload_n 3, 1) := by decide +kernel
theorem d_L_end_70 : decode method_6_code 70 = .ok (.ishl, 1) := by decide +kernel
theorem d_L_end_71 : decode method_6_code 71 = .ok (.ior, 1) := by decide +kernel
theorem d_L_end_72 : decode method_6_code 72 = .ok (.istore 4, 2) := by decide +kernel
theorem d_L_end_74 : decode method_6_code 74 = .ok (.aload_n 0, 1) := by decide +kernel
theorem d_L_end_75 : decode method_6_code 75 = .ok (.bipush 20, 2) := by decide +kernel
theorem d_L_end_77 : decode method_6_code 77 = .ok (.invokevirtual 28, 3) := by decide +kernel
theorem d_L_end_80 : decode method_6_code 80 = .ok (.iconst 1, 1) := by decide +kernel
theorem d_L_end_81 : decode method_6_code 81 = .ok (.if_icmp .ne 12, 3) := by decide +kernel
theorem d_L_end_84 : decode method_6_code 84 = .ok (.aload_n 0, 1) := by decide +kernel
theorem d_L_end_85 : decode method_6_code 85 = .ok (.iload_n 3, 1) := by decide +kernel
theorem d_L_end_86 : decode method_6_code 86 = .ok (.iload_n 2, 1) := by decide +kernel
theorem d_L_end_87 : decode method_6_code 87 = .ok (.invokestatic 18, 3) := by decide +kernel
theorem d_L_end_90 : decode method_6_code 90 = .ok (.goto 5, 3) := by decide +kernel
theorem d_L_end_93 : decode method_6_code 93 = .ok (.bipush (-6), 2) := by decide +kernel
theorem d_L_end_95 : decode method_6_code 95 = .ok (.istore_n 3, 1) := by decide +kernel
theorem d_L_end_96 : decode method_6_code 96 = .ok (.iinc 5 1, 3) := by decide +kernel
theorem d_L_end_99 : decode method_6_code 99 = .ok (.goto (-84), 3) := by decide +kernel
theorem d_L_end_102 : decode method_6_code 102 = .ok (.bipush (-6), 2) := by decide +kernel
theorem d_L_end_104 : decode method_6_code 104 = .ok (.ireturn, 1) := by decide +kernel
theorem d_L_areVoices_0 : decode method_7_code 0 = .ok (.bipush 12, 2) := by decide +kernel
theorem d_L_areVoices_2 : decode method_7_code 2 = .ok (.newarray .int, 2) := by decide +kernel
theorem d_L_areVoices_4 : decode method_7_code 4 = .ok (.astore_n 3, 1) := by decide +kernel
theorem d_L_areVoices_5 : decode method_7_code 5 = .ok (.bipush 12, 2) := by decide +kernel
theorem d_L_areVoices_7 : decode method_7_code 7 = .ok (.newarray .int, 2) := by decide +kernel
theorem d_L_areVoices_9 : decode method_7_code 9 = .ok (.astore 4, 2) := by decide +kernel
theorem d_L_areVoices_11 : decode method_7_code 11 = .ok (.iconst 0, 1) := by decide +kernel
theorem d_L_areVoices_12 : decode method_7_code 12 = .ok (.istore 5, 2) := by decide +kernel
theorem d_L_areVoices_14 : decode method_7_code 14 = .ok (.iload 5, 2) := by decide +kernel
theorem d_L_areVoices_16 : decode method_7_code 16 = .ok (.aload_n 0, 1) := by decide +kernel
theorem d_L_areVoices_17 : decode method_7_code 17 = .ok (.iconst 1, 1) := by decide +kernel
theorem d_L_areVoices_18 : decode method_7_code 18 = .ok (.invokevirtual 28, 3) := by decide +kernel
theorem d_L_areVoices_21 : decode method_7_code 21 = .ok (.if_icmp .ge 170, 3) := by decide +kernel
theorem d_L_areVoices_24 : decode method_7_code 24 = .ok (.aload_n 2, 1) := by decide +kernel
theorem d_L_areVoices_25 : decode method_7_code 25 = .ok (.iload 5, 2) := by decide +kernel
theorem d_L_areVoices_27 : decode method_7_code 27 = .ok (.bipush (-6), 2) := by decide +kernel
theorem d_L_areVoices_29 : decode method_7_code 29 = .ok (.iastore, 1) := by decide +kernel
theorem d_L_areVoices_30 : decode method_7_code 30 = .ok (.aload_n 0, 1) := by decide +kernel
theorem d_L_areVoices_31 : decode method_7_code 31 = .ok (.iload_n 1, 1) := by decide +kernel
theorem d_L_areVoices_32 : decode method_7_code 32 = .ok (.iconst 1, 1) := by decide +kernel
theorem d_L_areVoices_33 : decode method_7_code 33 = .ok (.invokevirtual 32, 3) := by decide +kernel
theorem d_L_areVoices_36 : decode method_7_code 36 = .ok (.aload_n 0, 1) := by decide +kernel
theorem d_L_areVoices_37 : decode method_7_code 37 = .ok (.iload 5, 2) := by decide +kernel
theorem d_L_areVoices_39 : decode method_7_code 39 = .ok (.iconst 1, 1) := by decide +kernel
theorem d_L_areVoices_40 : decode method_7_code 40 = .ok (.invokevirtual 14, 3) := by decide +kernel
theorem d_L_areVoices_43 : decode method_7_code 43 = .ok (.invokestatic 24, 3) := by decide +kernel
theorem d_L_areVoices_46 : decode method_7_code 46 = .ok (.istore 6, 2) := by decide +kernel
theorem d_L_areVoices_48 : decode method_7_code 48 = .ok (.iload 6, 2) := by decide +kernel
theorem d_L_areVoices_50 : decode method_7_code 50 = .ok (.ifCond .eq 17, 3) := by decide +kernel
theorem d_L_areVoices_53 : decode method_7_code 53 = .ok (.aload_n 0, 1) := by decide +kernel
theorem d_L_areVoices_54 : decode method_7_code 54 = .ok (.iload 5, 2) := by decide +kernel
theorem d_L_areVoices_56 : decode method_7_code 56 = .ok (.iload_n 1, 1) := by decide +kernel
theorem d_L_areVoices_57 : decode method_7_code 57 = .ok (.iconst 5, 1) := by decide +kernel
theorem d_L_areVoices_58 : decode method_7_code 58 = .ok (.invokevirtual 8, 3) := by decide +kernel
theorem d_L_areVoices_61 : decode method_7_code 61 = .ok (.iconst 1, 1) := by decide +kernel
theorem d_L_areVoices_62 : decode method_7_code 62 = .ok (.if_icmp .eq 5, 3) := by decide +kernel
theorem d_L_areVoices_65 : decode method_7_code 65 = .ok (.iconst 0, 1) := by decide +kernel
theorem d_L_areVoices_66 : decode method_7_code 66 = .ok (.ireturn, 1) := by decide +kernel
theorem d_L_areVoices_67 : decode method_7_code 67 = .ok (.aload_n 0, 1) := by decide +kernel
theorem d_L_areVoices_68 : decode method_7_code 68 = .ok (.iload 5, 2) := by decide +kernel
theorem d_L_areVoices_70 : decode method_7_code 70 = .ok (.iload_n 1, 1) := by decide +kernel
theorem d_L_areVoices_71 : decode method_7_code 71 = .ok (.iconst 5, 1) := by decide +kernel
theorem d_L_areVoices_72 : decode method_7_code 72 = .ok (.invokevirtual 8, 3) := by decide +kernel
theorem d_L_areVoices_75 : decode method_7_code 75 = .ok (.ifCond .ne 93, 3) := by decide +kernel
theorem d_L_areVoices_78 : decode method_7_code 78 = .ok (.aload_n 0, 1) := by decide +kernel
theorem d_L_areVoices_79 : decode method_7_code 79 = .ok (.iload 5, 2) := by decide +kernel
theorem d_L_areVoices_81 : decode method_7_code 81 = .ok (.iconst 2, 1) := by decide +kernel
theorem d_L_areVoices_82 : decode method_7_code 82 = .ok (.invokevirtual 14, 3) := by decide +kernel
theorem d_L_areVoices_85 : decode method_7_code 85 = .ok (.iconst 1, 1) := by decide +kernel
theorem d_L_areVoices_86 : decode method_7_code 86 = .ok (.if_icmp .ne 8, 3) := by decide +kernel
theorem d_L_areVoices_89 : decode method_7_code 89 = .ok (.iload 5, 2) := by decide +kernel
theorem d_L_areVoices_91 : decode method_7_code 91 = .ok (.goto 10, 3) := by decide +kernel
theorem d_L_areVoices_94 : decode method_7_code 94 = .ok (.aload_n 0, 1) := by decide +kernel
theorem d_L_areVoices_95 : decode method_7_code 95 = .ok (.iload 5, 2) := by decide +kernel
theorem d_L_areVoices_97 : decode method_7_code 97 = .ok (.iload_n 1, 1) := by decide +kernel
theorem d_L_areVoices_98 : decode method_7_code 98 = .ok (.invokestatic 35, 3) := by decide +kernel
theorem d_L_areVoices_101 : decode method_7_code 101 = .ok (.istore 7, 2) := by decide +kernel
theorem d_L_areVoices_103 : decode method_7_code 103 = .ok (.iload 7, 2) := by decide +kernel
theorem d_L_areVoices_105 : decode method_7_code 105 = .ok (.ifCond .lt 57, 3) := by decide +kernel
theorem d_L_areVoices_108 : decode method_7_code 108 = .ok (.iload 7, 2) := by decide +kernel
theorem d_L_areVoices_110 : decode method_7_code 110 = .ok (.iload 5, 2) := by decide +kernel
theorem d_L_areVoices_112 : decode method_7_code 112 = .ok (.if_icmp .eq 50, 3) := by decide +kernel
theorem d_L_areVoices_115 : decode method_7_code 115 = .ok (.aload_n 3, 1) := by decide +kernel
theorem d_L_areVoices_116 : decode method_7_code 116 = .ok (.iload 7, 2) := by decide +kernel
theorem d_L_areVoices_118 : decode method_7_code 118 = .ok (.iaload, 1) := by decide +kernel
theorem d_L_areVoices_119 : decode method_7_code 119 = .ok (.aload_n 0, 1) := by decide +kernel
theorem d_L_areVoices_120 : decode method_7_code 120 = .ok (.bipush 19, 2) := by decide +kernel
theorem d_L_areVoices_122 : decode method_7_code 122 = .ok (.invokevirtual 28, 3) := by decide +kernel
theorem d_L_areVoices_125 : decode method_7_code 125 = .ok (.if_icmp .ge 8, 3) := by decide +kernel
theorem d_L_areVoices_128 : decode method_7_code 128 = .ok (.iload 7, 2) := by decide +kernel
theorem d_L_areVoices_130 : decode method_7_code 130 = .ok (.goto 5, 3) := by decide +kernel
theorem d_L_areVoices_133 : decode method_7_code 133 = .ok (.bipush (-6), 2) := by decide +kernel
theorem d_L_areVoices_135 : decode method_7_code 135 = .ok (.istore 7, 2) := by decide +kernel
theorem d_L_areVoices_137 : decode method_7_code 137 = .ok (.iload 7, 2) := by decide +kernel
theorem d_L_areVoices_139 : decode method_7_code 139 = .ok (.ifCond .lt 23, 3) := by decide +kernel
theorem d_L_areVoices_142 : decode method_7_code 142 = .ok (.aload_n 3, 1) := by decide +kernel
theorem d_L_areVoices_143 : decode method_7_code 143 = .ok (.iload 7, 2) := by decide +kernel
theorem d_L_areVoices_145 : decode method_7_code 145 = .ok (.dup2, 1) := by decide +kernel
theorem d_L_areVoices_146 : decode method_7_code 146 = .ok (.iaload, 1) := by decide +kernel
theorem d_L_areVoices_147 : decode method_7_code 147 = .ok (.iconst 1, 1) := by decide +kernel
theorem d_L_areVoices_148 : decode method_7_code 148 = .ok (.iadd, 1) := by decide +kernel
theorem d_L_areVoices_149 : decode method_7_code 149 = .ok (.iastore, 1) := by decide +kernel
theorem d_L_areVoices_150 : decode method_7_code 150 = .ok (.aload 4, 2) := by decide +kernel
theorem d_L_areVoices_152 : decode method_7_code 152 = .ok (.iload 7, 2) := by decide +kernel
theorem d_L_areVoices_154 : decode method_7_code 154 = .ok (.dup2, 1) := by decide +kernel
theorem d_L_areVoices_155 : decode method_7_code 155 = .ok (.iaload, 1) := by decide +kernel
theorem d_L_areVoices_156 : decode method_7_code 156 = .ok (.iconst 1, 1) := by decide +kernel
theorem d_L_areVoices_157 : decode method_7_code 157 = .ok (.iload 5, 2) := by decide +kernel
theorem d_L_areVoices_159 : decode method_7_code 159 = .ok (.ishl, 1) := by decide +kernel
theorem d_L_areVoices_160 : decode method_7_code 160 = .ok (.ior, 1) := by decide +kernel
theorem d_L_areVoices_161 : decode method_7_code 161 = .ok (.iastore, 1) := by decide +kernel
theorem d_L_areVoices_162 : decode method_7_code 162 = .ok (.aload_n 2, 1) := by decide +kernel
theorem d_L_areVoices_163 : decode method_7_code 163 = .ok (.iload 5, 2) := by decide +kernel
theorem d_L_areVoices_165 : decode method_7_code 165 = .ok (.iload 7, 2) := by decide +kernel
theorem d_L_areVoices_167 : decode method_7_code 167 = .ok (.iastore, 1) := by decide +kernel
theorem d_L_areVoices_168 : decode method_7_code 168 = .ok (.aload_n 0, 1) := by decide +kernel
theorem d_L_areVoices_169 : decode method_7_code 169 = .ok (.iload 5, 2) := by decide +kernel
theorem d_L_areVoices_171 : decode method_7_code 171 = .ok (.iload_n 1, 1) := by decide +kernel
theorem d_L_areVoices_172 : decode method_7_code 172 = .ok (.iconst 0, 1) := by decide +kernel
theorem d_L_areVoices_173 : decode method_7_code 173 = .ok (.invokevirtual 8, 3) := by decide +kernel
theorem d_L_areVoices_176 : decode method_7_code 176 = .ok (.aload_n 2, 1) := by decide +kernel
theorem d_L_areVoices_177 : decode method_7_code 177 = .ok (.iload 5, 2) := by decide +kernel
theorem d_L_areVoices_179 : decode method_7_code 179 = .ok (.iaload, 1) := by decide +kernel
theorem d_L_areVoices_180 : decode method_7_code 180 = .ok (.if_icmp .eq 5, 3) := by decide +kernel
theorem d_L_areVoices_183 : decode method_7_code 183 = .ok (.iconst 0, 1) := by decide +kernel
theorem d_L_areVoices_184 : decode method_7_code 184 = .ok (.ireturn, 1) := by decide +kernel
theorem d_L_areVoices_185 : decode method_7_code 185 = .ok (.iinc 5 1, 3) := by decide +kernel
theorem d_L_areVoices_188 : decode method_7_code 188 = .ok (.goto (-174), 3) := by decide +kernel
theorem d_L_areVoices_191 : decode method_7_code 191 = .ok (.iconst 0, 1) := by decide +kernel
theorem d_L_areVoices_192 : decode method_7_code 192 = .ok (.istore 5, 2) := by decide +kernel
theorem d_L_areVoices_194 : decode method_7_code 194 = .ok (.iload 5, 2) := by decide +kernel
theorem d_L_areVoices_196 : decode method_7_code 196 = .ok (.aload_n 0, 1) := by decide +kernel
theorem d_L_areVoices_197 : decode method_7_code 197 = .ok (.iconst 1, 1) := by decide +kernel
theorem d_L_areVoices_198 : decode method_7_code 198 = .ok (.invokevirtual 28, 3) := by decide +kernel
theorem d_L_areVoices_201 : decode method_7_code 201 = .ok (.if_icmp .ge 28, 3) := by decide +kernel
theorem d_L_areVoices_204 : decode method_7_code 204 = .ok (.aload_n 0, 1) := by decide +kernel
theorem d_L_areVoices_205 : decode method_7_code 205 = .ok (.iload 5, 2) := by decide +kernel
theorem d_L_areVoices_207 : decode method_7_code 207 = .ok (.iload_n 1, 1) := by decide +kernel
theorem d_L_areVoices_208 : decode method_7_code 208 = .ok (.bipush 6, 2) := by decide +kernel
theorem d_L_areVoices_210 : decode method_7_code 210 = .ok (.invokevirtual 8, 3) := by decide +kernel
theorem d_L_areVoices_213 : decode method_7_code 213 = .ok (.aload 4, 2) := by decide +kernel
theorem d_L_areVoices_215 : decode method_7_code 215 = .ok (.iload 5, 2) := by decide +kernel
theorem d_L_areVoices_217 : decode method_7_code 217 = .ok (.iaload, 1) := by decide +kernel
theorem d_L_areVoices_218 : decode method_7_code 218 = .ok (.if_icmp .eq 5, 3) := by decide +kernel
theorem d_L_areVoices_221 : decode method_7_code 221 = .ok (.iconst 0, 1) := by decide +kernel
theorem d_L_areVoices_222 : decode method_7_code 222 = .ok (.ireturn, 1) := by decide +kernel
theorem d_L_areVoices_223 : decode method_7_code 223 = .ok (.iinc 5 1, 3) := by decide +kernel
theorem d_L_areVoices_226 : decode method_7_code 226 = .ok (.goto (-32), 3) := by decide +kernel
theorem d_L_areVoices_229 : decode method_7_code 229 = .ok (.iconst 1, 1) := by decide +kernel
theorem d_L_areVoices_230 : decode method_7_code 230 = .ok (.ireturn, 1) := by decide +kernel
theorem d_L_sums_0 : decode method_8_code 0 = .ok (.iconst 0, 1) := by decide +kernel
theorem d_L_sums_1 : decode method_8_code 1 = .ok (.istore 4, 2) := by decide +kernel
theorem d_L_sums_3 : decode method_8_code 3 = .ok (.iload 4, 2) := by decide +kernel
theorem d_L_sums_5 : decode method_8_code 5 = .ok (.aload_n 0, 1) := by decide +kernel
theorem d_L_sums_6 : decode method_8_code 6 = .ok (.iconst 1, 1) := by decide +kernel
theorem d_L_sums_7 : decode method_8_code 7 = .ok (.invokevirtual 28, 3) := by decide +kernel
theorem d_L_sums_10 : decode method_8_code 10 = .ok (.if_icmp .ge 171, 3) := by decide +kernel
theorem d_L_sums_13 : decode method_8_code 13 = .ok (.aload_n 0, 1) := by decide +kernel
theorem d_L_sums_14 : decode method_8_code 14 = .ok (.iload 4, 2) := by decide +kernel
theorem d_L_sums_16 : decode method_8_code 16 = .ok (.iload_n 1, 1) := by decide +kernel
theorem d_L_sums_17 : decode method_8_code 17 = .ok (.iconst 1, 1) := by decide +kernel
theorem d_L_sums_18 : decode method_8_code 18 = .ok (.invokevirtual 8, 3) := by decide +kernel
theorem d_L_sums_21 : decode method_8_code 21 = .ok (.istore 5, 2) := by decide +kernel
theorem d_L_sums_23 : decode method_8_code 23 = .ok (.aload_n 0, 1) := by decide +kernel
theorem d_L_sums_24 : decode method_8_code 24 = .ok (.iload 4, 2) := by decide +kernel
theorem d_L_sums_26 : decode method_8_code 26 = .ok (.iload_n 1, 1) := by decide +kernel
theorem d_L_sums_27 : decode method_8_code 27 = .ok (.iconst 5, 1) := by decide +kernel
theorem d_L_sums_28 : decode method_8_code 28 = .ok (.invokevirtual 8, 3) := by decide +kernel
theorem d_L_sums_31 : decode method_8_code 31 = .ok (.iconst 1, 1) := by decide +kernel
theorem d_L_sums_32 : decode method_8_code 32 = .ok (.if_icmp .ne 9, 3) := by decide +kernel
theorem d_L_sums_35 : decode method_8_code 35 = .ok (.iconst 5, 1) := by decide +kernel
theorem d_L_sums_36 : decode method_8_code 36 = .ok (.istore 6, 2) := by decide +kernel
theorem d_L_sums_38 : decode method_8_code 38 = .ok (.goto 98, 3) := by decide +kernel
theorem d_L_sums_41 : decode method_8_code 41 = .ok (.iload 5, 2) := by decide +kernel
theorem d_L_sums_43 : decode method_8_code 43 = .ok (.ifCond .lt 10, 3) := by decide +kernel
theorem d_L_sums_46 : decode method_8_code 46 = .ok (.iload 5, 2) := by decide +kernel
theorem d_L_sums_48 : decode method_8_code 48 = .ok (.istore 6, 2) := by decide +kernel
theorem d_L_sums_50 : decode method_8_code 50 = .ok (.goto 86, 3) := by decide +kernel
theorem d_L_sums_53 : decode method_8_code 53 = .ok (.aload_n 0, 1) := by decide +kernel
theorem d_L_sums_54 : decode method_8_code 54 = .ok (.iload 4, 2) := by decide +kernel
theorem d_L_sums_56 : decode method_8_code 56 = .ok (.iconst 2, 1) := by decide +kernel
theorem d_L_sums_57 : decode method_8_code 57 = .ok (.invokevirtual 14, 3) := by decide +kernel
theorem d_L_sums_60 : decode method_8_code 60 = .ok (.iconst 1, 1) := by decide +kernel
theorem d_L_sums_61 : decode method_8_code 61 = .ok (.if_icmp .ne 9, 3) := by decide +kernel
theorem d_L_sums_64 : decode method_8_code 64 = .ok (.iconst 3, 1) := by decide +kernel
theorem d_L_sums_65 : decode method_8_code 65 = .ok (.istore 6, 2) := by decide +kernel
theorem d_L_sums_67 : decode method_8_code 67 = .ok (.goto 69, 3) := by decide +kernel
theorem d_L_sums_70 : decode method_8_code 70 = .ok (.aload_n 2, 1) := by decide +kernel
theorem d_L_sums_71 : decode method_8_code 71 = .ok (.iload 4, 2) := by decide +kernel
theorem d_L_sums_73 : decode method_8_code 73 = .ok (.iaload, 1) := by decide +kernel
theorem d_L_sums_74 : decode method_8_code 74 = .ok (.ifCond .ge 9, 3) := by decide +kernel
theorem d_L_sums_77 : decode method_8_code 77 = .ok (.iconst 4, 1) := by decide +kernel
theorem d_L_sums_78 : decode method_8_code 78 = .ok (.istore 6, 2) := by decide +kernel
theorem d_L_sums_80 : decode method_8_code 80 = .ok (.goto 56, 3) := by decide +kernel
theorem d_L_sums_83 : decode method_8_code 83 = .ok (.aload_n 0, 1) := by decide +kernel
theorem d_L_sums_84 : decode method_8_code 84 = .ok (.iload 4, 2) := by decide +kernel
theorem d_L_sums_86 : decode method_8_code 86 = .ok (.iload_n 1, 1) := by decide +kernel
theorem d_L_sums_87 : decode method_8_code 87 = .ok (.iconst 2, 1) := by decide +kernel
theorem d_L_sums_88 : decode method_8_code 88 = .ok (.invokevirtual 8, 3) := by decide +kernel
theorem d_L_sums_91 : decode method_8_code 91 = .ok (.ifCond .lt 16, 3) := by decide +kernel
theorem d_L_sums_94 : decode method_8_code 94 = .ok (.aload_n 0, 1) := by decide +kernel
theorem d_L_sums_95 : decode method_8_code 95 = .ok (.iload 4, 2) := by decide +kernel
theorem d_L_sums_97 : decode method_8_code 97 = .ok (.iload_n 1, 1) := by decide +kernel
theorem d_L_sums_98 : decode method_8_code 98 = .ok (.iconst 2, 1) := by decide +kernel
theorem d_L_sums_99 : decode method_8_code 99 = .ok (.invokevirtual 8, 3) := by decide +kernel
theorem d_L_sums_102 : decode method_8_code 102 = .ok (.istore 6, 2) := by decide +kernel
theorem d_L_sums_104 : decode method_8_code 104 = .ok (.goto 32, 3) := by decide +kernel
theorem d_L_sums_107 : decode method_8_code 107 = .ok (.aload_n 0, 1) := by decide +kernel
theorem d_L_sums_108 : decode method_8_code 108 = .ok (.aload_n 2, 1) := by decide +kernel
theorem d_L_sums_109 : decode method_8_code 109 = .ok (.iload 4, 2) := by decide +kernel
theorem d_L_sums_111 : decode method_8_code 111 = .ok (.iaload, 1) := by decide +kernel
theorem d_L_sums_112 : decode method_8_code 112 = .ok (.iload_n 1, 1) := by decide +kernel
theorem d_L_sums_113 : decode method_8_code 113 = .ok (.iconst 1, 1) := by decide +kernel
theorem d_L_sums_114 : decode method_8_code 114 = .ok (.invokevirtual 8, 3) := by decide +kernel
theorem d_L_sums_117 : decode method_8_code 117 = .ok (.ifCond .ge 7, 3) := by decide +kernel
theorem d_L_sums_120 : decode method_8_code 120 = .ok (.iconst 3, 1) := by decide +kernel
theorem d_L_sums_121 : decode method_8_code 121 = .ok (.goto 13, 3) := by decide +kernel
theorem d_L_sums_124 : decode method_8_code 124 = .ok (.aload_n 0, 1) := by decide +kernel
theorem d_L_sums_125 : decode method_8_code 125 = .ok (.aload_n 2, 1) := by decide +kernel
theorem d_L_sums_126 : decode method_8_code 126 = .ok (.iload 4, 2) := by decide +kernel
theorem d_L_sums_128 : decode method_8_code 128 = .ok (.iaload, 1) := by decide +kernel
theorem d_L_sums_129 : decode method_8_code 129 = .ok (.iload_n 1, 1) := by decide +kernel
theorem d_L_sums_130 : decode method_8_code 130 = .ok (.iconst 1, 1) := by decide +kernel
theorem d_L_sums_131 : decode method_8_code 131 = .ok (.invokevirtual 8, 3) := by decide +kernel
theorem d_L_sums_134 : decode method_8_code 134 = .ok (.istore 6, 2) := by decide +kernel
theorem d_L_sums_136 : decode method_8_code 136 = .ok (.aload_n 3, 1) := by decide +kernel
theorem d_L_sums_137 : decode method_8_code 137 = .ok (.iload 6, 2) := by decide +kernel
theorem d_L_sums_139 : decode method_8_code 139 = .ok (.dup2, 1) := by decide +kernel
theorem d_L_sums_140 : decode method_8_code 140 = .ok (.iaload, 1) := by decide +kernel
theorem d_L_sums_141 : decode method_8_code 141 = .ok (.aload_n 0, 1) := by decide +kernel
theorem d_L_sums_142 : decode method_8_code 142 = .ok (.iload 4, 2) := by decide +kernel
theorem d_L_sums_144 : decode method_8_code 144 = .ok (.iconst 0, 1) := by decide +kernel
theorem d_L_sums_145 : decode method_8_code 145 = .ok (.invokevirtual 14, 3) := by decide +kernel
theorem d_L_sums_148 : decode method_8_code 148 = .ok (.iadd, 1) := by decide +kernel
theorem d_L_sums_149 : decode method_8_code 149 = .ok (.iastore, 1) := by decide +kernel
theorem d_L_sums_150 : decode method_8_code 150 = .ok (.aload_n 3, 1) := by decide +kernel
theorem d_L_sums_151 : decode method_8_code 151 = .ok (.iconst 0, 1) := by decide +kernel
theorem d_L_sums_152 : decode method_8_code 152 = .ok (.dup2, 1) := by decide +kernel
theorem d_L_sums_153 : decode method_8_code 153 = .ok (.iaload, 1) := by decide +kernel
theorem d_L_sums_154 : decode method_8_code 154 = .ok (.aload_n 0, 1) := by decide +kernel
theorem d_L_sums_155 : decode method_8_code 155 = .ok (.iload 4, 2) := by decide +kernel
theorem d_L_sums_157 : decode method_8_code 157 = .ok (.iload_n 1, 1) := by decide +kernel
theorem d_L_sums_158 : decode method_8_code 158 = .ok (.iconst 3, 1) := by decide +kernel
theorem d_L_sums_159 : decode method_8_code 159 = .ok (.invokevirtual 8, 3) := by decide +kernel
theorem d_L_sums_162 : decode method_8_code 162 = .ok (.iload 6, 2) := by decide +kernel
theorem d_L_sums_164 : decode method_8_code 164 = .ok (.if_icmp .ne 7, 3) := by decide +kernel
theorem d_L_sums_167 : decode method_8_code 167 = .ok (.iconst 0, 1) := by decide +kernel
theorem d_L_sums_168 : decode method_8_code 168 = .ok (.goto 5, 3) := by decide +kernel
theorem d_L_sums_171 : decode method_8_code 171 = .ok (.ldc 38, 2) := by decide +kernel
theorem d_L_sums_173 : decode method_8_code 173 = .ok (.isub, 1) := by decide +kernel
theorem d_L_sums_174 : decode method_8_code 174 = .ok (.iastore, 1) := by decide +kernel
theorem d_L_sums_175 : decode method_8_code 175 = .ok (.iinc 4 1, 3) := by decide +kernel
theorem d_L_sums_178 : decode method_8_code 178 = .ok (.goto (-175), 3) := by decide +kernel
theorem d_L_sums_181 : decode method_8_code 181 = .ok (.return_, 1) := by decide +kernel
theorem d_L_there_0 : decode method_10_code 0 = .ok (.iconst 0, 1) := by decide +kernel
theorem d_L_there_1 : decode method_10_code 1 = .ok (.istore_n 2, 1) := by decide +kernel
theorem d_L_there_2 : decode method_10_code 2 = .ok (.iconst 0, 1) := by decide +kernel
theorem d_L_there_3 : decode method_10_code 3 = .ok (.istore_n 3, 1) := by decide +kernel
theorem d_L_there_4 : decode method_10_code 4 = .ok (.iload_n 3, 1) := by decide +kernel
theorem d_L_there_5 : decode method_10_code 5 = .ok (.aload_n 0, 1) := by decide +kernel
theorem d_L_there_6 : decode method_10_code 6 = .ok (.iconst 1, 1) := by decide +kernel
theorem d_L_there_7 : decode method_10_code 7 = .ok (.invokevirtual 28, 3) := by decide +kernel
theorem d_L_there_10 : decode method_10_code 10 = .ok (.if_icmp .ge 38, 3) := by decide +kernel
theorem d_L_there_13 : decode method_10_code 13 = .ok (.iload_n 2, 1) := by decide +kernel
theorem d_L_there_14 : decode method_10_code 14 = .ok (.aload_n 0, 1) := by decide +kernel
theorem d_L_there_15 : decode method_10_code 15 = .ok (.iload_n 3, 1) := by decide +kernel
theorem d_L_there_16 : decode method_10_code 16 = .ok (.iconst 2, 1) := by decide +kernel
theorem d_L_there_17 : decode method_10_code 17 = .ok (.invokevirtual 14, 3) := by decide +kernel
theorem d_L_there_20 : decode method_10_code 20 = .ok (.iconst 1, 1) := by decide +kernel
theorem d_L_there_21 : decode method_10_code 21 = .ok (.if_icmp .eq 9, 3) := by decide +kernel
theorem d_L_there_24 : decode method_10_code 24 = .ok (.aload_n 1, 1) := by decide +kernel
theorem d_L_there_25 : decode method_10_code 25 = .ok (.iload_n 3, 1) := by decide +kernel
theorem d_L_there_26 : decode method_10_code 26 = .ok (.iaload, 1) := by decide +kernel
theorem d_L_there_27 : decode method_10_code 27 = .ok (.ifCond .lt 12, 3) := by decide +kernel
theorem d_L_there_30 : decode method_10_code 30 = .ok (.aload_n 0, 1) := by decide +kernel
theorem d_L_there_31 : decode method_10_code 31 = .ok (.iload_n 3, 1) := by decide +kernel
theorem d_L_there_32 : decode method_10_code 32 = .ok (.iconst 0, 1) := by decide +kernel
theorem d_L_there_33 : decode method_10_code 33 = .ok (.invokevirtual 14, 3) := by decide +kernel
theorem d_L_there_36 : decode method_10_code 36 = .ok (.goto 4, 3) := by decide +kernel
theorem d_L_there_39 : decode method_10_code 39 = .ok (.iconst 0, 1) := by decide +kernel
theorem d_L_there_40 : decode method_10_code 40 = .ok (.iadd, 1) := by decide +kernel
theorem d_L_there_41 : decode method_10_code 41 = .ok (.istore_n 2, 1) := by decide +kernel
theorem d_L_there_42 : decode method_10_code 42 = .ok (.iinc 3 1, 3) := by decide +kernel
theorem d_L_there_45 : decode method_10_code 45 = .ok (.goto (-41), 3) := by decide +kernel
theorem d_L_there_48 : decode method_10_code 48 = .ok (.iload_n 2, 1) := by decide +kernel
theorem d_L_there_49 : decode method_10_code 49 = .ok (.ireturn, 1) := by decide +kernel
theorem d_L_isQuorum_0 : decode method_11_code 0 = .ok (.bipush 100, 2) := by decide +kernel
theorem d_L_isQuorum_2 : decode method_11_code 2 = .ok (.iload_n 1, 1) := by decide +kernel
theorem d_L_isQuorum_3 : decode method_11_code 3 = .ok (.imul, 1) := by decide +kernel
theorem d_L_isQuorum_4 : decode method_11_code 4 = .ok (.aload_n 0, 1) := by decide +kernel
theorem d_L_isQuorum_5 : decode method_11_code 5 = .ok (.bipush 7, 2) := by decide +kernel
theorem d_L_isQuorum_7 : decode method_11_code 7 = .ok (.invokevirtual 28, 3) := by decide +kernel
theorem d_L_isQuorum_10 : decode method_11_code 10 = .ok (.aload_n 0, 1) := by decide +kernel
theorem d_L_isQuorum_11 : decode method_11_code 11 = .ok (.aload_n 0, 1) := by decide +kernel
theorem d_L_isQuorum_12 : decode method_11_code 12 = .ok (.iconst 0, 1) := by decide +kernel
theorem d_L_isQuorum_13 : decode method_11_code 13 = .ok (.invokevirtual 28, 3) := by decide +kernel
theorem d_L_isQuorum_16 : decode method_11_code 16 = .ok (.aload_n 0, 1) := by decide +kernel
theorem d_L_isQuorum_17 : decode method_11_code 17 = .ok (.bipush 18, 2) := by decide +kernel
theorem d_L_isQuorum_19 : decode method_11_code 19 = .ok (.invokevirtual 28, 3) := by decide +kernel
theorem d_L_isQuorum_22 : decode method_11_code 22 = .ok (.if_icmp .lt 8, 3) := by decide +kernel
theorem d_L_isQuorum_25 : decode method_11_code 25 = .ok (.bipush 17, 2) := by decide +kernel
theorem d_L_isQuorum_27 : decode method_11_code 27 = .ok (.goto 5, 3) := by decide +kernel
theorem d_L_isQuorum_30 : decode method_11_code 30 = .ok (.bipush 16, 2) := by decide +kernel
theorem d_L_isQuorum_32 : decode method_11_code 32 = .ok (.invokevirtual 28, 3) := by decide +kernel
theorem d_L_isQuorum_35 : decode method_11_code 35 = .ok (.imul, 1) := by decide +kernel
theorem d_L_isQuorum_36 : decode method_11_code 36 = .ok (.if_icmp .lt 7, 3) := by decide +kernel
theorem d_L_isQuorum_39 : decode method_11_code 39 = .ok (.iconst 1, 1) := by decide +kernel
theorem d_L_isQuorum_40 : decode method_11_code 40 = .ok (.goto 4, 3) := by decide +kernel
theorem d_L_isQuorum_43 : decode method_11_code 43 = .ok (.iconst 0, 1) := by decide +kernel
theorem d_L_isQuorum_44 : decode method_11_code 44 = .ok (.ireturn, 1) := by decide +kernel
theorem d_L_outcome_0 : decode method_9_code 0 = .ok (.aload_n 2, 1) := by decide +kernel
theorem d_L_outcome_1 : decode method_9_code 1 = .ok (.iconst 1, 1) := by decide +kernel
theorem d_L_outcome_2 : decode method_9_code 2 = .ok (.iaload, 1) := by decide +kernel
theorem d_L_outcome_3 : decode method_9_code 3 = .ok (.istore_n 3, 1) := by decide +kernel
theorem d_L_outcome_4 : decode method_9_code 4 = .ok (.aload_n 2, 1) := by decide +kernel
theorem d_L_outcome_5 : decode method_9_code 5 = .ok (.iconst 2, 1) := by decide +kernel
theorem d_L_outcome_6 : decode method_9_code 6 = .ok (.iaload, 1) := by decide +kernel
theorem d_L_outcome_7 : decode method_9_code 7 = .ok (.istore 4, 2) := by decide +kernel
theorem d_L_outcome_9 : decode method_9_code 9 = .ok (.aload_n 0, 1) := by decide +kernel
theorem d_L_outcome_10 : decode method_9_code 10 = .ok (.iload_n 1, 1) := by decide +kernel
theorem d_L_outcome_11 : decode method_9_code 11 = .ok (.iconst 0, 1) := by decide +kernel
theorem d_L_outcome_12 : decode method_9_code 12 = .ok (.invokevirtual 32, 3) := by decide +kernel
theorem d_L_outcome_15 : decode method_9_code 15 = .ok (.istore 5, 2) := by decide +kernel
theorem d_L_outcome_17 : decode method_9_code 17 = .ok (.iload 5, 2) := by decide +kernel
theorem d_L_outcome_19 : decode method_9_code 19 = .ok (.ifCond .ne 34, 3) := by decide +kernel
theorem d_L_outcome_22 : decode method_9_code 22 = .ok (.iload_n 3, 1) := by decide +kernel
theorem d_L_outcome_23 : decode method_9_code 23 = .ok (.iload 4, 2) := by decide +kernel
theorem d_L_outcome_25 : decode method_9_code 25 = .ok (.if_icmp .le 7, 3) := by decide +kernel
theorem d_L_outcome_28 : decode method_9_code 28 = .ok (.iconst 3, 1) := by decide +kernel
theorem d_L_outcome_29 : decode method_9_code 29 = .ok (.goto 23, 3) := by decide +kernel
theorem d_L_outcome_32 : decode method_9_code 32 = .ok (.iload_n 3, 1) := by decide +kernel
theorem d_L_outcome_33 : decode method_9_code 33 = .ok (.iload 4, 2) := by decide +kernel
theorem d_L_outcome_35 : decode method_9_code 35 = .ok (.if_icmp .lt 12, 3) := by decide +kernel
theorem d_L_outcome_38 : decode method_9_code 38 = .ok (.aload_n 0, 1) := by decide +kernel
theorem d_L_outcome_39 : decode method_9_code 39 = .ok (.bipush 21, 2) := by decide +kernel
theorem d_L_outcome_41 : decode method_9_code 41 = .ok (.invokevirtual 28, 3) := by decide +kernel
theorem d_L_outcome_44 : decode method_9_code 44 = .ok (.ifCond .ne 7, 3) := by decide +kernel
theorem d_L_outcome_47 : decode method_9_code 47 = .ok (.iconst 4, 1) := by decide +kernel
theorem d_L_outcome_48 : decode method_9_code 48 = .ok (.goto 4, 3) := by decide +kernel
theorem d_L_outcome_51 : decode method_9_code 51 = .ok (.iconst 2, 1) := by decide +kernel
theorem d_L_outcome_52 : decode method_9_code 52 = .ok (.ireturn, 1) := by decide +kernel
theorem d_L_outcome_53 : decode method_9_code 53 = .ok (.iload_n 3, 1) := by decide +kernel
theorem d_L_outcome_54 : decode method_9_code 54 = .ok (.ifCond .ne 5, 3) := by decide +kernel
theorem d_L_outcome_57 : decode method_9_code 57 = .ok (.iconst 4, 1) := by decide +kernel
theorem d_L_outcome_58 : decode method_9_code 58 = .ok (.ireturn, 1) := by decide +kernel
theorem d_L_outcome_59 : decode method_9_code 59 = .ok (.iload 5, 2) := by decide +kernel
theorem d_L_outcome_61 : decode method_9_code 61 = .ok (.iconst 1, 1) := by decide +kernel
theorem d_L_outcome_62 : decode method_9_code 62 = .ok (.if_icmp .ne 19, 3) := by decide +kernel
theorem d_L_outcome_65 : decode method_9_code 65 = .ok (.iload_n 3, 1) := by decide +kernel
theorem d_L_outcome_66 : decode method_9_code 66 = .ok (.iconst 2, 1) := by decide +kernel
theorem d_L_outcome_67 : decode method_9_code 67 = .ok (.iload 4, 2) := by decide +kernel
theorem d_L_outcome_69 : decode method_9_code 69 = .ok (.imul, 1) := by decide +kernel
theorem d_L_outcome_70 : decode method_9_code 70 = .ok (.if_icmp .lt 7, 3) := by decide +kernel
theorem d_L_outcome_73 : decode method_9_code 73 = .ok (.iconst 3, 1) := by decide +kernel
theorem d_L_outcome_74 : decode method_9_code 74 = .ok (.goto 21, 3) := by decide +kernel
theorem d_L_outcome_77 : decode method_9_code 77 = .ok (.iconst 4, 1) := by decide +kernel
theorem d_L_outcome_78 : decode method_9_code 78 = .ok (.goto 17, 3) := by decide +kernel
theorem d_L_outcome_81 : decode method_9_code 81 = .ok (.aload_n 2, 1) := by decide +kernel
theorem d_L_outcome_82 : decode method_9_code 82 = .ok (.iconst 0, 1) := by decide +kernel
theorem d_L_outcome_83 : decode method_9_code 83 = .ok (.iaload, 1) := by decide +kernel
theorem d_L_outcome_84 : decode method_9_code 84 = .ok (.iload 4, 2) := by decide +kernel
theorem d_L_outcome_86 : decode method_9_code 86 = .ok (.iadd, 1) := by decide +kernel
theorem d_L_outcome_87 : decode method_9_code 87 = .ok (.ifCond .ne 7, 3) := by decide +kernel
theorem d_L_outcome_90 : decode method_9_code 90 = .ok (.iconst 3, 1) := by decide +kernel
theorem d_L_outcome_91 : decode method_9_code 91 = .ok (.goto 4, 3) := by decide +kernel
theorem d_L_outcome_94 : decode method_9_code 94 = .ok (.iconst 4, 1) := by decide +kernel
theorem d_L_outcome_95 : decode method_9_code 95 = .ok (.ireturn, 1) := by decide +kernel
theorem d_L_isItem_0 : decode method_12_code 0 = .ok (.bipush 12, 2) := by decide +kernel
theorem d_L_isItem_2 : decode method_12_code 2 = .ok (.newarray .int, 2) := by decide +kernel
theorem d_L_isItem_4 : decode method_12_code 4 = .ok (.astore_n 2, 1) := by decide +kernel
theorem d_L_isItem_5 : decode method_12_code 5 = .ok (.bipush 6, 2) := by decide +kernel
theorem d_L_isItem_7 : decode method_12_code 7 = .ok (.newarray .int, 2) := by decide +kernel
theorem d_L_isItem_9 : decode method_12_code 9 = .ok (.astore_n 3, 1) := by decide +kernel
theorem d_L_isItem_10 : decode method_12_code 10 = .ok (.aload_n 0, 1) := by decide +kernel
theorem d_L_isItem_11 : decode method_12_code 11 = .ok (.iload_n 1, 1) := by decide +kernel
theorem d_L_isItem_12 : decode method_12_code 12 = .ok (.aload_n 2, 1) := by decide +kernel
theorem d_L_isItem_13 : decode method_12_code 13 = .ok (.invokestatic 39, 3) := by decide +kernel
theorem d_L_isItem_16 : decode method_12_code 16 = .ok (.ifCond .ne 5, 3) := by decide +kernel
theorem d_L_isItem_19 : decode method_12_code 19 = .ok (.iconst 0, 1) := by decide +kernel
theorem d_L_isItem_20 : decode method_12_code 20 = .ok (.ireturn, 1) := by decide +kernel
theorem d_L_isItem_21 : decode method_12_code 21 = .ok (.aload_n 0, 1) := by decide +kernel
theorem d_L_isItem_22 : decode method_12_code 22 = .ok (.iload_n 1, 1) := by decide +kernel
theorem d_L_isItem_23 : decode method_12_code 23 = .ok (.aload_n 2, 1) := by decide +kernel
theorem d_L_isItem_24 : decode method_12_code 24 = .ok (.aload_n 3, 1) := by decide +kernel
theorem d_L_isItem_25 : decode method_12_code 25 = .ok (.invokestatic 43, 3) := by decide +kernel
theorem d_L_isItem_28 : decode method_12_code 28 = .ok (.iconst 0, 1) := by decide +kernel
theorem d_L_isItem_29 : decode method_12_code 29 = .ok (.istore 4, 2) := by decide +kernel
theorem d_L_isItem_31 : decode method_12_code 31 = .ok (.iconst 0, 1) := by decide +kernel
theorem d_L_isItem_32 : decode method_12_code 32 = .ok (.istore 5, 2) := by decide +kernel
theorem d_L_isItem_34 : decode method_12_code 34 = .ok (.iload 5, 2) := by decide +kernel
theorem d_L_isItem_36 : decode method_12_code 36 = .ok (.bipush 6, 2) := by decide +kernel
theorem d_L_isItem_38 : decode method_12_code 38 = .ok (.if_icmp .ge 46, 3) := by decide +kernel
theorem d_L_isItem_41 : decode method_12_code 41 = .ok (.iload 4, 2) := by decide +kernel
theorem d_L_isItem_43 : decode method_12_code 43 = .ok (.aload_n 3, 1) := by decide +kernel
theorem d_L_isItem_44 : decode method_12_code 44 = .ok (.iload 5, 2) := by decide +kernel
theorem d_L_isItem_46 : decode method_12_code 46 = .ok (.iaload, 1) := by decide +kernel
theorem d_L_isItem_47 : decode method_12_code 47 = .ok (.iadd, 1) := by decide +kernel
theorem d_L_isItem_48 : decode method_12_code 48 = .ok (.istore 4, 2) := by decide +kernel
theorem d_L_isItem_50 : decode method_12_code 50 = .ok (.aload_n 0, 1) := by decide +kernel
theorem d_L_isItem_51 : decode method_12_code 51 = .ok (.iload_n 1, 1) := by decide +kernel
theorem d_L_isItem_52 : decode method_12_code 52 = .ok (.iconst 2, 1) := by decide +kernel
theorem d_L_isItem_53 : decode method_12_code 53 = .ok (.invokevirtual 32, 3) := by decide +kernel
theorem d_L_isItem_56 : decode method_12_code 56 = .ok (.iconst 2, 1) := by decide +kernel
theorem d_L_isItem_57 : decode method_12_code 57 = .ok (.if_icmp .ge 21, 3) := by decide +kernel
theorem d_L_isItem_60 : decode method_12_code 60 = .ok (.aload_n 0, 1) := by decide +kernel
theorem d_L_isItem_61 : decode method_12_code 61 = .ok (.iload_n 1, 1) := by decide +kernel
theorem d_L_isItem_62 : decode method_12_code 62 = .ok (.iconst 3, 1) := by decide +kernel
theorem d_L_isItem_63 : decode method_12_code 63 = .ok (.iload 5, 2) := by decide +kernel
theorem d_L_isItem_65 : decode method_12_code 65 = .ok (.iadd, 1) := by decide +kernel
theorem d_L_isItem_66 : decode method_12_code 66 = .ok (.invokevirtual 32, 3) := by decide +kernel
theorem d_L_isItem_69 : decode method_12_code 69 = .ok (.aload_n 3, 1) := by decide +kernel
theorem d_L_isItem_70 : decode method_12_code 70 = .ok (.iload 5, 2) := by decide +kernel
theorem d_L_isItem_72 : decode method_12_code 72 = .ok (.iaload, 1) := by decide +kernel
theorem d_L_isItem_73 : decode method_12_code 73 = .ok (.if_icmp .eq 5, 3) := by decide +kernel
theorem d_L_isItem_76 : decode method_12_code 76 = .ok (.iconst 0, 1) := by decide +kernel
theorem d_L_isItem_77 : decode method_12_code 77 = .ok (.ireturn, 1) := by decide +kernel
theorem d_L_isItem_78 : decode method_12_code 78 = .ok (.iinc 5 1, 3) := by decide +kernel
theorem d_L_isItem_81 : decode method_12_code 81 = .ok (.goto (-47), 3) := by decide +kernel
theorem d_L_isItem_84 : decode method_12_code 84 = .ok (.iload 4, 2) := by decide +kernel
theorem d_L_isItem_86 : decode method_12_code 86 = .ok (.aload_n 0, 1) := by decide +kernel
theorem d_L_isItem_87 : decode method_12_code 87 = .ok (.bipush 7, 2) := by decide +kernel
theorem d_L_isItem_89 : decode method_12_code 89 = .ok (.invokevirtual 28, 3) := by decide +kernel
theorem d_L_isItem_92 : decode method_12_code 92 = .ok (.if_icmp .ne 30, 3) := by decide +kernel
theorem d_L_isItem_95 : decode method_12_code 95 = .ok (.aload_n 0, 1) := by decide +kernel
theorem d_L_isItem_96 : decode method_12_code 96 = .ok (.iload_n 1, 1) := by decide +kernel
theorem d_L_isItem_97 : decode method_12_code 97 = .ok (.bipush 11, 2) := by decide +kernel
theorem d_L_isItem_99 : decode method_12_code 99 = .ok (.invokevirtual 32, 3) := by decide +kernel
theorem d_L_isItem_102 : decode method_12_code 102 = .ok (.aload_n 0, 1) := by decide +kernel
theorem d_L_isItem_103 : decode method_12_code 103 = .ok (.aload_n 0, 1) := by decide +kernel
theorem d_L_isItem_104 : decode method_12_code 104 = .ok (.aload_n 2, 1) := by decide +kernel
theorem d_L_isItem_105 : decode method_12_code 105 = .ok (.invokestatic 47, 3) := by decide +kernel
theorem d_L_isItem_108 : decode method_12_code 108 = .ok (.invokestatic 51, 3) := by decide +kernel
theorem d_L_isItem_111 : decode method_12_code 111 = .ok (.ifCond .eq 7, 3) := by decide +kernel
theorem d_L_isItem_114 : decode method_12_code 114 = .ok (.iconst 1, 1) := by decide +kernel
theorem d_L_isItem_115 : decode method_12_code 115 = .ok (.goto 4, 3) := by decide +kernel
theorem d_L_isItem_118 : decode method_12_code 118 = .ok (.iconst 0, 1) := by decide +kernel
theorem d_L_isItem_119 : decode method_12_code 119 = .ok (.if_icmp .eq 5, 3) := by decide +kernel
theorem d_L_isItem_122 : decode method_12_code 122 = .ok (.iconst 0, 1) := by decide +kernel
theorem d_L_isItem_123 : decode method_12_code 123 = .ok (.ireturn, 1) := by decide +kernel
theorem d_L_isItem_124 : decode method_12_code 124 = .ok (.aload_n 0, 1) := by decide +kernel
theorem d_L_isItem_125 : decode method_12_code 125 = .ok (.iload_n 1, 1) := by decide +kernel
theorem d_L_isItem_126 : decode method_12_code 126 = .ok (.invokevirtual 55, 3) := by decide +kernel
theorem d_L_isItem_129 : decode method_12_code 129 = .ok (.aload_n 0, 1) := by decide +kernel
theorem d_L_isItem_130 : decode method_12_code 130 = .ok (.iload_n 1, 1) := by decide +kernel
theorem d_L_isItem_131 : decode method_12_code 131 = .ok (.iconst 2, 1) := by decide +kernel
theorem d_L_isItem_132 : decode method_12_code 132 = .ok (.invokevirtual 32, 3) := by decide +kernel
theorem d_L_isItem_135 : decode method_12_code 135 = .ok (.iconst 2, 1) := by decide +kernel
theorem d_L_isItem_136 : decode method_12_code 136 = .ok (.if_icmp .ge 12, 3) := by decide +kernel
theorem d_L_isItem_139 : decode method_12_code 139 = .ok (.aload_n 0, 1) := by decide +kernel
theorem d_L_isItem_140 : decode method_12_code 140 = .ok (.iload_n 1, 1) := by decide +kernel
theorem d_L_isItem_141 : decode method_12_code 141 = .ok (.aload_n 3, 1) := by decide +kernel
theorem d_L_isItem_142 : decode method_12_code 142 = .ok (.invokestatic 58, 3) := by decide +kernel
theorem d_L_isItem_145 : decode method_12_code 145 = .ok (.goto 5, 3) := by decide +kernel
theorem d_L_isItem_148 : decode method_12_code 148 = .ok (.bipush (-5), 2) := by decide +kernel
theorem d_L_isItem_150 : decode method_12_code 150 = .ok (.if_icmp .ne 7, 3) := by decide +kernel
theorem d_L_isItem_153 : decode method_12_code 153 = .ok (.iconst 1, 1) := by decide +kernel
theorem d_L_isItem_154 : decode method_12_code 154 = .ok (.goto 4, 3) := by decide +kernel
theorem d_L_isItem_157 : decode method_12_code 157 = .ok (.iconst 0, 1) := by decide +kernel
theorem d_L_isItem_158 : decode method_12_code 158 = .ok (.ireturn, 1) := by decide +kernel
theorem d_L_ones_0 : decode method_4_code 0 = .ok (.iconst 0, 1) := by decide +kernel
theorem d_L_ones_1 : decode method_4_code 1 = .ok (.istore_n 1, 1) := by decide +kernel
theorem d_L_ones_2 : decode method_4_code 2 = .ok (.iconst 0, 1) := by decide +kernel
theorem d_L_ones_3 : decode method_4_code 3 = .ok (.istore_n 2, 1) := by decide +kernel
theorem d_L_ones_4 : decode method_4_code 4 = .ok (.iload_n 2, 1) := by decide +kernel
theorem d_L_ones_5 : decode method_4_code 5 = .ok (.bipush 12, 2) := by decide +kernel
theorem d_L_ones_7 : decode method_4_code 7 = .ok (.if_icmp .ge 17, 3) := by decide +kernel
theorem d_L_ones_10 : decode method_4_code 10 = .ok (.iload_n 1, 1) := by decide +kernel
theorem d_L_ones_11 : decode method_4_code 11 = .ok (.iload_n 0, 1) := by decide +kernel
theorem d_L_ones_12 : decode method_4_code 12 = .ok (.iload_n 2, 1) := by decide +kernel
theorem d_L_ones_13 : decode method_4_code 13 = .ok (.ishr, 1) := by decide +kernel
theorem d_L_ones_14 : decode method_4_code 14 = .ok (.iconst 1, 1) := by decide +kernel
theorem d_L_ones_15 : decode method_4_code 15 = .ok (.iand, 1) := by decide +kernel
theorem d_L_ones_16 : decode method_4_code 16 = .ok (.iadd, 1) := by decide +kernel
theorem d_L_ones_17 : decode method_4_code 17 = .ok (.istore_n 1, 1) := by decide +kernel
theorem d_L_ones_18 : decode method_4_code 18 = .ok (.iinc 2 1, 3) := by decide +kernel
theorem d_L_ones_21 : decode method_4_code 21 = .ok (.goto (-17), 3) := by decide +kernel
theorem d_L_ones_24 : decode method_4_code 24 = .ok (.iload_n 1, 1) := by decide +kernel
theorem d_L_ones_25 : decode method_4_code 25 = .ok (.ireturn, 1) := by decide +kernel
theorem d_L_isTurned_0 : decode method_17_code 0 = .ok (.aload_n 0, 1) := by decide +kernel
theorem d_L_isTurned_1 : decode method_17_code 1 = .ok (.iconst 3, 1) := by decide +kernel
theorem d_L_isTurned_2 : decode method_17_code 2 = .ok (.invokevirtual 28, 3) := by decide +kernel
theorem d_L_isTurned_5 : decode method_17_code 5 = .ok (.istore_n 3, 1) := by decide +kernel
theorem d_L_isTurned_6 : decode method_17_code 6 = .ok (.iload_n 3, 1) := by decide +kernel
theorem d_L_isTurned_7 : decode method_17_code 7 = .ok (.iload_n 1, 1) := by decide +kernel
theorem d_L_isTurned_8 : decode method_17_code 8 = .ok (.invokestatic 24, 3) := by decide +kernel
theorem d_L_isTurned_11 : decode method_17_code 11 = .ok (.iload_n 2, 1) := by decide +kernel
theorem d_L_isTurned_12 : decode method_17_code 12 = .ok (.iconst 1, 1) := by decide +kernel
theorem d_L_isTurned_13 : decode method_17_code 13 = .ok (.if_icmp .ne 7, 3) := by decide +kernel
theorem d_L_isTurned_16 : decode method_17_code 16 = .ok (.iconst 1, 1) := by decide +kernel
theorem d_L_isTurned_17 : decode method_17_code 17 = .ok (.goto 4, 3) := by decide +kernel
theorem d_L_isTurned_20 : decode method_17_code 20 = .ok (.iconst 0, 1) := by decide +kernel
theorem d_L_isTurned_21 : decode method_17_code 21 = .ok (.if_icmp .eq 7, 3) := by decide +kernel
theorem d_L_isTurned_24 : decode method_17_code 24 = .ok (.iconst 1, 1) := by decide +kernel
theorem d_L_isTurned_25 : decode method_17_code 25 = .ok (.goto 4, 3) := by decide +kernel
theorem d_L_isTurned_28 : decode method_17_code 28 = .ok (.iconst 0, 1) := by decide +kernel
theorem d_L_isTurned_29 : decode method_17_code 29 = .ok (.istore 4, 2) := by decide +kernel
theorem d_L_isTurned_31 : decode method_17_code 31 = .ok (.iload 4, 2) := by decide +kernel
theorem d_L_isTurned_33 : decode method_17_code 33 = .ok (.ifCond .eq 11, 3) := by decide +kernel
theorem d_L_isTurned_36 : decode method_17_code 36 = .ok (.iload_n 3, 1) := by decide +kernel
theorem d_L_isTurned_37 : decode method_17_code 37 = .ok (.iconst 1, 1) := by decide +kernel
theorem d_L_isTurned_38 : decode method_17_code 38 = .ok (.iload_n 1, 1) := by decide +kernel
theorem d_L_isTurned_39 : decode method_17_code 39 = .ok (.ishl, 1) := by decide +kernel
theorem d_L_isTurned_40 : decode method_17_code 40 = .ok (.ixor, 1) := by decide +kernel
theorem d_L_isTurned_41 : decode method_17_code 41 = .ok (.goto 4, 3) := by decide +kernel
theorem d_L_isTurned_44 : decode method_17_code 44 = .ok (.iload_n 3, 1) := by decide +kernel
theorem d_L_isTurned_45 : decode method_17_code 45 = .ok (.istore 5, 2) := by decide +kernel
theorem d_L_isTurned_47 : decode method_17_code 47 = .ok (.iload_n 2, 1) := by decide +kernel
theorem d_L_isTurned_48 : decode method_17_code 48 = .ok (.iconst 1, 1) := by decide +kernel
theorem d_L_isTurned_49 : decode method_17_code 49 = .ok (.if_icmp .ne 11, 3) := by decide +kernel
theorem d_L_isTurned_52 : decode method_17_code 52 = .ok (.aload_n 0, 1) := by decide +kernel
theorem d_L_isTurned_53 : decode method_17_code 53 = .ok (.iload_n 1, 1) := by decide +kernel
theorem d_L_isTurned_54 : decode method_17_code 54 = .ok (.invokevirtual 75, 3) := by decide +kernel
theorem d_L_isTurned_57 : decode method_17_code 57 = .ok (.goto 8, 3) := by decide +kernel
theorem d_L_isTurned_60 : decode method_17_code 60 = .ok (.aload_n 0, 1) := by decide +kernel
theorem d_L_isTurned_61 : decode method_17_code 61 = .ok (.iload_n 1, 1) := by decide +kernel
theorem d_L_isTurned_62 : decode method_17_code 62 = .ok (.invokevirtual 78, 3) := by decide +kernel
theorem d_L_isTurned_65 : decode method_17_code 65 = .ok (.istore 6, 2) := by decide +kernel
theorem d_L_isTurned_67 : decode method_17_code 67 = .ok (.iload 5, 2) := by decide +kernel
theorem d_L_isTurned_69 : decode method_17_code 69 = .ok (.aload_n 0, 1) := by decide +kernel
theorem d_L_isTurned_70 : decode method_17_code 70 = .ok (.iconst 5, 1) := by decide +kernel
theorem d_L_isTurned_71 : decode method_17_code 71 = .ok (.invokevirtual 28, 3) := by decide +kernel
theorem d_L_isTurned_74 : decode method_17_code 74 = .ok (.invokestatic 24, 3) := by decide +kernel
theorem d_L_isTurned_77 : decode method_17_code 77 = .ok (.ifCond .eq 11, 3) := by decide +kernel
theorem d_L_isTurned_80 : decode method_17_code 80 = .ok (.aload_n 0, 1) := by decide +kernel
theorem d_L_isTurned_81 : decode method_17_code 81 = .ok (.iconst 5, 1) := by decide +kernel
theorem d_L_isTurned_82 : decode method_17_code 82 = .ok (.invokevirtual 28, 3) := by decide +kernel
theorem d_L_isTurned_85 : decode method_17_code 85 = .ok (.goto 5, 3) := by decide +kernel
theorem d_L_isTurned_88 : decode method_17_code 88 = .ok (.bipush (-6), 2) := by decide +kernel
theorem d_L_isTurned_90 : decode method_17_code 90 = .ok (.istore 7, 2) := by decide +kernel
theorem d_L_isTurned_92 : decode method_17_code 92 = .ok (.bipush 11, 2) := by decide +kernel
theorem d_L_isTurned_94 : decode method_17_code 94 = .ok (.istore 8, 2) := by decide +kernel
theorem d_L_isTurned_96 : decode method_17_code 96 = .ok (.iload 8, 2) := by decide +kernel
theorem d_L_isTurned_98 : decode method_17_code 98 = .ok (.ifCond .lt 41, 3) := by decide +kernel
theorem d_L_isTurned_101 : decode method_17_code 101 = .ok (.iload 5, 2) := by decide +kernel
theorem d_L_isTurned_103 : decode method_17_code 103 = .ok (.aload_n 0, 1) := by decide +kernel
theorem d_L_isTurned_104 : decode method_17_code 104 = .ok (.iconst 5, 1) := by decide +kernel
theorem d_L_isTurned_105 : decode method_17_code 105 = .ok (.invokevirtual 28, 3) := by decide +kernel
theorem d_L_isTurned_108 : decode method_17_code 108 = .ok (.invokestatic 24, 3) := by decide +kernel
theorem d_L_isTurned_111 : decode method_17_code 111 = .ok (.ifCond .ne 28, 3) := by decide +kernel
theorem d_L_isTurned_114 : decode method_17_code 114 = .ok (.iload 5, 2) := by decide +kernel
theorem d_L_isTurned_116 : decode method_17_code 116 = .ok (.iload 8, 2) := by decide +kernel
theorem d_L_isTurned_118 : decode method_17_code 118 = .ok (.invokestatic 24, 3) := by decide +kernel
theorem d_L_isTurned_121 : decode method_17_code 121 = .ok (.ifCond .eq 8, 3) := by decide +kernel
theorem d_L_isTurned_124 : decode method_17_code 124 = .ok (.iload 8, 2) := by decide +kernel
theorem d_L_isTurned_126 : decode method_17_code 126 = .ok (.goto 5, 3) := by decide +kernel
theorem d_L_isTurned_129 : decode method_17_code 129 = .ok (.iload 7, 2) := by decide +kernel
theorem d_L_isTurned_131 : decode method_17_code 131 = .ok (.istore 7, 2) := by decide +kernel
theorem d_L_isTurned_133 : decode method_17_code 133 = .ok (.iinc 8 (-1), 3) := by decide +kernel
theorem d_L_isTurned_136 : decode method_17_code 136 = .ok (.goto (-40), 3) := by decide +kernel
theorem d_L_isTurned_139 : decode method_17_code 139 = .ok (.iload 6, 2) := by decide +kernel
theorem d_L_isTurned_141 : decode method_17_code 141 = .ok (.iload 4, 2) := by decide +kernel
theorem d_L_isTurned_143 : decode method_17_code 143 = .ok (.ifCond .eq 11, 3) := by decide +kernel
theorem d_L_isTurned_146 : decode method_17_code 146 = .ok (.iload 5, 2) := by decide +kernel
theorem d_L_isTurned_148 : decode method_17_code 148 = .ok (.invokestatic 81, 3) := by decide +kernel
theorem d_L_isTurned_151 : decode method_17_code 151 = .ok (.goto 5, 3) := by decide +kernel
theorem d_L_isTurned_154 : decode method_17_code 154 = .ok (.bipush (-5), 2) := by decide +kernel
theorem d_L_isTurned_156 : decode method_17_code 156 = .ok (.if_icmp .ne 28, 3) := by decide +kernel
theorem d_L_isTurned_159 : decode method_17_code 159 = .ok (.aload_n 0, 1) := by decide +kernel
theorem d_L_isTurned_160 : decode method_17_code 160 = .ok (.iconst 3, 1) := by decide +kernel
theorem d_L_isTurned_161 : decode method_17_code 161 = .ok (.invokevirtual 28, 3) := by decide +kernel
theorem d_L_isTurned_164 : decode method_17_code 164 = .ok (.iload 5, 2) := by decide +kernel
theorem d_L_isTurned_166 : decode method_17_code 166 = .ok (.if_icmp .ne 18, 3) := by decide +kernel
theorem d_L_isTurned_169 : decode method_17_code 169 = .ok (.aload_n 0, 1) := by decide +kernel
theorem d_L_isTurned_170 : decode method_17_code 170 = .ok (.bipush 6, 2) := by decide +kernel
theorem d_L_isTurned_172 : decode method_17_code 172 = .ok (.invokevirtual 28, 3) := by decide +kernel
theorem d_L_isTurned_175 : decode method_17_code 175 = .ok (.iload 7, 2) := by decide +kernel
theorem d_L_isTurned_177 : decode method_17_code 177 = .ok (.if_icmp .ne 7, 3) := by decide +kernel
theorem d_L_isTurned_180 : decode method_17_code 180 = .ok (.iconst 1, 1) := by decide +kernel
theorem d_L_isTurned_181 : decode method_17_code 181 = .ok (.goto 4, 3) := by decide +kernel
theorem d_L_isTurned_184 : decode method_17_code 184 = .ok (.iconst 0, 1) := by decide +kernel
theorem d_L_isTurned_185 : decode method_17_code 185 = .ok (.ireturn, 1) := by decide +kernel
theorem d_L_isNamed_0 : decode method_18_code 0 = .ok (.iload_n 2, 1) := by decide +kernel
theorem d_L_isNamed_1 : decode method_18_code 1 = .ok (.ifCond .ge 12, 3) := by decide +kernel
theorem d_L_isNamed_4 : decode method_18_code 4 = .ok (.aload_n 0, 1) := by decide +kernel
theorem d_L_isNamed_5 : decode method_18_code 5 = .ok (.iload_n 1, 1) := by decide +kernel
theorem d_L_isNamed_6 : decode method_18_code 6 = .ok (.iconst 3, 1) := by decide +kernel
theorem d_L_isNamed_7 : decode method_18_code 7 = .ok (.invokevirtual 14, 3) := by decide +kernel
theorem d_L_isNamed_10 : decode method_18_code 10 = .ok (.goto 10, 3) := by decide +kernel
theorem d_L_isNamed_13 : decode method_18_code 13 = .ok (.aload_n 0, 1) := by decide +kernel
theorem d_L_isNamed_14 : decode method_18_code 14 = .ok (.iload_n 1, 1) := by decide +kernel
theorem d_L_isNamed_15 : decode method_18_code 15 = .ok (.iload_n 2, 1) := by decide +kernel
theorem d_L_isNamed_16 : decode method_18_code 16 = .ok (.iconst 4, 1) := by decide +kernel
theorem d_L_isNamed_17 : decode method_18_code 17 = .ok (.invokevirtual 8, 3) := by decide +kernel
theorem d_L_isNamed_20 : decode method_18_code 20 = .ok (.istore 4, 2) := by decide +kernel
theorem d_L_isNamed_22 : decode method_18_code 22 = .ok (.aload_n 0, 1) := by decide +kernel
theorem d_L_isNamed_23 : decode method_18_code 23 = .ok (.iload_n 1, 1) := by decide +kernel
theorem d_L_isNamed_24 : decode method_18_code 24 = .ok (.iload_n 2, 1) := by decide +kernel
theorem d_L_isNamed_25 : decode method_18_code 25 = .ok (.iload_n 3, 1) := by decide +kernel
theorem d_L_isNamed_26 : decode method_18_code 26 = .ok (.invokevirtual 84, 3) := by decide +kernel
theorem d_L_isNamed_29 : decode method_18_code 29 = .ok (.istore 5, 2) := by decide +kernel
theorem d_L_isNamed_31 : decode method_18_code 31 = .ok (.iload_n 3, 1) := by decide +kernel
theorem d_L_isNamed_32 : decode method_18_code 32 = .ok (.iload_n 1, 1) := by decide +kernel
theorem d_L_isNamed_33 : decode method_18_code 33 = .ok (.if_icmp .ne 15, 3) := by decide +kernel
theorem d_L_isNamed_36 : decode method_18_code 36 = .ok (.iload 5, 2) := by decide +kernel
theorem d_L_isNamed_38 : decode method_18_code 38 = .ok (.iconst (-1), 1) := by decide +kernel
theorem d_L_isNamed_39 : decode method_18_code 39 = .ok (.if_icmp .ne 7, 3) := by decide +kernel
theorem d_L_isNamed_42 : decode method_18_code 42 = .ok (.iconst 1, 1) := by decide +kernel
theorem d_L_isNamed_43 : decode method_18_code 43 = .ok (.goto 4, 3) := by decide +kernel
theorem d_L_isNamed_46 : decode method_18_code 46 = .ok (.iconst 0, 1) := by decide +kernel
theorem d_L_isNamed_47 : decode method_18_code 47 = .ok (.ireturn, 1) := by decide +kernel
theorem d_L_isNamed_48 : decode method_18_code 48 = .ok (.iload 5, 2) := by decide +kernel
theorem d_L_isNamed_50 : decode method_18_code 50 = .ok (.iload 4, 2) := by decide +kernel
theorem d_L_isNamed_52 : decode method_18_code 52 = .ok (.if_icmp .ne 31, 3) := by decide +kernel
theorem d_L_isNamed_55 : decode method_18_code 55 = .ok (.iload_n 2, 1) := by decide +kernel
theorem d_L_isNamed_56 : decode method_18_code 56 = .ok (.ifCond .ge 12, 3) := by decide +kernel
theorem d_L_isNamed_59 : decode method_18_code 59 = .ok (.aload_n 0, 1) := by decide +kernel
theorem d_L_isNamed_60 : decode method_18_code 60 = .ok (.iload_n 1, 1) := by decide +kernel
theorem d_L_isNamed_61 : decode method_18_code 61 = .ok (.iconst 3, 1) := by decide +kernel
theorem d_L_isNamed_62 : decode method_18_code 62 = .ok (.invokevirtual 14, 3) := by decide +kernel
theorem d_L_isNamed_65 : decode method_18_code 65 = .ok (.goto 10, 3) := by decide +kernel
theorem d_L_isNamed_68 : decode method_18_code 68 = .ok (.aload_n 0, 1) := by decide +kernel
theorem d_L_isNamed_69 : decode method_18_code 69 = .ok (.iload_n 1, 1) := by decide +kernel
theorem d_L_isNamed_70 : decode method_18_code 70 = .ok (.iload_n 2, 1) := by decide +kernel
theorem d_L_isNamed_71 : decode method_18_code 71 = .ok (.iconst 4, 1) := by decide +kernel
theorem d_L_isNamed_72 : decode method_18_code 72 = .ok (.invokevirtual 8, 3) := by decide +kernel
theorem d_L_isNamed_75 : decode method_18_code 75 = .ok (.iload_n 3, 1) := by decide +kernel
theorem d_L_isNamed_76 : decode method_18_code 76 = .ok (.if_icmp .ne 7, 3) := by decide +kernel
theorem d_L_isNamed_79 : decode method_18_code 79 = .ok (.iconst 1, 1) := by decide +kernel
theorem d_L_isNamed_80 : decode method_18_code 80 = .ok (.goto 4, 3) := by decide +kernel
theorem d_L_isNamed_83 : decode method_18_code 83 = .ok (.iconst 0, 1) := by decide +kernel
theorem d_L_isNamed_84 : decode method_18_code 84 = .ok (.ireturn, 1) := by decide +kernel
theorem d_L_isTold_0 : decode method_19_code 0 = .ok (.aload_n 0, 1) := by decide +kernel
theorem d_L_isTold_1 : decode method_19_code 1 = .ok (.iload_n 2, 1) := by decide +kernel
theorem d_L_isTold_2 : decode method_19_code 2 = .ok (.iconst 2, 1) := by decide +kernel
theorem d_L_isTold_3 : decode method_19_code 3 = .ok (.invokevirtual 32, 3) := by decide +kernel
theorem d_L_isTold_6 : decode method_19_code 6 = .ok (.iconst 2, 1) := by decide +kernel
theorem d_L_isTold_7 : decode method_19_code 7 = .ok (.if_icmp .ge 7, 3) := by decide +kernel
theorem d_L_isTold_10 : decode method_19_code 10 = .ok (.iconst 1, 1) := by decide +kernel
theorem d_L_isTold_11 : decode method_19_code 11 = .ok (.goto 4, 3) := by decide +kernel
theorem d_L_isTold_14 : decode method_19_code 14 = .ok (.iconst 0, 1) := by decide +kernel
theorem d_L_isTold_15 : decode method_19_code 15 = .ok (.istore 4, 2) := by decide +kernel
theorem d_L_isTold_17 : decode method_19_code 17 = .ok (.aload_n 0, 1) := by decide +kernel
theorem d_L_isTold_18 : decode method_19_code 18 = .ok (.iload_n 1, 1) := by decide +kernel
theorem d_L_isTold_19 : decode method_19_code 19 = .ok (.iload_n 2, 1) := by decide +kernel
theorem d_L_isTold_20 : decode method_19_code 20 = .ok (.iconst 2, 1) := by decide +kernel
theorem d_L_isTold_21 : decode method_19_code 21 = .ok (.invokevirtual 8, 3) := by decide +kernel
theorem d_L_isTold_24 : decode method_19_code 24 = .ok (.istore 5, 2) := by decide +kernel
theorem d_L_isTold_26 : decode method_19_code 26 = .ok (.aload_n 0, 1) := by decide +kernel
theorem d_L_isTold_27 : decode method_19_code 27 = .ok (.iload_n 1, 1) := by decide +kernel
theorem d_L_isTold_28 : decode method_19_code 28 = .ok (.iload_n 2, 1) := by decide +kernel
theorem d_L_isTold_29 : decode method_19_code 29 = .ok (.iload_n 3, 1) := by decide +kernel
theorem d_L_isTold_30 : decode method_19_code 30 = .ok (.invokevirtual 87, 3) := by decide +kernel
theorem d_L_isTold_33 : decode method_19_code 33 = .ok (.iload 4, 2) := by decide +kernel
theorem d_L_isTold_35 : decode method_19_code 35 = .ok (.ifCond .eq 8, 3) := by decide +kernel
theorem d_L_isTold_38 : decode method_19_code 38 = .ok (.iload 5, 2) := by decide +kernel
theorem d_L_isTold_40 : decode method_19_code 40 = .ok (.goto 5, 3) := by decide +kernel
theorem d_L_isTold_43 : decode method_19_code 43 = .ok (.bipush (-5), 2) := by decide +kernel
theorem d_L_isTold_45 : decode method_19_code 45 = .ok (.if_icmp .ne 28, 3) := by decide +kernel
theorem d_L_isTold_48 : decode method_19_code 48 = .ok (.aload_n 0, 1) := by decide +kernel
theorem d_L_isTold_49 : decode method_19_code 49 = .ok (.iload_n 1, 1) := by decide +kernel
theorem d_L_isTold_50 : decode method_19_code 50 = .ok (.iload_n 2, 1) := by decide +kernel
theorem d_L_isTold_51 : decode method_19_code 51 = .ok (.iconst 2, 1) := by decide +kernel
theorem d_L_isTold_52 : decode method_19_code 52 = .ok (.invokevirtual 8, 3) := by decide +kernel
theorem d_L_isTold_55 : decode method_19_code 55 = .ok (.iload 4, 2) := by decide +kernel
theorem d_L_isTold_57 : decode method_19_code 57 = .ok (.ifCond .eq 7, 3) := by decide +kernel
theorem d_L_isTold_60 : decode method_19_code 60 = .ok (.iload_n 3, 1) := by decide +kernel
theorem d_L_isTold_61 : decode method_19_code 61 = .ok (.goto 5, 3) := by decide +kernel
theorem d_L_isTold_64 : decode method_19_code 64 = .ok (.iload 5, 2) := by decide +kernel
theorem d_L_isTold_66 : decode method_19_code 66 = .ok (.if_icmp .ne 7, 3) := by decide +kernel
theorem d_L_isTold_69 : decode method_19_code 69 = .ok (.iconst 1, 1) := by decide +kernel
theorem d_L_isTold_70 : decode method_19_code 70 = .ok (.goto 4, 3) := by decide +kernel
theorem d_L_isTold_73 : decode method_19_code 73 = .ok (.iconst 0, 1) := by decide +kernel
theorem d_L_isTold_74 : decode method_19_code 74 = .ok (.ireturn, 1) := by decide +kernel
theorem d_L_isRecused_0 : decode method_20_code 0 = .ok (.aload_n 0, 1) := by decide +kernel
theorem d_L_isRecused_1 : decode method_20_code 1 = .ok (.iload_n 2, 1) := by decide +kernel
theorem d_L_isRecused_2 : decode method_20_code 2 = .ok (.iconst 2, 1) := by decide +kernel
theorem d_L_isRecused_3 : decode method_20_code 3 = .ok (.invokevirtual 32, 3) := by decide +kernel
theorem d_L_isRecused_6 : decode method_20_code 6 = .ok (.iconst 2, 1) := by decide +kernel
theorem d_L_isRecused_7 : decode method_20_code 7 = .ok (.if_icmp .ge 7, 3) := by decide +kernel
theorem d_L_isRecused_10 : decode method_20_code 10 = .ok (.iconst 1, 1) := by decide +kernel
theorem d_L_isRecused_11 : decode method_20_code 11 = .ok (.goto 4, 3) := by decide +kernel
theorem d_L_isRecused_14 : decode method_20_code 14 = .ok (.iconst 0, 1) := by decide +kernel
theorem d_L_isRecused_15 : decode method_20_code 15 = .ok (.istore 4, 2) := by decide +kernel
theorem d_L_isRecused_17 : decode method_20_code 17 = .ok (.aload_n 0, 1) := by decide +kernel
theorem d_L_isRecused_18 : decode method_20_code 18 = .ok (.iload_n 1, 1) := by decide +kernel
theorem d_L_isRecused_19 : decode method_20_code 19 = .ok (.iload_n 2, 1) := by decide +kernel
theorem d_L_isRecused_20 : decode method_20_code 20 = .ok (.iconst 5, 1) := by decide +kernel
theorem d_L_isRecused_21 : decode method_20_code 21 = .ok (.invokevirtual 8, 3) := by decide +kernel
theorem d_L_isRecused_24 : decode method_20_code 24 = .ok (.istore 5, 2) := by decide +kernel
theorem d_L_isRecused_26 : decode method_20_code 26 = .ok (.aload_n 0, 1) := by decide +kernel
theorem d_L_isRecused_27 : decode method_20_code 27 = .ok (.iload_n 2, 1) := by decide +kernel
theorem d_L_isRecused_28 : decode method_20_code 28 = .ok (.iconst 1, 1) := by decide +kernel
theorem d_L_isRecused_29 : decode method_20_code 29 = .ok (.invokevirtual 32, 3) := by decide +kernel
theorem d_L_isRecused_32 : decode method_20_code 32 = .ok (.aload_n 0, 1) := by decide +kernel
theorem d_L_isRecused_33 : decode method_20_code 33 = .ok (.iload_n 1, 1) := by decide +kernel
theorem d_L_isRecused_34 : decode method_20_code 34 = .ok (.iconst 1, 1) := by decide +kernel
theorem d_L_isRecused_35 : decode method_20_code 35 = .ok (.invokevirtual 14, 3) := by decide +kernel
theorem d_L_isRecused_38 : decode method_20_code 38 = .ok (.invokestatic 24, 3) := by decide +kernel
theorem d_L_isRecused_41 : decode method_20_code 41 = .ok (.ifCond .eq 7, 3) := by decide +kernel
theorem d_L_isRecused_44 : decode method_20_code 44 = .ok (.iconst 1, 1) := by decide +kernel
theorem d_L_isRecused_45 : decode method_20_code 45 = .ok (.goto 4, 3) := by decide +kernel
theorem d_L_isRecused_48 : decode method_20_code 48 = .ok (.iload_n 3, 1) := by decide +kernel
theorem d_L_isRecused_49 : decode method_20_code 49 = .ok (.istore 6, 2) := by decide +kernel
theorem d_L_isRecused_51 : decode method_20_code 51 = .ok (.aload_n 0, 1) := by decide +kernel
theorem d_L_isRecused_52 : decode method_20_code 52 = .ok (.iload_n 1, 1) := by decide +kernel
theorem d_L_isRecused_53 : decode method_20_code 53 = .ok (.iload_n 2, 1) := by decide +kernel
theorem d_L_isRecused_54 : decode method_20_code 54 = .ok (.iload_n 3, 1) := by decide +kernel
theorem d_L_isRecused_55 : decode method_20_code 55 = .ok (.invokevirtual 90, 3) := by decide +kernel
theorem d_L_isRecused_58 : decode method_20_code 58 = .ok (.iload 4, 2) := by decide +kernel
theorem d_L_isRecused_60 : decode method_20_code 60 = .ok (.ifCond .eq 8, 3) := by decide +kernel
theorem d_L_isRecused_63 : decode method_20_code 63 = .ok (.iload 6, 2) := by decide +kernel
theorem d_L_isRecused_65 : decode method_20_code 65 = .ok (.goto 5, 3) := by decide +kernel
theorem d_L_isRecused_68 : decode method_20_code 68 = .ok (.bipush (-5), 2) := by decide +kernel
theorem d_L_isRecused_70 : decode method_20_code 70 = .ok (.if_icmp .ne 29, 3) := by decide +kernel
theorem d_L_isRecused_73 : decode method_20_code 73 = .ok (.aload_n 0, 1) := by decide +kernel
theorem d_L_isRecused_74 : decode method_20_code 74 = .ok (.iload_n 1, 1) := by decide +kernel
theorem d_L_isRecused_75 : decode method_20_code 75 = .ok (.iload_n 2, 1) := by decide +kernel
theorem d_L_isRecused_76 : decode method_20_code 76 = .ok (.iconst 5, 1) := by decide +kernel
theorem d_L_isRecused_77 : decode method_20_code 77 = .ok (.invokevirtual 8, 3) := by decide +kernel
theorem d_L_isRecused_80 : decode method_20_code 80 = .ok (.iload 4, 2) := by decide +kernel
theorem d_L_isRecused_82 : decode method_20_code 82 = .ok (.ifCond .eq 8, 3) := by decide +kernel
theorem d_L_isRecused_85 : decode method_20_code 85 = .ok (.iload 6, 2) := by decide +kernel
theorem d_L_isRecused_87 : decode method_20_code 87 = .ok (.goto 5, 3) := by decide +kernel
theorem d_L_isRecused_90 : decode method_20_code 90 = .ok (.iload 5, 2) := by decide +kernel
theorem d_L_isRecused_92 : decode method_20_code 92 = .ok (.if_icmp .ne 7, 3) := by decide +kernel
theorem d_L_isRecused_95 : decode method_20_code 95 = .ok (.iconst 1, 1) := by decide +kernel
theorem d_L_isRecused_96 : decode method_20_code 96 = .ok (.goto 4, 3) := by decide +kernel
theorem d_L_isRecused_99 : decode method_20_code 99 = .ok (.iconst 0, 1) := by decide +kernel
theorem d_L_isRecused_100 : decode method_20_code 100 = .ok (.ireturn, 1) := by decide +kernel
theorem d_L_isOpened_0 : decode method_13_code 0 = .ok (.bipush 12, 2) := by decide +kernel
theorem d_L_isOpened_2 : decode method_13_code 2 = .ok (.newarray .int, 2) := by decide +kernel
theorem d_L_isOpened_4 : decode method_13_code 4 = .ok (.astore_n 2, 1) := by decide +kernel
theorem d_L_isOpened_5 : decode method_13_code 5 = .ok (.aload_n 0, 1) := by decide +kernel
theorem d_L_isOpened_6 : decode method_13_code 6 = .ok (.iload_n 1, 1) := by decide +kernel
theorem d_L_isOpened_7 : decode method_13_code 7 = .ok (.aload_n 2, 1) := by decide +kernel
theorem d_L_isOpened_8 : decode method_13_code 8 = .ok (.invokestatic 39, 3) := by decide +kernel
theorem d_L_isOpened_11 : decode method_13_code 11 = .ok (.pop, 1) := by decide +kernel
theorem d_L_isOpened_12 : decode method_13_code 12 = .ok (.aload_n 0, 1) := by decide +kernel
theorem d_L_isOpened_13 : decode method_13_code 13 = .ok (.aload_n 2, 1) := by decide +kernel
theorem d_L_isOpened_14 : decode method_13_code 14 = .ok (.invokestatic 47, 3) := by decide +kernel
theorem d_L_isOpened_17 : decode method_13_code 17 = .ok (.istore_n 3, 1) := by decide +kernel
theorem d_L_isOpened_18 : decode method_13_code 18 = .ok (.aload_n 0, 1) := by decide +kernel
theorem d_L_isOpened_19 : decode method_13_code 19 = .ok (.iload_n 1, 1) := by decide +kernel
theorem d_L_isOpened_20 : decode method_13_code 20 = .ok (.iconst 2, 1) := by decide +kernel
theorem d_L_isOpened_21 : decode method_13_code 21 = .ok (.invokevirtual 32, 3) := by decide +kernel
theorem d_L_isOpened_24 : decode method_13_code 24 = .ok (.ifCond .ne 23, 3) := by decide +kernel
theorem d_L_isOpened_27 : decode method_13_code 27 = .ok (.aload_n 0, 1) := by decide +kernel
theorem d_L_isOpened_28 : decode method_13_code 28 = .ok (.iconst 4, 1) := by decide +kernel
theorem d_L_isOpened_29 : decode method_13_code 29 = .ok (.invokevirtual 28, 3) := by decide +kernel
theorem d_L_isOpened_32 : decode method_13_code 32 = .ok (.ifCond .ge 15, 3) := by decide +kernel
theorem d_L_isOpened_35 : decode method_13_code 35 = .ok (.aload_n 0, 1) := by decide +kernel
theorem d_L_isOpened_36 : decode method_13_code 36 = .ok (.iload_n 3, 1) := by decide +kernel
theorem d_L_isOpened_37 : decode method_13_code 37 = .ok (.invokestatic 51, 3) := by decide +kernel
theorem d_L_isOpened_40 : decode method_13_code 40 = .ok (.ifCond .eq 7, 3) := by decide +kernel
theorem d_L_isOpened_43 : decode method_13_code 43 = .ok (.iconst 1, 1) := by decide +kernel
theorem d_L_isOpened_44 : decode method_13_code 44 = .ok (.goto 4, 3) := by decide +kernel
theorem d_L_isOpened_47 : decode method_13_code 47 = .ok (.iconst 0, 1) := by decide +kernel
theorem d_L_isOpened_48 : decode method_13_code 48 = .ok (.istore 4, 2) := by decide +kernel
theorem d_L_isOpened_50 : decode method_13_code 50 = .ok (.aload_n 0, 1) := by decide +kernel
theorem d_L_isOpened_51 : decode method_13_code 51 = .ok (.iconst 4, 1) := by decide +kernel
theorem d_L_isOpened_52 : decode method_13_code 52 = .ok (.invokevirtual 28, 3) := by decide +kernel
theorem d_L_isOpened_55 : decode method_13_code 55 = .ok (.istore 5, 2) := by decide +kernel
theorem d_L_isOpened_57 : decode method_13_code 57 = .ok (.aload_n 0, 1) := by decide +kernel
theorem d_L_isOpened_58 : decode method_13_code 58 = .ok (.iload_n 1, 1) := by decide +kernel
theorem d_L_isOpened_59 : decode method_13_code 59 = .ok (.invokevirtual 62, 3) := by decide +kernel
theorem d_L_isOpened_62 : decode method_13_code 62 = .ok (.iload 4, 2) := by decide +kernel
theorem d_L_isOpened_64 : decode method_13_code 64 = .ok (.ifCond .eq 7, 3) := by decide +kernel
theorem d_L_isOpened_67 : decode method_13_code 67 = .ok (.iload_n 3, 1) := by decide +kernel
theorem d_L_isOpened_68 : decode method_13_code 68 = .ok (.goto 5, 3) := by decide +kernel
theorem d_L_isOpened_71 : decode method_13_code 71 = .ok (.bipush (-5), 2) := by decide +kernel
theorem d_L_isOpened_73 : decode method_13_code 73 = .ok (.if_icmp .ne 41, 3) := by decide +kernel
theorem d_L_isOpened_76 : decode method_13_code 76 = .ok (.aload_n 0, 1) := by decide +kernel
theorem d_L_isOpened_77 : decode method_13_code 77 = .ok (.iconst 4, 1) := by decide +kernel
theorem d_L_isOpened_78 : decode method_13_code 78 = .ok (.invokevirtual 28, 3) := by decide +kernel
theorem d_L_isOpened_81 : decode method_13_code 81 = .ok (.iload 4, 2) := by decide +kernel
theorem d_L_isOpened_83 : decode method_13_code 83 = .ok (.ifCond .eq 7, 3) := by decide +kernel
theorem d_L_isOpened_86 : decode method_13_code 86 = .ok (.iload_n 1, 1) := by decide +kernel
theorem d_L_isOpened_87 : decode method_13_code 87 = .ok (.goto 5, 3) := by decide +kernel
theorem d_L_isOpened_90 : decode method_13_code 90 = .ok (.iload 5, 2) := by decide +kernel
theorem d_L_isOpened_92 : decode method_13_code 92 = .ok (.if_icmp .ne 22, 3) := by decide +kernel
theorem d_L_isOpened_95 : decode method_13_code 95 = .ok (.iload 4, 2) := by decide +kernel
theorem d_L_isOpened_97 : decode method_13_code 97 = .ok (.ifCond .eq 13, 3) := by decide +kernel
theorem d_L_isOpened_100 : decode method_13_code 100 = .ok (.aload_n 0, 1) := by decide +kernel
theorem d_L_isOpened_101 : decode method_13_code 101 = .ok (.iload_n 1, 1) := by decide +kernel
theorem d_L_isOpened_102 : decode method_13_code 102 = .ok (.iconst 2, 1) := by decide +kernel
theorem d_L_isOpened_103 : decode method_13_code 103 = .ok (.invokevirtual 32, 3) := by decide +kernel
theorem d_L_isOpened_106 : decode method_13_code 106 = .ok (.iconst 1, 1) := by decide +kernel
theorem d_L_isOpened_107 : decode method_13_code 107 = .ok (.if_icmp .ne 7, 3) := by decide +kernel
theorem d_L_isOpened_110 : decode method_13_code 110 = .ok (.iconst 1, 1) := by decide +kernel
theorem d_L_isOpened_111 : decode method_13_code 111 = .ok (.goto 4, 3) := by decide +kernel
theorem d_L_isOpened_114 : decode method_13_code 114 = .ok (.iconst 0, 1) := by decide +kernel
theorem d_L_isOpened_115 : decode method_13_code 115 = .ok (.ireturn, 1) := by decide +kernel
theorem d_L_isVoted_0 : decode method_14_code 0 = .ok (.aload_n 0, 1) := by decide +kernel
theorem d_L_isVoted_1 : decode method_14_code 1 = .ok (.iconst 4, 1) := by decide +kernel
theorem d_L_isVoted_2 : decode method_14_code 2 = .ok (.invokevirtual 28, 3) := by decide +kernel
theorem d_L_isVoted_5 : decode method_14_code 5 = .ok (.istore_n 3, 1) := by decide +kernel
theorem d_L_isVoted_6 : decode method_14_code 6 = .ok (.iload_n 3, 1) := by decide +kernel
theorem d_L_isVoted_7 : decode method_14_code 7 = .ok (.ifCond .ge 20, 3) := by decide +kernel
theorem d_L_isVoted_10 : decode method_14_code 10 = .ok (.aload_n 0, 1) := by decide +kernel
theorem d_L_isVoted_11 : decode method_14_code 11 = .ok (.iload_n 1, 1) := by decide +kernel
theorem d_L_isVoted_12 : decode method_14_code 12 = .ok (.iload_n 2, 1) := by decide +kernel
theorem d_L_isVoted_13 : decode method_14_code 13 = .ok (.invokevirtual 65, 3) := by decide +kernel
theorem d_L_isVoted_16 : decode method_14_code 16 = .ok (.bipush (-5), 2) := by decide +kernel
theorem d_L_isVoted_18 : decode method_14_code 18 = .ok (.if_icmp .ne 7, 3) := by decide +kernel
theorem d_L_isVoted_21 : decode method_14_code 21 = .ok (.iconst 1, 1) := by decide +kernel
theorem d_L_isVoted_22 : decode method_14_code 22 = .ok (.goto 4, 3) := by decide +kernel
theorem d_L_isVoted_25 : decode method_14_code 25 = .ok (.iconst 0, 1) := by decide +kernel
theorem d_L_isVoted_26 : decode method_14_code 26 = .ok (.ireturn, 1) := by decide +kernel
theorem d_L_isVoted_27 : decode method_14_code 27 = .ok (.aload_n 0, 1) := by decide +kernel
theorem d_L_isVoted_28 : decode method_14_code 28 = .ok (.iload_n 1, 1) := by decide +kernel
theorem d_L_isVoted_29 : decode method_14_code 29 = .ok (.iconst 2, 1) := by decide +kernel
theorem d_L_isVoted_30 : decode method_14_code 30 = .ok (.invokevirtual 14, 3) := by decide +kernel
theorem d_L_isVoted_33 : decode method_14_code 33 = .ok (.iconst 1, 1) := by decide +kernel
theorem d_L_isVoted_34 : decode method_14_code 34 = .ok (.if_icmp .ne 17, 3) := by decide +kernel
theorem d_L_isVoted_37 : decode method_14_code 37 = .ok (.aload_n 0, 1) := by decide +kernel
theorem d_L_isVoted_38 : decode method_14_code 38 = .ok (.iload_n 1, 1) := by decide +kernel
theorem d_L_isVoted_39 : decode method_14_code 39 = .ok (.iload_n 3, 1) := by decide +kernel
theorem d_L_isVoted_40 : decode method_14_code 40 = .ok (.iconst 5, 1) := by decide +kernel
theorem d_L_isVoted_41 : decode method_14_code 41 = .ok (.invokevirtual 8, 3) := by decide +kernel
theorem d_L_isVoted_44 : decode method_14_code 44 = .ok (.ifCond .ne 7, 3) := by decide +kernel
theorem d_L_isVoted_47 : decode method_14_code 47 = .ok (.iconst 1, 1) := by decide +kernel
theorem d_L_isVoted_48 : decode method_14_code 48 = .ok (.goto 4, 3) := by decide +kernel
theorem d_L_isVoted_51 : decode method_14_code 51 = .ok (.iconst 0, 1) := by decide +kernel
theorem d_L_isVoted_52 : decode method_14_code 52 = .ok (.istore 4, 2) := by decide +kernel
theorem d_L_isVoted_54 : decode method_14_code 54 = .ok (.aload_n 0, 1) := by decide +kernel
theorem d_L_isVoted_55 : decode method_14_code 55 = .ok (.iload_n 1, 1) := by decide +kernel
theorem d_L_isVoted_56 : decode method_14_code 56 = .ok (.iload_n 3, 1) := by decide +kernel
theorem d_L_isVoted_57 : decode method_14_code 57 = .ok (.iconst 1, 1) := by decide +kernel
theorem d_L_isVoted_58 : decode method_14_code 58 = .ok (.invokevirtual 8, 3) := by decide +kernel
theorem d_L_isVoted_61 : decode method_14_code 61 = .ok (.istore 5, 2) := by decide +kernel
theorem d_L_isVoted_63 : decode method_14_code 63 = .ok (.aload_n 0, 1) := by decide +kernel
theorem d_L_isVoted_64 : decode method_14_code 64 = .ok (.iload_n 1, 1) := by decide +kernel
theorem d_L_isVoted_65 : decode method_14_code 65 = .ok (.iconst 4, 1) := by decide +kernel
theorem d_L_isVoted_66 : decode method_14_code 66 = .ok (.invokevirtual 14, 3) := by decide +kernel
theorem d_L_isVoted_69 : decode method_14_code 69 = .ok (.istore 6, 2) := by decide +kernel
theorem d_L_isVoted_71 : decode method_14_code 71 = .ok (.aload_n 0, 1) := by decide +kernel
theorem d_L_isVoted_72 : decode method_14_code 72 = .ok (.iload_n 1, 1) := by decide +kernel
theorem d_L_isVoted_73 : decode method_14_code 73 = .ok (.iload_n 2, 1) := by decide +kernel
theorem d_L_isVoted_74 : decode method_14_code 74 = .ok (.invokevirtual 65, 3) := by decide +kernel
theorem d_L_isVoted_77 : decode method_14_code 77 = .ok (.istore 7, 2) := by decide +kernel
theorem d_L_isVoted_79 : decode method_14_code 79 = .ok (.iload 4, 2) := by decide +kernel
theorem d_L_isVoted_81 : decode method_14_code 81 = .ok (.ifCond .eq 62, 3) := by decide +kernel
theorem d_L_isVoted_84 : decode method_14_code 84 = .ok (.iload 7, 2) := by decide +kernel
theorem d_L_isVoted_86 : decode method_14_code 86 = .ok (.iload 5, 2) := by decide +kernel
theorem d_L_isVoted_88 : decode method_14_code 88 = .ok (.if_icmp .ne 51, 3) := by decide +kernel
theorem d_L_isVoted_91 : decode method_14_code 91 = .ok (.aload_n 0, 1) := by decide +kernel
theorem d_L_isVoted_92 : decode method_14_code 92 = .ok (.iload_n 1, 1) := by decide +kernel
theorem d_L_isVoted_93 : decode method_14_code 93 = .ok (.iload_n 3, 1) := by decide +kernel
theorem d_L_isVoted_94 : decode method_14_code 94 = .ok (.iconst 1, 1) := by decide +kernel
theorem d_L_isVoted_95 : decode method_14_code 95 = .ok (.invokevirtual 8, 3) := by decide +kernel
theorem d_L_isVoted_98 : decode method_14_code 98 = .ok (.iload_n 2, 1) := by decide +kernel
theorem d_L_isVoted_99 : decode method_14_code 99 = .ok (.if_icmp .ne 40, 3) := by decide +kernel
theorem d_L_isVoted_102 : decode method_14_code 102 = .ok (.aload_n 0, 1) := by decide +kernel
theorem d_L_isVoted_103 : decode method_14_code 103 = .ok (.iload_n 1, 1) := by decide +kernel
theorem d_L_isVoted_104 : decode method_14_code 104 = .ok (.iload_n 3, 1) := by decide +kernel
theorem d_L_isVoted_105 : decode method_14_code 105 = .ok (.iconst 3, 1) := by decide +kernel
theorem d_L_isVoted_106 : decode method_14_code 106 = .ok (.invokevirtual 8, 3) := by decide +kernel
theorem d_L_isVoted_109 : decode method_14_code 109 = .ok (.iload_n 2, 1) := by decide +kernel
theorem d_L_isVoted_110 : decode method_14_code 110 = .ok (.if_icmp .ne 29, 3) := by decide +kernel
theorem d_L_isVoted_113 : decode method_14_code 113 = .ok (.aload_n 0, 1) := by decide +kernel
theorem d_L_isVoted_114 : decode method_14_code 114 = .ok (.iload_n 1, 1) := by decide +kernel
theorem d_L_isVoted_115 : decode method_14_code 115 = .ok (.iconst 4, 1) := by decide +kernel
theorem d_L_isVoted_116 : decode method_14_code 116 = .ok (.invokevirtual 14, 3) := by decide +kernel
theorem d_L_isVoted_119 : decode method_14_code 119 = .ok (.iload 6, 2) := by decide +kernel
theorem d_L_isVoted_121 : decode method_14_code 121 = .ok (.iload 5, 2) := by decide +kernel
theorem d_L_isVoted_123 : decode method_14_code 123 = .ok (.ifCond .ge 7, 3) := by decide +kernel
theorem d_L_isVoted_126 : decode method_14_code 126 = .ok (.iconst 1, 1) := by decide +kernel
theorem d_L_isVoted_127 : decode method_14_code 127 = .ok (.goto 4, 3) := by decide +kernel
theorem d_L_isVoted_130 : decode method_14_code 130 = .ok (.iconst 0, 1) := by decide +kernel
theorem d_L_isVoted_131 : decode method_14_code 131 = .ok (.iadd, 1) := by decide +kernel
theorem d_L_isVoted_132 : decode method_14_code 132 = .ok (.if_icmp .ne 7, 3) := by decide +kernel
theorem d_L_isVoted_135 : decode method_14_code 135 = .ok (.iconst 1, 1) := by decide +kernel
theorem d_L_isVoted_136 : decode method_14_code 136 = .ok (.goto 31, 3) := by decide +kernel
theorem d_L_isVoted_139 : decode method_14_code 139 = .ok (.iconst 0, 1) := by decide +kernel
theorem d_L_isVoted_140 : decode method_14_code 140 = .ok (.goto 27, 3) := by decide +kernel
theorem d_L_isVoted_143 : decode method_14_code 143 = .ok (.iload 7, 2) := by decide +kernel
theorem d_L_isVoted_145 : decode method_14_code 145 = .ok (.bipush (-5), 2) := by decide +kernel
theorem d_L_isVoted_147 : decode method_14_code 147 = .ok (.if_icmp .ne 19, 3) := by decide +kernel
theorem d_L_isVoted_150 : decode method_14_code 150 = .ok (.aload_n 0, 1) := by decide +kernel
theorem d_L_isVoted_151 : decode method_14_code 151 = .ok (.iload_n 1, 1) := by decide +kernel
theorem d_L_isVoted_152 : decode method_14_code 152 = .ok (.iload_n 3, 1) := by decide +kernel
theorem d_L_isVoted_153 : decode method_14_code 153 = .ok (.iconst 1, 1) := by decide +kernel
theorem d_L_isVoted_154 : decode method_14_code 154 = .ok (.invokevirtual 8, 3) := by decide +kernel
theorem d_L_isVoted_157 : decode method_14_code 157 = .ok (.iload 5, 2) := by decide +kernel
theorem d_L_isVoted_159 : decode method_14_code 159 = .ok (.if_icmp .ne 7, 3) := by decide +kernel
theorem d_L_isVoted_162 : decode method_14_code 162 = .ok (.iconst 1, 1) := by decide +kernel
theorem d_L_isVoted_163 : decode method_14_code 163 = .ok (.goto 4, 3) := by decide +kernel
theorem d_L_isVoted_166 : decode method_14_code 166 = .ok (.iconst 0, 1) := by decide +kernel
theorem d_L_isVoted_167 : decode method_14_code 167 = .ok (.ireturn, 1) := by decide +kernel
theorem d_L_isClosed_0 : decode method_15_code 0 = .ok (.aload_n 0, 1) := by decide +kernel
theorem d_L_isClosed_1 : decode method_15_code 1 = .ok (.iconst 4, 1) := by decide +kernel
theorem d_L_isClosed_2 : decode method_15_code 2 = .ok (.invokevirtual 28, 3) := by decide +kernel
theorem d_L_isClosed_5 : decode method_15_code 5 = .ok (.istore_n 1, 1) := by decide +kernel
theorem d_L_isClosed_6 : decode method_15_code 6 = .ok (.iload_n 1, 1) := by decide +kernel
theorem d_L_isClosed_7 : decode method_15_code 7 = .ok (.ifCond .ge 18, 3) := by decide +kernel
theorem d_L_isClosed_10 : decode method_15_code 10 = .ok (.aload_n 0, 1) := by decide +kernel
theorem d_L_isClosed_11 : decode method_15_code 11 = .ok (.invokevirtual 68, 3) := by decide +kernel
theorem d_L_isClosed_14 : decode method_15_code 14 = .ok (.bipush (-5), 2) := by decide +kernel
theorem d_L_isClosed_16 : decode method_15_code 16 = .ok (.if_icmp .ne 7, 3) := by decide +kernel
theorem d_L_isClosed_19 : decode method_15_code 19 = .ok (.iconst 1, 1) := by decide +kernel
theorem d_L_isClosed_20 : decode method_15_code 20 = .ok (.goto 4, 3) := by decide +kernel
theorem d_L_isClosed_23 : decode method_15_code 23 = .ok (.iconst 0, 1) := by decide +kernel
theorem d_L_isClosed_24 : decode method_15_code 24 = .ok (.ireturn, 1) := by decide +kernel
theorem d_L_isClosed_25 : decode method_15_code 25 = .ok (.bipush 12, 2) := by decide +kernel
theorem d_L_isClosed_27 : decode method_15_code 27 = .ok (.newarray .int, 2) := by decide +kernel
theorem d_L_isClosed_29 : decode method_15_code 29 = .ok (.astore_n 2, 1) := by decide +kernel
theorem d_L_isClosed_30 : decode method_15_code 30 = .ok (.bipush 6, 2) := by decide +kernel
theorem d_L_isClosed_32 : decode method_15_code 32 = .ok (.newarray .int, 2) := by decide +kernel
theorem d_L_isClosed_34 : decode method_15_code 34 = .ok (.astore_n 3, 1) := by decide +kernel
theorem d_L_isClosed_35 : decode method_15_code 35 = .ok (.aload_n 0, 1) := by decide +kernel
theorem d_L_isClosed_36 : decode method_15_code 36 = .ok (.iload_n 1, 1) := by decide +kernel
theorem d_L_isClosed_37 : decode method_15_code 37 = .ok (.aload_n 2, 1) := by decide +kernel
theorem d_L_isClosed_38 : decode method_15_code 38 = .ok (.invokestatic 39, 3) := by decide +kernel
theorem d_L_isClosed_41 : decode method_15_code 41 = .ok (.pop, 1) := by decide +kernel
theorem d_L_isClosed_42 : decode method_15_code 42 = .ok (.aload_n 0, 1) := by decide +kernel
theorem d_L_isClosed_43 : decode method_15_code 43 = .ok (.iload_n 1, 1) := by decide +kernel
theorem d_L_isClosed_44 : decode method_15_code 44 = .ok (.aload_n 2, 1) := by decide +kernel
theorem d_L_isClosed_45 : decode method_15_code 45 = .ok (.aload_n 3, 1) := by decide +kernel
theorem d_L_isClosed_46 : decode method_15_code 46 = .ok (.invokestatic 43, 3) := by decide +kernel
theorem d_L_isClosed_49 : decode method_15_code 49 = .ok (.aload_n 0, 1) := by decide +kernel
theorem d_L_isClosed_50 : decode method_15_code 50 = .ok (.aload_n 0, 1) := by decide +kernel
theorem d_L_isClosed_51 : decode method_15_code 51 = .ok (.aload_n 2, 1) := by decide +kernel
theorem d_L_isClosed_52 : decode method_15_code 52 = .ok (.invokestatic 47, 3) := by decide +kernel
theorem d_L_isClosed_55 : decode method_15_code 55 = .ok (.invokestatic 51, 3) := by decide +kernel
theorem d_L_isClosed_58 : decode method_15_code 58 = .ok (.istore 4, 2) := by decide +kernel
theorem d_L_isClosed_60 : decode method_15_code 60 = .ok (.iload 4, 2) := by decide +kernel
theorem d_L_isClosed_62 : decode method_15_code 62 = .ok (.ifCond .eq 12, 3) := by decide +kernel
theorem d_L_isClosed_65 : decode method_15_code 65 = .ok (.aload_n 0, 1) := by decide +kernel
theorem d_L_isClosed_66 : decode method_15_code 66 = .ok (.iload_n 1, 1) := by decide +kernel
theorem d_L_isClosed_67 : decode method_15_code 67 = .ok (.aload_n 3, 1) := by decide +kernel
theorem d_L_isClosed_68 : decode method_15_code 68 = .ok (.invokestatic 58, 3) := by decide +kernel
theorem d_L_isClosed_71 : decode method_15_code 71 = .ok (.goto 4, 3) := by decide +kernel
theorem d_L_isClosed_74 : decode method_15_code 74 = .ok (.iconst 0, 1) := by decide +kernel
theorem d_L_isClosed_75 : decode method_15_code 75 = .ok (.istore 5, 2) := by decide +kernel
theorem d_L_isClosed_77 : decode method_15_code 77 = .ok (.aload_n 0, 1) := by decide +kernel
theorem d_L_isClosed_78 : decode method_15_code 78 = .ok (.iload_n 1, 1) := by decide +kernel
theorem d_L_isClosed_79 : decode method_15_code 79 = .ok (.bipush 10, 2) := by decide +kernel
theorem d_L_isClosed_81 : decode method_15_code 81 = .ok (.invokevirtual 32, 3) := by decide +kernel
theorem d_L_isClosed_84 : decode method_15_code 84 = .ok (.istore 6, 2) := by decide +kernel
theorem d_L_isClosed_86 : decode method_15_code 86 = .ok (.aload_n 0, 1) := by decide +kernel
theorem d_L_isClosed_87 : decode method_15_code 87 = .ok (.invokevirtual 68, 3) := by decide +kernel
theorem d_L_isClosed_90 : decode method_15_code 90 = .ok (.iload 5, 2) := by decide +kernel
theorem d_L_isClosed_92 : decode method_15_code 92 = .ok (.if_icmp .ne 59, 3) := by decide +kernel
theorem d_L_isClosed_95 : decode method_15_code 95 = .ok (.aload_n 0, 1) := by decide +kernel
theorem d_L_isClosed_96 : decode method_15_code 96 = .ok (.iconst 4, 1) := by decide +kernel
theorem d_L_isClosed_97 : decode method_15_code 97 = .ok (.invokevirtual 28, 3) := by decide +kernel
theorem d_L_isClosed_100 : decode method_15_code 100 = .ok (.bipush (-6), 2) := by decide +kernel
theorem d_L_isClosed_102 : decode method_15_code 102 = .ok (.if_icmp .ne 49, 3) := by decide +kernel
theorem d_L_isClosed_105 : decode method_15_code 105 = .ok (.aload_n 0, 1) := by decide +kernel
theorem d_L_isClosed_106 : decode method_15_code 106 = .ok (.iload_n 1, 1) := by decide +kernel
theorem d_L_isClosed_107 : decode method_15_code 107 = .ok (.iconst 2, 1) := by decide +kernel
theorem d_L_isClosed_108 : decode method_15_code 108 = .ok (.invokevirtual 32, 3) := by decide +kernel
theorem d_L_isClosed_111 : decode method_15_code 111 = .ok (.iload 5, 2) := by decide +kernel
theorem d_L_isClosed_113 : decode method_15_code 113 = .ok (.if_icmp .ne 38, 3) := by decide +kernel
theorem d_L_isClosed_116 : decode method_15_code 116 = .ok (.aload_n 0, 1) := by decide +kernel
theorem d_L_isClosed_117 : decode method_15_code 117 = .ok (.iload_n 1, 1) := by decide +kernel
theorem d_L_isClosed_118 : decode method_15_code 118 = .ok (.bipush 10, 2) := by decide +kernel
theorem d_L_isClosed_120 : decode method_15_code 120 = .ok (.invokevirtual 32, 3) := by decide +kernel
theorem d_L_isClosed_123 : decode method_15_code 123 = .ok (.iload 6, 2) := by decide +kernel
theorem d_L_isClosed_125 : decode method_15_code 125 = .ok (.iload 4, 2) := by decide +kernel
theorem d_L_isClosed_127 : decode method_15_code 127 = .ok (.ifCond .eq 7, 3) := by decide +kernel
theorem d_L_isClosed_130 : decode method_15_code 130 = .ok (.iconst 0, 1) := by decide +kernel
theorem d_L_isClosed_131 : decode method_15_code 131 = .ok (.goto 4, 3) := by decide +kernel
theorem d_L_isClosed_134 : decode method_15_code 134 = .ok (.iconst 1, 1) := by decide +kernel
theorem d_L_isClosed_135 : decode method_15_code 135 = .ok (.iadd, 1) := by decide +kernel
theorem d_L_isClosed_136 : decode method_15_code 136 = .ok (.if_icmp .ne 15, 3) := by decide +kernel
theorem d_L_isClosed_139 : decode method_15_code 139 = .ok (.aload_n 0, 1) := by decide +kernel
theorem d_L_isClosed_140 : decode method_15_code 140 = .ok (.iload_n 1, 1) := by decide +kernel
theorem d_L_isClosed_141 : decode method_15_code 141 = .ok (.bipush 9, 2) := by decide +kernel
theorem d_L_isClosed_143 : decode method_15_code 143 = .ok (.invokevirtual 32, 3) := by decide +kernel
theorem d_L_isClosed_146 : decode method_15_code 146 = .ok (.bipush (-6), 2) := by decide +kernel
theorem d_L_isClosed_148 : decode method_15_code 148 = .ok (.if_icmp .eq 5, 3) := by decide +kernel
theorem d_L_isClosed_151 : decode method_15_code 151 = .ok (.iconst 0, 1) := by decide +kernel
theorem d_L_isClosed_152 : decode method_15_code 152 = .ok (.ireturn, 1) := by decide +kernel
theorem d_L_isClosed_153 : decode method_15_code 153 = .ok (.iconst 0, 1) := by decide +kernel
theorem d_L_isClosed_154 : decode method_15_code 154 = .ok (.istore 7, 2) := by decide +kernel
theorem d_L_isClosed_156 : decode method_15_code 156 = .ok (.iload 7, 2) := by decide +kernel
theorem d_L_isClosed_158 : decode method_15_code 158 = .ok (.bipush 6, 2) := by decide +kernel
theorem d_L_isClosed_160 : decode method_15_code 160 = .ok (.if_icmp .ge 32, 3) := by decide +kernel
theorem d_L_isClosed_163 : decode method_15_code 163 = .ok (.iload 4, 2) := by decide +kernel
theorem d_L_isClosed_165 : decode method_15_code 165 = .ok (.ifCond .eq 27, 3) := by decide +kernel
theorem d_L_isClosed_168 : decode method_15_code 168 = .ok (.aload_n 0, 1) := by decide +kernel
theorem d_L_isClosed_169 : decode method_15_code 169 = .ok (.iload_n 1, 1) := by decide +kernel
theorem d_L_isClosed_170 : decode method_15_code 170 = .ok (.iconst 3, 1) := by decide +kernel
theorem d_L_isClosed_171 : decode method_15_code 171 = .ok (.iload 7, 2) := by decide +kernel
theorem d_L_isClosed_173 : decode method_15_code 173 = .ok (.iadd, 1) := by decide +kernel
theorem d_L_isClosed_174 : decode method_15_code 174 = .ok (.invokevirtual 32, 3) := by decide +kernel
theorem d_L_isClosed_177 : decode method_15_code 177 = .ok (.aload_n 3, 1) := by decide +kernel
theorem d_L_isClosed_178 : decode method_15_code 178 = .ok (.iload 7, 2) := by decide +kernel
theorem d_L_isClosed_180 : decode method_15_code 180 = .ok (.iaload, 1) := by decide +kernel
theorem d_L_isClosed_181 : decode method_15_code 181 = .ok (.if_icmp .eq 5, 3) := by decide +kernel
theorem d_L_isClosed_184 : decode method_15_code 184 = .ok (.iconst 0, 1) := by decide +kernel
theorem d_L_isClosed_185 : decode method_15_code 185 = .ok (.ireturn, 1) := by decide +kernel
theorem d_L_isClosed_186 : decode method_15_code 186 = .ok (.iinc 7 1, 3) := by decide +kernel
theorem d_L_isClosed_189 : decode method_15_code 189 = .ok (.goto (-33), 3) := by decide +kernel
theorem d_L_isClosed_192 : decode method_15_code 192 = .ok (.iconst 0, 1) := by decide +kernel
theorem d_L_isClosed_193 : decode method_15_code 193 = .ok (.istore 7, 2) := by decide +kernel
theorem d_L_isClosed_195 : decode method_15_code 195 = .ok (.iload 7, 2) := by decide +kernel
theorem d_L_isClosed_197 : decode method_15_code 197 = .ok (.aload_n 0, 1) := by decide +kernel
theorem d_L_isClosed_198 : decode method_15_code 198 = .ok (.iconst 1, 1) := by decide +kernel
theorem d_L_isClosed_199 : decode method_15_code 199 = .ok (.invokevirtual 28, 3) := by decide +kernel
theorem d_L_isClosed_202 : decode method_15_code 202 = .ok (.if_icmp .ge 29, 3) := by decide +kernel
theorem d_L_isClosed_205 : decode method_15_code 205 = .ok (.iload 4, 2) := by decide +kernel
theorem d_L_isClosed_207 : decode method_15_code 207 = .ok (.ifCond .ne 24, 3) := by decide +kernel
theorem d_L_isClosed_210 : decode method_15_code 210 = .ok (.aload_n 0, 1) := by decide +kernel
theorem d_L_isClosed_211 : decode method_15_code 211 = .ok (.iload 7, 2) := by decide +kernel
theorem d_L_isClosed_213 : decode method_15_code 213 = .ok (.iload_n 1, 1) := by decide +kernel
theorem d_L_isClosed_214 : decode method_15_code 214 = .ok (.iconst 1, 1) := by decide +kernel
theorem d_L_isClosed_215 : decode method_15_code 215 = .ok (.invokevirtual 8, 3) := by decide +kernel
theorem d_L_isClosed_218 : decode method_15_code 218 = .ok (.bipush (-6), 2) := by decide +kernel
theorem d_L_isClosed_220 : decode method_15_code 220 = .ok (.if_icmp .eq 5, 3) := by decide +kernel
theorem d_L_isClosed_223 : decode method_15_code 223 = .ok (.iconst 0, 1) := by decide +kernel
theorem d_L_isClosed_224 : decode method_15_code 224 = .ok (.ireturn, 1) := by decide +kernel
theorem d_L_isClosed_225 : decode method_15_code 225 = .ok (.iinc 7 1, 3) := by decide +kernel
theorem d_L_isClosed_228 : decode method_15_code 228 = .ok (.goto (-33), 3) := by decide +kernel
theorem d_L_isClosed_231 : decode method_15_code 231 = .ok (.iconst 1, 1) := by decide +kernel
theorem d_L_isClosed_232 : decode method_15_code 232 = .ok (.ireturn, 1) := by decide +kernel
theorem d_L_isCast_0 : decode method_16_code 0 = .ok (.iconst (-1), 1) := by decide +kernel
theorem d_L_isCast_1 : decode method_16_code 1 = .ok (.istore_n 2, 1) := by decide +kernel
theorem d_L_isCast_2 : decode method_16_code 2 = .ok (.aload_n 0, 1) := by decide +kernel
theorem d_L_isCast_3 : decode method_16_code 3 = .ok (.iconst 2, 1) := by decide +kernel
theorem d_L_isCast_4 : decode method_16_code 4 = .ok (.invokevirtual 28, 3) := by decide +kernel
theorem d_L_isCast_7 : decode method_16_code 7 = .ok (.iconst 1, 1) := by decide +kernel
theorem d_L_isCast_8 : decode method_16_code 8 = .ok (.isub, 1) := by decide +kernel
theorem d_L_isCast_9 : decode method_16_code 9 = .ok (.istore_n 3, 1) := by decide +kernel
theorem d_L_isCast_10 : decode method_16_code 10 = .ok (.iload_n 3, 1) := by decide +kernel
theorem d_L_isCast_11 : decode method_16_code 11 = .ok (.ifCond .lt 25, 3) := by decide +kernel
theorem d_L_isCast_14 : decode method_16_code 14 = .ok (.aload_n 0, 1) := by decide +kernel
theorem d_L_isCast_15 : decode method_16_code 15 = .ok (.iload_n 3, 1) := by decide +kernel
theorem d_L_isCast_16 : decode method_16_code 16 = .ok (.iconst 2, 1) := by decide +kernel
theorem d_L_isCast_17 : decode method_16_code 17 = .ok (.invokevirtual 32, 3) := by decide +kernel
theorem d_L_isCast_20 : decode method_16_code 20 = .ok (.iconst 2, 1) := by decide +kernel
theorem d_L_isCast_21 : decode method_16_code 21 = .ok (.if_icmp .ne 7, 3) := by decide +kernel
theorem d_L_isCast_24 : decode method_16_code 24 = .ok (.iload_n 3, 1) := by decide +kernel
theorem d_L_isCast_25 : decode method_16_code 25 = .ok (.goto 4, 3) := by decide +kernel
theorem d_L_isCast_28 : decode method_16_code 28 = .ok (.iload_n 2, 1) := by decide +kernel
theorem d_L_isCast_29 : decode method_16_code 29 = .ok (.istore_n 2, 1) := by decide +kernel
theorem d_L_isCast_30 : decode method_16_code 30 = .ok (.iinc 3 (-1), 3) := by decide +kernel
theorem d_L_isCast_33 : decode method_16_code 33 = .ok (.goto (-23), 3) := by decide +kernel
theorem d_L_isCast_36 : decode method_16_code 36 = .ok (.aload_n 0, 1) := by decide +kernel
theorem d_L_isCast_37 : decode method_16_code 37 = .ok (.bipush 6, 2) := by decide +kernel
theorem d_L_isCast_39 : decode method_16_code 39 = .ok (.invokevirtual 28, 3) := by decide +kernel
theorem d_L_isCast_42 : decode method_16_code 42 = .ok (.istore_n 3, 1) := by decide +kernel
theorem d_L_isCast_43 : decode method_16_code 43 = .ok (.iload_n 2, 1) := by decide +kernel
theorem d_L_isCast_44 : decode method_16_code 44 = .ok (.ifCond .lt 21, 3) := by decide +kernel
theorem d_L_isCast_47 : decode method_16_code 47 = .ok (.iload_n 3, 1) := by decide +kernel
theorem d_L_isCast_48 : decode method_16_code 48 = .ok (.ifCond .lt 17, 3) := by decide +kernel
theorem d_L_isCast_51 : decode method_16_code 51 = .ok (.aload_n 0, 1) := by decide +kernel
theorem d_L_isCast_52 : decode method_16_code 52 = .ok (.iload_n 3, 1) := by decide +kernel
theorem d_L_isCast_53 : decode method_16_code 53 = .ok (.iload_n 2, 1) := by decide +kernel
theorem d_L_isCast_54 : decode method_16_code 54 = .ok (.iconst 5, 1) := by decide +kernel
theorem d_L_isCast_55 : decode method_16_code 55 = .ok (.invokevirtual 8, 3) := by decide +kernel
theorem d_L_isCast_58 : decode method_16_code 58 = .ok (.ifCond .ne 7, 3) := by decide +kernel
theorem d_L_isCast_61 : decode method_16_code 61 = .ok (.iconst 1, 1) := by decide +kernel
theorem d_L_isCast_62 : decode method_16_code 62 = .ok (.goto 4, 3) := by decide +kernel
theorem d_L_isCast_65 : decode method_16_code 65 = .ok (.iconst 0, 1) := by decide +kernel
theorem d_L_isCast_66 : decode method_16_code 66 = .ok (.istore 4, 2) := by decide +kernel
theorem d_L_isCast_68 : decode method_16_code 68 = .ok (.iload_n 3, 1) := by decide +kernel
theorem d_L_isCast_69 : decode method_16_code 69 = .ok (.ifCond .ge 7, 3) := by decide +kernel
theorem d_L_isCast_72 : decode method_16_code 72 = .ok (.iconst 0, 1) := by decide +kernel
theorem d_L_isCast_73 : decode method_16_code 73 = .ok (.goto 9, 3) := by decide +kernel
theorem d_L_isCast_76 : decode method_16_code 76 = .ok (.aload_n 0, 1) := by decide +kernel
theorem d_L_isCast_77 : decode method_16_code 77 = .ok (.iload_n 3, 1) := by decide +kernel
theorem d_L_isCast_78 : decode method_16_code 78 = .ok (.iconst 5, 1) := by decide +kernel
theorem d_L_isCast_79 : decode method_16_code 79 = .ok (.invokevirtual 14, 3) := by decide +kernel
theorem d_L_isCast_82 : decode method_16_code 82 = .ok (.istore 5, 2) := by decide +kernel
theorem d_L_isCast_84 : decode method_16_code 84 = .ok (.aload_n 0, 1) := by decide +kernel
theorem d_L_isCast_85 : decode method_16_code 85 = .ok (.iload_n 1, 1) := by decide +kernel
theorem d_L_isCast_86 : decode method_16_code 86 = .ok (.invokevirtual 72, 3) := by decide +kernel
theorem d_L_isCast_89 : decode method_16_code 89 = .ok (.istore 6, 2) := by decide +kernel
theorem d_L_isCast_91 : decode method_16_code 91 = .ok (.iload 4, 2) := by decide +kernel
theorem d_L_isCast_93 : decode method_16_code 93 = .ok (.ifCond .ne 30, 3) := by decide +kernel
theorem d_L_isCast_96 : decode method_16_code 96 = .ok (.iload 6, 2) := by decide +kernel
theorem d_L_isCast_98 : decode method_16_code 98 = .ok (.bipush (-5), 2) := by decide +kernel
theorem d_L_isCast_100 : decode method_16_code 100 = .ok (.if_icmp .ne 21, 3) := by decide +kernel
theorem d_L_isCast_103 : decode method_16_code 103 = .ok (.iload_n 2, 1) := by decide +kernel
theorem d_L_isCast_104 : decode method_16_code 104 = .ok (.ifCond .lt 13, 3) := by decide +kernel
theorem d_L_isCast_107 : decode method_16_code 107 = .ok (.aload_n 0, 1) := by decide +kernel
theorem d_L_isCast_108 : decode method_16_code 108 = .ok (.iload_n 2, 1) := by decide +kernel
theorem d_L_isCast_109 : decode method_16_code 109 = .ok (.iconst 2, 1) := by decide +kernel
theorem d_L_isCast_110 : decode method_16_code 110 = .ok (.invokevirtual 32, 3) := by decide +kernel
theorem d_L_isCast_113 : decode method_16_code 113 = .ok (.iconst 2, 1) := by decide +kernel
theorem d_L_isCast_114 : decode method_16_code 114 = .ok (.if_icmp .ne 7, 3) := by decide +kernel
theorem d_L_isCast_117 : decode method_16_code 117 = .ok (.iconst 1, 1) := by decide +kernel
theorem d_L_isCast_118 : decode method_16_code 118 = .ok (.goto 4, 3) := by decide +kernel
theorem d_L_isCast_121 : decode method_16_code 121 = .ok (.iconst 0, 1) := by decide +kernel
theorem d_L_isCast_122 : decode method_16_code 122 = .ok (.ireturn, 1) := by decide +kernel
theorem d_L_isCast_123 : decode method_16_code 123 = .ok (.iload 6, 2) := by decide +kernel
theorem d_L_isCast_125 : decode method_16_code 125 = .ok (.iconst 2, 1) := by decide +kernel
theorem d_L_isCast_126 : decode method_16_code 126 = .ok (.iload_n 1, 1) := by decide +kernel
theorem d_L_isCast_127 : decode method_16_code 127 = .ok (.iadd, 1) := by decide +kernel
theorem d_L_isCast_128 : decode method_16_code 128 = .ok (.if_icmp .ne 43, 3) := by decide +kernel
theorem d_L_isCast_131 : decode method_16_code 131 = .ok (.aload_n 0, 1) := by decide +kernel
theorem d_L_isCast_132 : decode method_16_code 132 = .ok (.iload_n 2, 1) := by decide +kernel
theorem d_L_isCast_133 : decode method_16_code 133 = .ok (.iconst 2, 1) := by decide +kernel
theorem d_L_isCast_134 : decode method_16_code 134 = .ok (.invokevirtual 32, 3) := by decide +kernel
theorem d_L_isCast_137 : decode method_16_code 137 = .ok (.iconst 2, 1) := by decide +kernel
theorem d_L_isCast_138 : decode method_16_code 138 = .ok (.iload_n 1, 1) := by decide +kernel
theorem d_L_isCast_139 : decode method_16_code 139 = .ok (.iadd, 1) := by decide +kernel
theorem d_L_isCast_140 : decode method_16_code 140 = .ok (.if_icmp .ne 31, 3) := by decide +kernel
theorem d_L_isCast_143 : decode method_16_code 143 = .ok (.aload_n 0, 1) := by decide +kernel
theorem d_L_isCast_144 : decode method_16_code 144 = .ok (.iload_n 2, 1) := by decide +kernel
theorem d_L_isCast_145 : decode method_16_code 145 = .ok (.bipush 9, 2) := by decide +kernel
theorem d_L_isCast_147 : decode method_16_code 147 = .ok (.invokevirtual 32, 3) := by decide +kernel
theorem d_L_isCast_150 : decode method_16_code 150 = .ok (.iload_n 3, 1) := by decide +kernel
theorem d_L_isCast_151 : decode method_16_code 151 = .ok (.if_icmp .ne 20, 3) := by decide +kernel
theorem d_L_isCast_154 : decode method_16_code 154 = .ok (.aload_n 0, 1) := by decide +kernel
theorem d_L_isCast_155 : decode method_16_code 155 = .ok (.iload_n 3, 1) := by decide +kernel
theorem d_L_isCast_156 : decode method_16_code 156 = .ok (.iconst 5, 1) := by decide +kernel
theorem d_L_isCast_157 : decode method_16_code 157 = .ok (.invokevirtual 14, 3) := by decide +kernel
theorem d_L_isCast_160 : decode method_16_code 160 = .ok (.iload 5, 2) := by decide +kernel
theorem d_L_isCast_162 : decode method_16_code 162 = .ok (.iconst 1, 1) := by decide +kernel
theorem d_L_isCast_163 : decode method_16_code 163 = .ok (.iadd, 1) := by decide +kernel
theorem d_L_isCast_164 : decode method_16_code 164 = .ok (.if_icmp .ne 7, 3) := by decide +kernel
theorem d_L_isCast_167 : decode method_16_code 167 = .ok (.iconst 1, 1) := by decide +kernel
theorem d_L_isCast_168 : decode method_16_code 168 = .ok (.goto 4, 3) := by decide +kernel
theorem d_L_isCast_171 : decode method_16_code 171 = .ok (.iconst 0, 1) := by decide +kernel
theorem d_L_isCast_172 : decode method_16_code 172 = .ok (.ireturn, 1) := by decide +kernel
theorem d_L_isPassed_0 : decode method_22_code 0 = .ok (.aload_n 0, 1) := by decide +kernel
theorem d_L_isPassed_1 : decode method_22_code 1 = .ok (.iconst 0, 1) := by decide +kernel
theorem d_L_isPassed_2 : decode method_22_code 2 = .ok (.invokevirtual 28, 3) := by decide +kernel
theorem d_L_isPassed_5 : decode method_22_code 5 = .ok (.istore_n 2, 1) := by decide +kernel
theorem d_L_isPassed_6 : decode method_22_code 6 = .ok (.aload_n 0, 1) := by decide +kernel
theorem d_L_isPassed_7 : decode method_22_code 7 = .ok (.iconst 3, 1) := by decide +kernel
theorem d_L_isPassed_8 : decode method_22_code 8 = .ok (.invokevirtual 28, 3) := by decide +kernel
theorem d_L_isPassed_11 : decode method_22_code 11 = .ok (.istore_n 3, 1) := by decide +kernel
theorem d_L_isPassed_12 : decode method_22_code 12 = .ok (.aload_n 0, 1) := by decide +kernel
theorem d_L_isPassed_13 : decode method_22_code 13 = .ok (.bipush 13, 2) := by decide +kernel
theorem d_L_isPassed_15 : decode method_22_code 15 = .ok (.invokevirtual 28, 3) := by decide +kernel
theorem d_L_isPassed_18 : decode method_22_code 18 = .ok (.istore 4, 2) := by decide +kernel
theorem d_L_isPassed_20 : decode method_22_code 20 = .ok (.aload_n 0, 1) := by decide +kernel
theorem d_L_isPassed_21 : decode method_22_code 21 = .ok (.iload_n 1, 1) := by decide +kernel
theorem d_L_isPassed_22 : decode method_22_code 22 = .ok (.invokevirtual 130, 3) := by decide +kernel
theorem d_L_isPassed_25 : decode method_22_code 25 = .ok (.iload_n 2, 1) := by decide +kernel
theorem d_L_isPassed_26 : decode method_22_code 26 = .ok (.iload_n 1, 1) := by decide +kernel
theorem d_L_isPassed_27 : decode method_22_code 27 = .ok (.iadd, 1) := by decide +kernel
theorem d_L_isPassed_28 : decode method_22_code 28 = .ok (.if_icmp .ne 63, 3) := by decide +kernel
theorem d_L_isPassed_31 : decode method_22_code 31 = .ok (.aload_n 0, 1) := by decide +kernel
theorem d_L_isPassed_32 : decode method_22_code 32 = .ok (.iconst 0, 1) := by decide +kernel
theorem d_L_isPassed_33 : decode method_22_code 33 = .ok (.invokevirtual 28, 3) := by decide +kernel
theorem d_L_isPassed_36 : decode method_22_code 36 = .ok (.iload_n 2, 1) := by decide +kernel
theorem d_L_isPassed_37 : decode method_22_code 37 = .ok (.iload_n 1, 1) := by decide +kernel
theorem d_L_isPassed_38 : decode method_22_code 38 = .ok (.iadd, 1) := by decide +kernel
theorem d_L_isPassed_39 : decode method_22_code 39 = .ok (.if_icmp .ne 52, 3) := by decide +kernel
theorem d_L_isPassed_42 : decode method_22_code 42 = .ok (.aload_n 0, 1) := by decide +kernel
theorem d_L_isPassed_43 : decode method_22_code 43 = .ok (.bipush 13, 2) := by decide +kernel
theorem d_L_isPassed_45 : decode method_22_code 45 = .ok (.invokevirtual 28, 3) := by decide +kernel
theorem d_L_isPassed_48 : decode method_22_code 48 = .ok (.iload 4, 2) := by decide +kernel
theorem d_L_isPassed_50 : decode method_22_code 50 = .ok (.if_icmp .gt 41, 3) := by decide +kernel
theorem d_L_isPassed_53 : decode method_22_code 53 = .ok (.aload_n 0, 1) := by decide +kernel
theorem d_L_isPassed_54 : decode method_22_code 54 = .ok (.bipush 13, 2) := by decide +kernel
theorem d_L_isPassed_56 : decode method_22_code 56 = .ok (.invokevirtual 28, 3) := by decide +kernel
theorem d_L_isPassed_59 : decode method_22_code 59 = .ok (.iload 4, 2) := by decide +kernel
theorem d_L_isPassed_61 : decode method_22_code 61 = .ok (.if_icmp .lt 12, 3) := by decide +kernel
theorem d_L_isPassed_64 : decode method_22_code 64 = .ok (.aload_n 0, 1) := by decide +kernel
theorem d_L_isPassed_65 : decode method_22_code 65 = .ok (.iconst 3, 1) := by decide +kernel
theorem d_L_isPassed_66 : decode method_22_code 66 = .ok (.invokevirtual 28, 3) := by decide +kernel
theorem d_L_isPassed_69 : decode method_22_code 69 = .ok (.iload_n 3, 1) := by decide +kernel
theorem d_L_isPassed_70 : decode method_22_code 70 = .ok (.if_icmp .ne 21, 3) := by decide +kernel
theorem d_L_isPassed_73 : decode method_22_code 73 = .ok (.iload_n 1, 1) := by decide +kernel
theorem d_L_isPassed_74 : decode method_22_code 74 = .ok (.iconst 5, 1) := by decide +kernel
theorem d_L_isPassed_75 : decode method_22_code 75 = .ok (.if_icmp .lt 12, 3) := by decide +kernel
theorem d_L_isPassed_78 : decode method_22_code 78 = .ok (.aload_n 0, 1) := by decide +kernel
theorem d_L_isPassed_79 : decode method_22_code 79 = .ok (.bipush 13, 2) := by decide +kernel
theorem d_L_isPassed_81 : decode method_22_code 81 = .ok (.invokevirtual 28, 3) := by decide +kernel
theorem d_L_isPassed_84 : decode method_22_code 84 = .ok (.ifCond .ne 7, 3) := by decide +kernel
theorem d_L_isPassed_87 : decode method_22_code 87 = .ok (.iconst 1, 1) := by decide +kernel
theorem d_L_isPassed_88 : decode method_22_code 88 = .ok (.goto 4, 3) := by decide +kernel
theorem d_L_isPassed_91 : decode method_22_code 91 = .ok (.iconst 0, 1) := by decide +kernel
theorem d_L_isPassed_92 : decode method_22_code 92 = .ok (.ireturn, 1) := by decide +kernel
theorem d_L_isAct_0 : decode method_21_code 0 = .ok (.aload_n 1, 1) := by decide +kernel
theorem d_L_isAct_1 : decode method_21_code 1 = .ok (.iload_n 2, 1) := by decide +kernel
theorem d_L_isAct_2 : decode method_21_code 2 = .ok (.iconst 1, 1) := by decide +kernel
theorem d_L_isAct_3 : decode method_21_code 3 = .ok (.iadd, 1) := by decide +kernel
theorem d_L_isAct_4 : decode method_21_code 4 = .ok (.aload_n 0, 1) := by decide +kernel
theorem d_L_isAct_5 : decode method_21_code 5 = .ok (.iconst 1, 1) := by decide +kernel
theorem d_L_isAct_6 : decode method_21_code 6 = .ok (.invokevirtual 28, 3) := by decide +kernel
theorem d_L_isAct_9 : decode method_21_code 9 = .ok (.invokestatic 93, 3) := by decide +kernel
theorem d_L_isAct_12 : decode method_21_code 12 = .ok (.istore_n 3, 1) := by decide +kernel
theorem d_L_isAct_13 : decode method_21_code 13 = .ok (.aload_n 1, 1) := by decide +kernel
theorem d_L_isAct_14 : decode method_21_code 14 = .ok (.iload_n 2, 1) := by decide +kernel
theorem d_L_isAct_15 : decode method_21_code 15 = .ok (.iconst 2, 1) := by decide +kernel
theorem d_L_isAct_16 : decode method_21_code 16 = .ok (.iadd, 1) := by decide +kernel
theorem d_L_isAct_17 : decode method_21_code 17 = .ok (.aload_n 0, 1) := by decide +kernel
theorem d_L_isAct_18 : decode method_21_code 18 = .ok (.iconst 2, 1) := by decide +kernel
theorem d_L_isAct_19 : decode method_21_code 19 = .ok (.invokevirtual 28, 3) := by decide +kernel
theorem d_L_isAct_22 : decode method_21_code 22 = .ok (.invokestatic 93, 3) := by decide +kernel
theorem d_L_isAct_25 : decode method_21_code 25 = .ok (.istore 4, 2) := by decide +kernel
theorem d_L_isAct_27 : decode method_21_code 27 = .ok (.aload_n 1, 1) := by decide +kernel
theorem d_L_isAct_28 : decode method_21_code 28 = .ok (.iload_n 2, 1) := by decide +kernel
theorem d_L_isAct_29 : decode method_21_code 29 = .ok (.bipush 16, 2) := by decide +kernel
theorem d_L_isAct_31 : decode method_21_code 31 = .ok (.invokestatic 93, 3) := by decide +kernel
theorem d_L_isAct_34 : decode method_21_code 34 = .ok (.tableswitch 305 0 14 #[74, 74, 96, 96, 149, 182, 198, 198, 205, 205, 205, 205, 219, 224, 239], 74) := by decide +kernel
theorem d_L_isAct_108 : decode method_21_code 108 = .ok (.aload_n 0, 1) := by decide +kernel
theorem d_L_isAct_109 : decode method_21_code 109 = .ok (.iload_n 3, 1) := by decide +kernel
theorem d_L_isAct_110 : decode method_21_code 110 = .ok (.aload_n 1, 1) := by decide +kernel
theorem d_L_isAct_111 : decode method_21_code 111 = .ok (.iload_n 2, 1) := by decide +kernel
theorem d_L_isAct_112 : decode method_21_code 112 = .ok (.iconst 3, 1) := by decide +kernel
theorem d_L_isAct_113 : decode method_21_code 113 = .ok (.iadd, 1) := by decide +kernel
theorem d_L_isAct_114 : decode method_21_code 114 = .ok (.iconst 3, 1) := by decide +kernel
theorem d_L_isAct_115 : decode method_21_code 115 = .ok (.invokestatic 93, 3) := by decide +kernel
theorem d_L_isAct_118 : decode method_21_code 118 = .ok (.ifCond .ne 7, 3) := by decide +kernel
theorem d_L_isAct_121 : decode method_21_code 121 = .ok (.iconst 0, 1) := by decide +kernel
theorem d_L_isAct_122 : decode method_21_code 122 = .ok (.goto 4, 3) := by decide +kernel
theorem d_L_isAct_125 : decode method_21_code 125 = .ok (.iconst 1, 1) := by decide +kernel
theorem d_L_isAct_126 : decode method_21_code 126 = .ok (.invokestatic 97, 3) := by decide +kernel
theorem d_L_isAct_129 : decode method_21_code 129 = .ok (.ireturn, 1) := by decide +kernel
theorem d_L_isAct_130 : decode method_21_code 130 = .ok (.aload_n 0, 1) := by decide +kernel
theorem d_L_isAct_131 : decode method_21_code 131 = .ok (.iload_n 3, 1) := by decide +kernel
theorem d_L_isAct_132 : decode method_21_code 132 = .ok (.aload_n 1, 1) := by decide +kernel
theorem d_L_isAct_133 : decode method_21_code 133 = .ok (.iload_n 2, 1) := by decide +kernel
theorem d_L_isAct_134 : decode method_21_code 134 = .ok (.iconst 3, 1) := by decide +kernel
theorem d_L_isAct_135 : decode method_21_code 135 = .ok (.iadd, 1) := by decide +kernel
theorem d_L_isAct_136 : decode method_21_code 136 = .ok (.iconst 2, 1) := by decide +kernel
theorem d_L_isAct_137 : decode method_21_code 137 = .ok (.invokestatic 93, 3) := by decide +kernel
theorem d_L_isAct_140 : decode method_21_code 140 = .ok (.ifCond .ne 8, 3) := by decide +kernel
theorem d_L_isAct_143 : decode method_21_code 143 = .ok (.bipush (-6), 2) := by decide +kernel
theorem d_L_isAct_145 : decode method_21_code 145 = .ok (.goto 5, 3) := by decide +kernel
theorem d_L_isAct_148 : decode method_21_code 148 = .ok (.iload 4, 2) := by decide +kernel
theorem d_L_isAct_150 : decode method_21_code 150 = .ok (.aload_n 1, 1) := by decide +kernel
theorem d_L_isAct_151 : decode method_21_code 151 = .ok (.iload_n 2, 1) := by decide +kernel
theorem d_L_isAct_152 : decode method_21_code 152 = .ok (.iconst 4, 1) := by decide +kernel
theorem d_L_isAct_153 : decode method_21_code 153 = .ok (.iadd, 1) := by decide +kernel
theorem d_L_isAct_154 : decode method_21_code 154 = .ok (.bipush 6, 2) := by decide +kernel
theorem d_L_isAct_156 : decode method_21_code 156 = .ok (.invokestatic 93, 3) := by decide +kernel
theorem d_L_isAct_159 : decode method_21_code 159 = .ok (.ifCond .ne 8, 3) := by decide +kernel
theorem d_L_isAct_162 : decode method_21_code 162 = .ok (.bipush (-6), 2) := by decide +kernel
theorem d_L_isAct_164 : decode method_21_code 164 = .ok (.goto 15, 3) := by decide +kernel
theorem d_L_isAct_167 : decode method_21_code 167 = .ok (.aload_n 1, 1) := by decide +kernel
theorem d_L_isAct_168 : decode method_21_code 168 = .ok (.iload_n 2, 1) := by decide +kernel
theorem d_L_isAct_169 : decode method_21_code 169 = .ok (.iconst 4, 1) := by decide +kernel
theorem d_L_isAct_170 : decode method_21_code 170 = .ok (.iadd, 1) := by decide +kernel
theorem d_L_isAct_171 : decode method_21_code 171 = .ok (.aload_n 0, 1) := by decide +kernel
theorem d_L_isAct_172 : decode method_21_code 172 = .ok (.iconst 1, 1) := by decide +kernel
theorem d_L_isAct_173 : decode method_21_code 173 = .ok (.invokevirtual 28, 3) := by decide +kernel
theorem d_L_isAct_176 : decode method_21_code 176 = .ok (.invokestatic 93, 3) := by decide +kernel
theorem d_L_isAct_179 : decode method_21_code 179 = .ok (.invokestatic 101, 3) := by decide +kernel
theorem d_L_isAct_182 : decode method_21_code 182 = .ok (.ireturn, 1) := by decide +kernel
theorem d_L_isAct_183 : decode method_21_code 183 = .ok (.aload_n 0, 1) := by decide +kernel
theorem d_L_isAct_184 : decode method_21_code 184 = .ok (.iload_n 3, 1) := by decide +kernel
theorem d_L_isAct_185 : decode method_21_code 185 = .ok (.iload 4, 2) := by decide +kernel
theorem d_L_isAct_187 : decode method_21_code 187 = .ok (.aload_n 1, 1) := by decide +kernel
theorem d_L_isAct_188 : decode method_21_code 188 = .ok (.iload_n 2, 1) := by decide +kernel
theorem d_L_isAct_189 : decode method_21_code 189 = .ok (.iconst 3, 1) := by decide +kernel
theorem d_L_isAct_190 : decode method_21_code 190 = .ok (.iadd, 1) := by decide +kernel
theorem d_L_isAct_191 : decode method_21_code 191 = .ok (.iconst 4, 1) := by decide +kernel
theorem d_L_isAct_192 : decode method_21_code 192 = .ok (.invokestatic 93, 3) := by decide +kernel
theorem d_L_isAct_195 : decode method_21_code 195 = .ok (.iconst 3, 1) := by decide +kernel
theorem d_L_isAct_196 : decode method_21_code 196 = .ok (.if_icmp .ne 8, 3) := by decide +kernel
theorem d_L_isAct_199 : decode method_21_code 199 = .ok (.bipush (-6), 2) := by decide +kernel
theorem d_L_isAct_201 : decode method_21_code 201 = .ok (.goto 11, 3) := by decide +kernel
theorem d_L_isAct_204 : decode method_21_code 204 = .ok (.aload_n 1, 1) := by decide +kernel
theorem d_L_isAct_205 : decode method_21_code 205 = .ok (.iload_n 2, 1) := by decide +kernel
theorem d_L_isAct_206 : decode method_21_code 206 = .ok (.iconst 3, 1) := by decide +kernel
theorem d_L_isAct_207 : decode method_21_code 207 = .ok (.iadd, 1) := by decide +kernel
theorem d_L_isAct_208 : decode method_21_code 208 = .ok (.iconst 3, 1) := by decide +kernel
theorem d_L_isAct_209 : decode method_21_code 209 = .ok (.invokestatic 93, 3) := by decide +kernel
theorem d_L_isAct_212 : decode method_21_code 212 = .ok (.invokestatic 105, 3) := by decide +kernel
theorem d_L_isAct_215 : decode method_21_code 215 = .ok (.ireturn, 1) := by decide +kernel
theorem d_L_isAct_216 : decode method_21_code 216 = .ok (.aload_n 0, 1) := by decide +kernel
theorem d_L_isAct_217 : decode method_21_code 217 = .ok (.iload_n 3, 1) := by decide +kernel
theorem d_L_isAct_218 : decode method_21_code 218 = .ok (.iload 4, 2) := by decide +kernel
theorem d_L_isAct_220 : decode method_21_code 220 = .ok (.aload_n 1, 1) := by decide +kernel
theorem d_L_isAct_221 : decode method_21_code 221 = .ok (.iload_n 2, 1) := by decide +kernel
theorem d_L_isAct_222 : decode method_21_code 222 = .ok (.iconst 3, 1) := by decide +kernel
theorem d_L_isAct_223 : decode method_21_code 223 = .ok (.iadd, 1) := by decide +kernel
theorem d_L_isAct_224 : decode method_21_code 224 = .ok (.iconst 2, 1) := by decide +kernel
theorem d_L_isAct_225 : decode method_21_code 225 = .ok (.invokestatic 93, 3) := by decide +kernel
theorem d_L_isAct_228 : decode method_21_code 228 = .ok (.invokestatic 108, 3) := by decide +kernel
theorem d_L_isAct_231 : decode method_21_code 231 = .ok (.ireturn, 1) := by decide +kernel
theorem d_L_isAct_232 : decode method_21_code 232 = .ok (.aload_n 0, 1) := by decide +kernel
theorem d_L_isAct_233 : decode method_21_code 233 = .ok (.iload 4, 2) := by decide +kernel
theorem d_L_isAct_235 : decode method_21_code 235 = .ok (.invokestatic 111, 3) := by decide +kernel
theorem d_L_isAct_238 : decode method_21_code 238 = .ok (.ireturn, 1) := by decide +kernel
theorem d_L_isAct_239 : decode method_21_code 239 = .ok (.aload_n 0, 1) := by decide +kernel
theorem d_L_isAct_240 : decode method_21_code 240 = .ok (.iload_n 3, 1) := by decide +kernel
theorem d_L_isAct_241 : decode method_21_code 241 = .ok (.aload_n 1, 1) := by decide +kernel
theorem d_L_isAct_242 : decode method_21_code 242 = .ok (.iload_n 2, 1) := by decide +kernel
theorem d_L_isAct_243 : decode method_21_code 243 = .ok (.iconst 3, 1) := by decide +kernel
theorem d_L_isAct_244 : decode method_21_code 244 = .ok (.iadd, 1) := by decide +kernel
theorem d_L_isAct_245 : decode method_21_code 245 = .ok (.iconst 3, 1) := by decide +kernel
theorem d_L_isAct_246 : decode method_21_code 246 = .ok (.invokestatic 93, 3) := by decide +kernel
theorem d_L_isAct_249 : decode method_21_code 249 = .ok (.invokestatic 114, 3) := by decide +kernel
theorem d_L_isAct_252 : decode method_21_code 252 = .ok (.ireturn, 1) := by decide +kernel
theorem d_L_isAct_253 : decode method_21_code 253 = .ok (.aload_n 0, 1) := by decide +kernel
theorem d_L_isAct_254 : decode method_21_code 254 = .ok (.invokestatic 117, 3) := by decide +kernel
theorem d_L_isAct_257 : decode method_21_code 257 = .ok (.ireturn, 1) := by decide +kernel
theorem d_L_isAct_258 : decode method_21_code 258 = .ok (.aload_n 0, 1) := by decide +kernel
theorem d_L_isAct_259 : decode method_21_code 259 = .ok (.iconst 1, 1) := by decide +kernel
theorem d_L_isAct_260 : decode method_21_code 260 = .ok (.aload_n 1, 1) := by decide +kernel
theorem d_L_isAct_261 : decode method_21_code 261 = .ok (.iload_n 2, 1) := by decide +kernel
theorem d_L_isAct_262 : decode method_21_code 262 = .ok (.iconst 3, 1) := by decide +kernel
theorem d_L_isAct_263 : decode method_21_code 263 = .ok (.iadd, 1) := by decide +kernel
theorem d_L_isAct_264 : decode method_21_code 264 = .ok (.iconst 2, 1) := by decide +kernel
theorem d_L_isAct_265 : decode method_21_code 265 = .ok (.invokestatic 93, 3) := by decide +kernel
theorem d_L_isAct_268 : decode method_21_code 268 = .ok (.iadd, 1) := by decide +kernel
theorem d_L_isAct_269 : decode method_21_code 269 = .ok (.invokestatic 121, 3) := by decide +kernel
theorem d_L_isAct_272 : decode method_21_code 272 = .ok (.ireturn, 1) := by decide +kernel
theorem d_L_isAct_273 : decode method_21_code 273 = .ok (.aload_n 0, 1) := by decide +kernel
theorem d_L_isAct_274 : decode method_21_code 274 = .ok (.iconst 0, 1) := by decide +kernel
theorem d_L_isAct_275 : decode method_21_code 275 = .ok (.invokevirtual 28, 3) := by decide +kernel
theorem d_L_isAct_278 : decode method_21_code 278 = .ok (.istore 5, 2) := by decide +kernel
theorem d_L_isAct_280 : decode method_21_code 280 = .ok (.aload_n 0, 1) := by decide +kernel
theorem d_L_isAct_281 : decode method_21_code 281 = .ok (.bipush 13, 2) := by decide +kernel
theorem d_L_isAct_283 : decode method_21_code 283 = .ok (.invokevirtual 28, 3) := by decide +kernel
theorem d_L_isAct_286 : decode method_21_code 286 = .ok (.istore 6, 2) := by decide +kernel
theorem d_L_isAct_288 : decode method_21_code 288 = .ok (.aload_n 0, 1) := by decide +kernel
theorem d_L_isAct_289 : decode method_21_code 289 = .ok (.iload 5, 2) := by decide +kernel
theorem d_L_isAct_291 : decode method_21_code 291 = .ok (.iconst 1, 1) := by decide +kernel
theorem d_L_isAct_292 : decode method_21_code 292 = .ok (.iadd, 1) := by decide +kernel
theorem d_L_isAct_293 : decode method_21_code 293 = .ok (.aload_n 1, 1) := by decide +kernel
theorem d_L_isAct_294 : decode method_21_code 294 = .ok (.iload_n 2, 1) := by decide +kernel
theorem d_L_isAct_295 : decode method_21_code 295 = .ok (.iconst 3, 1) := by decide +kernel
theorem d_L_isAct_296 : decode method_21_code 296 = .ok (.iadd, 1) := by decide +kernel
theorem d_L_isAct_297 : decode method_21_code 297 = .ok (.iconst 5, 1) := by decide +kernel
theorem d_L_isAct_298 : decode method_21_code 298 = .ok (.invokestatic 93, 3) := by decide +kernel
theorem d_L_isAct_301 : decode method_21_code 301 = .ok (.iadd, 1) := by decide +kernel
theorem d_L_isAct_302 : decode method_21_code 302 = .ok (.iload_n 3, 1) := by decide +kernel
theorem d_L_isAct_303 : decode method_21_code 303 = .ok (.aload_n 1, 1) := by decide +kernel
theorem d_L_isAct_304 : decode method_21_code 304 = .ok (.iload_n 2, 1) := by decide +kernel
theorem d_L_isAct_305 : decode method_21_code 305 = .ok (.iconst 4, 1) := by decide +kernel
theorem d_L_isAct_306 : decode method_21_code 306 = .ok (.iadd, 1) := by decide +kernel
theorem d_L_isAct_307 : decode method_21_code 307 = .ok (.iconst 2, 1) := by decide +kernel
theorem d_L_isAct_308 : decode method_21_code 308 = .ok (.invokestatic 93, 3) := by decide +kernel
theorem d_L_isAct_311 : decode method_21_code 311 = .ok (.invokevirtual 124, 3) := by decide +kernel
theorem d_L_isAct_314 : decode method_21_code 314 = .ok (.iload 6, 2) := by decide +kernel
theorem d_L_isAct_316 : decode method_21_code 316 = .ok (.bipush 20, 2) := by decide +kernel
theorem d_L_isAct_318 : decode method_21_code 318 = .ok (.if_icmp .ne 8, 3) := by decide +kernel
theorem d_L_isAct_321 : decode method_21_code 321 = .ok (.bipush (-4), 2) := by decide +kernel
theorem d_L_isAct_323 : decode method_21_code 323 = .ok (.goto 7, 3) := by decide +kernel
theorem d_L_isAct_326 : decode method_21_code 326 = .ok (.iload 6, 2) := by decide +kernel
theorem d_L_isAct_328 : decode method_21_code 328 = .ok (.iconst 1, 1) := by decide +kernel
theorem d_L_isAct_329 : decode method_21_code 329 = .ok (.iadd, 1) := by decide +kernel
theorem d_L_isAct_330 : decode method_21_code 330 = .ok (.if_icmp .ne 7, 3) := by decide +kernel
theorem d_L_isAct_333 : decode method_21_code 333 = .ok (.iconst 1, 1) := by decide +kernel
theorem d_L_isAct_334 : decode method_21_code 334 = .ok (.goto 4, 3) := by decide +kernel
theorem d_L_isAct_337 : decode method_21_code 337 = .ok (.iconst 0, 1) := by decide +kernel
theorem d_L_isAct_338 : decode method_21_code 338 = .ok (.ireturn, 1) := by decide +kernel
theorem d_L_isAct_339 : decode method_21_code 339 = .ok (.aload_n 0, 1) := by decide +kernel
theorem d_L_isAct_340 : decode method_21_code 340 = .ok (.iconst 1, 1) := by decide +kernel
theorem d_L_isAct_341 : decode method_21_code 341 = .ok (.aload_n 1, 1) := by decide +kernel
theorem d_L_isAct_342 : decode method_21_code 342 = .ok (.iload_n 2, 1) := by decide +kernel
theorem d_L_isAct_343 : decode method_21_code 343 = .ok (.iconst 3, 1) := by decide +kernel
theorem d_L_isAct_344 : decode method_21_code 344 = .ok (.iadd, 1) := by decide +kernel
theorem d_L_isAct_345 : decode method_21_code 345 = .ok (.bipush 60, 2) := by decide +kernel
theorem d_L_isAct_347 : decode method_21_code 347 = .ok (.invokestatic 93, 3) := by decide +kernel
theorem d_L_isAct_350 : decode method_21_code 350 = .ok (.iadd, 1) := by decide +kernel
theorem d_L_isAct_351 : decode method_21_code 351 = .ok (.invokestatic 127, 3) := by decide +kernel
theorem d_L_isAct_354 : decode method_21_code 354 = .ok (.ireturn, 1) := by decide +kernel
theorem d_L_law_0 : decode code 0 = .ok (.new 9, 3) := by decide +kernel
theorem d_L_law_3 : decode code 3 = .ok (.dup, 1) := by decide +kernel
theorem d_L_law_4 : decode code 4 = .ok (.invokespecial 133, 3) := by decide +kernel
theorem d_L_law_7 : decode code 7 = .ok (.astore_n 1, 1) := by decide +kernel
theorem d_L_law_8 : decode code 8 = .ok (.aload_n 1, 1) := by decide +kernel
theorem d_L_law_9 : decode code 9 = .ok (.iconst 0, 1) := by decide +kernel
theorem d_L_law_10 : decode code 10 = .ok (.aload_n 0, 1) := by decide +kernel
theorem d_L_law_11 : decode code 11 = .ok (.iconst 0, 1) := by decide +kernel
theorem d_L_law_12 : decode code 12 = .ok (.bipush 70, 2) := by decide +kernel
theorem d_L_law_14 : decode code 14 = .ok (.invokestatic 93, 3) := by decide +kernel
theorem d_L_law_17 : decode code 17 = .ok (.invokevirtual 134, 3) := by decide +kernel
theorem d_L_law_20 : decode code 20 = .ok (.pop, 1) := by decide +kernel
theorem d_L_law_21 : decode code 21 = .ok (.aload_n 1, 1) := by decide +kernel
theorem d_L_law_22 : decode code 22 = .ok (.iconst 1, 1) := by decide +kernel
theorem d_L_law_23 : decode code 23 = .ok (.aload_n 0, 1) := by decide +kernel
theorem d_L_law_24 : decode code 24 = .ok (.iconst 1, 1) := by decide +kernel
theorem d_L_law_25 : decode code 25 = .ok (.bipush 50, 2) := by decide +kernel
theorem d_L_law_27 : decode code 27 = .ok (.invokestatic 93, 3) := by decide +kernel
theorem d_L_law_30 : decode code 30 = .ok (.invokevirtual 134, 3) := by decide +kernel
theorem d_L_law_33 : decode code 33 = .ok (.pop, 1) := by decide +kernel
theorem d_L_law_34 : decode code 34 = .ok (.aload_n 1, 1) := by decide +kernel
theorem d_L_law_35 : decode code 35 = .ok (.iconst 2, 1) := by decide +kernel
theorem d_L_law_36 : decode code 36 = .ok (.aload_n 0, 1) := by decide +kernel
theorem d_L_law_37 : decode code 37 = .ok (.iconst 2, 1) := by decide +kernel
theorem d_L_law_38 : decode code 38 = .ok (.sipush 200, 3) := by decide +kernel
theorem d_L_law_41 : decode code 41 = .ok (.invokestatic 93, 3) := by decide +kernel
theorem d_L_law_44 : decode code 44 = .ok (.invokevirtual 134, 3) := by decide +kernel
theorem d_L_law_47 : decode code 47 = .ok (.pop, 1) := by decide +kernel
theorem d_L_law_48 : decode code 48 = .ok (.aload_n 1, 1) := by decide +kernel
theorem d_L_law_49 : decode code 49 = .ok (.iconst 3, 1) := by decide +kernel
theorem d_L_law_50 : decode code 50 = .ok (.aload_n 0, 1) := by decide +kernel
theorem d_L_law_51 : decode code 51 = .ok (.iconst 3, 1) := by decide +kernel
theorem d_L_law_52 : decode code 52 = .ok (.iconst 5, 1) := by decide +kernel
theorem d_L_law_53 : decode code 53 = .ok (.invokestatic 93, 3) := by decide +kernel
theorem d_L_law_56 : decode code 56 = .ok (.invokevirtual 134, 3) := by decide +kernel
theorem d_L_law_59 : decode code 59 = .ok (.pop, 1) := by decide +kernel
theorem d_L_law_60 : decode code 60 = .ok (.aload_n 1, 1) := by decide +kernel
theorem d_L_law_61 : decode code 61 = .ok (.iconst 4, 1) := by decide +kernel
theorem d_L_law_62 : decode code 62 = .ok (.aload_n 0, 1) := by decide +kernel
theorem d_L_law_63 : decode code 63 = .ok (.iconst 4, 1) := by decide +kernel
theorem d_L_law_64 : decode code 64 = .ok (.iconst 4, 1) := by decide +kernel
theorem d_L_law_65 : decode code 65 = .ok (.invokestatic 93, 3) := by decide +kernel
theorem d_L_law_68 : decode code 68 = .ok (.ifCond .ne 7, 3) := by decide +kernel
theorem d_L_law_71 : decode code 71 = .ok (.iconst 0, 1) := by decide +kernel
theorem d_L_law_72 : decode code 72 = .ok (.goto 4, 3) := by decide +kernel
theorem d_L_law_75 : decode code 75 = .ok (.iconst 1, 1) := by decide +kernel
theorem d_L_law_76 : decode code 76 = .ok (.invokevirtual 134, 3) := by decide +kernel
theorem d_L_law_79 : decode code 79 = .ok (.pop, 1) := by decide +kernel
theorem d_L_law_80 : decode code 80 = .ok (.aload_n 1, 1) := by decide +kernel
theorem d_L_law_81 : decode code 81 = .ok (.iconst 5, 1) := by decide +kernel
theorem d_L_law_82 : decode code 82 = .ok (.aload_n 0, 1) := by decide +kernel
theorem d_L_law_83 : decode code 83 = .ok (.iconst 5, 1) := by decide +kernel
theorem d_L_law_84 : decode code 84 = .ok (.iconst 4, 1) := by decide +kernel
theorem d_L_law_85 : decode code 85 = .ok (.invokestatic 93, 3) := by decide +kernel
theorem d_L_law_88 : decode code 88 = .ok (.ifCond .ne 7, 3) := by decide +kernel
theorem d_L_law_91 : decode code 91 = .ok (.iconst 0, 1) := by decide +kernel
theorem d_L_law_92 : decode code 92 = .ok (.goto 4, 3) := by decide +kernel
theorem d_L_law_95 : decode code 95 = .ok (.iconst 1, 1) := by decide +kernel
theorem d_L_law_96 : decode code 96 = .ok (.invokevirtual 134, 3) := by decide +kernel
theorem d_L_law_99 : decode code 99 = .ok (.pop, 1) := by decide +kernel
theorem d_L_law_100 : decode code 100 = .ok (.iconst 3, 1) := by decide +kernel
theorem d_L_law_101 : decode code 101 = .ok (.aload_n 0, 1) := by decide +kernel
theorem d_L_law_102 : decode code 102 = .ok (.bipush 6, 2) := by decide +kernel
theorem d_L_law_104 : decode code 104 = .ok (.bipush 6, 2) := by decide +kernel
theorem d_L_law_106 : decode code 106 = .ok (.invokestatic 93, 3) := by decide +kernel
theorem d_L_law_109 : decode code 109 = .ok (.iadd, 1) := by decide +kernel
theorem d_L_law_110 : decode code 110 = .ok (.istore_n 2, 1) := by decide +kernel
theorem d_L_law_111 : decode code 111 = .ok (.iconst 0, 1) := by decide +kernel
theorem d_L_law_112 : decode code 112 = .ok (.istore_n 3, 1) := by decide +kernel
theorem d_L_law_113 : decode code 113 = .ok (.iload_n 3, 1) := by decide +kernel
theorem d_L_law_114 : decode code 114 = .ok (.iload_n 2, 1) := by decide +kernel
theorem d_L_law_115 : decode code 115 = .ok (.if_icmp .ge 51, 3) := by decide +kernel
theorem d_L_law_118 : decode code 118 = .ok (.aload_n 1, 1) := by decide +kernel
theorem d_L_law_119 : decode code 119 = .ok (.iconst 1, 1) := by decide +kernel
theorem d_L_law_120 : decode code 120 = .ok (.aload_n 0, 1) := by decide +kernel
theorem d_L_law_121 : decode code 121 = .ok (.bipush 7, 2) := by decide +kernel
theorem d_L_law_123 : decode code 123 = .ok (.iload_n 3, 1) := by decide +kernel
theorem d_L_law_124 : decode code 124 = .ok (.iadd, 1) := by decide +kernel
theorem d_L_law_125 : decode code 125 = .ok (.bipush 9, 2) := by decide +kernel
theorem d_L_law_127 : decode code 127 = .ok (.invokestatic 93, 3) := by decide +kernel
theorem d_L_law_130 : decode code 130 = .ok (.iadd, 1) := by decide +kernel
theorem d_L_law_131 : decode code 131 = .ok (.aload_n 0, 1) := by decide +kernel
theorem d_L_law_132 : decode code 132 = .ok (.bipush 19, 2) := by decide +kernel
theorem d_L_law_134 : decode code 134 = .ok (.iload_n 3, 1) := by decide +kernel
theorem d_L_law_135 : decode code 135 = .ok (.iadd, 1) := by decide +kernel
theorem d_L_law_136 : decode code 136 = .ok (.iconst 4, 1) := by decide +kernel
theorem d_L_law_137 : decode code 137 = .ok (.invokestatic 93, 3) := by decide +kernel
theorem d_L_law_140 : decode code 140 = .ok (.invokevirtual 137, 3) := by decide +kernel
theorem d_L_law_143 : decode code 143 = .ok (.iload_n 3, 1) := by decide +kernel
theorem d_L_law_144 : decode code 144 = .ok (.if_icmp .ne 14, 3) := by decide +kernel
theorem d_L_law_147 : decode code 147 = .ok (.aload_n 1, 1) := by decide +kernel
theorem d_L_law_148 : decode code 148 = .ok (.iload_n 3, 1) := by decide +kernel
theorem d_L_law_149 : decode code 149 = .ok (.iconst 3, 1) := by decide +kernel
theorem d_L_law_150 : decode code 150 = .ok (.invokevirtual 14, 3) := by decide +kernel
theorem d_L_law_153 : decode code 153 = .ok (.bipush (-6), 2) := by decide +kernel
theorem d_L_law_155 : decode code 155 = .ok (.if_icmp .eq 5, 3) := by decide +kernel
theorem d_L_law_158 : decode code 158 = .ok (.iconst 0, 1) := by decide +kernel
theorem d_L_law_159 : decode code 159 = .ok (.ireturn, 1) := by decide +kernel
theorem d_L_law_160 : decode code 160 = .ok (.iinc 3 1, 3) := by decide +kernel
theorem d_L_law_163 : decode code 163 = .ok (.goto (-50), 3) := by decide +kernel
theorem d_L_law_166 : decode code 166 = .ok (.iconst 0, 1) := by decide +kernel
theorem d_L_law_167 : decode code 167 = .ok (.istore_n 3, 1) := by decide +kernel
theorem d_L_law_168 : decode code 168 = .ok (.iload_n 3, 1) := by decide +kernel
theorem d_L_law_169 : decode code 169 = .ok (.iconst 4, 1) := by decide +kernel
theorem d_L_law_170 : decode code 170 = .ok (.if_icmp .ge 54, 3) := by decide +kernel
theorem d_L_law_173 : decode code 173 = .ok (.aload_n 1, 1) := by decide +kernel
theorem d_L_law_174 : decode code 174 = .ok (.aload_n 0, 1) := by decide +kernel
theorem d_L_law_175 : decode code 175 = .ok (.bipush 31, 2) := by decide +kernel
theorem d_L_law_177 : decode code 177 = .ok (.iload_n 3, 1) := by decide +kernel
theorem d_L_law_178 : decode code 178 = .ok (.iadd, 1) := by decide +kernel
theorem d_L_law_179 : decode code 179 = .ok (.iconst 3, 1) := by decide +kernel
theorem d_L_law_180 : decode code 180 = .ok (.invokestatic 93, 3) := by decide +kernel
theorem d_L_law_183 : decode code 183 = .ok (.aload_n 0, 1) := by decide +kernel
theorem d_L_law_184 : decode code 184 = .ok (.bipush 35, 2) := by decide +kernel
theorem d_L_law_186 : decode code 186 = .ok (.iload_n 3, 1) := by decide +kernel
theorem d_L_law_187 : decode code 187 = .ok (.iadd, 1) := by decide +kernel
theorem d_L_law_188 : decode code 188 = .ok (.iconst 3, 1) := by decide +kernel
theorem d_L_law_189 : decode code 189 = .ok (.invokestatic 93, 3) := by decide +kernel
theorem d_L_law_192 : decode code 192 = .ok (.ifCond .ne 16, 3) := by decide +kernel
theorem d_L_law_195 : decode code 195 = .ok (.aload_n 0, 1) := by decide +kernel
theorem d_L_law_196 : decode code 196 = .ok (.bipush 39, 2) := by decide +kernel
theorem d_L_law_198 : decode code 198 = .ok (.iload_n 3, 1) := by decide +kernel
theorem d_L_law_199 : decode code 199 = .ok (.iadd, 1) := by decide +kernel
theorem d_L_law_200 : decode code 200 = .ok (.bipush 16, 2) := by decide +kernel
theorem d_L_law_202 : decode code 202 = .ok (.invokestatic 93, 3) := by decide +kernel
theorem d_L_law_205 : decode code 205 = .ok (.goto 4, 3) := by decide +kernel
theorem d_L_law_208 : decode code 208 = .ok (.iconst 0, 1) := by decide +kernel
theorem d_L_law_209 : decode code 209 = .ok (.invokevirtual 140, 3) := by decide +kernel
theorem d_L_law_212 : decode code 212 = .ok (.iload_n 3, 1) := by decide +kernel
theorem d_L_law_213 : decode code 213 = .ok (.if_icmp .eq 5, 3) := by decide +kernel
theorem d_L_law_216 : decode code 216 = .ok (.iconst 0, 1) := by decide +kernel
theorem d_L_law_217 : decode code 217 = .ok (.ireturn, 1) := by decide +kernel
theorem d_L_law_218 : decode code 218 = .ok (.iinc 3 1, 3) := by decide +kernel
theorem d_L_law_221 : decode code 221 = .ok (.goto (-53), 3) := by decide +kernel
theorem d_L_law_224 : decode code 224 = .ok (.aload_n 1, 1) := by decide +kernel
theorem d_L_law_225 : decode code 225 = .ok (.aload_n 0, 1) := by decide +kernel
theorem d_L_law_226 : decode code 226 = .ok (.bipush 43, 2) := by decide +kernel
theorem d_L_law_228 : decode code 228 = .ok (.iload_n 2, 1) := by decide +kernel
theorem d_L_law_229 : decode code 229 = .ok (.invokestatic 93, 3) := by decide +kernel
theorem d_L_law_232 : decode code 232 = .ok (.invokevirtual 143, 3) := by decide +kernel
theorem d_L_law_235 : decode code 235 = .ok (.pop, 1) := by decide +kernel
theorem d_L_law_236 : decode code 236 = .ok (.iconst 0, 1) := by decide +kernel
theorem d_L_law_237 : decode code 237 = .ok (.istore_n 3, 1) := by decide +kernel
theorem d_L_law_238 : decode code 238 = .ok (.iload_n 3, 1) := by decide +kernel
theorem d_L_law_239 : decode code 239 = .ok (.bipush 56, 2) := by decide +kernel
theorem d_L_law_241 : decode code 241 = .ok (.if_icmp .ge 55, 3) := by decide +kernel
theorem d_L_law_244 : decode code 244 = .ok (.aload_n 1, 1) := by decide +kernel
theorem d_L_law_245 : decode code 245 = .ok (.aload_n 0, 1) := by decide +kernel
theorem d_L_law_246 : decode code 246 = .ok (.bipush 44, 2) := by decide +kernel
theorem d_L_law_248 : decode code 248 = .ok (.iconst 5, 1) := by decide +kernel
theorem d_L_law_249 : decode code 249 = .ok (.iload_n 3, 1) := by decide +kernel
theorem d_L_law_250 : decode code 250 = .ok (.imul, 1) := by decide +kernel
theorem d_L_law_251 : decode code 251 = .ok (.iadd, 1) := by decide +kernel
theorem d_L_law_252 : decode code 252 = .ok (.invokestatic 146, 3) := by decide +kernel
theorem d_L_law_255 : decode code 255 = .ok (.ifCond .ne 5, 3) := by decide +kernel
theorem d_L_law_258 : decode code 258 = .ok (.iconst 0, 1) := by decide +kernel
theorem d_L_law_259 : decode code 259 = .ok (.ireturn, 1) := by decide +kernel
theorem d_L_law_260 : decode code 260 = .ok (.iconst 0, 1) := by decide +kernel
theorem d_L_law_261 : decode code 261 = .ok (.istore 4, 2) := by decide +kernel
theorem d_L_law_263 : decode code 263 = .ok (.iload 4, 2) := by decide +kernel
theorem d_L_law_265 : decode code 265 = .ok (.aload_n 1, 1) := by decide +kernel
theorem d_L_law_266 : decode code 266 = .ok (.iconst 2, 1) := by decide +kernel
theorem d_L_law_267 : decode code 267 = .ok (.invokevirtual 28, 3) := by decide +kernel
theorem d_L_law_270 : decode code 270 = .ok (.if_icmp .ge 20, 3) := by decide +kernel
theorem d_L_law_273 : decode code 273 = .ok (.aload_n 1, 1) := by decide +kernel
theorem d_L_law_274 : decode code 274 = .ok (.iload 4, 2) := by decide +kernel
theorem d_L_law_276 : decode code 276 = .ok (.invokestatic 150, 3) := by decide +kernel
theorem d_L_law_279 : decode code 279 = .ok (.ifCond .ne 5, 3) := by decide +kernel
theorem d_L_law_282 : decode code 282 = .ok (.iconst 0, 1) := by decide +kernel
theorem d_L_law_283 : decode code 283 = .ok (.ireturn, 1) := by decide +kernel
theorem d_L_law_284 : decode code 284 = .ok (.iinc 4 1, 3) := by decide +kernel
theorem d_L_law_287 : decode code 287 = .ok (.goto (-24), 3) := by decide +kernel
theorem d_L_law_290 : decode code 290 = .ok (.iinc 3 1, 3) := by decide +kernel
theorem d_L_law_293 : decode code 293 = .ok (.goto (-55), 3) := by decide +kernel
theorem d_L_law_296 : decode code 296 = .ok (.aload_n 1, 1) := by decide +kernel
theorem d_L_law_297 : decode code 297 = .ok (.bipush 8, 2) := by decide +kernel
theorem d_L_law_299 : decode code 299 = .ok (.invokevirtual 28, 3) := by decide +kernel
theorem d_L_law_302 : decode code 302 = .ok (.aload_n 1, 1) := by decide +kernel
theorem d_L_law_303 : decode code 303 = .ok (.bipush 9, 2) := by decide +kernel
theorem d_L_law_305 : decode code 305 = .ok (.invokevirtual 28, 3) := by decide +kernel
theorem d_L_law_308 : decode code 308 = .ok (.iadd, 1) := by decide +kernel
theorem d_L_law_309 : decode code 309 = .ok (.aload_n 1, 1) := by decide +kernel
theorem d_L_law_310 : decode code 310 = .ok (.bipush 10, 2) := by decide +kernel
theorem d_L_law_312 : decode code 312 = .ok (.invokevirtual 28, 3) := by decide +kernel
theorem d_L_law_315 : decode code 315 = .ok (.iadd, 1) := by decide +kernel
theorem d_L_law_316 : decode code 316 = .ok (.aload_n 1, 1) := by decide +kernel
theorem d_L_law_317 : decode code 317 = .ok (.bipush 11, 2) := by decide +kernel
theorem d_L_law_319 : decode code 319 = .ok (.invokevirtual 28, 3) := by decide +kernel
theorem d_L_law_322 : decode code 322 = .ok (.iadd, 1) := by decide +kernel
theorem d_L_law_323 : decode code 323 = .ok (.aload_n 1, 1) := by decide +kernel
theorem d_L_law_324 : decode code 324 = .ok (.bipush 12, 2) := by decide +kernel
theorem d_L_law_326 : decode code 326 = .ok (.invokevirtual 28, 3) := by decide +kernel
theorem d_L_law_329 : decode code 329 = .ok (.iadd, 1) := by decide +kernel
theorem d_L_law_330 : decode code 330 = .ok (.aload_n 1, 1) := by decide +kernel
theorem d_L_law_331 : decode code 331 = .ok (.iconst 2, 1) := by decide +kernel
theorem d_L_law_332 : decode code 332 = .ok (.invokevirtual 28, 3) := by decide +kernel
theorem d_L_law_335 : decode code 335 = .ok (.if_icmp .ne 7, 3) := by decide +kernel
theorem d_L_law_338 : decode code 338 = .ok (.iconst 1, 1) := by decide +kernel
theorem d_L_law_339 : decode code 339 = .ok (.goto 4, 3) := by decide +kernel
theorem d_L_law_342 : decode code 342 = .ok (.iconst 0, 1) := by decide +kernel
theorem d_L_law_343 : decode code 343 = .ok (.ireturn, 1) := by decide +kernel
