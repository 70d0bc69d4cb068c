/-! DECODE rows: printed by wip/whole/emit.py. -/
theorem d_M_init_0 : decode prog_9_method_1_code 0 = .ok (.aload_n 0, 1) := by decide +kernel
theorem d_M_init_1 : decode prog_9_method_1_code 1 = .ok (.invokespecial 1, 3) := by decide +kernel
theorem d_M_init_4 : decode prog_9_method_1_code 4 = .ok (.aload_n 0, 1) := by decide +kernel
theorem d_M_init_5 : decode prog_9_method_1_code 5 = .ok (.sipush 760, 3) := by decide +kernel
theorem d_M_init_8 : decode prog_9_method_1_code 8 = .ok (.newarray .int, 2) := by decide +kernel
theorem d_M_init_10 : decode prog_9_method_1_code 10 = .ok (.putfield 7, 3) := by decide +kernel
theorem d_M_init_13 : decode prog_9_method_1_code 13 = .ok (.aload_n 0, 1) := by decide +kernel
theorem d_M_init_14 : decode prog_9_method_1_code 14 = .ok (.sipush 760, 3) := by decide +kernel
theorem d_M_init_17 : decode prog_9_method_1_code 17 = .ok (.newarray .int, 2) := by decide +kernel
theorem d_M_init_19 : decode prog_9_method_1_code 19 = .ok (.putfield 13, 3) := by decide +kernel
theorem d_M_init_22 : decode prog_9_method_1_code 22 = .ok (.aload_n 0, 1) := by decide +kernel
theorem d_M_init_23 : decode prog_9_method_1_code 23 = .ok (.sipush 4560, 3) := by decide +kernel
theorem d_M_init_26 : decode prog_9_method_1_code 26 = .ok (.newarray .int, 2) := by decide +kernel
theorem d_M_init_28 : decode prog_9_method_1_code 28 = .ok (.putfield 16, 3) := by decide +kernel
theorem d_M_init_31 : decode prog_9_method_1_code 31 = .ok (.aload_n 0, 1) := by decide +kernel
theorem d_M_init_32 : decode prog_9_method_1_code 32 = .ok (.sipush 1520, 3) := by decide +kernel
theorem d_M_init_35 : decode prog_9_method_1_code 35 = .ok (.newarray .int, 2) := by decide +kernel
theorem d_M_init_37 : decode prog_9_method_1_code 37 = .ok (.putfield 19, 3) := by decide +kernel
theorem d_M_init_40 : decode prog_9_method_1_code 40 = .ok (.aload_n 0, 1) := by decide +kernel
theorem d_M_init_41 : decode prog_9_method_1_code 41 = .ok (.iconst 2, 1) := by decide +kernel
theorem d_M_init_42 : decode prog_9_method_1_code 42 = .ok (.newarray .boolean, 2) := by decide +kernel
theorem d_M_init_44 : decode prog_9_method_1_code 44 = .ok (.putfield 22, 3) := by decide +kernel
theorem d_M_init_47 : decode prog_9_method_1_code 47 = .ok (.aload_n 0, 1) := by decide +kernel
theorem d_M_init_48 : decode prog_9_method_1_code 48 = .ok (.bipush 80, 2) := by decide +kernel
theorem d_M_init_50 : decode prog_9_method_1_code 50 = .ok (.newarray .int, 2) := by decide +kernel
theorem d_M_init_52 : decode prog_9_method_1_code 52 = .ok (.putfield 26, 3) := by decide +kernel
theorem d_M_init_55 : decode prog_9_method_1_code 55 = .ok (.aload_n 0, 1) := by decide +kernel
theorem d_M_init_56 : decode prog_9_method_1_code 56 = .ok (.bipush 12, 2) := by decide +kernel
theorem d_M_init_58 : decode prog_9_method_1_code 58 = .ok (.newarray .int, 2) := by decide +kernel
theorem d_M_init_60 : decode prog_9_method_1_code 60 = .ok (.putfield 29, 3) := by decide +kernel
theorem d_M_init_63 : decode prog_9_method_1_code 63 = .ok (.aload_n 0, 1) := by decide +kernel
theorem d_M_init_64 : decode prog_9_method_1_code 64 = .ok (.bipush 12, 2) := by decide +kernel
theorem d_M_init_66 : decode prog_9_method_1_code 66 = .ok (.newarray .int, 2) := by decide +kernel
theorem d_M_init_68 : decode prog_9_method_1_code 68 = .ok (.putfield 32, 3) := by decide +kernel
theorem d_M_init_71 : decode prog_9_method_1_code 71 = .ok (.aload_n 0, 1) := by decide +kernel
theorem d_M_init_72 : decode prog_9_method_1_code 72 = .ok (.bipush 6, 2) := by decide +kernel
theorem d_M_init_74 : decode prog_9_method_1_code 74 = .ok (.newarray .int, 2) := by decide +kernel
theorem d_M_init_76 : decode prog_9_method_1_code 76 = .ok (.putfield 35, 3) := by decide +kernel
theorem d_M_init_79 : decode prog_9_method_1_code 79 = .ok (.aload_n 0, 1) := by decide +kernel
theorem d_M_init_80 : decode prog_9_method_1_code 80 = .ok (.sipush 240, 3) := by decide +kernel
theorem d_M_init_83 : decode prog_9_method_1_code 83 = .ok (.newarray .int, 2) := by decide +kernel
theorem d_M_init_85 : decode prog_9_method_1_code 85 = .ok (.putfield 38, 3) := by decide +kernel
theorem d_M_init_88 : decode prog_9_method_1_code 88 = .ok (.aload_n 0, 1) := by decide +kernel
theorem d_M_init_89 : decode prog_9_method_1_code 89 = .ok (.getfield 7, 3) := by decide +kernel
theorem d_M_init_92 : decode prog_9_method_1_code 92 = .ok (.iconst 0, 1) := by decide +kernel
theorem d_M_init_93 : decode prog_9_method_1_code 93 = .ok (.bipush 50, 2) := by decide +kernel
theorem d_M_init_95 : decode prog_9_method_1_code 95 = .ok (.iastore, 1) := by decide +kernel
theorem d_M_init_96 : decode prog_9_method_1_code 96 = .ok (.aload_n 0, 1) := by decide +kernel
theorem d_M_init_97 : decode prog_9_method_1_code 97 = .ok (.getfield 7, 3) := by decide +kernel
theorem d_M_init_100 : decode prog_9_method_1_code 100 = .ok (.iconst 1, 1) := by decide +kernel
theorem d_M_init_101 : decode prog_9_method_1_code 101 = .ok (.bipush 34, 2) := by decide +kernel
theorem d_M_init_103 : decode prog_9_method_1_code 103 = .ok (.iastore, 1) := by decide +kernel
theorem d_M_init_104 : decode prog_9_method_1_code 104 = .ok (.aload_n 0, 1) := by decide +kernel
theorem d_M_init_105 : decode prog_9_method_1_code 105 = .ok (.getfield 7, 3) := by decide +kernel
theorem d_M_init_108 : decode prog_9_method_1_code 108 = .ok (.iconst 2, 1) := by decide +kernel
theorem d_M_init_109 : decode prog_9_method_1_code 109 = .ok (.sipush 240, 3) := by decide +kernel
theorem d_M_init_112 : decode prog_9_method_1_code 112 = .ok (.iastore, 1) := by decide +kernel
theorem d_M_init_113 : decode prog_9_method_1_code 113 = .ok (.aload_n 0, 1) := by decide +kernel
theorem d_M_init_114 : decode prog_9_method_1_code 114 = .ok (.getfield 7, 3) := by decide +kernel
theorem d_M_init_117 : decode prog_9_method_1_code 117 = .ok (.iconst 3, 1) := by decide +kernel
theorem d_M_init_118 : decode prog_9_method_1_code 118 = .ok (.iconst 2, 1) := by decide +kernel
theorem d_M_init_119 : decode prog_9_method_1_code 119 = .ok (.iastore, 1) := by decide +kernel
theorem d_M_init_120 : decode prog_9_method_1_code 120 = .ok (.aload_n 0, 1) := by decide +kernel
theorem d_M_init_121 : decode prog_9_method_1_code 121 = .ok (.getfield 7, 3) := by decide +kernel
theorem d_M_init_124 : decode prog_9_method_1_code 124 = .ok (.iconst 4, 1) := by decide +kernel
theorem d_M_init_125 : decode prog_9_method_1_code 125 = .ok (.iconst 1, 1) := by decide +kernel
theorem d_M_init_126 : decode prog_9_method_1_code 126 = .ok (.iastore, 1) := by decide +kernel
theorem d_M_init_127 : decode prog_9_method_1_code 127 = .ok (.aload_n 0, 1) := by decide +kernel
theorem d_M_init_128 : decode prog_9_method_1_code 128 = .ok (.getfield 7, 3) := by decide +kernel
theorem d_M_init_131 : decode prog_9_method_1_code 131 = .ok (.iconst 5, 1) := by decide +kernel
theorem d_M_init_132 : decode prog_9_method_1_code 132 = .ok (.iconst 1, 1) := by decide +kernel
theorem d_M_init_133 : decode prog_9_method_1_code 133 = .ok (.iastore, 1) := by decide +kernel
theorem d_M_init_134 : decode prog_9_method_1_code 134 = .ok (.aload_n 0, 1) := by decide +kernel
theorem d_M_init_135 : decode prog_9_method_1_code 135 = .ok (.getfield 7, 3) := by decide +kernel
theorem d_M_init_138 : decode prog_9_method_1_code 138 = .ok (.bipush 9, 2) := by decide +kernel
theorem d_M_init_140 : decode prog_9_method_1_code 140 = .ok (.bipush (-6), 2) := by decide +kernel
theorem d_M_init_142 : decode prog_9_method_1_code 142 = .ok (.iastore, 1) := by decide +kernel
theorem d_M_init_143 : decode prog_9_method_1_code 143 = .ok (.sipush 250, 3) := by decide +kernel
theorem d_M_init_146 : decode prog_9_method_1_code 146 = .ok (.istore_n 1, 1) := by decide +kernel
theorem d_M_init_147 : decode prog_9_method_1_code 147 = .ok (.iload_n 1, 1) := by decide +kernel
theorem d_M_init_148 : decode prog_9_method_1_code 148 = .ok (.sipush 682, 3) := by decide +kernel
theorem d_M_init_151 : decode prog_9_method_1_code 151 = .ok (.if_icmp .ge 17, 3) := by decide +kernel
theorem d_M_init_154 : decode prog_9_method_1_code 154 = .ok (.aload_n 0, 1) := by decide +kernel
theorem d_M_init_155 : decode prog_9_method_1_code 155 = .ok (.getfield 7, 3) := by decide +kernel
theorem d_M_init_158 : decode prog_9_method_1_code 158 = .ok (.iload_n 1, 1) := by decide +kernel
theorem d_M_init_159 : decode prog_9_method_1_code 159 = .ok (.bipush (-6), 2) := by decide +kernel
theorem d_M_init_161 : decode prog_9_method_1_code 161 = .ok (.iastore, 1) := by decide +kernel
theorem d_M_init_162 : decode prog_9_method_1_code 162 = .ok (.iinc 1 1, 3) := by decide +kernel
theorem d_M_init_165 : decode prog_9_method_1_code 165 = .ok (.goto (-18), 3) := by decide +kernel
theorem d_M_init_168 : decode prog_9_method_1_code 168 = .ok (.iconst 0, 1) := by decide +kernel
theorem d_M_init_169 : decode prog_9_method_1_code 169 = .ok (.istore_n 1, 1) := by decide +kernel
theorem d_M_init_170 : decode prog_9_method_1_code 170 = .ok (.iload_n 1, 1) := by decide +kernel
theorem d_M_init_171 : decode prog_9_method_1_code 171 = .ok (.bipush 12, 2) := by decide +kernel
theorem d_M_init_173 : decode prog_9_method_1_code 173 = .ok (.if_icmp .ge 42, 3) := by decide +kernel
theorem d_M_init_176 : decode prog_9_method_1_code 176 = .ok (.aload_n 0, 1) := by decide +kernel
theorem d_M_init_177 : decode prog_9_method_1_code 177 = .ok (.getfield 7, 3) := by decide +kernel
theorem d_M_init_180 : decode prog_9_method_1_code 180 = .ok (.bipush 20, 2) := by decide +kernel
theorem d_M_init_182 : decode prog_9_method_1_code 182 = .ok (.bipush 6, 2) := by decide +kernel
theorem d_M_init_184 : decode prog_9_method_1_code 184 = .ok (.iload_n 1, 1) := by decide +kernel
theorem d_M_init_185 : decode prog_9_method_1_code 185 = .ok (.imul, 1) := by decide +kernel
theorem d_M_init_186 : decode prog_9_method_1_code 186 = .ok (.iadd, 1) := by decide +kernel
theorem d_M_init_187 : decode prog_9_method_1_code 187 = .ok (.iconst 3, 1) := by decide +kernel
theorem d_M_init_188 : decode prog_9_method_1_code 188 = .ok (.iadd, 1) := by decide +kernel
theorem d_M_init_189 : decode prog_9_method_1_code 189 = .ok (.bipush (-6), 2) := by decide +kernel
theorem d_M_init_191 : decode prog_9_method_1_code 191 = .ok (.iastore, 1) := by decide +kernel
theorem d_M_init_192 : decode prog_9_method_1_code 192 = .ok (.aload_n 0, 1) := by decide +kernel
theorem d_M_init_193 : decode prog_9_method_1_code 193 = .ok (.getfield 7, 3) := by decide +kernel
theorem d_M_init_196 : decode prog_9_method_1_code 196 = .ok (.bipush 100, 2) := by decide +kernel
theorem d_M_init_198 : decode prog_9_method_1_code 198 = .ok (.bipush 12, 2) := by decide +kernel
theorem d_M_init_200 : decode prog_9_method_1_code 200 = .ok (.iload_n 1, 1) := by decide +kernel
theorem d_M_init_201 : decode prog_9_method_1_code 201 = .ok (.imul, 1) := by decide +kernel
theorem d_M_init_202 : decode prog_9_method_1_code 202 = .ok (.iadd, 1) := by decide +kernel
theorem d_M_init_203 : decode prog_9_method_1_code 203 = .ok (.bipush 9, 2) := by decide +kernel
theorem d_M_init_205 : decode prog_9_method_1_code 205 = .ok (.iadd, 1) := by decide +kernel
theorem d_M_init_206 : decode prog_9_method_1_code 206 = .ok (.bipush (-6), 2) := by decide +kernel
theorem d_M_init_208 : decode prog_9_method_1_code 208 = .ok (.iastore, 1) := by decide +kernel
theorem d_M_init_209 : decode prog_9_method_1_code 209 = .ok (.iinc 1 1, 3) := by decide +kernel
theorem d_M_init_212 : decode prog_9_method_1_code 212 = .ok (.goto (-42), 3) := by decide +kernel
theorem d_M_init_215 : decode prog_9_method_1_code 215 = .ok (.return_, 1) := by decide +kernel
theorem d_M_in_0 : decode prog_9_method_2_code 0 = .ok (.iload_n 0, 1) := by decide +kernel
theorem d_M_in_1 : decode prog_9_method_2_code 1 = .ok (.iload_n 1, 1) := by decide +kernel
theorem d_M_in_2 : decode prog_9_method_2_code 2 = .ok (.if_icmp .lt 12, 3) := by decide +kernel
theorem d_M_in_5 : decode prog_9_method_2_code 5 = .ok (.iload_n 0, 1) := by decide +kernel
theorem d_M_in_6 : decode prog_9_method_2_code 6 = .ok (.iload_n 2, 1) := by decide +kernel
theorem d_M_in_7 : decode prog_9_method_2_code 7 = .ok (.if_icmp .gt 7, 3) := by decide +kernel
theorem d_M_in_10 : decode prog_9_method_2_code 10 = .ok (.iconst 1, 1) := by decide +kernel
theorem d_M_in_11 : decode prog_9_method_2_code 11 = .ok (.goto 4, 3) := by decide +kernel
theorem d_M_in_14 : decode prog_9_method_2_code 14 = .ok (.iconst 0, 1) := by decide +kernel
theorem d_M_in_15 : decode prog_9_method_2_code 15 = .ok (.ireturn, 1) := by decide +kernel
theorem d_M_record_0 : decode prog_9_method_5_code 0 = .ok (.aload_n 0, 1) := by decide +kernel
theorem d_M_record_1 : decode prog_9_method_5_code 1 = .ok (.getfield 41, 3) := by decide +kernel
theorem d_M_record_4 : decode prog_9_method_5_code 4 = .ok (.ifCond .eq 4, 3) := by decide +kernel
theorem d_M_record_7 : decode prog_9_method_5_code 7 = .ok (.return_, 1) := by decide +kernel
theorem d_M_record_8 : decode prog_9_method_5_code 8 = .ok (.aload_n 0, 1) := by decide +kernel
theorem d_M_record_9 : decode prog_9_method_5_code 9 = .ok (.getfield 45, 3) := by decide +kernel
theorem d_M_record_12 : decode prog_9_method_5_code 12 = .ok (.bipush 6, 2) := by decide +kernel
theorem d_M_record_14 : decode prog_9_method_5_code 14 = .ok (.if_icmp .ne 39, 3) := by decide +kernel
theorem d_M_record_17 : decode prog_9_method_5_code 17 = .ok (.iconst 0, 1) := by decide +kernel
theorem d_M_record_18 : decode prog_9_method_5_code 18 = .ok (.istore_n 1, 1) := by decide +kernel
theorem d_M_record_19 : decode prog_9_method_5_code 19 = .ok (.iload_n 1, 1) := by decide +kernel
theorem d_M_record_20 : decode prog_9_method_5_code 20 = .ok (.sipush 3800, 3) := by decide +kernel
theorem d_M_record_23 : decode prog_9_method_5_code 23 = .ok (.if_icmp .ge 25, 3) := by decide +kernel
theorem d_M_record_26 : decode prog_9_method_5_code 26 = .ok (.aload_n 0, 1) := by decide +kernel
theorem d_M_record_27 : decode prog_9_method_5_code 27 = .ok (.getfield 16, 3) := by decide +kernel
theorem d_M_record_30 : decode prog_9_method_5_code 30 = .ok (.iload_n 1, 1) := by decide +kernel
theorem d_M_record_31 : decode prog_9_method_5_code 31 = .ok (.aload_n 0, 1) := by decide +kernel
theorem d_M_record_32 : decode prog_9_method_5_code 32 = .ok (.getfield 16, 3) := by decide +kernel
theorem d_M_record_35 : decode prog_9_method_5_code 35 = .ok (.iload_n 1, 1) := by decide +kernel
theorem d_M_record_36 : decode prog_9_method_5_code 36 = .ok (.sipush 760, 3) := by decide +kernel
theorem d_M_record_39 : decode prog_9_method_5_code 39 = .ok (.iadd, 1) := by decide +kernel
theorem d_M_record_40 : decode prog_9_method_5_code 40 = .ok (.iaload, 1) := by decide +kernel
theorem d_M_record_41 : decode prog_9_method_5_code 41 = .ok (.iastore, 1) := by decide +kernel
theorem d_M_record_42 : decode prog_9_method_5_code 42 = .ok (.iinc 1 1, 3) := by decide +kernel
theorem d_M_record_45 : decode prog_9_method_5_code 45 = .ok (.goto (-26), 3) := by decide +kernel
theorem d_M_record_48 : decode prog_9_method_5_code 48 = .ok (.aload_n 0, 1) := by decide +kernel
theorem d_M_record_49 : decode prog_9_method_5_code 49 = .ok (.iconst 5, 1) := by decide +kernel
theorem d_M_record_50 : decode prog_9_method_5_code 50 = .ok (.putfield 45, 3) := by decide +kernel
theorem d_M_record_53 : decode prog_9_method_5_code 53 = .ok (.iconst 0, 1) := by decide +kernel
theorem d_M_record_54 : decode prog_9_method_5_code 54 = .ok (.istore_n 1, 1) := by decide +kernel
theorem d_M_record_55 : decode prog_9_method_5_code 55 = .ok (.iload_n 1, 1) := by decide +kernel
theorem d_M_record_56 : decode prog_9_method_5_code 56 = .ok (.sipush 760, 3) := by decide +kernel
theorem d_M_record_59 : decode prog_9_method_5_code 59 = .ok (.if_icmp .ge 30, 3) := by decide +kernel
theorem d_M_record_62 : decode prog_9_method_5_code 62 = .ok (.aload_n 0, 1) := by decide +kernel
theorem d_M_record_63 : decode prog_9_method_5_code 63 = .ok (.getfield 16, 3) := by decide +kernel
theorem d_M_record_66 : decode prog_9_method_5_code 66 = .ok (.aload_n 0, 1) := by decide +kernel
theorem d_M_record_67 : decode prog_9_method_5_code 67 = .ok (.getfield 45, 3) := by decide +kernel
theorem d_M_record_70 : decode prog_9_method_5_code 70 = .ok (.sipush 760, 3) := by decide +kernel
theorem d_M_record_73 : decode prog_9_method_5_code 73 = .ok (.imul, 1) := by decide +kernel
theorem d_M_record_74 : decode prog_9_method_5_code 74 = .ok (.iload_n 1, 1) := by decide +kernel
theorem d_M_record_75 : decode prog_9_method_5_code 75 = .ok (.iadd, 1) := by decide +kernel
theorem d_M_record_76 : decode prog_9_method_5_code 76 = .ok (.aload_n 0, 1) := by decide +kernel
theorem d_M_record_77 : decode prog_9_method_5_code 77 = .ok (.getfield 7, 3) := by decide +kernel
theorem d_M_record_80 : decode prog_9_method_5_code 80 = .ok (.iload_n 1, 1) := by decide +kernel
theorem d_M_record_81 : decode prog_9_method_5_code 81 = .ok (.iaload, 1) := by decide +kernel
theorem d_M_record_82 : decode prog_9_method_5_code 82 = .ok (.iastore, 1) := by decide +kernel
theorem d_M_record_83 : decode prog_9_method_5_code 83 = .ok (.iinc 1 1, 3) := by decide +kernel
theorem d_M_record_86 : decode prog_9_method_5_code 86 = .ok (.goto (-31), 3) := by decide +kernel
theorem d_M_record_89 : decode prog_9_method_5_code 89 = .ok (.aload_n 0, 1) := by decide +kernel
theorem d_M_record_90 : decode prog_9_method_5_code 90 = .ok (.dup, 1) := by decide +kernel
theorem d_M_record_91 : decode prog_9_method_5_code 91 = .ok (.getfield 45, 3) := by decide +kernel
theorem d_M_record_94 : decode prog_9_method_5_code 94 = .ok (.iconst 1, 1) := by decide +kernel
theorem d_M_record_95 : decode prog_9_method_5_code 95 = .ok (.iadd, 1) := by decide +kernel
theorem d_M_record_96 : decode prog_9_method_5_code 96 = .ok (.putfield 45, 3) := by decide +kernel
theorem d_M_record_99 : decode prog_9_method_5_code 99 = .ok (.return_, 1) := by decide +kernel
theorem d_M_set_0 : decode prog_9_method_8_code 0 = .ok (.iload_n 1, 1) := by decide +kernel
theorem d_M_set_1 : decode prog_9_method_8_code 1 = .ok (.iconst 2, 1) := by decide +kernel
theorem d_M_set_2 : decode prog_9_method_8_code 2 = .ok (.if_icmp .ge 8, 3) := by decide +kernel
theorem d_M_set_5 : decode prog_9_method_8_code 5 = .ok (.bipush 100, 2) := by decide +kernel
theorem d_M_set_7 : decode prog_9_method_8_code 7 = .ok (.goto 25, 3) := by decide +kernel
theorem d_M_set_10 : decode prog_9_method_8_code 10 = .ok (.iload_n 1, 1) := by decide +kernel
theorem d_M_set_11 : decode prog_9_method_8_code 11 = .ok (.iconst 2, 1) := by decide +kernel
theorem d_M_set_12 : decode prog_9_method_8_code 12 = .ok (.if_icmp .ne 9, 3) := by decide +kernel
theorem d_M_set_15 : decode prog_9_method_8_code 15 = .ok (.sipush 600, 3) := by decide +kernel
theorem d_M_set_18 : decode prog_9_method_8_code 18 = .ok (.goto 14, 3) := by decide +kernel
theorem d_M_set_21 : decode prog_9_method_8_code 21 = .ok (.iload_n 1, 1) := by decide +kernel
theorem d_M_set_22 : decode prog_9_method_8_code 22 = .ok (.iconst 3, 1) := by decide +kernel
theorem d_M_set_23 : decode prog_9_method_8_code 23 = .ok (.if_icmp .ne 8, 3) := by decide +kernel
theorem d_M_set_26 : decode prog_9_method_8_code 26 = .ok (.bipush 6, 2) := by decide +kernel
theorem d_M_set_28 : decode prog_9_method_8_code 28 = .ok (.goto 4, 3) := by decide +kernel
theorem d_M_set_31 : decode prog_9_method_8_code 31 = .ok (.iconst 1, 1) := by decide +kernel
theorem d_M_set_32 : decode prog_9_method_8_code 32 = .ok (.istore_n 3, 1) := by decide +kernel
theorem d_M_set_33 : decode prog_9_method_8_code 33 = .ok (.iload_n 1, 1) := by decide +kernel
theorem d_M_set_34 : decode prog_9_method_8_code 34 = .ok (.iconst 0, 1) := by decide +kernel
theorem d_M_set_35 : decode prog_9_method_8_code 35 = .ok (.iconst 5, 1) := by decide +kernel
theorem d_M_set_36 : decode prog_9_method_8_code 36 = .ok (.invokestatic 49, 3) := by decide +kernel
theorem d_M_set_39 : decode prog_9_method_8_code 39 = .ok (.ifCond .eq 12, 3) := by decide +kernel
theorem d_M_set_42 : decode prog_9_method_8_code 42 = .ok (.iload_n 2, 1) := by decide +kernel
theorem d_M_set_43 : decode prog_9_method_8_code 43 = .ok (.iconst 0, 1) := by decide +kernel
theorem d_M_set_44 : decode prog_9_method_8_code 44 = .ok (.iload_n 3, 1) := by decide +kernel
theorem d_M_set_45 : decode prog_9_method_8_code 45 = .ok (.invokestatic 49, 3) := by decide +kernel
theorem d_M_set_48 : decode prog_9_method_8_code 48 = .ok (.ifCond .ne 6, 3) := by decide +kernel
theorem d_M_set_51 : decode prog_9_method_8_code 51 = .ok (.bipush (-2), 2) := by decide +kernel
theorem d_M_set_53 : decode prog_9_method_8_code 53 = .ok (.ireturn, 1) := by decide +kernel
theorem d_M_set_54 : decode prog_9_method_8_code 54 = .ok (.aload_n 0, 1) := by decide +kernel
theorem d_M_set_55 : decode prog_9_method_8_code 55 = .ok (.invokevirtual 53, 3) := by decide +kernel
theorem d_M_set_58 : decode prog_9_method_8_code 58 = .ok (.aload_n 0, 1) := by decide +kernel
theorem d_M_set_59 : decode prog_9_method_8_code 59 = .ok (.getfield 7, 3) := by decide +kernel
theorem d_M_set_62 : decode prog_9_method_8_code 62 = .ok (.iload_n 1, 1) := by decide +kernel
theorem d_M_set_63 : decode prog_9_method_8_code 63 = .ok (.iaload, 1) := by decide +kernel
theorem d_M_set_64 : decode prog_9_method_8_code 64 = .ok (.istore 4, 2) := by decide +kernel
theorem d_M_set_66 : decode prog_9_method_8_code 66 = .ok (.aload_n 0, 1) := by decide +kernel
theorem d_M_set_67 : decode prog_9_method_8_code 67 = .ok (.getfield 7, 3) := by decide +kernel
theorem d_M_set_70 : decode prog_9_method_8_code 70 = .ok (.iload_n 1, 1) := by decide +kernel
theorem d_M_set_71 : decode prog_9_method_8_code 71 = .ok (.iload_n 2, 1) := by decide +kernel
theorem d_M_set_72 : decode prog_9_method_8_code 72 = .ok (.iastore, 1) := by decide +kernel
theorem d_M_set_73 : decode prog_9_method_8_code 73 = .ok (.iload 4, 2) := by decide +kernel
theorem d_M_set_75 : decode prog_9_method_8_code 75 = .ok (.ireturn, 1) := by decide +kernel
theorem d_M_member_0 : decode prog_9_method_9_code 0 = .ok (.iload_n 1, 1) := by decide +kernel
theorem d_M_member_1 : decode prog_9_method_9_code 1 = .ok (.iconst 1, 1) := by decide +kernel
theorem d_M_member_2 : decode prog_9_method_9_code 2 = .ok (.bipush 9, 2) := by decide +kernel
theorem d_M_member_4 : decode prog_9_method_9_code 4 = .ok (.invokestatic 49, 3) := by decide +kernel
theorem d_M_member_7 : decode prog_9_method_9_code 7 = .ok (.ifCond .eq 12, 3) := by decide +kernel
theorem d_M_member_10 : decode prog_9_method_9_code 10 = .ok (.iload_n 2, 1) := by decide +kernel
theorem d_M_member_11 : decode prog_9_method_9_code 11 = .ok (.iconst 0, 1) := by decide +kernel
theorem d_M_member_12 : decode prog_9_method_9_code 12 = .ok (.iconst 3, 1) := by decide +kernel
theorem d_M_member_13 : decode prog_9_method_9_code 13 = .ok (.invokestatic 49, 3) := by decide +kernel
theorem d_M_member_16 : decode prog_9_method_9_code 16 = .ok (.ifCond .ne 6, 3) := by decide +kernel
theorem d_M_member_19 : decode prog_9_method_9_code 19 = .ok (.bipush (-2), 2) := by decide +kernel
theorem d_M_member_21 : decode prog_9_method_9_code 21 = .ok (.ireturn, 1) := by decide +kernel
theorem d_M_member_22 : decode prog_9_method_9_code 22 = .ok (.aload_n 0, 1) := by decide +kernel
theorem d_M_member_23 : decode prog_9_method_9_code 23 = .ok (.getfield 7, 3) := by decide +kernel
theorem d_M_member_26 : decode prog_9_method_9_code 26 = .ok (.bipush 7, 2) := by decide +kernel
theorem d_M_member_28 : decode prog_9_method_9_code 28 = .ok (.iaload, 1) := by decide +kernel
theorem d_M_member_29 : decode prog_9_method_9_code 29 = .ok (.bipush 12, 2) := by decide +kernel
theorem d_M_member_31 : decode prog_9_method_9_code 31 = .ok (.if_icmp .ne 6, 3) := by decide +kernel
theorem d_M_member_34 : decode prog_9_method_9_code 34 = .ok (.bipush (-4), 2) := by decide +kernel
theorem d_M_member_36 : decode prog_9_method_9_code 36 = .ok (.ireturn, 1) := by decide +kernel
theorem d_M_member_37 : decode prog_9_method_9_code 37 = .ok (.aload_n 0, 1) := by decide +kernel
theorem d_M_member_38 : decode prog_9_method_9_code 38 = .ok (.invokevirtual 53, 3) := by decide +kernel
theorem d_M_member_41 : decode prog_9_method_9_code 41 = .ok (.bipush 20, 2) := by decide +kernel
theorem d_M_member_43 : decode prog_9_method_9_code 43 = .ok (.bipush 6, 2) := by decide +kernel
theorem d_M_member_45 : decode prog_9_method_9_code 45 = .ok (.aload_n 0, 1) := by decide +kernel
theorem d_M_member_46 : decode prog_9_method_9_code 46 = .ok (.getfield 7, 3) := by decide +kernel
theorem d_M_member_49 : decode prog_9_method_9_code 49 = .ok (.bipush 7, 2) := by decide +kernel
theorem d_M_member_51 : decode prog_9_method_9_code 51 = .ok (.iaload, 1) := by decide +kernel
theorem d_M_member_52 : decode prog_9_method_9_code 52 = .ok (.imul, 1) := by decide +kernel
theorem d_M_member_53 : decode prog_9_method_9_code 53 = .ok (.iadd, 1) := by decide +kernel
theorem d_M_member_54 : decode prog_9_method_9_code 54 = .ok (.istore_n 3, 1) := by decide +kernel
theorem d_M_member_55 : decode prog_9_method_9_code 55 = .ok (.aload_n 0, 1) := by decide +kernel
theorem d_M_member_56 : decode prog_9_method_9_code 56 = .ok (.getfield 7, 3) := by decide +kernel
theorem d_M_member_59 : decode prog_9_method_9_code 59 = .ok (.iload_n 3, 1) := by decide +kernel
theorem d_M_member_60 : decode prog_9_method_9_code 60 = .ok (.iload_n 1, 1) := by decide +kernel
theorem d_M_member_61 : decode prog_9_method_9_code 61 = .ok (.iastore, 1) := by decide +kernel
theorem d_M_member_62 : decode prog_9_method_9_code 62 = .ok (.aload_n 0, 1) := by decide +kernel
theorem d_M_member_63 : decode prog_9_method_9_code 63 = .ok (.getfield 7, 3) := by decide +kernel
theorem d_M_member_66 : decode prog_9_method_9_code 66 = .ok (.iload_n 3, 1) := by decide +kernel
theorem d_M_member_67 : decode prog_9_method_9_code 67 = .ok (.iconst 1, 1) := by decide +kernel
theorem d_M_member_68 : decode prog_9_method_9_code 68 = .ok (.iadd, 1) := by decide +kernel
theorem d_M_member_69 : decode prog_9_method_9_code 69 = .ok (.iload_n 2, 1) := by decide +kernel
theorem d_M_member_70 : decode prog_9_method_9_code 70 = .ok (.iastore, 1) := by decide +kernel
theorem d_M_member_71 : decode prog_9_method_9_code 71 = .ok (.aload_n 0, 1) := by decide +kernel
theorem d_M_member_72 : decode prog_9_method_9_code 72 = .ok (.getfield 7, 3) := by decide +kernel
theorem d_M_member_75 : decode prog_9_method_9_code 75 = .ok (.bipush 9, 2) := by decide +kernel
theorem d_M_member_77 : decode prog_9_method_9_code 77 = .ok (.aload_n 0, 1) := by decide +kernel
theorem d_M_member_78 : decode prog_9_method_9_code 78 = .ok (.getfield 7, 3) := by decide +kernel
theorem d_M_member_81 : decode prog_9_method_9_code 81 = .ok (.bipush 7, 2) := by decide +kernel
theorem d_M_member_83 : decode prog_9_method_9_code 83 = .ok (.iaload, 1) := by decide +kernel
theorem d_M_member_84 : decode prog_9_method_9_code 84 = .ok (.ifCond .ne 7, 3) := by decide +kernel
theorem d_M_member_87 : decode prog_9_method_9_code 87 = .ok (.iconst 0, 1) := by decide +kernel
theorem d_M_member_88 : decode prog_9_method_9_code 88 = .ok (.goto 10, 3) := by decide +kernel
theorem d_M_member_91 : decode prog_9_method_9_code 91 = .ok (.aload_n 0, 1) := by decide +kernel
theorem d_M_member_92 : decode prog_9_method_9_code 92 = .ok (.getfield 7, 3) := by decide +kernel
theorem d_M_member_95 : decode prog_9_method_9_code 95 = .ok (.bipush 9, 2) := by decide +kernel
theorem d_M_member_97 : decode prog_9_method_9_code 97 = .ok (.iaload, 1) := by decide +kernel
theorem d_M_member_98 : decode prog_9_method_9_code 98 = .ok (.iastore, 1) := by decide +kernel
theorem d_M_member_99 : decode prog_9_method_9_code 99 = .ok (.aload_n 0, 1) := by decide +kernel
theorem d_M_member_100 : decode prog_9_method_9_code 100 = .ok (.getfield 7, 3) := by decide +kernel
theorem d_M_member_103 : decode prog_9_method_9_code 103 = .ok (.bipush 7, 2) := by decide +kernel
theorem d_M_member_105 : decode prog_9_method_9_code 105 = .ok (.dup2, 1) := by decide +kernel
theorem d_M_member_106 : decode prog_9_method_9_code 106 = .ok (.iaload, 1) := by decide +kernel
theorem d_M_member_107 : decode prog_9_method_9_code 107 = .ok (.iconst 1, 1) := by decide +kernel
theorem d_M_member_108 : decode prog_9_method_9_code 108 = .ok (.iadd, 1) := by decide +kernel
theorem d_M_member_109 : decode prog_9_method_9_code 109 = .ok (.iastore, 1) := by decide +kernel
theorem d_M_member_110 : decode prog_9_method_9_code 110 = .ok (.aload_n 0, 1) := by decide +kernel
theorem d_M_member_111 : decode prog_9_method_9_code 111 = .ok (.getfield 7, 3) := by decide +kernel
theorem d_M_member_114 : decode prog_9_method_9_code 114 = .ok (.bipush 7, 2) := by decide +kernel
theorem d_M_member_116 : decode prog_9_method_9_code 116 = .ok (.iaload, 1) := by decide +kernel
theorem d_M_member_117 : decode prog_9_method_9_code 117 = .ok (.iconst 1, 1) := by decide +kernel
theorem d_M_member_118 : decode prog_9_method_9_code 118 = .ok (.isub, 1) := by decide +kernel
theorem d_M_member_119 : decode prog_9_method_9_code 119 = .ok (.ireturn, 1) := by decide +kernel
theorem d_M_item_0 : decode prog_9_method_10_code 0 = .ok (.iload_n 1, 1) := by decide +kernel
theorem d_M_item_1 : decode prog_9_method_10_code 1 = .ok (.iconst 0, 1) := by decide +kernel
theorem d_M_item_2 : decode prog_9_method_10_code 2 = .ok (.iconst 2, 1) := by decide +kernel
theorem d_M_item_3 : decode prog_9_method_10_code 3 = .ok (.invokestatic 49, 3) := by decide +kernel
theorem d_M_item_6 : decode prog_9_method_10_code 6 = .ok (.ifCond .eq 13, 3) := by decide +kernel
theorem d_M_item_9 : decode prog_9_method_10_code 9 = .ok (.iload_n 2, 1) := by decide +kernel
theorem d_M_item_10 : decode prog_9_method_10_code 10 = .ok (.iconst 0, 1) := by decide +kernel
theorem d_M_item_11 : decode prog_9_method_10_code 11 = .ok (.bipush 15, 2) := by decide +kernel
theorem d_M_item_13 : decode prog_9_method_10_code 13 = .ok (.invokestatic 49, 3) := by decide +kernel
theorem d_M_item_16 : decode prog_9_method_10_code 16 = .ok (.ifCond .ne 6, 3) := by decide +kernel
theorem d_M_item_19 : decode prog_9_method_10_code 19 = .ok (.bipush (-2), 2) := by decide +kernel
theorem d_M_item_21 : decode prog_9_method_10_code 21 = .ok (.ireturn, 1) := by decide +kernel
theorem d_M_item_22 : decode prog_9_method_10_code 22 = .ok (.aload_n 0, 1) := by decide +kernel
theorem d_M_item_23 : decode prog_9_method_10_code 23 = .ok (.getfield 7, 3) := by decide +kernel
theorem d_M_item_26 : decode prog_9_method_10_code 26 = .ok (.bipush 8, 2) := by decide +kernel
theorem d_M_item_28 : decode prog_9_method_10_code 28 = .ok (.iaload, 1) := by decide +kernel
theorem d_M_item_29 : decode prog_9_method_10_code 29 = .ok (.bipush 12, 2) := by decide +kernel
theorem d_M_item_31 : decode prog_9_method_10_code 31 = .ok (.if_icmp .ne 6, 3) := by decide +kernel
theorem d_M_item_34 : decode prog_9_method_10_code 34 = .ok (.bipush (-4), 2) := by decide +kernel
theorem d_M_item_36 : decode prog_9_method_10_code 36 = .ok (.ireturn, 1) := by decide +kernel
theorem d_M_item_37 : decode prog_9_method_10_code 37 = .ok (.aload_n 0, 1) := by decide +kernel
theorem d_M_item_38 : decode prog_9_method_10_code 38 = .ok (.invokevirtual 53, 3) := by decide +kernel
theorem d_M_item_41 : decode prog_9_method_10_code 41 = .ok (.bipush 100, 2) := by decide +kernel
theorem d_M_item_43 : decode prog_9_method_10_code 43 = .ok (.bipush 12, 2) := by decide +kernel
theorem d_M_item_45 : decode prog_9_method_10_code 45 = .ok (.aload_n 0, 1) := by decide +kernel
theorem d_M_item_46 : decode prog_9_method_10_code 46 = .ok (.getfield 7, 3) := by decide +kernel
theorem d_M_item_49 : decode prog_9_method_10_code 49 = .ok (.bipush 8, 2) := by decide +kernel
theorem d_M_item_51 : decode prog_9_method_10_code 51 = .ok (.iaload, 1) := by decide +kernel
theorem d_M_item_52 : decode prog_9_method_10_code 52 = .ok (.imul, 1) := by decide +kernel
theorem d_M_item_53 : decode prog_9_method_10_code 53 = .ok (.iadd, 1) := by decide +kernel
theorem d_M_item_54 : decode prog_9_method_10_code 54 = .ok (.istore_n 3, 1) := by decide +kernel
theorem d_M_item_55 : decode prog_9_method_10_code 55 = .ok (.aload_n 0, 1) := by decide +kernel
theorem d_M_item_56 : decode prog_9_method_10_code 56 = .ok (.getfield 7, 3) := by decide +kernel
theorem d_M_item_59 : decode prog_9_method_10_code 59 = .ok (.iload_n 3, 1) := by decide +kernel
theorem d_M_item_60 : decode prog_9_method_10_code 60 = .ok (.iload_n 1, 1) := by decide +kernel
theorem d_M_item_61 : decode prog_9_method_10_code 61 = .ok (.iastore, 1) := by decide +kernel
theorem d_M_item_62 : decode prog_9_method_10_code 62 = .ok (.aload_n 0, 1) := by decide +kernel
theorem d_M_item_63 : decode prog_9_method_10_code 63 = .ok (.getfield 7, 3) := by decide +kernel
theorem d_M_item_66 : decode prog_9_method_10_code 66 = .ok (.iload_n 3, 1) := by decide +kernel
theorem d_M_item_67 : decode prog_9_method_10_code 67 = .ok (.iconst 1, 1) := by decide +kernel
theorem d_M_item_68 : decode prog_9_method_10_code 68 = .ok (.iadd, 1) := by decide +kernel
theorem d_M_item_69 : decode prog_9_method_10_code 69 = .ok (.iload_n 2, 1) := by decide +kernel
theorem d_M_item_70 : decode prog_9_method_10_code 70 = .ok (.iastore, 1) := by decide +kernel
theorem d_M_item_71 : decode prog_9_method_10_code 71 = .ok (.aload_n 0, 1) := by decide +kernel
theorem d_M_item_72 : decode prog_9_method_10_code 72 = .ok (.getfield 7, 3) := by decide +kernel
theorem d_M_item_75 : decode prog_9_method_10_code 75 = .ok (.bipush 8, 2) := by decide +kernel
theorem d_M_item_77 : decode prog_9_method_10_code 77 = .ok (.dup2, 1) := by decide +kernel
theorem d_M_item_78 : decode prog_9_method_10_code 78 = .ok (.iaload, 1) := by decide +kernel
theorem d_M_item_79 : decode prog_9_method_10_code 79 = .ok (.iconst 1, 1) := by decide +kernel
theorem d_M_item_80 : decode prog_9_method_10_code 80 = .ok (.iadd, 1) := by decide +kernel
theorem d_M_item_81 : decode prog_9_method_10_code 81 = .ok (.iastore, 1) := by decide +kernel
theorem d_M_item_82 : decode prog_9_method_10_code 82 = .ok (.aload_n 0, 1) := by decide +kernel
theorem d_M_item_83 : decode prog_9_method_10_code 83 = .ok (.getfield 7, 3) := by decide +kernel
theorem d_M_item_86 : decode prog_9_method_10_code 86 = .ok (.bipush 8, 2) := by decide +kernel
theorem d_M_item_88 : decode prog_9_method_10_code 88 = .ok (.iaload, 1) := by decide +kernel
theorem d_M_item_89 : decode prog_9_method_10_code 89 = .ok (.iconst 1, 1) := by decide +kernel
theorem d_M_item_90 : decode prog_9_method_10_code 90 = .ok (.isub, 1) := by decide +kernel
theorem d_M_item_91 : decode prog_9_method_10_code 91 = .ok (.ireturn, 1) := by decide +kernel
theorem d_M_isMember_0 : decode prog_9_method_11_code 0 = .ok (.iload_n 1, 1) := by decide +kernel
theorem d_M_isMember_1 : decode prog_9_method_11_code 1 = .ok (.iconst 0, 1) := by decide +kernel
theorem d_M_isMember_2 : decode prog_9_method_11_code 2 = .ok (.aload_n 0, 1) := by decide +kernel
theorem d_M_isMember_3 : decode prog_9_method_11_code 3 = .ok (.getfield 7, 3) := by decide +kernel
theorem d_M_isMember_6 : decode prog_9_method_11_code 6 = .ok (.bipush 7, 2) := by decide +kernel
theorem d_M_isMember_8 : decode prog_9_method_11_code 8 = .ok (.iaload, 1) := by decide +kernel
theorem d_M_isMember_9 : decode prog_9_method_11_code 9 = .ok (.iconst 1, 1) := by decide +kernel
theorem d_M_isMember_10 : decode prog_9_method_11_code 10 = .ok (.isub, 1) := by decide +kernel
theorem d_M_isMember_11 : decode prog_9_method_11_code 11 = .ok (.invokestatic 49, 3) := by decide +kernel
theorem d_M_isMember_14 : decode prog_9_method_11_code 14 = .ok (.ireturn, 1) := by decide +kernel
theorem d_M_chair_0 : decode prog_9_method_16_code 0 = .ok (.aload_n 0, 1) := by decide +kernel
theorem d_M_chair_1 : decode prog_9_method_16_code 1 = .ok (.iload_n 1, 1) := by decide +kernel
theorem d_M_chair_2 : decode prog_9_method_16_code 2 = .ok (.invokevirtual 56, 3) := by decide +kernel
theorem d_M_chair_5 : decode prog_9_method_16_code 5 = .ok (.ifCond .ne 5, 3) := by decide +kernel
theorem d_M_chair_8 : decode prog_9_method_16_code 8 = .ok (.iconst (-1), 1) := by decide +kernel
theorem d_M_chair_9 : decode prog_9_method_16_code 9 = .ok (.ireturn, 1) := by decide +kernel
theorem d_M_chair_10 : decode prog_9_method_16_code 10 = .ok (.aload_n 0, 1) := by decide +kernel
theorem d_M_chair_11 : decode prog_9_method_16_code 11 = .ok (.invokevirtual 53, 3) := by decide +kernel
theorem d_M_chair_14 : decode prog_9_method_16_code 14 = .ok (.aload_n 0, 1) := by decide +kernel
theorem d_M_chair_15 : decode prog_9_method_16_code 15 = .ok (.getfield 7, 3) := by decide +kernel
theorem d_M_chair_18 : decode prog_9_method_16_code 18 = .ok (.bipush 9, 2) := by decide +kernel
theorem d_M_chair_20 : decode prog_9_method_16_code 20 = .ok (.iaload, 1) := by decide +kernel
theorem d_M_chair_21 : decode prog_9_method_16_code 21 = .ok (.istore_n 2, 1) := by decide +kernel
theorem d_M_chair_22 : decode prog_9_method_16_code 22 = .ok (.aload_n 0, 1) := by decide +kernel
theorem d_M_chair_23 : decode prog_9_method_16_code 23 = .ok (.getfield 7, 3) := by decide +kernel
theorem d_M_chair_26 : decode prog_9_method_16_code 26 = .ok (.bipush 9, 2) := by decide +kernel
theorem d_M_chair_28 : decode prog_9_method_16_code 28 = .ok (.iload_n 1, 1) := by decide +kernel
theorem d_M_chair_29 : decode prog_9_method_16_code 29 = .ok (.iastore, 1) := by decide +kernel
theorem d_M_chair_30 : decode prog_9_method_16_code 30 = .ok (.iload_n 2, 1) := by decide +kernel
theorem d_M_chair_31 : decode prog_9_method_16_code 31 = .ok (.ireturn, 1) := by decide +kernel
theorem d_M_ofOne_0 : decode prog_9_method_13_code 0 = .ok (.aload_n 0, 1) := by decide +kernel
theorem d_M_ofOne_1 : decode prog_9_method_13_code 1 = .ok (.getfield 7, 3) := by decide +kernel
theorem d_M_ofOne_4 : decode prog_9_method_13_code 4 = .ok (.bipush 20, 2) := by decide +kernel
theorem d_M_ofOne_6 : decode prog_9_method_13_code 6 = .ok (.bipush 6, 2) := by decide +kernel
theorem d_M_ofOne_8 : decode prog_9_method_13_code 8 = .ok (.iload_n 1, 1) := by decide +kernel
theorem d_M_ofOne_9 : decode prog_9_method_13_code 9 = .ok (.imul, 1) := by decide +kernel
theorem d_M_ofOne_10 : decode prog_9_method_13_code 10 = .ok (.iadd, 1) := by decide +kernel
theorem d_M_ofOne_11 : decode prog_9_method_13_code 11 = .ok (.iload_n 2, 1) := by decide +kernel
theorem d_M_ofOne_12 : decode prog_9_method_13_code 12 = .ok (.iadd, 1) := by decide +kernel
theorem d_M_ofOne_13 : decode prog_9_method_13_code 13 = .ok (.iaload, 1) := by decide +kernel
theorem d_M_ofOne_14 : decode prog_9_method_13_code 14 = .ok (.ireturn, 1) := by decide +kernel
theorem d_M_isPresent_0 : decode prog_9_method_17_code 0 = .ok (.aload_n 0, 1) := by decide +kernel
theorem d_M_isPresent_1 : decode prog_9_method_17_code 1 = .ok (.iload_n 1, 1) := by decide +kernel
theorem d_M_isPresent_2 : decode prog_9_method_17_code 2 = .ok (.iconst 2, 1) := by decide +kernel
theorem d_M_isPresent_3 : decode prog_9_method_17_code 3 = .ok (.invokevirtual 60, 3) := by decide +kernel
theorem d_M_isPresent_6 : decode prog_9_method_17_code 6 = .ok (.iconst 1, 1) := by decide +kernel
theorem d_M_isPresent_7 : decode prog_9_method_17_code 7 = .ok (.if_icmp .ne 7, 3) := by decide +kernel
theorem d_M_isPresent_10 : decode prog_9_method_17_code 10 = .ok (.iconst 1, 1) := by decide +kernel
theorem d_M_isPresent_11 : decode prog_9_method_17_code 11 = .ok (.goto 4, 3) := by decide +kernel
theorem d_M_isPresent_14 : decode prog_9_method_17_code 14 = .ok (.iconst 0, 1) := by decide +kernel
theorem d_M_isPresent_15 : decode prog_9_method_17_code 15 = .ok (.ireturn, 1) := by decide +kernel
theorem d_M_present_0 : decode prog_9_method_18_code 0 = .ok (.iconst 0, 1) := by decide +kernel
theorem d_M_present_1 : decode prog_9_method_18_code 1 = .ok (.istore_n 1, 1) := by decide +kernel
theorem d_M_present_2 : decode prog_9_method_18_code 2 = .ok (.iconst 0, 1) := by decide +kernel
theorem d_M_present_3 : decode prog_9_method_18_code 3 = .ok (.istore_n 2, 1) := by decide +kernel
theorem d_M_present_4 : decode prog_9_method_18_code 4 = .ok (.iload_n 2, 1) := by decide +kernel
theorem d_M_present_5 : decode prog_9_method_18_code 5 = .ok (.aload_n 0, 1) := by decide +kernel
theorem d_M_present_6 : decode prog_9_method_18_code 6 = .ok (.getfield 7, 3) := by decide +kernel
theorem d_M_present_9 : decode prog_9_method_18_code 9 = .ok (.bipush 7, 2) := by decide +kernel
theorem d_M_present_11 : decode prog_9_method_18_code 11 = .ok (.iaload, 1) := by decide +kernel
theorem d_M_present_12 : decode prog_9_method_18_code 12 = .ok (.if_icmp .ge 27, 3) := by decide +kernel
theorem d_M_present_15 : decode prog_9_method_18_code 15 = .ok (.iload_n 1, 1) := by decide +kernel
theorem d_M_present_16 : decode prog_9_method_18_code 16 = .ok (.aload_n 0, 1) := by decide +kernel
theorem d_M_present_17 : decode prog_9_method_18_code 17 = .ok (.iload_n 2, 1) := by decide +kernel
theorem d_M_present_18 : decode prog_9_method_18_code 18 = .ok (.invokevirtual 64, 3) := by decide +kernel
theorem d_M_present_21 : decode prog_9_method_18_code 21 = .ok (.ifCond .eq 9, 3) := by decide +kernel
theorem d_M_present_24 : decode prog_9_method_18_code 24 = .ok (.iconst 1, 1) := by decide +kernel
theorem d_M_present_25 : decode prog_9_method_18_code 25 = .ok (.iload_n 2, 1) := by decide +kernel
theorem d_M_present_26 : decode prog_9_method_18_code 26 = .ok (.ishl, 1) := by decide +kernel
theorem d_M_present_27 : decode prog_9_method_18_code 27 = .ok (.goto 4, 3) := by decide +kernel
theorem d_M_present_30 : decode prog_9_method_18_code 30 = .ok (.iconst 0, 1) := by decide +kernel
theorem d_M_present_31 : decode prog_9_method_18_code 31 = .ok (.ior, 1) := by decide +kernel
theorem d_M_present_32 : decode prog_9_method_18_code 32 = .ok (.istore_n 1, 1) := by decide +kernel
theorem d_M_present_33 : decode prog_9_method_18_code 33 = .ok (.iinc 2 1, 3) := by decide +kernel
theorem d_M_present_36 : decode prog_9_method_18_code 36 = .ok (.goto (-32), 3) := by decide +kernel
theorem d_M_present_39 : decode prog_9_method_18_code 39 = .ok (.iload_n 1, 1) := by decide +kernel
theorem d_M_present_40 : decode prog_9_method_18_code 40 = .ok (.ireturn, 1) := by decide +kernel
theorem d_M_bits_0 : decode prog_9_method_4_code 0 = .ok (.iconst 0, 1) := by decide +kernel
theorem d_M_bits_1 : decode prog_9_method_4_code 1 = .ok (.istore_n 1, 1) := by decide +kernel
theorem d_M_bits_2 : decode prog_9_method_4_code 2 = .ok (.iconst 0, 1) := by decide +kernel
theorem d_M_bits_3 : decode prog_9_method_4_code 3 = .ok (.istore_n 2, 1) := by decide +kernel
theorem d_M_bits_4 : decode prog_9_method_4_code 4 = .ok (.iload_n 2, 1) := by decide +kernel
theorem d_M_bits_5 : decode prog_9_method_4_code 5 = .ok (.bipush 12, 2) := by decide +kernel
theorem d_M_bits_7 : decode prog_9_method_4_code 7 = .ok (.if_icmp .ge 17, 3) := by decide +kernel
theorem d_M_bits_10 : decode prog_9_method_4_code 10 = .ok (.iload_n 1, 1) := by decide +kernel
theorem d_M_bits_11 : decode prog_9_method_4_code 11 = .ok (.iload_n 0, 1) := by decide +kernel
theorem d_M_bits_12 : decode prog_9_method_4_code 12 = .ok (.iload_n 2, 1) := by decide +kernel
theorem d_M_bits_13 : decode prog_9_method_4_code 13 = .ok (.ishr, 1) := by decide +kernel
theorem d_M_bits_14 : decode prog_9_method_4_code 14 = .ok (.iconst 1, 1) := by decide +kernel
theorem d_M_bits_15 : decode prog_9_method_4_code 15 = .ok (.iand, 1) := by decide +kernel
theorem d_M_bits_16 : decode prog_9_method_4_code 16 = .ok (.iadd, 1) := by decide +kernel
theorem d_M_bits_17 : decode prog_9_method_4_code 17 = .ok (.istore_n 1, 1) := by decide +kernel
theorem d_M_bits_18 : decode prog_9_method_4_code 18 = .ok (.iinc 2 1, 3) := by decide +kernel
theorem d_M_bits_21 : decode prog_9_method_4_code 21 = .ok (.goto (-17), 3) := by decide +kernel
theorem d_M_bits_24 : decode prog_9_method_4_code 24 = .ok (.iload_n 1, 1) := by decide +kernel
theorem d_M_bits_25 : decode prog_9_method_4_code 25 = .ok (.ireturn, 1) := by decide +kernel
theorem d_M_turnTo_0 : decode prog_9_method_19_code 0 = .ok (.aload_n 0, 1) := by decide +kernel
theorem d_M_turnTo_1 : decode prog_9_method_19_code 1 = .ok (.iload_n 1, 1) := by decide +kernel
theorem d_M_turnTo_2 : decode prog_9_method_19_code 2 = .ok (.invokevirtual 56, 3) := by decide +kernel
theorem d_M_turnTo_5 : decode prog_9_method_19_code 5 = .ok (.ifCond .ne 5, 3) := by decide +kernel
theorem d_M_turnTo_8 : decode prog_9_method_19_code 8 = .ok (.iconst (-1), 1) := by decide +kernel
theorem d_M_turnTo_9 : decode prog_9_method_19_code 9 = .ok (.ireturn, 1) := by decide +kernel
theorem d_M_turnTo_10 : decode prog_9_method_19_code 10 = .ok (.aload_n 0, 1) := by decide +kernel
theorem d_M_turnTo_11 : decode prog_9_method_19_code 11 = .ok (.iload_n 1, 1) := by decide +kernel
theorem d_M_turnTo_12 : decode prog_9_method_19_code 12 = .ok (.iconst 2, 1) := by decide +kernel
theorem d_M_turnTo_13 : decode prog_9_method_19_code 13 = .ok (.invokevirtual 60, 3) := by decide +kernel
theorem d_M_turnTo_16 : decode prog_9_method_19_code 16 = .ok (.iload_n 2, 1) := by decide +kernel
theorem d_M_turnTo_17 : decode prog_9_method_19_code 17 = .ok (.if_icmp .ne 6, 3) := by decide +kernel
theorem d_M_turnTo_20 : decode prog_9_method_19_code 20 = .ok (.bipush (-5), 2) := by decide +kernel
theorem d_M_turnTo_22 : decode prog_9_method_19_code 22 = .ok (.ireturn, 1) := by decide +kernel
theorem d_M_turnTo_23 : decode prog_9_method_19_code 23 = .ok (.aload_n 0, 1) := by decide +kernel
theorem d_M_turnTo_24 : decode prog_9_method_19_code 24 = .ok (.invokevirtual 53, 3) := by decide +kernel
theorem d_M_turnTo_27 : decode prog_9_method_19_code 27 = .ok (.aload_n 0, 1) := by decide +kernel
theorem d_M_turnTo_28 : decode prog_9_method_19_code 28 = .ok (.getfield 7, 3) := by decide +kernel
theorem d_M_turnTo_31 : decode prog_9_method_19_code 31 = .ok (.bipush 20, 2) := by decide +kernel
theorem d_M_turnTo_33 : decode prog_9_method_19_code 33 = .ok (.bipush 6, 2) := by decide +kernel
theorem d_M_turnTo_35 : decode prog_9_method_19_code 35 = .ok (.iload_n 1, 1) := by decide +kernel
theorem d_M_turnTo_36 : decode prog_9_method_19_code 36 = .ok (.imul, 1) := by decide +kernel
theorem d_M_turnTo_37 : decode prog_9_method_19_code 37 = .ok (.iadd, 1) := by decide +kernel
theorem d_M_turnTo_38 : decode prog_9_method_19_code 38 = .ok (.iconst 2, 1) := by decide +kernel
theorem d_M_turnTo_39 : decode prog_9_method_19_code 39 = .ok (.iadd, 1) := by decide +kernel
theorem d_M_turnTo_40 : decode prog_9_method_19_code 40 = .ok (.iload_n 2, 1) := by decide +kernel
theorem d_M_turnTo_41 : decode prog_9_method_19_code 41 = .ok (.iastore, 1) := by decide +kernel
theorem d_M_turnTo_42 : decode prog_9_method_19_code 42 = .ok (.aload_n 0, 1) := by decide +kernel
theorem d_M_turnTo_43 : decode prog_9_method_19_code 43 = .ok (.invokevirtual 67, 3) := by decide +kernel
theorem d_M_turnTo_46 : decode prog_9_method_19_code 46 = .ok (.invokestatic 71, 3) := by decide +kernel
theorem d_M_turnTo_49 : decode prog_9_method_19_code 49 = .ok (.ireturn, 1) := by decide +kernel
theorem d_M_come_0 : decode prog_9_method_20_code 0 = .ok (.aload_n 0, 1) := by decide +kernel
theorem d_M_come_1 : decode prog_9_method_20_code 1 = .ok (.iload_n 1, 1) := by decide +kernel
theorem d_M_come_2 : decode prog_9_method_20_code 2 = .ok (.iconst 1, 1) := by decide +kernel
theorem d_M_come_3 : decode prog_9_method_20_code 3 = .ok (.invokevirtual 75, 3) := by decide +kernel
theorem d_M_come_6 : decode prog_9_method_20_code 6 = .ok (.ireturn, 1) := by decide +kernel
theorem d_M_go_0 : decode prog_9_method_21_code 0 = .ok (.aload_n 0, 1) := by decide +kernel
theorem d_M_go_1 : decode prog_9_method_21_code 1 = .ok (.iload_n 1, 1) := by decide +kernel
theorem d_M_go_2 : decode prog_9_method_21_code 2 = .ok (.iconst 0, 1) := by decide +kernel
theorem d_M_go_3 : decode prog_9_method_21_code 3 = .ok (.invokevirtual 75, 3) := by decide +kernel
theorem d_M_go_6 : decode prog_9_method_21_code 6 = .ok (.ireturn, 1) := by decide +kernel
theorem d_M_later_0 : decode prog_9_method_22_code 0 = .ok (.aload_n 0, 1) := by decide +kernel
theorem d_M_later_1 : decode prog_9_method_22_code 1 = .ok (.iload_n 2, 1) := by decide +kernel
theorem d_M_later_2 : decode prog_9_method_22_code 2 = .ok (.invokevirtual 56, 3) := by decide +kernel
theorem d_M_later_5 : decode prog_9_method_22_code 5 = .ok (.ifCond .ne 5, 3) := by decide +kernel
theorem d_M_later_8 : decode prog_9_method_22_code 8 = .ok (.iconst (-1), 1) := by decide +kernel
theorem d_M_later_9 : decode prog_9_method_22_code 9 = .ok (.ireturn, 1) := by decide +kernel
theorem d_M_later_10 : decode prog_9_method_22_code 10 = .ok (.iload_n 1, 1) := by decide +kernel
theorem d_M_later_11 : decode prog_9_method_22_code 11 = .ok (.aload_n 0, 1) := by decide +kernel
theorem d_M_later_12 : decode prog_9_method_22_code 12 = .ok (.getfield 7, 3) := by decide +kernel
theorem d_M_later_15 : decode prog_9_method_22_code 15 = .ok (.bipush 6, 2) := by decide +kernel
theorem d_M_later_17 : decode prog_9_method_22_code 17 = .ok (.iaload, 1) := by decide +kernel
theorem d_M_later_18 : decode prog_9_method_22_code 18 = .ok (.iconst 1, 1) := by decide +kernel
theorem d_M_later_19 : decode prog_9_method_22_code 19 = .ok (.iadd, 1) := by decide +kernel
theorem d_M_later_20 : decode prog_9_method_22_code 20 = .ok (.aload_n 0, 1) := by decide +kernel
theorem d_M_later_21 : decode prog_9_method_22_code 21 = .ok (.getfield 7, 3) := by decide +kernel
theorem d_M_later_24 : decode prog_9_method_22_code 24 = .ok (.bipush 6, 2) := by decide +kernel
theorem d_M_later_26 : decode prog_9_method_22_code 26 = .ok (.iaload, 1) := by decide +kernel
theorem d_M_later_27 : decode prog_9_method_22_code 27 = .ok (.sipush 600, 3) := by decide +kernel
theorem d_M_later_30 : decode prog_9_method_22_code 30 = .ok (.iadd, 1) := by decide +kernel
theorem d_M_later_31 : decode prog_9_method_22_code 31 = .ok (.invokestatic 49, 3) := by decide +kernel
theorem d_M_later_34 : decode prog_9_method_22_code 34 = .ok (.ifCond .eq 12, 3) := by decide +kernel
theorem d_M_later_37 : decode prog_9_method_22_code 37 = .ok (.iload_n 3, 1) := by decide +kernel
theorem d_M_later_38 : decode prog_9_method_22_code 38 = .ok (.iconst 0, 1) := by decide +kernel
theorem d_M_later_39 : decode prog_9_method_22_code 39 = .ok (.iconst 1, 1) := by decide +kernel
theorem d_M_later_40 : decode prog_9_method_22_code 40 = .ok (.invokestatic 49, 3) := by decide +kernel
theorem d_M_later_43 : decode prog_9_method_22_code 43 = .ok (.ifCond .ne 6, 3) := by decide +kernel
theorem d_M_later_46 : decode prog_9_method_22_code 46 = .ok (.bipush (-2), 2) := by decide +kernel
theorem d_M_later_48 : decode prog_9_method_22_code 48 = .ok (.ireturn, 1) := by decide +kernel
theorem d_M_later_49 : decode prog_9_method_22_code 49 = .ok (.aload_n 0, 1) := by decide +kernel
theorem d_M_later_50 : decode prog_9_method_22_code 50 = .ok (.getfield 7, 3) := by decide +kernel
theorem d_M_later_53 : decode prog_9_method_22_code 53 = .ok (.bipush 10, 2) := by decide +kernel
theorem d_M_later_55 : decode prog_9_method_22_code 55 = .ok (.iaload, 1) := by decide +kernel
theorem d_M_later_56 : decode prog_9_method_22_code 56 = .ok (.bipush 20, 2) := by decide +kernel
theorem d_M_later_58 : decode prog_9_method_22_code 58 = .ok (.if_icmp .ne 6, 3) := by decide +kernel
theorem d_M_later_61 : decode prog_9_method_22_code 61 = .ok (.bipush (-4), 2) := by decide +kernel
theorem d_M_later_63 : decode prog_9_method_22_code 63 = .ok (.ireturn, 1) := by decide +kernel
theorem d_M_later_64 : decode prog_9_method_22_code 64 = .ok (.aload_n 0, 1) := by decide +kernel
theorem d_M_later_65 : decode prog_9_method_22_code 65 = .ok (.invokevirtual 53, 3) := by decide +kernel
theorem d_M_later_68 : decode prog_9_method_22_code 68 = .ok (.sipush 690, 3) := by decide +kernel
theorem d_M_later_71 : decode prog_9_method_22_code 71 = .ok (.iconst 3, 1) := by decide +kernel
theorem d_M_later_72 : decode prog_9_method_22_code 72 = .ok (.aload_n 0, 1) := by decide +kernel
theorem d_M_later_73 : decode prog_9_method_22_code 73 = .ok (.getfield 7, 3) := by decide +kernel
theorem d_M_later_76 : decode prog_9_method_22_code 76 = .ok (.bipush 10, 2) := by decide +kernel
theorem d_M_later_78 : decode prog_9_method_22_code 78 = .ok (.iaload, 1) := by decide +kernel
theorem d_M_later_79 : decode prog_9_method_22_code 79 = .ok (.imul, 1) := by decide +kernel
theorem d_M_later_80 : decode prog_9_method_22_code 80 = .ok (.iadd, 1) := by decide +kernel
theorem d_M_later_81 : decode prog_9_method_22_code 81 = .ok (.istore 4, 2) := by decide +kernel
theorem d_M_later_83 : decode prog_9_method_22_code 83 = .ok (.aload_n 0, 1) := by decide +kernel
theorem d_M_later_84 : decode prog_9_method_22_code 84 = .ok (.getfield 7, 3) := by decide +kernel
theorem d_M_later_87 : decode prog_9_method_22_code 87 = .ok (.iload 4, 2) := by decide +kernel
theorem d_M_later_89 : decode prog_9_method_22_code 89 = .ok (.iload_n 1, 1) := by decide +kernel
theorem d_M_later_90 : decode prog_9_method_22_code 90 = .ok (.iastore, 1) := by decide +kernel
theorem d_M_later_91 : decode prog_9_method_22_code 91 = .ok (.aload_n 0, 1) := by decide +kernel
theorem d_M_later_92 : decode prog_9_method_22_code 92 = .ok (.getfield 7, 3) := by decide +kernel
theorem d_M_later_95 : decode prog_9_method_22_code 95 = .ok (.iload 4, 2) := by decide +kernel
theorem d_M_later_97 : decode prog_9_method_22_code 97 = .ok (.iconst 1, 1) := by decide +kernel
theorem d_M_later_98 : decode prog_9_method_22_code 98 = .ok (.iadd, 1) := by decide +kernel
theorem d_M_later_99 : decode prog_9_method_22_code 99 = .ok (.iload_n 2, 1) := by decide +kernel
theorem d_M_later_100 : decode prog_9_method_22_code 100 = .ok (.iastore, 1) := by decide +kernel
theorem d_M_later_101 : decode prog_9_method_22_code 101 = .ok (.aload_n 0, 1) := by decide +kernel
theorem d_M_later_102 : decode prog_9_method_22_code 102 = .ok (.getfield 7, 3) := by decide +kernel
theorem d_M_later_105 : decode prog_9_method_22_code 105 = .ok (.iload 4, 2) := by decide +kernel
theorem d_M_later_107 : decode prog_9_method_22_code 107 = .ok (.iconst 2, 1) := by decide +kernel
theorem d_M_later_108 : decode prog_9_method_22_code 108 = .ok (.iadd, 1) := by decide +kernel
theorem d_M_later_109 : decode prog_9_method_22_code 109 = .ok (.iload_n 3, 1) := by decide +kernel
theorem d_M_later_110 : decode prog_9_method_22_code 110 = .ok (.iastore, 1) := by decide +kernel
theorem d_M_later_111 : decode prog_9_method_22_code 111 = .ok (.aload_n 0, 1) := by decide +kernel
theorem d_M_later_112 : decode prog_9_method_22_code 112 = .ok (.getfield 7, 3) := by decide +kernel
theorem d_M_later_115 : decode prog_9_method_22_code 115 = .ok (.bipush 10, 2) := by decide +kernel
theorem d_M_later_117 : decode prog_9_method_22_code 117 = .ok (.dup2, 1) := by decide +kernel
theorem d_M_later_118 : decode prog_9_method_22_code 118 = .ok (.iaload, 1) := by decide +kernel
theorem d_M_later_119 : decode prog_9_method_22_code 119 = .ok (.iconst 1, 1) := by decide +kernel
theorem d_M_later_120 : decode prog_9_method_22_code 120 = .ok (.iadd, 1) := by decide +kernel
theorem d_M_later_121 : decode prog_9_method_22_code 121 = .ok (.iastore, 1) := by decide +kernel
theorem d_M_later_122 : decode prog_9_method_22_code 122 = .ok (.aload_n 0, 1) := by decide +kernel
theorem d_M_later_123 : decode prog_9_method_22_code 123 = .ok (.getfield 7, 3) := by decide +kernel
theorem d_M_later_126 : decode prog_9_method_22_code 126 = .ok (.bipush 10, 2) := by decide +kernel
theorem d_M_later_128 : decode prog_9_method_22_code 128 = .ok (.iaload, 1) := by decide +kernel
theorem d_M_later_129 : decode prog_9_method_22_code 129 = .ok (.ireturn, 1) := by decide +kernel
theorem d_M_isItem_0 : decode prog_9_method_12_code 0 = .ok (.iload_n 1, 1) := by decide +kernel
theorem d_M_isItem_1 : decode prog_9_method_12_code 1 = .ok (.iconst 0, 1) := by decide +kernel
theorem d_M_isItem_2 : decode prog_9_method_12_code 2 = .ok (.aload_n 0, 1) := by decide +kernel
theorem d_M_isItem_3 : decode prog_9_method_12_code 3 = .ok (.getfield 7, 3) := by decide +kernel
theorem d_M_isItem_6 : decode prog_9_method_12_code 6 = .ok (.bipush 8, 2) := by decide +kernel
theorem d_M_isItem_8 : decode prog_9_method_12_code 8 = .ok (.iaload, 1) := by decide +kernel
theorem d_M_isItem_9 : decode prog_9_method_12_code 9 = .ok (.iconst 1, 1) := by decide +kernel
theorem d_M_isItem_10 : decode prog_9_method_12_code 10 = .ok (.isub, 1) := by decide +kernel
theorem d_M_isItem_11 : decode prog_9_method_12_code 11 = .ok (.invokestatic 49, 3) := by decide +kernel
theorem d_M_isItem_14 : decode prog_9_method_12_code 14 = .ok (.ireturn, 1) := by decide +kernel
theorem d_M_proxy_0 : decode prog_9_method_23_code 0 = .ok (.aload_n 0, 1) := by decide +kernel
theorem d_M_proxy_1 : decode prog_9_method_23_code 1 = .ok (.iload_n 1, 1) := by decide +kernel
theorem d_M_proxy_2 : decode prog_9_method_23_code 2 = .ok (.invokevirtual 56, 3) := by decide +kernel
theorem d_M_proxy_5 : decode prog_9_method_23_code 5 = .ok (.ifCond .eq 36, 3) := by decide +kernel
theorem d_M_proxy_8 : decode prog_9_method_23_code 8 = .ok (.iload_n 2, 1) := by decide +kernel
theorem d_M_proxy_9 : decode prog_9_method_23_code 9 = .ok (.bipush (-6), 2) := by decide +kernel
theorem d_M_proxy_11 : decode prog_9_method_23_code 11 = .ok (.if_icmp .eq 11, 3) := by decide +kernel
theorem d_M_proxy_14 : decode prog_9_method_23_code 14 = .ok (.aload_n 0, 1) := by decide +kernel
theorem d_M_proxy_15 : decode prog_9_method_23_code 15 = .ok (.iload_n 2, 1) := by decide +kernel
theorem d_M_proxy_16 : decode prog_9_method_23_code 16 = .ok (.invokevirtual 78, 3) := by decide +kernel
theorem d_M_proxy_19 : decode prog_9_method_23_code 19 = .ok (.ifCond .eq 22, 3) := by decide +kernel
theorem d_M_proxy_22 : decode prog_9_method_23_code 22 = .ok (.iload_n 3, 1) := by decide +kernel
theorem d_M_proxy_23 : decode prog_9_method_23_code 23 = .ok (.bipush (-6), 2) := by decide +kernel
theorem d_M_proxy_25 : decode prog_9_method_23_code 25 = .ok (.if_icmp .eq 11, 3) := by decide +kernel
theorem d_M_proxy_28 : decode prog_9_method_23_code 28 = .ok (.aload_n 0, 1) := by decide +kernel
theorem d_M_proxy_29 : decode prog_9_method_23_code 29 = .ok (.iload_n 3, 1) := by decide +kernel
theorem d_M_proxy_30 : decode prog_9_method_23_code 30 = .ok (.invokevirtual 56, 3) := by decide +kernel
theorem d_M_proxy_33 : decode prog_9_method_23_code 33 = .ok (.ifCond .eq 8, 3) := by decide +kernel
theorem d_M_proxy_36 : decode prog_9_method_23_code 36 = .ok (.iload_n 3, 1) := by decide +kernel
theorem d_M_proxy_37 : decode prog_9_method_23_code 37 = .ok (.iload_n 1, 1) := by decide +kernel
theorem d_M_proxy_38 : decode prog_9_method_23_code 38 = .ok (.if_icmp .ne 5, 3) := by decide +kernel
theorem d_M_proxy_41 : decode prog_9_method_23_code 41 = .ok (.iconst (-1), 1) := by decide +kernel
theorem d_M_proxy_42 : decode prog_9_method_23_code 42 = .ok (.ireturn, 1) := by decide +kernel
theorem d_M_proxy_43 : decode prog_9_method_23_code 43 = .ok (.aload_n 0, 1) := by decide +kernel
theorem d_M_proxy_44 : decode prog_9_method_23_code 44 = .ok (.invokevirtual 53, 3) := by decide +kernel
theorem d_M_proxy_47 : decode prog_9_method_23_code 47 = .ok (.iload_n 2, 1) := by decide +kernel
theorem d_M_proxy_48 : decode prog_9_method_23_code 48 = .ok (.ifCond .ge 15, 3) := by decide +kernel
theorem d_M_proxy_51 : decode prog_9_method_23_code 51 = .ok (.bipush 20, 2) := by decide +kernel
theorem d_M_proxy_53 : decode prog_9_method_23_code 53 = .ok (.bipush 6, 2) := by decide +kernel
theorem d_M_proxy_55 : decode prog_9_method_23_code 55 = .ok (.iload_n 1, 1) := by decide +kernel
theorem d_M_proxy_56 : decode prog_9_method_23_code 56 = .ok (.imul, 1) := by decide +kernel
theorem d_M_proxy_57 : decode prog_9_method_23_code 57 = .ok (.iadd, 1) := by decide +kernel
theorem d_M_proxy_58 : decode prog_9_method_23_code 58 = .ok (.iconst 3, 1) := by decide +kernel
theorem d_M_proxy_59 : decode prog_9_method_23_code 59 = .ok (.iadd, 1) := by decide +kernel
theorem d_M_proxy_60 : decode prog_9_method_23_code 60 = .ok (.goto 15, 3) := by decide +kernel
theorem d_M_proxy_63 : decode prog_9_method_23_code 63 = .ok (.sipush 250, 3) := by decide +kernel
theorem d_M_proxy_66 : decode prog_9_method_23_code 66 = .ok (.iconst 3, 1) := by decide +kernel
theorem d_M_proxy_67 : decode prog_9_method_23_code 67 = .ok (.bipush 12, 2) := by decide +kernel
theorem d_M_proxy_69 : decode prog_9_method_23_code 69 = .ok (.iload_n 2, 1) := by decide +kernel
theorem d_M_proxy_70 : decode prog_9_method_23_code 70 = .ok (.imul, 1) := by decide +kernel
theorem d_M_proxy_71 : decode prog_9_method_23_code 71 = .ok (.iload_n 1, 1) := by decide +kernel
theorem d_M_proxy_72 : decode prog_9_method_23_code 72 = .ok (.iadd, 1) := by decide +kernel
theorem d_M_proxy_73 : decode prog_9_method_23_code 73 = .ok (.imul, 1) := by decide +kernel
theorem d_M_proxy_74 : decode prog_9_method_23_code 74 = .ok (.iadd, 1) := by decide +kernel
theorem d_M_proxy_75 : decode prog_9_method_23_code 75 = .ok (.istore 4, 2) := by decide +kernel
theorem d_M_proxy_77 : decode prog_9_method_23_code 77 = .ok (.aload_n 0, 1) := by decide +kernel
theorem d_M_proxy_78 : decode prog_9_method_23_code 78 = .ok (.getfield 7, 3) := by decide +kernel
theorem d_M_proxy_81 : decode prog_9_method_23_code 81 = .ok (.iload 4, 2) := by decide +kernel
theorem d_M_proxy_83 : decode prog_9_method_23_code 83 = .ok (.iaload, 1) := by decide +kernel
theorem d_M_proxy_84 : decode prog_9_method_23_code 84 = .ok (.istore 5, 2) := by decide +kernel
theorem d_M_proxy_86 : decode prog_9_method_23_code 86 = .ok (.aload_n 0, 1) := by decide +kernel
theorem d_M_proxy_87 : decode prog_9_method_23_code 87 = .ok (.getfield 7, 3) := by decide +kernel
theorem d_M_proxy_90 : decode prog_9_method_23_code 90 = .ok (.iload 4, 2) := by decide +kernel
theorem d_M_proxy_92 : decode prog_9_method_23_code 92 = .ok (.iload_n 3, 1) := by decide +kernel
theorem d_M_proxy_93 : decode prog_9_method_23_code 93 = .ok (.iastore, 1) := by decide +kernel
theorem d_M_proxy_94 : decode prog_9_method_23_code 94 = .ok (.iload 5, 2) := by decide +kernel
theorem d_M_proxy_96 : decode prog_9_method_23_code 96 = .ok (.ireturn, 1) := by decide +kernel
theorem d_M_stateOf_0 : decode prog_9_method_14_code 0 = .ok (.aload_n 0, 1) := by decide +kernel
theorem d_M_stateOf_1 : decode prog_9_method_14_code 1 = .ok (.getfield 7, 3) := by decide +kernel
theorem d_M_stateOf_4 : decode prog_9_method_14_code 4 = .ok (.bipush 100, 2) := by decide +kernel
theorem d_M_stateOf_6 : decode prog_9_method_14_code 6 = .ok (.bipush 12, 2) := by decide +kernel
theorem d_M_stateOf_8 : decode prog_9_method_14_code 8 = .ok (.iload_n 1, 1) := by decide +kernel
theorem d_M_stateOf_9 : decode prog_9_method_14_code 9 = .ok (.imul, 1) := by decide +kernel
theorem d_M_stateOf_10 : decode prog_9_method_14_code 10 = .ok (.iadd, 1) := by decide +kernel
theorem d_M_stateOf_11 : decode prog_9_method_14_code 11 = .ok (.iconst 2, 1) := by decide +kernel
theorem d_M_stateOf_12 : decode prog_9_method_14_code 12 = .ok (.iadd, 1) := by decide +kernel
theorem d_M_stateOf_13 : decode prog_9_method_14_code 13 = .ok (.iaload, 1) := by decide +kernel
theorem d_M_stateOf_14 : decode prog_9_method_14_code 14 = .ok (.ireturn, 1) := by decide +kernel
theorem d_M_isAhead_0 : decode prog_9_method_24_code 0 = .ok (.aload_n 0, 1) := by decide +kernel
theorem d_M_isAhead_1 : decode prog_9_method_24_code 1 = .ok (.iload_n 1, 1) := by decide +kernel
theorem d_M_isAhead_2 : decode prog_9_method_24_code 2 = .ok (.invokevirtual 81, 3) := by decide +kernel
theorem d_M_isAhead_5 : decode prog_9_method_24_code 5 = .ok (.iconst 2, 1) := by decide +kernel
theorem d_M_isAhead_6 : decode prog_9_method_24_code 6 = .ok (.if_icmp .ge 7, 3) := by decide +kernel
theorem d_M_isAhead_9 : decode prog_9_method_24_code 9 = .ok (.iconst 1, 1) := by decide +kernel
theorem d_M_isAhead_10 : decode prog_9_method_24_code 10 = .ok (.goto 4, 3) := by decide +kernel
theorem d_M_isAhead_13 : decode prog_9_method_24_code 13 = .ok (.iconst 0, 1) := by decide +kernel
theorem d_M_isAhead_14 : decode prog_9_method_24_code 14 = .ok (.ireturn, 1) := by decide +kernel
theorem d_M_tell_0 : decode prog_9_method_25_code 0 = .ok (.aload_n 0, 1) := by decide +kernel
theorem d_M_tell_1 : decode prog_9_method_25_code 1 = .ok (.iload_n 1, 1) := by decide +kernel
theorem d_M_tell_2 : decode prog_9_method_25_code 2 = .ok (.invokevirtual 56, 3) := by decide +kernel
theorem d_M_tell_5 : decode prog_9_method_25_code 5 = .ok (.ifCond .eq 11, 3) := by decide +kernel
theorem d_M_tell_8 : decode prog_9_method_25_code 8 = .ok (.aload_n 0, 1) := by decide +kernel
theorem d_M_tell_9 : decode prog_9_method_25_code 9 = .ok (.iload_n 2, 1) := by decide +kernel
theorem d_M_tell_10 : decode prog_9_method_25_code 10 = .ok (.invokevirtual 78, 3) := by decide +kernel
theorem d_M_tell_13 : decode prog_9_method_25_code 13 = .ok (.ifCond .ne 5, 3) := by decide +kernel
theorem d_M_tell_16 : decode prog_9_method_25_code 16 = .ok (.iconst (-1), 1) := by decide +kernel
theorem d_M_tell_17 : decode prog_9_method_25_code 17 = .ok (.ireturn, 1) := by decide +kernel
theorem d_M_tell_18 : decode prog_9_method_25_code 18 = .ok (.iload_n 3, 1) := by decide +kernel
theorem d_M_tell_19 : decode prog_9_method_25_code 19 = .ok (.bipush (-6), 2) := by decide +kernel
theorem d_M_tell_21 : decode prog_9_method_25_code 21 = .ok (.if_icmp .eq 15, 3) := by decide +kernel
theorem d_M_tell_24 : decode prog_9_method_25_code 24 = .ok (.iload_n 3, 1) := by decide +kernel
theorem d_M_tell_25 : decode prog_9_method_25_code 25 = .ok (.iconst 0, 1) := by decide +kernel
theorem d_M_tell_26 : decode prog_9_method_25_code 26 = .ok (.iconst 2, 1) := by decide +kernel
theorem d_M_tell_27 : decode prog_9_method_25_code 27 = .ok (.invokestatic 49, 3) := by decide +kernel
theorem d_M_tell_30 : decode prog_9_method_25_code 30 = .ok (.ifCond .ne 6, 3) := by decide +kernel
theorem d_M_tell_33 : decode prog_9_method_25_code 33 = .ok (.bipush (-2), 2) := by decide +kernel
theorem d_M_tell_35 : decode prog_9_method_25_code 35 = .ok (.ireturn, 1) := by decide +kernel
theorem d_M_tell_36 : decode prog_9_method_25_code 36 = .ok (.aload_n 0, 1) := by decide +kernel
theorem d_M_tell_37 : decode prog_9_method_25_code 37 = .ok (.iload_n 2, 1) := by decide +kernel
theorem d_M_tell_38 : decode prog_9_method_25_code 38 = .ok (.invokevirtual 84, 3) := by decide +kernel
theorem d_M_tell_41 : decode prog_9_method_25_code 41 = .ok (.ifCond .ne 6, 3) := by decide +kernel
theorem d_M_tell_44 : decode prog_9_method_25_code 44 = .ok (.bipush (-5), 2) := by decide +kernel
theorem d_M_tell_46 : decode prog_9_method_25_code 46 = .ok (.ireturn, 1) := by decide +kernel
theorem d_M_tell_47 : decode prog_9_method_25_code 47 = .ok (.aload_n 0, 1) := by decide +kernel
theorem d_M_tell_48 : decode prog_9_method_25_code 48 = .ok (.invokevirtual 53, 3) := by decide +kernel
theorem d_M_tell_51 : decode prog_9_method_25_code 51 = .ok (.sipush 250, 3) := by decide +kernel
theorem d_M_tell_54 : decode prog_9_method_25_code 54 = .ok (.iconst 3, 1) := by decide +kernel
theorem d_M_tell_55 : decode prog_9_method_25_code 55 = .ok (.bipush 12, 2) := by decide +kernel
theorem d_M_tell_57 : decode prog_9_method_25_code 57 = .ok (.iload_n 2, 1) := by decide +kernel
theorem d_M_tell_58 : decode prog_9_method_25_code 58 = .ok (.imul, 1) := by decide +kernel
theorem d_M_tell_59 : decode prog_9_method_25_code 59 = .ok (.iload_n 1, 1) := by decide +kernel
theorem d_M_tell_60 : decode prog_9_method_25_code 60 = .ok (.iadd, 1) := by decide +kernel
theorem d_M_tell_61 : decode prog_9_method_25_code 61 = .ok (.imul, 1) := by decide +kernel
theorem d_M_tell_62 : decode prog_9_method_25_code 62 = .ok (.iadd, 1) := by decide +kernel
theorem d_M_tell_63 : decode prog_9_method_25_code 63 = .ok (.iconst 2, 1) := by decide +kernel
theorem d_M_tell_64 : decode prog_9_method_25_code 64 = .ok (.iadd, 1) := by decide +kernel
theorem d_M_tell_65 : decode prog_9_method_25_code 65 = .ok (.istore 4, 2) := by decide +kernel
theorem d_M_tell_67 : decode prog_9_method_25_code 67 = .ok (.aload_n 0, 1) := by decide +kernel
theorem d_M_tell_68 : decode prog_9_method_25_code 68 = .ok (.getfield 7, 3) := by decide +kernel
theorem d_M_tell_71 : decode prog_9_method_25_code 71 = .ok (.iload 4, 2) := by decide +kernel
theorem d_M_tell_73 : decode prog_9_method_25_code 73 = .ok (.iaload, 1) := by decide +kernel
theorem d_M_tell_74 : decode prog_9_method_25_code 74 = .ok (.istore 5, 2) := by decide +kernel
theorem d_M_tell_76 : decode prog_9_method_25_code 76 = .ok (.aload_n 0, 1) := by decide +kernel
theorem d_M_tell_77 : decode prog_9_method_25_code 77 = .ok (.getfield 7, 3) := by decide +kernel
theorem d_M_tell_80 : decode prog_9_method_25_code 80 = .ok (.iload 4, 2) := by decide +kernel
theorem d_M_tell_82 : decode prog_9_method_25_code 82 = .ok (.iload_n 3, 1) := by decide +kernel
theorem d_M_tell_83 : decode prog_9_method_25_code 83 = .ok (.iastore, 1) := by decide +kernel
theorem d_M_tell_84 : decode prog_9_method_25_code 84 = .ok (.iload 5, 2) := by decide +kernel
theorem d_M_tell_86 : decode prog_9_method_25_code 86 = .ok (.ireturn, 1) := by decide +kernel
theorem d_M_has_0 : decode prog_9_method_3_code 0 = .ok (.iload_n 0, 1) := by decide +kernel
theorem d_M_has_1 : decode prog_9_method_3_code 1 = .ok (.iload_n 1, 1) := by decide +kernel
theorem d_M_has_2 : decode prog_9_method_3_code 2 = .ok (.ishr, 1) := by decide +kernel
theorem d_M_has_3 : decode prog_9_method_3_code 3 = .ok (.iconst 1, 1) := by decide +kernel
theorem d_M_has_4 : decode prog_9_method_3_code 4 = .ok (.iand, 1) := by decide +kernel
theorem d_M_has_5 : decode prog_9_method_3_code 5 = .ok (.iconst 1, 1) := by decide +kernel
theorem d_M_has_6 : decode prog_9_method_3_code 6 = .ok (.if_icmp .ne 7, 3) := by decide +kernel
theorem d_M_has_9 : decode prog_9_method_3_code 9 = .ok (.iconst 1, 1) := by decide +kernel
theorem d_M_has_10 : decode prog_9_method_3_code 10 = .ok (.goto 4, 3) := by decide +kernel
theorem d_M_has_13 : decode prog_9_method_3_code 13 = .ok (.iconst 0, 1) := by decide +kernel
theorem d_M_has_14 : decode prog_9_method_3_code 14 = .ok (.ireturn, 1) := by decide +kernel
theorem d_M_isRecused_0 : decode prog_9_method_26_code 0 = .ok (.bipush 100, 2) := by decide +kernel
theorem d_M_isRecused_2 : decode prog_9_method_26_code 2 = .ok (.bipush 12, 2) := by decide +kernel
theorem d_M_isRecused_4 : decode prog_9_method_26_code 4 = .ok (.iload_n 2, 1) := by decide +kernel
theorem d_M_isRecused_5 : decode prog_9_method_26_code 5 = .ok (.imul, 1) := by decide +kernel
theorem d_M_isRecused_6 : decode prog_9_method_26_code 6 = .ok (.iadd, 1) := by decide +kernel
theorem d_M_isRecused_7 : decode prog_9_method_26_code 7 = .ok (.istore_n 3, 1) := by decide +kernel
theorem d_M_isRecused_8 : decode prog_9_method_26_code 8 = .ok (.aload_n 0, 1) := by decide +kernel
theorem d_M_isRecused_9 : decode prog_9_method_26_code 9 = .ok (.getfield 7, 3) := by decide +kernel
theorem d_M_isRecused_12 : decode prog_9_method_26_code 12 = .ok (.iload_n 3, 1) := by decide +kernel
theorem d_M_isRecused_13 : decode prog_9_method_26_code 13 = .ok (.iconst 1, 1) := by decide +kernel
theorem d_M_isRecused_14 : decode prog_9_method_26_code 14 = .ok (.iadd, 1) := by decide +kernel
theorem d_M_isRecused_15 : decode prog_9_method_26_code 15 = .ok (.iaload, 1) := by decide +kernel
theorem d_M_isRecused_16 : decode prog_9_method_26_code 16 = .ok (.aload_n 0, 1) := by decide +kernel
theorem d_M_isRecused_17 : decode prog_9_method_26_code 17 = .ok (.iload_n 1, 1) := by decide +kernel
theorem d_M_isRecused_18 : decode prog_9_method_26_code 18 = .ok (.iconst 1, 1) := by decide +kernel
theorem d_M_isRecused_19 : decode prog_9_method_26_code 19 = .ok (.invokevirtual 60, 3) := by decide +kernel
theorem d_M_isRecused_22 : decode prog_9_method_26_code 22 = .ok (.invokestatic 87, 3) := by decide +kernel
theorem d_M_isRecused_25 : decode prog_9_method_26_code 25 = .ok (.ifCond .ne 19, 3) := by decide +kernel
theorem d_M_isRecused_28 : decode prog_9_method_26_code 28 = .ok (.aload_n 0, 1) := by decide +kernel
theorem d_M_isRecused_29 : decode prog_9_method_26_code 29 = .ok (.getfield 7, 3) := by decide +kernel
theorem d_M_isRecused_32 : decode prog_9_method_26_code 32 = .ok (.iload_n 3, 1) := by decide +kernel
theorem d_M_isRecused_33 : decode prog_9_method_26_code 33 = .ok (.bipush 11, 2) := by decide +kernel
theorem d_M_isRecused_35 : decode prog_9_method_26_code 35 = .ok (.iadd, 1) := by decide +kernel
theorem d_M_isRecused_36 : decode prog_9_method_26_code 36 = .ok (.iaload, 1) := by decide +kernel
theorem d_M_isRecused_37 : decode prog_9_method_26_code 37 = .ok (.iload_n 1, 1) := by decide +kernel
theorem d_M_isRecused_38 : decode prog_9_method_26_code 38 = .ok (.invokestatic 87, 3) := by decide +kernel
theorem d_M_isRecused_41 : decode prog_9_method_26_code 41 = .ok (.ifCond .eq 7, 3) := by decide +kernel
theorem d_M_isRecused_44 : decode prog_9_method_26_code 44 = .ok (.iconst 1, 1) := by decide +kernel
theorem d_M_isRecused_45 : decode prog_9_method_26_code 45 = .ok (.goto 4, 3) := by decide +kernel
theorem d_M_isRecused_48 : decode prog_9_method_26_code 48 = .ok (.iconst 0, 1) := by decide +kernel
theorem d_M_isRecused_49 : decode prog_9_method_26_code 49 = .ok (.ireturn, 1) := by decide +kernel
theorem d_M_recuse_0 : decode prog_9_method_27_code 0 = .ok (.aload_n 0, 1) := by decide +kernel
theorem d_M_recuse_1 : decode prog_9_method_27_code 1 = .ok (.iload_n 1, 1) := by decide +kernel
theorem d_M_recuse_2 : decode prog_9_method_27_code 2 = .ok (.invokevirtual 56, 3) := by decide +kernel
theorem d_M_recuse_5 : decode prog_9_method_27_code 5 = .ok (.ifCond .eq 11, 3) := by decide +kernel
theorem d_M_recuse_8 : decode prog_9_method_27_code 8 = .ok (.aload_n 0, 1) := by decide +kernel
theorem d_M_recuse_9 : decode prog_9_method_27_code 9 = .ok (.iload_n 2, 1) := by decide +kernel
theorem d_M_recuse_10 : decode prog_9_method_27_code 10 = .ok (.invokevirtual 78, 3) := by decide +kernel
theorem d_M_recuse_13 : decode prog_9_method_27_code 13 = .ok (.ifCond .ne 5, 3) := by decide +kernel
theorem d_M_recuse_16 : decode prog_9_method_27_code 16 = .ok (.iconst (-1), 1) := by decide +kernel
theorem d_M_recuse_17 : decode prog_9_method_27_code 17 = .ok (.ireturn, 1) := by decide +kernel
theorem d_M_recuse_18 : decode prog_9_method_27_code 18 = .ok (.iload_n 3, 1) := by decide +kernel
theorem d_M_recuse_19 : decode prog_9_method_27_code 19 = .ok (.iconst 0, 1) := by decide +kernel
theorem d_M_recuse_20 : decode prog_9_method_27_code 20 = .ok (.iconst 1, 1) := by decide +kernel
theorem d_M_recuse_21 : decode prog_9_method_27_code 21 = .ok (.invokestatic 49, 3) := by decide +kernel
theorem d_M_recuse_24 : decode prog_9_method_27_code 24 = .ok (.ifCond .ne 6, 3) := by decide +kernel
theorem d_M_recuse_27 : decode prog_9_method_27_code 27 = .ok (.bipush (-2), 2) := by decide +kernel
theorem d_M_recuse_29 : decode prog_9_method_27_code 29 = .ok (.ireturn, 1) := by decide +kernel
theorem d_M_recuse_30 : decode prog_9_method_27_code 30 = .ok (.aload_n 0, 1) := by decide +kernel
theorem d_M_recuse_31 : decode prog_9_method_27_code 31 = .ok (.iload_n 2, 1) := by decide +kernel
theorem d_M_recuse_32 : decode prog_9_method_27_code 32 = .ok (.invokevirtual 84, 3) := by decide +kernel
theorem d_M_recuse_35 : decode prog_9_method_27_code 35 = .ok (.ifCond .ne 6, 3) := by decide +kernel
theorem d_M_recuse_38 : decode prog_9_method_27_code 38 = .ok (.bipush (-5), 2) := by decide +kernel
theorem d_M_recuse_40 : decode prog_9_method_27_code 40 = .ok (.ireturn, 1) := by decide +kernel
theorem d_M_recuse_41 : decode prog_9_method_27_code 41 = .ok (.aload_n 0, 1) := by decide +kernel
theorem d_M_recuse_42 : decode prog_9_method_27_code 42 = .ok (.invokevirtual 53, 3) := by decide +kernel
theorem d_M_recuse_45 : decode prog_9_method_27_code 45 = .ok (.bipush 100, 2) := by decide +kernel
theorem d_M_recuse_47 : decode prog_9_method_27_code 47 = .ok (.bipush 12, 2) := by decide +kernel
theorem d_M_recuse_49 : decode prog_9_method_27_code 49 = .ok (.iload_n 2, 1) := by decide +kernel
theorem d_M_recuse_50 : decode prog_9_method_27_code 50 = .ok (.imul, 1) := by decide +kernel
theorem d_M_recuse_51 : decode prog_9_method_27_code 51 = .ok (.iadd, 1) := by decide +kernel
theorem d_M_recuse_52 : decode prog_9_method_27_code 52 = .ok (.bipush 11, 2) := by decide +kernel
theorem d_M_recuse_54 : decode prog_9_method_27_code 54 = .ok (.iadd, 1) := by decide +kernel
theorem d_M_recuse_55 : decode prog_9_method_27_code 55 = .ok (.istore 4, 2) := by decide +kernel
theorem d_M_recuse_57 : decode prog_9_method_27_code 57 = .ok (.aload_n 0, 1) := by decide +kernel
theorem d_M_recuse_58 : decode prog_9_method_27_code 58 = .ok (.getfield 7, 3) := by decide +kernel
theorem d_M_recuse_61 : decode prog_9_method_27_code 61 = .ok (.iload 4, 2) := by decide +kernel
theorem d_M_recuse_63 : decode prog_9_method_27_code 63 = .ok (.aload_n 0, 1) := by decide +kernel
theorem d_M_recuse_64 : decode prog_9_method_27_code 64 = .ok (.getfield 7, 3) := by decide +kernel
theorem d_M_recuse_67 : decode prog_9_method_27_code 67 = .ok (.iload 4, 2) := by decide +kernel
theorem d_M_recuse_69 : decode prog_9_method_27_code 69 = .ok (.iaload, 1) := by decide +kernel
theorem d_M_recuse_70 : decode prog_9_method_27_code 70 = .ok (.iconst 1, 1) := by decide +kernel
theorem d_M_recuse_71 : decode prog_9_method_27_code 71 = .ok (.iload_n 1, 1) := by decide +kernel
theorem d_M_recuse_72 : decode prog_9_method_27_code 72 = .ok (.ishl, 1) := by decide +kernel
theorem d_M_recuse_73 : decode prog_9_method_27_code 73 = .ok (.iconst (-1), 1) := by decide +kernel
theorem d_M_recuse_74 : decode prog_9_method_27_code 74 = .ok (.ixor, 1) := by decide +kernel
theorem d_M_recuse_75 : decode prog_9_method_27_code 75 = .ok (.iand, 1) := by decide +kernel
theorem d_M_recuse_76 : decode prog_9_method_27_code 76 = .ok (.iload_n 3, 1) := by decide +kernel
theorem d_M_recuse_77 : decode prog_9_method_27_code 77 = .ok (.iload_n 1, 1) := by decide +kernel
theorem d_M_recuse_78 : decode prog_9_method_27_code 78 = .ok (.ishl, 1) := by decide +kernel
theorem d_M_recuse_79 : decode prog_9_method_27_code 79 = .ok (.ior, 1) := by decide +kernel
theorem d_M_recuse_80 : decode prog_9_method_27_code 80 = .ok (.iastore, 1) := by decide +kernel
theorem d_M_recuse_81 : decode prog_9_method_27_code 81 = .ok (.aload_n 0, 1) := by decide +kernel
theorem d_M_recuse_82 : decode prog_9_method_27_code 82 = .ok (.iload_n 1, 1) := by decide +kernel
theorem d_M_recuse_83 : decode prog_9_method_27_code 83 = .ok (.iload_n 2, 1) := by decide +kernel
theorem d_M_recuse_84 : decode prog_9_method_27_code 84 = .ok (.invokevirtual 91, 3) := by decide +kernel
theorem d_M_recuse_87 : decode prog_9_method_27_code 87 = .ok (.ifCond .eq 7, 3) := by decide +kernel
theorem d_M_recuse_90 : decode prog_9_method_27_code 90 = .ok (.iconst 1, 1) := by decide +kernel
theorem d_M_recuse_91 : decode prog_9_method_27_code 91 = .ok (.goto 4, 3) := by decide +kernel
theorem d_M_recuse_94 : decode prog_9_method_27_code 94 = .ok (.iconst 0, 1) := by decide +kernel
theorem d_M_recuse_95 : decode prog_9_method_27_code 95 = .ok (.ireturn, 1) := by decide +kernel
theorem d_M_itemIn_0 : decode prog_9_method_37_code 0 = .ok (.bipush (-6), 2) := by decide +kernel
theorem d_M_itemIn_2 : decode prog_9_method_37_code 2 = .ok (.istore_n 2, 1) := by decide +kernel
theorem d_M_itemIn_3 : decode prog_9_method_37_code 3 = .ok (.aload_n 0, 1) := by decide +kernel
theorem d_M_itemIn_4 : decode prog_9_method_37_code 4 = .ok (.getfield 7, 3) := by decide +kernel
theorem d_M_itemIn_7 : decode prog_9_method_37_code 7 = .ok (.bipush 8, 2) := by decide +kernel
theorem d_M_itemIn_9 : decode prog_9_method_37_code 9 = .ok (.iaload, 1) := by decide +kernel
theorem d_M_itemIn_10 : decode prog_9_method_37_code 10 = .ok (.iconst 1, 1) := by decide +kernel
theorem d_M_itemIn_11 : decode prog_9_method_37_code 11 = .ok (.isub, 1) := by decide +kernel
theorem d_M_itemIn_12 : decode prog_9_method_37_code 12 = .ok (.istore_n 3, 1) := by decide +kernel
theorem d_M_itemIn_13 : decode prog_9_method_37_code 13 = .ok (.iload_n 3, 1) := by decide +kernel
theorem d_M_itemIn_14 : decode prog_9_method_37_code 14 = .ok (.ifCond .lt 24, 3) := by decide +kernel
theorem d_M_itemIn_17 : decode prog_9_method_37_code 17 = .ok (.aload_n 0, 1) := by decide +kernel
theorem d_M_itemIn_18 : decode prog_9_method_37_code 18 = .ok (.iload_n 3, 1) := by decide +kernel
theorem d_M_itemIn_19 : decode prog_9_method_37_code 19 = .ok (.invokevirtual 81, 3) := by decide +kernel
theorem d_M_itemIn_22 : decode prog_9_method_37_code 22 = .ok (.iload_n 1, 1) := by decide +kernel
theorem d_M_itemIn_23 : decode prog_9_method_37_code 23 = .ok (.if_icmp .ne 7, 3) := by decide +kernel
theorem d_M_itemIn_26 : decode prog_9_method_37_code 26 = .ok (.iload_n 3, 1) := by decide +kernel
theorem d_M_itemIn_27 : decode prog_9_method_37_code 27 = .ok (.goto 4, 3) := by decide +kernel
theorem d_M_itemIn_30 : decode prog_9_method_37_code 30 = .ok (.iload_n 2, 1) := by decide +kernel
theorem d_M_itemIn_31 : decode prog_9_method_37_code 31 = .ok (.istore_n 2, 1) := by decide +kernel
theorem d_M_itemIn_32 : decode prog_9_method_37_code 32 = .ok (.iinc 3 (-1), 3) := by decide +kernel
theorem d_M_itemIn_35 : decode prog_9_method_37_code 35 = .ok (.goto (-22), 3) := by decide +kernel
theorem d_M_itemIn_38 : decode prog_9_method_37_code 38 = .ok (.iload_n 2, 1) := by decide +kernel
theorem d_M_itemIn_39 : decode prog_9_method_37_code 39 = .ok (.ireturn, 1) := by decide +kernel
theorem d_M_pair_0 : decode prog_9_method_15_code 0 = .ok (.aload_n 0, 1) := by decide +kernel
theorem d_M_pair_1 : decode prog_9_method_15_code 1 = .ok (.getfield 7, 3) := by decide +kernel
theorem d_M_pair_4 : decode prog_9_method_15_code 4 = .ok (.sipush 250, 3) := by decide +kernel
theorem d_M_pair_7 : decode prog_9_method_15_code 7 = .ok (.iconst 3, 1) := by decide +kernel
theorem d_M_pair_8 : decode prog_9_method_15_code 8 = .ok (.bipush 12, 2) := by decide +kernel
theorem d_M_pair_10 : decode prog_9_method_15_code 10 = .ok (.iload_n 1, 1) := by decide +kernel
theorem d_M_pair_11 : decode prog_9_method_15_code 11 = .ok (.imul, 1) := by decide +kernel
theorem d_M_pair_12 : decode prog_9_method_15_code 12 = .ok (.iload_n 2, 1) := by decide +kernel
theorem d_M_pair_13 : decode prog_9_method_15_code 13 = .ok (.iadd, 1) := by decide +kernel
theorem d_M_pair_14 : decode prog_9_method_15_code 14 = .ok (.imul, 1) := by decide +kernel
theorem d_M_pair_15 : decode prog_9_method_15_code 15 = .ok (.iadd, 1) := by decide +kernel
theorem d_M_pair_16 : decode prog_9_method_15_code 16 = .ok (.iload_n 3, 1) := by decide +kernel
theorem d_M_pair_17 : decode prog_9_method_15_code 17 = .ok (.iadd, 1) := by decide +kernel
theorem d_M_pair_18 : decode prog_9_method_15_code 18 = .ok (.iaload, 1) := by decide +kernel
theorem d_M_pair_19 : decode prog_9_method_15_code 19 = .ok (.ireturn, 1) := by decide +kernel
theorem d_M_holderOf_0 : decode prog_9_method_28_code 0 = .ok (.aload_n 0, 1) := by decide +kernel
theorem d_M_holderOf_1 : decode prog_9_method_28_code 1 = .ok (.iload_n 2, 1) := by decide +kernel
theorem d_M_holderOf_2 : decode prog_9_method_28_code 2 = .ok (.iload_n 1, 1) := by decide +kernel
theorem d_M_holderOf_3 : decode prog_9_method_28_code 3 = .ok (.iconst 0, 1) := by decide +kernel
theorem d_M_holderOf_4 : decode prog_9_method_28_code 4 = .ok (.invokevirtual 94, 3) := by decide +kernel
theorem d_M_holderOf_7 : decode prog_9_method_28_code 7 = .ok (.ifCond .lt 13, 3) := by decide +kernel
theorem d_M_holderOf_10 : decode prog_9_method_28_code 10 = .ok (.aload_n 0, 1) := by decide +kernel
theorem d_M_holderOf_11 : decode prog_9_method_28_code 11 = .ok (.iload_n 2, 1) := by decide +kernel
theorem d_M_holderOf_12 : decode prog_9_method_28_code 12 = .ok (.iload_n 1, 1) := by decide +kernel
theorem d_M_holderOf_13 : decode prog_9_method_28_code 13 = .ok (.iconst 0, 1) := by decide +kernel
theorem d_M_holderOf_14 : decode prog_9_method_28_code 14 = .ok (.invokevirtual 94, 3) := by decide +kernel
theorem d_M_holderOf_17 : decode prog_9_method_28_code 17 = .ok (.goto 9, 3) := by decide +kernel
theorem d_M_holderOf_20 : decode prog_9_method_28_code 20 = .ok (.aload_n 0, 1) := by decide +kernel
theorem d_M_holderOf_21 : decode prog_9_method_28_code 21 = .ok (.iload_n 1, 1) := by decide +kernel
theorem d_M_holderOf_22 : decode prog_9_method_28_code 22 = .ok (.iconst 3, 1) := by decide +kernel
theorem d_M_holderOf_23 : decode prog_9_method_28_code 23 = .ok (.invokevirtual 60, 3) := by decide +kernel
theorem d_M_holderOf_26 : decode prog_9_method_28_code 26 = .ok (.ireturn, 1) := by decide +kernel
theorem d_M_endOf_0 : decode prog_9_method_29_code 0 = .ok (.iconst 1, 1) := by decide +kernel
theorem d_M_endOf_1 : decode prog_9_method_29_code 1 = .ok (.iload_n 1, 1) := by decide +kernel
theorem d_M_endOf_2 : decode prog_9_method_29_code 2 = .ok (.ishl, 1) := by decide +kernel
theorem d_M_endOf_3 : decode prog_9_method_29_code 3 = .ok (.istore_n 3, 1) := by decide +kernel
theorem d_M_endOf_4 : decode prog_9_method_29_code 4 = .ok (.aload_n 0, 1) := by decide +kernel
theorem d_M_endOf_5 : decode prog_9_method_29_code 5 = .ok (.iload_n 1, 1) := by decide +kernel
theorem d_M_endOf_6 : decode prog_9_method_29_code 6 = .ok (.iload_n 2, 1) := by decide +kernel
theorem d_M_endOf_7 : decode prog_9_method_29_code 7 = .ok (.invokevirtual 98, 3) := by decide +kernel
theorem d_M_endOf_10 : decode prog_9_method_29_code 10 = .ok (.istore 4, 2) := by decide +kernel
theorem d_M_endOf_12 : decode prog_9_method_29_code 12 = .ok (.iload 4, 2) := by decide +kernel
theorem d_M_endOf_14 : decode prog_9_method_29_code 14 = .ok (.ifCond .lt 54, 3) := by decide +kernel
theorem d_M_endOf_17 : decode prog_9_method_29_code 17 = .ok (.iload_n 3, 1) := by decide +kernel
theorem d_M_endOf_18 : decode prog_9_method_29_code 18 = .ok (.iload 4, 2) := by decide +kernel
theorem d_M_endOf_20 : decode prog_9_method_29_code 20 = .ok (.invokestatic 87, 3) := by decide +kernel
theorem d_M_endOf_23 : decode prog_9_method_29_code 23 = .ok (.ifCond .ne 45, 3) := by decide +kernel
theorem d_M_endOf_26 : decode prog_9_method_29_code 26 = .ok (.aload_n 0, 1) := by decide +kernel
theorem d_M_endOf_27 : decode prog_9_method_29_code 27 = .ok (.iload 4, 2) := by decide +kernel
theorem d_M_endOf_29 : decode prog_9_method_29_code 29 = .ok (.invokevirtual 64, 3) := by decide +kernel
theorem d_M_endOf_32 : decode prog_9_method_29_code 32 = .ok (.ifCond .ne 36, 3) := by decide +kernel
theorem d_M_endOf_35 : decode prog_9_method_29_code 35 = .ok (.iload_n 3, 1) := by decide +kernel
theorem d_M_endOf_36 : decode prog_9_method_29_code 36 = .ok (.iconst 1, 1) := by decide +kernel
theorem d_M_endOf_37 : decode prog_9_method_29_code 37 = .ok (.iload 4, 2) := by decide +kernel
theorem d_M_endOf_39 : decode prog_9_method_29_code 39 = .ok (.ishl, 1) := by decide +kernel
theorem d_M_endOf_40 : decode prog_9_method_29_code 40 = .ok (.ior, 1) := by decide +kernel
theorem d_M_endOf_41 : decode prog_9_method_29_code 41 = .ok (.istore_n 3, 1) := by decide +kernel
theorem d_M_endOf_42 : decode prog_9_method_29_code 42 = .ok (.aload_n 0, 1) := by decide +kernel
theorem d_M_endOf_43 : decode prog_9_method_29_code 43 = .ok (.getfield 7, 3) := by decide +kernel
theorem d_M_endOf_46 : decode prog_9_method_29_code 46 = .ok (.iconst 4, 1) := by decide +kernel
theorem d_M_endOf_47 : decode prog_9_method_29_code 47 = .ok (.iaload, 1) := by decide +kernel
theorem d_M_endOf_48 : decode prog_9_method_29_code 48 = .ok (.ifCond .ne 8, 3) := by decide +kernel
theorem d_M_endOf_51 : decode prog_9_method_29_code 51 = .ok (.bipush (-6), 2) := by decide +kernel
theorem d_M_endOf_53 : decode prog_9_method_29_code 53 = .ok (.goto 10, 3) := by decide +kernel
theorem d_M_endOf_56 : decode prog_9_method_29_code 56 = .ok (.aload_n 0, 1) := by decide +kernel
theorem d_M_endOf_57 : decode prog_9_method_29_code 57 = .ok (.iload 4, 2) := by decide +kernel
theorem d_M_endOf_59 : decode prog_9_method_29_code 59 = .ok (.iload_n 2, 1) := by decide +kernel
theorem d_M_endOf_60 : decode prog_9_method_29_code 60 = .ok (.invokevirtual 98, 3) := by decide +kernel
theorem d_M_endOf_63 : decode prog_9_method_29_code 63 = .ok (.istore 4, 2) := by decide +kernel
theorem d_M_endOf_65 : decode prog_9_method_29_code 65 = .ok (.goto (-53), 3) := by decide +kernel
theorem d_M_endOf_68 : decode prog_9_method_29_code 68 = .ok (.iload 4, 2) := by decide +kernel
theorem d_M_endOf_70 : decode prog_9_method_29_code 70 = .ok (.ifCond .lt 22, 3) := by decide +kernel
theorem d_M_endOf_73 : decode prog_9_method_29_code 73 = .ok (.iload_n 3, 1) := by decide +kernel
theorem d_M_endOf_74 : decode prog_9_method_29_code 74 = .ok (.iload 4, 2) := by decide +kernel
theorem d_M_endOf_76 : decode prog_9_method_29_code 76 = .ok (.invokestatic 87, 3) := by decide +kernel
theorem d_M_endOf_79 : decode prog_9_method_29_code 79 = .ok (.ifCond .ne 13, 3) := by decide +kernel
theorem d_M_endOf_82 : decode prog_9_method_29_code 82 = .ok (.aload_n 0, 1) := by decide +kernel
theorem d_M_endOf_83 : decode prog_9_method_29_code 83 = .ok (.iload 4, 2) := by decide +kernel
theorem d_M_endOf_85 : decode prog_9_method_29_code 85 = .ok (.iload_n 2, 1) := by decide +kernel
theorem d_M_endOf_86 : decode prog_9_method_29_code 86 = .ok (.invokevirtual 91, 3) := by decide +kernel
theorem d_M_endOf_89 : decode prog_9_method_29_code 89 = .ok (.ifCond .eq 8, 3) := by decide +kernel
theorem d_M_endOf_92 : decode prog_9_method_29_code 92 = .ok (.bipush (-6), 2) := by decide +kernel
theorem d_M_endOf_94 : decode prog_9_method_29_code 94 = .ok (.goto 5, 3) := by decide +kernel
theorem d_M_endOf_97 : decode prog_9_method_29_code 97 = .ok (.iload 4, 2) := by decide +kernel
theorem d_M_endOf_99 : decode prog_9_method_29_code 99 = .ok (.ireturn, 1) := by decide +kernel
theorem d_M_layVoices_0 : decode prog_9_method_30_code 0 = .ok (.iconst 0, 1) := by decide +kernel
theorem d_M_layVoices_1 : decode prog_9_method_30_code 1 = .ok (.istore_n 2, 1) := by decide +kernel
theorem d_M_layVoices_2 : decode prog_9_method_30_code 2 = .ok (.iload_n 2, 1) := by decide +kernel
theorem d_M_layVoices_3 : decode prog_9_method_30_code 3 = .ok (.bipush 12, 2) := by decide +kernel
theorem d_M_layVoices_5 : decode prog_9_method_30_code 5 = .ok (.if_icmp .ge 16, 3) := by decide +kernel
theorem d_M_layVoices_8 : decode prog_9_method_30_code 8 = .ok (.aload_n 0, 1) := by decide +kernel
theorem d_M_layVoices_9 : decode prog_9_method_30_code 9 = .ok (.getfield 32, 3) := by decide +kernel
theorem d_M_layVoices_12 : decode prog_9_method_30_code 12 = .ok (.iload_n 2, 1) := by decide +kernel
theorem d_M_layVoices_13 : decode prog_9_method_30_code 13 = .ok (.iconst 0, 1) := by decide +kernel
theorem d_M_layVoices_14 : decode prog_9_method_30_code 14 = .ok (.iastore, 1) := by decide +kernel
theorem d_M_layVoices_15 : decode prog_9_method_30_code 15 = .ok (.iinc 2 1, 3) := by decide +kernel
theorem d_M_layVoices_18 : decode prog_9_method_30_code 18 = .ok (.goto (-16), 3) := by decide +kernel
theorem d_M_layVoices_21 : decode prog_9_method_30_code 21 = .ok (.iconst 0, 1) := by decide +kernel
theorem d_M_layVoices_22 : decode prog_9_method_30_code 22 = .ok (.istore_n 2, 1) := by decide +kernel
theorem d_M_layVoices_23 : decode prog_9_method_30_code 23 = .ok (.iload_n 2, 1) := by decide +kernel
theorem d_M_layVoices_24 : decode prog_9_method_30_code 24 = .ok (.aload_n 0, 1) := by decide +kernel
theorem d_M_layVoices_25 : decode prog_9_method_30_code 25 = .ok (.getfield 7, 3) := by decide +kernel
theorem d_M_layVoices_28 : decode prog_9_method_30_code 28 = .ok (.bipush 7, 2) := by decide +kernel
theorem d_M_layVoices_30 : decode prog_9_method_30_code 30 = .ok (.iaload, 1) := by decide +kernel
theorem d_M_layVoices_31 : decode prog_9_method_30_code 31 = .ok (.if_icmp .ge 99, 3) := by decide +kernel
theorem d_M_layVoices_34 : decode prog_9_method_30_code 34 = .ok (.aload_n 0, 1) := by decide +kernel
theorem d_M_layVoices_35 : decode prog_9_method_30_code 35 = .ok (.iload_n 2, 1) := by decide +kernel
theorem d_M_layVoices_36 : decode prog_9_method_30_code 36 = .ok (.iload_n 1, 1) := by decide +kernel
theorem d_M_layVoices_37 : decode prog_9_method_30_code 37 = .ok (.invokevirtual 91, 3) := by decide +kernel
theorem d_M_layVoices_40 : decode prog_9_method_30_code 40 = .ok (.ifCond .eq 8, 3) := by decide +kernel
theorem d_M_layVoices_43 : decode prog_9_method_30_code 43 = .ok (.bipush (-6), 2) := by decide +kernel
theorem d_M_layVoices_45 : decode prog_9_method_30_code 45 = .ok (.goto 21, 3) := by decide +kernel
theorem d_M_layVoices_48 : decode prog_9_method_30_code 48 = .ok (.aload_n 0, 1) := by decide +kernel
theorem d_M_layVoices_49 : decode prog_9_method_30_code 49 = .ok (.iload_n 2, 1) := by decide +kernel
theorem d_M_layVoices_50 : decode prog_9_method_30_code 50 = .ok (.invokevirtual 64, 3) := by decide +kernel
theorem d_M_layVoices_53 : decode prog_9_method_30_code 53 = .ok (.ifCond .eq 7, 3) := by decide +kernel
theorem d_M_layVoices_56 : decode prog_9_method_30_code 56 = .ok (.iload_n 2, 1) := by decide +kernel
theorem d_M_layVoices_57 : decode prog_9_method_30_code 57 = .ok (.goto 9, 3) := by decide +kernel
theorem d_M_layVoices_60 : decode prog_9_method_30_code 60 = .ok (.aload_n 0, 1) := by decide +kernel
theorem d_M_layVoices_61 : decode prog_9_method_30_code 61 = .ok (.iload_n 2, 1) := by decide +kernel
theorem d_M_layVoices_62 : decode prog_9_method_30_code 62 = .ok (.iload_n 1, 1) := by decide +kernel
theorem d_M_layVoices_63 : decode prog_9_method_30_code 63 = .ok (.invokevirtual 101, 3) := by decide +kernel
theorem d_M_layVoices_66 : decode prog_9_method_30_code 66 = .ok (.istore_n 3, 1) := by decide +kernel
theorem d_M_layVoices_67 : decode prog_9_method_30_code 67 = .ok (.iload_n 3, 1) := by decide +kernel
theorem d_M_layVoices_68 : decode prog_9_method_30_code 68 = .ok (.ifCond .lt 49, 3) := by decide +kernel
theorem d_M_layVoices_71 : decode prog_9_method_30_code 71 = .ok (.iload_n 3, 1) := by decide +kernel
theorem d_M_layVoices_72 : decode prog_9_method_30_code 72 = .ok (.iload_n 2, 1) := by decide +kernel
theorem d_M_layVoices_73 : decode prog_9_method_30_code 73 = .ok (.if_icmp .eq 44, 3) := by decide +kernel
theorem d_M_layVoices_76 : decode prog_9_method_30_code 76 = .ok (.aload_n 0, 1) := by decide +kernel
theorem d_M_layVoices_77 : decode prog_9_method_30_code 77 = .ok (.getfield 32, 3) := by decide +kernel
theorem d_M_layVoices_80 : decode prog_9_method_30_code 80 = .ok (.iload_n 3, 1) := by decide +kernel
theorem d_M_layVoices_81 : decode prog_9_method_30_code 81 = .ok (.iaload, 1) := by decide +kernel
theorem d_M_layVoices_82 : decode prog_9_method_30_code 82 = .ok (.invokestatic 71, 3) := by decide +kernel
theorem d_M_layVoices_85 : decode prog_9_method_30_code 85 = .ok (.aload_n 0, 1) := by decide +kernel
theorem d_M_layVoices_86 : decode prog_9_method_30_code 86 = .ok (.getfield 7, 3) := by decide +kernel
theorem d_M_layVoices_89 : decode prog_9_method_30_code 89 = .ok (.iconst 3, 1) := by decide +kernel
theorem d_M_layVoices_90 : decode prog_9_method_30_code 90 = .ok (.iaload, 1) := by decide +kernel
theorem d_M_layVoices_91 : decode prog_9_method_30_code 91 = .ok (.if_icmp .ge 7, 3) := by decide +kernel
theorem d_M_layVoices_94 : decode prog_9_method_30_code 94 = .ok (.iload_n 3, 1) := by decide +kernel
theorem d_M_layVoices_95 : decode prog_9_method_30_code 95 = .ok (.goto 5, 3) := by decide +kernel
theorem d_M_layVoices_98 : decode prog_9_method_30_code 98 = .ok (.bipush (-6), 2) := by decide +kernel
theorem d_M_layVoices_100 : decode prog_9_method_30_code 100 = .ok (.istore_n 3, 1) := by decide +kernel
theorem d_M_layVoices_101 : decode prog_9_method_30_code 101 = .ok (.iload_n 3, 1) := by decide +kernel
theorem d_M_layVoices_102 : decode prog_9_method_30_code 102 = .ok (.ifCond .lt 15, 3) := by decide +kernel
theorem d_M_layVoices_105 : decode prog_9_method_30_code 105 = .ok (.aload_n 0, 1) := by decide +kernel
theorem d_M_layVoices_106 : decode prog_9_method_30_code 106 = .ok (.getfield 32, 3) := by decide +kernel
theorem d_M_layVoices_109 : decode prog_9_method_30_code 109 = .ok (.iload_n 3, 1) := by decide +kernel
theorem d_M_layVoices_110 : decode prog_9_method_30_code 110 = .ok (.dup2, 1) := by decide +kernel
theorem d_M_layVoices_111 : decode prog_9_method_30_code 111 = .ok (.iaload, 1) := by decide +kernel
theorem d_M_layVoices_112 : decode prog_9_method_30_code 112 = .ok (.iconst 1, 1) := by decide +kernel
theorem d_M_layVoices_113 : decode prog_9_method_30_code 113 = .ok (.iload_n 2, 1) := by decide +kernel
theorem d_M_layVoices_114 : decode prog_9_method_30_code 114 = .ok (.ishl, 1) := by decide +kernel
theorem d_M_layVoices_115 : decode prog_9_method_30_code 115 = .ok (.ior, 1) := by decide +kernel
theorem d_M_layVoices_116 : decode prog_9_method_30_code 116 = .ok (.iastore, 1) := by decide +kernel
theorem d_M_layVoices_117 : decode prog_9_method_30_code 117 = .ok (.aload_n 0, 1) := by decide +kernel
theorem d_M_layVoices_118 : decode prog_9_method_30_code 118 = .ok (.getfield 29, 3) := by decide +kernel
theorem d_M_layVoices_121 : decode prog_9_method_30_code 121 = .ok (.iload_n 2, 1) := by decide +kernel
theorem d_M_layVoices_122 : decode prog_9_method_30_code 122 = .ok (.iload_n 3, 1) := by decide +kernel
theorem d_M_layVoices_123 : decode prog_9_method_30_code 123 = .ok (.iastore, 1) := by decide +kernel
theorem d_M_layVoices_124 : decode prog_9_method_30_code 124 = .ok (.iinc 2 1, 3) := by decide +kernel
theorem d_M_layVoices_127 : decode prog_9_method_30_code 127 = .ok (.goto (-104), 3) := by decide +kernel
theorem d_M_layVoices_130 : decode prog_9_method_30_code 130 = .ok (.return_, 1) := by decide +kernel
theorem d_M_weightThere_0 : decode prog_9_method_34_code 0 = .ok (.aload_n 0, 1) := by decide +kernel
theorem d_M_weightThere_1 : decode prog_9_method_34_code 1 = .ok (.iload_n 1, 1) := by decide +kernel
theorem d_M_weightThere_2 : decode prog_9_method_34_code 2 = .ok (.invokevirtual 104, 3) := by decide +kernel
theorem d_M_weightThere_5 : decode prog_9_method_34_code 5 = .ok (.iconst 0, 1) := by decide +kernel
theorem d_M_weightThere_6 : decode prog_9_method_34_code 6 = .ok (.istore_n 2, 1) := by decide +kernel
theorem d_M_weightThere_7 : decode prog_9_method_34_code 7 = .ok (.iconst 0, 1) := by decide +kernel
theorem d_M_weightThere_8 : decode prog_9_method_34_code 8 = .ok (.istore_n 3, 1) := by decide +kernel
theorem d_M_weightThere_9 : decode prog_9_method_34_code 9 = .ok (.iload_n 3, 1) := by decide +kernel
theorem d_M_weightThere_10 : decode prog_9_method_34_code 10 = .ok (.aload_n 0, 1) := by decide +kernel
theorem d_M_weightThere_11 : decode prog_9_method_34_code 11 = .ok (.getfield 7, 3) := by decide +kernel
theorem d_M_weightThere_14 : decode prog_9_method_34_code 14 = .ok (.bipush 7, 2) := by decide +kernel
theorem d_M_weightThere_16 : decode prog_9_method_34_code 16 = .ok (.iaload, 1) := by decide +kernel
theorem d_M_weightThere_17 : decode prog_9_method_34_code 17 = .ok (.if_icmp .ge 39, 3) := by decide +kernel
theorem d_M_weightThere_20 : decode prog_9_method_34_code 20 = .ok (.iload_n 2, 1) := by decide +kernel
theorem d_M_weightThere_21 : decode prog_9_method_34_code 21 = .ok (.aload_n 0, 1) := by decide +kernel
theorem d_M_weightThere_22 : decode prog_9_method_34_code 22 = .ok (.iload_n 3, 1) := by decide +kernel
theorem d_M_weightThere_23 : decode prog_9_method_34_code 23 = .ok (.invokevirtual 64, 3) := by decide +kernel
theorem d_M_weightThere_26 : decode prog_9_method_34_code 26 = .ok (.ifCond .ne 12, 3) := by decide +kernel
theorem d_M_weightThere_29 : decode prog_9_method_34_code 29 = .ok (.aload_n 0, 1) := by decide +kernel
theorem d_M_weightThere_30 : decode prog_9_method_34_code 30 = .ok (.getfield 29, 3) := by decide +kernel
theorem d_M_weightThere_33 : decode prog_9_method_34_code 33 = .ok (.iload_n 3, 1) := by decide +kernel
theorem d_M_weightThere_34 : decode prog_9_method_34_code 34 = .ok (.iaload, 1) := by decide +kernel
theorem d_M_weightThere_35 : decode prog_9_method_34_code 35 = .ok (.ifCond .lt 12, 3) := by decide +kernel
theorem d_M_weightThere_38 : decode prog_9_method_34_code 38 = .ok (.aload_n 0, 1) := by decide +kernel
theorem d_M_weightThere_39 : decode prog_9_method_34_code 39 = .ok (.iload_n 3, 1) := by decide +kernel
theorem d_M_weightThere_40 : decode prog_9_method_34_code 40 = .ok (.iconst 0, 1) := by decide +kernel
theorem d_M_weightThere_41 : decode prog_9_method_34_code 41 = .ok (.invokevirtual 60, 3) := by decide +kernel
theorem d_M_weightThere_44 : decode prog_9_method_34_code 44 = .ok (.goto 4, 3) := by decide +kernel
theorem d_M_weightThere_47 : decode prog_9_method_34_code 47 = .ok (.iconst 0, 1) := by decide +kernel
theorem d_M_weightThere_48 : decode prog_9_method_34_code 48 = .ok (.iadd, 1) := by decide +kernel
theorem d_M_weightThere_49 : decode prog_9_method_34_code 49 = .ok (.istore_n 2, 1) := by decide +kernel
theorem d_M_weightThere_50 : decode prog_9_method_34_code 50 = .ok (.iinc 3 1, 3) := by decide +kernel
theorem d_M_weightThere_53 : decode prog_9_method_34_code 53 = .ok (.goto (-44), 3) := by decide +kernel
theorem d_M_weightThere_56 : decode prog_9_method_34_code 56 = .ok (.iload_n 2, 1) := by decide +kernel
theorem d_M_weightThere_57 : decode prog_9_method_34_code 57 = .ok (.ireturn, 1) := by decide +kernel
theorem d_M_allWeight_0 : decode prog_9_method_33_code 0 = .ok (.iconst 0, 1) := by decide +kernel
theorem d_M_allWeight_1 : decode prog_9_method_33_code 1 = .ok (.istore_n 1, 1) := by decide +kernel
theorem d_M_allWeight_2 : decode prog_9_method_33_code 2 = .ok (.iconst 0, 1) := by decide +kernel
theorem d_M_allWeight_3 : decode prog_9_method_33_code 3 = .ok (.istore_n 2, 1) := by decide +kernel
theorem d_M_allWeight_4 : decode prog_9_method_33_code 4 = .ok (.iload_n 2, 1) := by decide +kernel
theorem d_M_allWeight_5 : decode prog_9_method_33_code 5 = .ok (.aload_n 0, 1) := by decide +kernel
theorem d_M_allWeight_6 : decode prog_9_method_33_code 6 = .ok (.getfield 7, 3) := by decide +kernel
theorem d_M_allWeight_9 : decode prog_9_method_33_code 9 = .ok (.bipush 7, 2) := by decide +kernel
theorem d_M_allWeight_11 : decode prog_9_method_33_code 11 = .ok (.iaload, 1) := by decide +kernel
theorem d_M_allWeight_12 : decode prog_9_method_33_code 12 = .ok (.if_icmp .ge 18, 3) := by decide +kernel
theorem d_M_allWeight_15 : decode prog_9_method_33_code 15 = .ok (.iload_n 1, 1) := by decide +kernel
theorem d_M_allWeight_16 : decode prog_9_method_33_code 16 = .ok (.aload_n 0, 1) := by decide +kernel
theorem d_M_allWeight_17 : decode prog_9_method_33_code 17 = .ok (.iload_n 2, 1) := by decide +kernel
theorem d_M_allWeight_18 : decode prog_9_method_33_code 18 = .ok (.iconst 0, 1) := by decide +kernel
theorem d_M_allWeight_19 : decode prog_9_method_33_code 19 = .ok (.invokevirtual 60, 3) := by decide +kernel
theorem d_M_allWeight_22 : decode prog_9_method_33_code 22 = .ok (.iadd, 1) := by decide +kernel
theorem d_M_allWeight_23 : decode prog_9_method_33_code 23 = .ok (.istore_n 1, 1) := by decide +kernel
theorem d_M_allWeight_24 : decode prog_9_method_33_code 24 = .ok (.iinc 2 1, 3) := by decide +kernel
theorem d_M_allWeight_27 : decode prog_9_method_33_code 27 = .ok (.goto (-23), 3) := by decide +kernel
theorem d_M_allWeight_30 : decode prog_9_method_33_code 30 = .ok (.iload_n 1, 1) := by decide +kernel
theorem d_M_allWeight_31 : decode prog_9_method_33_code 31 = .ok (.ireturn, 1) := by decide +kernel
theorem d_M_isQuorum_0 : decode prog_9_method_35_code 0 = .ok (.aload_n 0, 1) := by decide +kernel
theorem d_M_isQuorum_1 : decode prog_9_method_35_code 1 = .ok (.getfield 7, 3) := by decide +kernel
theorem d_M_isQuorum_4 : decode prog_9_method_35_code 4 = .ok (.aload_n 0, 1) := by decide +kernel
theorem d_M_isQuorum_5 : decode prog_9_method_35_code 5 = .ok (.getfield 7, 3) := by decide +kernel
theorem d_M_isQuorum_8 : decode prog_9_method_35_code 8 = .ok (.bipush 6, 2) := by decide +kernel
theorem d_M_isQuorum_10 : decode prog_9_method_35_code 10 = .ok (.iaload, 1) := by decide +kernel
theorem d_M_isQuorum_11 : decode prog_9_method_35_code 11 = .ok (.aload_n 0, 1) := by decide +kernel
theorem d_M_isQuorum_12 : decode prog_9_method_35_code 12 = .ok (.getfield 7, 3) := by decide +kernel
theorem d_M_isQuorum_15 : decode prog_9_method_35_code 15 = .ok (.iconst 2, 1) := by decide +kernel
theorem d_M_isQuorum_16 : decode prog_9_method_35_code 16 = .ok (.iaload, 1) := by decide +kernel
theorem d_M_isQuorum_17 : decode prog_9_method_35_code 17 = .ok (.if_icmp .lt 7, 3) := by decide +kernel
theorem d_M_isQuorum_20 : decode prog_9_method_35_code 20 = .ok (.iconst 1, 1) := by decide +kernel
theorem d_M_isQuorum_21 : decode prog_9_method_35_code 21 = .ok (.goto 4, 3) := by decide +kernel
theorem d_M_isQuorum_24 : decode prog_9_method_35_code 24 = .ok (.iconst 0, 1) := by decide +kernel
theorem d_M_isQuorum_25 : decode prog_9_method_35_code 25 = .ok (.iaload, 1) := by decide +kernel
theorem d_M_isQuorum_26 : decode prog_9_method_35_code 26 = .ok (.istore_n 2, 1) := by decide +kernel
theorem d_M_isQuorum_27 : decode prog_9_method_35_code 27 = .ok (.bipush 100, 2) := by decide +kernel
theorem d_M_isQuorum_29 : decode prog_9_method_35_code 29 = .ok (.aload_n 0, 1) := by decide +kernel
theorem d_M_isQuorum_30 : decode prog_9_method_35_code 30 = .ok (.iload_n 1, 1) := by decide +kernel
theorem d_M_isQuorum_31 : decode prog_9_method_35_code 31 = .ok (.invokevirtual 111, 3) := by decide +kernel
theorem d_M_isQuorum_34 : decode prog_9_method_35_code 34 = .ok (.imul, 1) := by decide +kernel
theorem d_M_isQuorum_35 : decode prog_9_method_35_code 35 = .ok (.aload_n 0, 1) := by decide +kernel
theorem d_M_isQuorum_36 : decode prog_9_method_35_code 36 = .ok (.invokevirtual 114, 3) := by decide +kernel
theorem d_M_isQuorum_39 : decode prog_9_method_35_code 39 = .ok (.iload_n 2, 1) := by decide +kernel
theorem d_M_isQuorum_40 : decode prog_9_method_35_code 40 = .ok (.imul, 1) := by decide +kernel
theorem d_M_isQuorum_41 : decode prog_9_method_35_code 41 = .ok (.if_icmp .lt 7, 3) := by decide +kernel
theorem d_M_isQuorum_44 : decode prog_9_method_35_code 44 = .ok (.iconst 1, 1) := by decide +kernel
theorem d_M_isQuorum_45 : decode prog_9_method_35_code 45 = .ok (.goto 4, 3) := by decide +kernel
theorem d_M_isQuorum_48 : decode prog_9_method_35_code 48 = .ok (.iconst 0, 1) := by decide +kernel
theorem d_M_isQuorum_49 : decode prog_9_method_35_code 49 = .ok (.ireturn, 1) := by decide +kernel
theorem d_M_open_0 : decode prog_9_method_38_code 0 = .ok (.aload_n 0, 1) := by decide +kernel
theorem d_M_open_1 : decode prog_9_method_38_code 1 = .ok (.iload_n 1, 1) := by decide +kernel
theorem d_M_open_2 : decode prog_9_method_38_code 2 = .ok (.invokevirtual 78, 3) := by decide +kernel
theorem d_M_open_5 : decode prog_9_method_38_code 5 = .ok (.ifCond .ne 5, 3) := by decide +kernel
theorem d_M_open_8 : decode prog_9_method_38_code 8 = .ok (.iconst (-1), 1) := by decide +kernel
theorem d_M_open_9 : decode prog_9_method_38_code 9 = .ok (.ireturn, 1) := by decide +kernel
theorem d_M_open_10 : decode prog_9_method_38_code 10 = .ok (.aload_n 0, 1) := by decide +kernel
theorem d_M_open_11 : decode prog_9_method_38_code 11 = .ok (.iload_n 1, 1) := by decide +kernel
theorem d_M_open_12 : decode prog_9_method_38_code 12 = .ok (.invokevirtual 81, 3) := by decide +kernel
theorem d_M_open_15 : decode prog_9_method_38_code 15 = .ok (.ifCond .ne 19, 3) := by decide +kernel
theorem d_M_open_18 : decode prog_9_method_38_code 18 = .ok (.aload_n 0, 1) := by decide +kernel
theorem d_M_open_19 : decode prog_9_method_38_code 19 = .ok (.iconst 1, 1) := by decide +kernel
theorem d_M_open_20 : decode prog_9_method_38_code 20 = .ok (.invokevirtual 120, 3) := by decide +kernel
theorem d_M_open_23 : decode prog_9_method_38_code 23 = .ok (.ifCond .ge 11, 3) := by decide +kernel
theorem d_M_open_26 : decode prog_9_method_38_code 26 = .ok (.aload_n 0, 1) := by decide +kernel
theorem d_M_open_27 : decode prog_9_method_38_code 27 = .ok (.iload_n 1, 1) := by decide +kernel
theorem d_M_open_28 : decode prog_9_method_38_code 28 = .ok (.invokevirtual 123, 3) := by decide +kernel
theorem d_M_open_31 : decode prog_9_method_38_code 31 = .ok (.ifCond .ne 6, 3) := by decide +kernel
theorem d_M_open_34 : decode prog_9_method_38_code 34 = .ok (.bipush (-5), 2) := by decide +kernel
theorem d_M_open_36 : decode prog_9_method_38_code 36 = .ok (.ireturn, 1) := by decide +kernel
theorem d_M_open_37 : decode prog_9_method_38_code 37 = .ok (.aload_n 0, 1) := by decide +kernel
theorem d_M_open_38 : decode prog_9_method_38_code 38 = .ok (.invokevirtual 53, 3) := by decide +kernel
theorem d_M_open_41 : decode prog_9_method_38_code 41 = .ok (.aload_n 0, 1) := by decide +kernel
theorem d_M_open_42 : decode prog_9_method_38_code 42 = .ok (.getfield 7, 3) := by decide +kernel
theorem d_M_open_45 : decode prog_9_method_38_code 45 = .ok (.bipush 100, 2) := by decide +kernel
theorem d_M_open_47 : decode prog_9_method_38_code 47 = .ok (.bipush 12, 2) := by decide +kernel
theorem d_M_open_49 : decode prog_9_method_38_code 49 = .ok (.iload_n 1, 1) := by decide +kernel
theorem d_M_open_50 : decode prog_9_method_38_code 50 = .ok (.imul, 1) := by decide +kernel
theorem d_M_open_51 : decode prog_9_method_38_code 51 = .ok (.iadd, 1) := by decide +kernel
theorem d_M_open_52 : decode prog_9_method_38_code 52 = .ok (.iconst 2, 1) := by decide +kernel
theorem d_M_open_53 : decode prog_9_method_38_code 53 = .ok (.iadd, 1) := by decide +kernel
theorem d_M_open_54 : decode prog_9_method_38_code 54 = .ok (.iconst 1, 1) := by decide +kernel
theorem d_M_open_55 : decode prog_9_method_38_code 55 = .ok (.iastore, 1) := by decide +kernel
theorem d_M_open_56 : decode prog_9_method_38_code 56 = .ok (.aload_n 0, 1) := by decide +kernel
theorem d_M_open_57 : decode prog_9_method_38_code 57 = .ok (.iload_n 1, 1) := by decide +kernel
theorem d_M_open_58 : decode prog_9_method_38_code 58 = .ok (.invokevirtual 111, 3) := by decide +kernel
theorem d_M_open_61 : decode prog_9_method_38_code 61 = .ok (.ireturn, 1) := by decide +kernel
theorem d_M_vote_0 : decode prog_9_method_39_code 0 = .ok (.aload_n 0, 1) := by decide +kernel
theorem d_M_vote_1 : decode prog_9_method_39_code 1 = .ok (.iload_n 1, 1) := by decide +kernel
theorem d_M_vote_2 : decode prog_9_method_39_code 2 = .ok (.invokevirtual 56, 3) := by decide +kernel
theorem d_M_vote_5 : decode prog_9_method_39_code 5 = .ok (.ifCond .ne 5, 3) := by decide +kernel
theorem d_M_vote_8 : decode prog_9_method_39_code 8 = .ok (.iconst (-1), 1) := by decide +kernel
theorem d_M_vote_9 : decode prog_9_method_39_code 9 = .ok (.ireturn, 1) := by decide +kernel
theorem d_M_vote_10 : decode prog_9_method_39_code 10 = .ok (.iload_n 2, 1) := by decide +kernel
theorem d_M_vote_11 : decode prog_9_method_39_code 11 = .ok (.iconst 0, 1) := by decide +kernel
theorem d_M_vote_12 : decode prog_9_method_39_code 12 = .ok (.iconst 2, 1) := by decide +kernel
theorem d_M_vote_13 : decode prog_9_method_39_code 13 = .ok (.invokestatic 49, 3) := by decide +kernel
theorem d_M_vote_16 : decode prog_9_method_39_code 16 = .ok (.ifCond .ne 6, 3) := by decide +kernel
theorem d_M_vote_19 : decode prog_9_method_39_code 19 = .ok (.bipush (-2), 2) := by decide +kernel
theorem d_M_vote_21 : decode prog_9_method_39_code 21 = .ok (.ireturn, 1) := by decide +kernel
theorem d_M_vote_22 : decode prog_9_method_39_code 22 = .ok (.aload_n 0, 1) := by decide +kernel
theorem d_M_vote_23 : decode prog_9_method_39_code 23 = .ok (.iconst 1, 1) := by decide +kernel
theorem d_M_vote_24 : decode prog_9_method_39_code 24 = .ok (.invokevirtual 120, 3) := by decide +kernel
theorem d_M_vote_27 : decode prog_9_method_39_code 27 = .ok (.istore_n 3, 1) := by decide +kernel
theorem d_M_vote_28 : decode prog_9_method_39_code 28 = .ok (.iload_n 3, 1) := by decide +kernel
theorem d_M_vote_29 : decode prog_9_method_39_code 29 = .ok (.ifCond .lt 20, 3) := by decide +kernel
theorem d_M_vote_32 : decode prog_9_method_39_code 32 = .ok (.aload_n 0, 1) := by decide +kernel
theorem d_M_vote_33 : decode prog_9_method_39_code 33 = .ok (.iload_n 1, 1) := by decide +kernel
theorem d_M_vote_34 : decode prog_9_method_39_code 34 = .ok (.invokevirtual 64, 3) := by decide +kernel
theorem d_M_vote_37 : decode prog_9_method_39_code 37 = .ok (.ifCond .eq 12, 3) := by decide +kernel
theorem d_M_vote_40 : decode prog_9_method_39_code 40 = .ok (.aload_n 0, 1) := by decide +kernel
theorem d_M_vote_41 : decode prog_9_method_39_code 41 = .ok (.iload_n 1, 1) := by decide +kernel
theorem d_M_vote_42 : decode prog_9_method_39_code 42 = .ok (.iload_n 3, 1) := by decide +kernel
theorem d_M_vote_43 : decode prog_9_method_39_code 43 = .ok (.invokevirtual 91, 3) := by decide +kernel
theorem d_M_vote_46 : decode prog_9_method_39_code 46 = .ok (.ifCond .eq 6, 3) := by decide +kernel
theorem d_M_vote_49 : decode prog_9_method_39_code 49 = .ok (.bipush (-5), 2) := by decide +kernel
theorem d_M_vote_51 : decode prog_9_method_39_code 51 = .ok (.ireturn, 1) := by decide +kernel
theorem d_M_vote_52 : decode prog_9_method_39_code 52 = .ok (.aload_n 0, 1) := by decide +kernel
theorem d_M_vote_53 : decode prog_9_method_39_code 53 = .ok (.invokevirtual 53, 3) := by decide +kernel
theorem d_M_vote_56 : decode prog_9_method_39_code 56 = .ok (.sipush 250, 3) := by decide +kernel
theorem d_M_vote_59 : decode prog_9_method_39_code 59 = .ok (.iconst 3, 1) := by decide +kernel
theorem d_M_vote_60 : decode prog_9_method_39_code 60 = .ok (.bipush 12, 2) := by decide +kernel
theorem d_M_vote_62 : decode prog_9_method_39_code 62 = .ok (.iload_n 3, 1) := by decide +kernel
theorem d_M_vote_63 : decode prog_9_method_39_code 63 = .ok (.imul, 1) := by decide +kernel
theorem d_M_vote_64 : decode prog_9_method_39_code 64 = .ok (.iload_n 1, 1) := by decide +kernel
theorem d_M_vote_65 : decode prog_9_method_39_code 65 = .ok (.iadd, 1) := by decide +kernel
theorem d_M_vote_66 : decode prog_9_method_39_code 66 = .ok (.imul, 1) := by decide +kernel
theorem d_M_vote_67 : decode prog_9_method_39_code 67 = .ok (.iadd, 1) := by decide +kernel
theorem d_M_vote_68 : decode prog_9_method_39_code 68 = .ok (.iconst 1, 1) := by decide +kernel
theorem d_M_vote_69 : decode prog_9_method_39_code 69 = .ok (.iadd, 1) := by decide +kernel
theorem d_M_vote_70 : decode prog_9_method_39_code 70 = .ok (.istore 4, 2) := by decide +kernel
theorem d_M_vote_72 : decode prog_9_method_39_code 72 = .ok (.aload_n 0, 1) := by decide +kernel
theorem d_M_vote_73 : decode prog_9_method_39_code 73 = .ok (.getfield 7, 3) := by decide +kernel
theorem d_M_vote_76 : decode prog_9_method_39_code 76 = .ok (.iload 4, 2) := by decide +kernel
theorem d_M_vote_78 : decode prog_9_method_39_code 78 = .ok (.iaload, 1) := by decide +kernel
theorem d_M_vote_79 : decode prog_9_method_39_code 79 = .ok (.istore 5, 2) := by decide +kernel
theorem d_M_vote_81 : decode prog_9_method_39_code 81 = .ok (.aload_n 0, 1) := by decide +kernel
theorem d_M_vote_82 : decode prog_9_method_39_code 82 = .ok (.getfield 7, 3) := by decide +kernel
theorem d_M_vote_85 : decode prog_9_method_39_code 85 = .ok (.iload 4, 2) := by decide +kernel
theorem d_M_vote_87 : decode prog_9_method_39_code 87 = .ok (.iload_n 2, 1) := by decide +kernel
theorem d_M_vote_88 : decode prog_9_method_39_code 88 = .ok (.iastore, 1) := by decide +kernel
theorem d_M_vote_89 : decode prog_9_method_39_code 89 = .ok (.iload 5, 2) := by decide +kernel
theorem d_M_vote_91 : decode prog_9_method_39_code 91 = .ok (.ireturn, 1) := by decide +kernel
theorem d_M_wayOf_0 : decode prog_9_method_31_code 0 = .ok (.aload_n 0, 1) := by decide +kernel
theorem d_M_wayOf_1 : decode prog_9_method_31_code 1 = .ok (.iload_n 1, 1) := by decide +kernel
theorem d_M_wayOf_2 : decode prog_9_method_31_code 2 = .ok (.iload_n 2, 1) := by decide +kernel
theorem d_M_wayOf_3 : decode prog_9_method_31_code 3 = .ok (.invokevirtual 91, 3) := by decide +kernel
theorem d_M_wayOf_6 : decode prog_9_method_31_code 6 = .ok (.ifCond .eq 5, 3) := by decide +kernel
theorem d_M_wayOf_9 : decode prog_9_method_31_code 9 = .ok (.iconst 5, 1) := by decide +kernel
theorem d_M_wayOf_10 : decode prog_9_method_31_code 10 = .ok (.ireturn, 1) := by decide +kernel
theorem d_M_wayOf_11 : decode prog_9_method_31_code 11 = .ok (.aload_n 0, 1) := by decide +kernel
theorem d_M_wayOf_12 : decode prog_9_method_31_code 12 = .ok (.iload_n 2, 1) := by decide +kernel
theorem d_M_wayOf_13 : decode prog_9_method_31_code 13 = .ok (.iload_n 1, 1) := by decide +kernel
theorem d_M_wayOf_14 : decode prog_9_method_31_code 14 = .ok (.iconst 1, 1) := by decide +kernel
theorem d_M_wayOf_15 : decode prog_9_method_31_code 15 = .ok (.invokevirtual 94, 3) := by decide +kernel
theorem d_M_wayOf_18 : decode prog_9_method_31_code 18 = .ok (.ifCond .lt 11, 3) := by decide +kernel
theorem d_M_wayOf_21 : decode prog_9_method_31_code 21 = .ok (.aload_n 0, 1) := by decide +kernel
theorem d_M_wayOf_22 : decode prog_9_method_31_code 22 = .ok (.iload_n 2, 1) := by decide +kernel
theorem d_M_wayOf_23 : decode prog_9_method_31_code 23 = .ok (.iload_n 1, 1) := by decide +kernel
theorem d_M_wayOf_24 : decode prog_9_method_31_code 24 = .ok (.iconst 1, 1) := by decide +kernel
theorem d_M_wayOf_25 : decode prog_9_method_31_code 25 = .ok (.invokevirtual 94, 3) := by decide +kernel
theorem d_M_wayOf_28 : decode prog_9_method_31_code 28 = .ok (.ireturn, 1) := by decide +kernel
theorem d_M_wayOf_29 : decode prog_9_method_31_code 29 = .ok (.aload_n 0, 1) := by decide +kernel
theorem d_M_wayOf_30 : decode prog_9_method_31_code 30 = .ok (.iload_n 1, 1) := by decide +kernel
theorem d_M_wayOf_31 : decode prog_9_method_31_code 31 = .ok (.invokevirtual 64, 3) := by decide +kernel
theorem d_M_wayOf_34 : decode prog_9_method_31_code 34 = .ok (.ifCond .eq 5, 3) := by decide +kernel
theorem d_M_wayOf_37 : decode prog_9_method_31_code 37 = .ok (.iconst 3, 1) := by decide +kernel
theorem d_M_wayOf_38 : decode prog_9_method_31_code 38 = .ok (.ireturn, 1) := by decide +kernel
theorem d_M_wayOf_39 : decode prog_9_method_31_code 39 = .ok (.aload_n 0, 1) := by decide +kernel
theorem d_M_wayOf_40 : decode prog_9_method_31_code 40 = .ok (.getfield 29, 3) := by decide +kernel
theorem d_M_wayOf_43 : decode prog_9_method_31_code 43 = .ok (.iload_n 1, 1) := by decide +kernel
theorem d_M_wayOf_44 : decode prog_9_method_31_code 44 = .ok (.iaload, 1) := by decide +kernel
theorem d_M_wayOf_45 : decode prog_9_method_31_code 45 = .ok (.ifCond .ge 5, 3) := by decide +kernel
theorem d_M_wayOf_48 : decode prog_9_method_31_code 48 = .ok (.iconst 4, 1) := by decide +kernel
theorem d_M_wayOf_49 : decode prog_9_method_31_code 49 = .ok (.ireturn, 1) := by decide +kernel
theorem d_M_wayOf_50 : decode prog_9_method_31_code 50 = .ok (.aload_n 0, 1) := by decide +kernel
theorem d_M_wayOf_51 : decode prog_9_method_31_code 51 = .ok (.iload_n 2, 1) := by decide +kernel
theorem d_M_wayOf_52 : decode prog_9_method_31_code 52 = .ok (.iload_n 1, 1) := by decide +kernel
theorem d_M_wayOf_53 : decode prog_9_method_31_code 53 = .ok (.iconst 2, 1) := by decide +kernel
theorem d_M_wayOf_54 : decode prog_9_method_31_code 54 = .ok (.invokevirtual 94, 3) := by decide +kernel
theorem d_M_wayOf_57 : decode prog_9_method_31_code 57 = .ok (.ifCond .lt 11, 3) := by decide +kernel
theorem d_M_wayOf_60 : decode prog_9_method_31_code 60 = .ok (.aload_n 0, 1) := by decide +kernel
theorem d_M_wayOf_61 : decode prog_9_method_31_code 61 = .ok (.iload_n 2, 1) := by decide +kernel
theorem d_M_wayOf_62 : decode prog_9_method_31_code 62 = .ok (.iload_n 1, 1) := by decide +kernel
theorem d_M_wayOf_63 : decode prog_9_method_31_code 63 = .ok (.iconst 2, 1) := by decide +kernel
theorem d_M_wayOf_64 : decode prog_9_method_31_code 64 = .ok (.invokevirtual 94, 3) := by decide +kernel
theorem d_M_wayOf_67 : decode prog_9_method_31_code 67 = .ok (.ireturn, 1) := by decide +kernel
theorem d_M_wayOf_68 : decode prog_9_method_31_code 68 = .ok (.aload_n 0, 1) := by decide +kernel
theorem d_M_wayOf_69 : decode prog_9_method_31_code 69 = .ok (.iload_n 2, 1) := by decide +kernel
theorem d_M_wayOf_70 : decode prog_9_method_31_code 70 = .ok (.aload_n 0, 1) := by decide +kernel
theorem d_M_wayOf_71 : decode prog_9_method_31_code 71 = .ok (.getfield 29, 3) := by decide +kernel
theorem d_M_wayOf_74 : decode prog_9_method_31_code 74 = .ok (.iload_n 1, 1) := by decide +kernel
theorem d_M_wayOf_75 : decode prog_9_method_31_code 75 = .ok (.iaload, 1) := by decide +kernel
theorem d_M_wayOf_76 : decode prog_9_method_31_code 76 = .ok (.iconst 1, 1) := by decide +kernel
theorem d_M_wayOf_77 : decode prog_9_method_31_code 77 = .ok (.invokevirtual 94, 3) := by decide +kernel
theorem d_M_wayOf_80 : decode prog_9_method_31_code 80 = .ok (.istore_n 3, 1) := by decide +kernel
theorem d_M_wayOf_81 : decode prog_9_method_31_code 81 = .ok (.iload_n 3, 1) := by decide +kernel
theorem d_M_wayOf_82 : decode prog_9_method_31_code 82 = .ok (.ifCond .lt 7, 3) := by decide +kernel
theorem d_M_wayOf_85 : decode prog_9_method_31_code 85 = .ok (.iload_n 3, 1) := by decide +kernel
theorem d_M_wayOf_86 : decode prog_9_method_31_code 86 = .ok (.goto 4, 3) := by decide +kernel
theorem d_M_wayOf_89 : decode prog_9_method_31_code 89 = .ok (.iconst 3, 1) := by decide +kernel
theorem d_M_wayOf_90 : decode prog_9_method_31_code 90 = .ok (.ireturn, 1) := by decide +kernel
theorem d_M_count6_0 : decode prog_9_method_32_code 0 = .ok (.aload_n 0, 1) := by decide +kernel
theorem d_M_count6_1 : decode prog_9_method_32_code 1 = .ok (.iload_n 1, 1) := by decide +kernel
theorem d_M_count6_2 : decode prog_9_method_32_code 2 = .ok (.invokevirtual 104, 3) := by decide +kernel
theorem d_M_count6_5 : decode prog_9_method_32_code 5 = .ok (.iconst 0, 1) := by decide +kernel
theorem d_M_count6_6 : decode prog_9_method_32_code 6 = .ok (.istore_n 2, 1) := by decide +kernel
theorem d_M_count6_7 : decode prog_9_method_32_code 7 = .ok (.iload_n 2, 1) := by decide +kernel
theorem d_M_count6_8 : decode prog_9_method_32_code 8 = .ok (.bipush 6, 2) := by decide +kernel
theorem d_M_count6_10 : decode prog_9_method_32_code 10 = .ok (.if_icmp .ge 16, 3) := by decide +kernel
theorem d_M_count6_13 : decode prog_9_method_32_code 13 = .ok (.aload_n 0, 1) := by decide +kernel
theorem d_M_count6_14 : decode prog_9_method_32_code 14 = .ok (.getfield 35, 3) := by decide +kernel
theorem d_M_count6_17 : decode prog_9_method_32_code 17 = .ok (.iload_n 2, 1) := by decide +kernel
theorem d_M_count6_18 : decode prog_9_method_32_code 18 = .ok (.iconst 0, 1) := by decide +kernel
theorem d_M_count6_19 : decode prog_9_method_32_code 19 = .ok (.iastore, 1) := by decide +kernel
theorem d_M_count6_20 : decode prog_9_method_32_code 20 = .ok (.iinc 2 1, 3) := by decide +kernel
theorem d_M_count6_23 : decode prog_9_method_32_code 23 = .ok (.goto (-16), 3) := by decide +kernel
theorem d_M_count6_26 : decode prog_9_method_32_code 26 = .ok (.iconst 0, 1) := by decide +kernel
theorem d_M_count6_27 : decode prog_9_method_32_code 27 = .ok (.istore_n 2, 1) := by decide +kernel
theorem d_M_count6_28 : decode prog_9_method_32_code 28 = .ok (.iload_n 2, 1) := by decide +kernel
theorem d_M_count6_29 : decode prog_9_method_32_code 29 = .ok (.aload_n 0, 1) := by decide +kernel
theorem d_M_count6_30 : decode prog_9_method_32_code 30 = .ok (.getfield 7, 3) := by decide +kernel
theorem d_M_count6_33 : decode prog_9_method_32_code 33 = .ok (.bipush 7, 2) := by decide +kernel
theorem d_M_count6_35 : decode prog_9_method_32_code 35 = .ok (.iaload, 1) := by decide +kernel
theorem d_M_count6_36 : decode prog_9_method_32_code 36 = .ok (.if_icmp .ge 29, 3) := by decide +kernel
theorem d_M_count6_39 : decode prog_9_method_32_code 39 = .ok (.aload_n 0, 1) := by decide +kernel
theorem d_M_count6_40 : decode prog_9_method_32_code 40 = .ok (.getfield 35, 3) := by decide +kernel
theorem d_M_count6_43 : decode prog_9_method_32_code 43 = .ok (.aload_n 0, 1) := by decide +kernel
theorem d_M_count6_44 : decode prog_9_method_32_code 44 = .ok (.iload_n 2, 1) := by decide +kernel
theorem d_M_count6_45 : decode prog_9_method_32_code 45 = .ok (.iload_n 1, 1) := by decide +kernel
theorem d_M_count6_46 : decode prog_9_method_32_code 46 = .ok (.invokevirtual 108, 3) := by decide +kernel
theorem d_M_count6_49 : decode prog_9_method_32_code 49 = .ok (.dup2, 1) := by decide +kernel
theorem d_M_count6_50 : decode prog_9_method_32_code 50 = .ok (.iaload, 1) := by decide +kernel
theorem d_M_count6_51 : decode prog_9_method_32_code 51 = .ok (.aload_n 0, 1) := by decide +kernel
theorem d_M_count6_52 : decode prog_9_method_32_code 52 = .ok (.iload_n 2, 1) := by decide +kernel
theorem d_M_count6_53 : decode prog_9_method_32_code 53 = .ok (.iconst 0, 1) := by decide +kernel
theorem d_M_count6_54 : decode prog_9_method_32_code 54 = .ok (.invokevirtual 60, 3) := by decide +kernel
theorem d_M_count6_57 : decode prog_9_method_32_code 57 = .ok (.iadd, 1) := by decide +kernel
theorem d_M_count6_58 : decode prog_9_method_32_code 58 = .ok (.iastore, 1) := by decide +kernel
theorem d_M_count6_59 : decode prog_9_method_32_code 59 = .ok (.iinc 2 1, 3) := by decide +kernel
theorem d_M_count6_62 : decode prog_9_method_32_code 62 = .ok (.goto (-34), 3) := by decide +kernel
theorem d_M_count6_65 : decode prog_9_method_32_code 65 = .ok (.return_, 1) := by decide +kernel
theorem d_M_outcome_0 : decode prog_9_method_36_code 0 = .ok (.aload_n 0, 1) := by decide +kernel
theorem d_M_outcome_1 : decode prog_9_method_36_code 1 = .ok (.iload_n 1, 1) := by decide +kernel
theorem d_M_outcome_2 : decode prog_9_method_36_code 2 = .ok (.invokevirtual 117, 3) := by decide +kernel
theorem d_M_outcome_5 : decode prog_9_method_36_code 5 = .ok (.aload_n 0, 1) := by decide +kernel
theorem d_M_outcome_6 : decode prog_9_method_36_code 6 = .ok (.getfield 35, 3) := by decide +kernel
theorem d_M_outcome_9 : decode prog_9_method_36_code 9 = .ok (.iconst 1, 1) := by decide +kernel
theorem d_M_outcome_10 : decode prog_9_method_36_code 10 = .ok (.iaload, 1) := by decide +kernel
theorem d_M_outcome_11 : decode prog_9_method_36_code 11 = .ok (.istore_n 2, 1) := by decide +kernel
theorem d_M_outcome_12 : decode prog_9_method_36_code 12 = .ok (.aload_n 0, 1) := by decide +kernel
theorem d_M_outcome_13 : decode prog_9_method_36_code 13 = .ok (.getfield 35, 3) := by decide +kernel
theorem d_M_outcome_16 : decode prog_9_method_36_code 16 = .ok (.iconst 2, 1) := by decide +kernel
theorem d_M_outcome_17 : decode prog_9_method_36_code 17 = .ok (.iaload, 1) := by decide +kernel
theorem d_M_outcome_18 : decode prog_9_method_36_code 18 = .ok (.istore_n 3, 1) := by decide +kernel
theorem d_M_outcome_19 : decode prog_9_method_36_code 19 = .ok (.aload_n 0, 1) := by decide +kernel
theorem d_M_outcome_20 : decode prog_9_method_36_code 20 = .ok (.getfield 7, 3) := by decide +kernel
theorem d_M_outcome_23 : decode prog_9_method_36_code 23 = .ok (.bipush 100, 2) := by decide +kernel
theorem d_M_outcome_25 : decode prog_9_method_36_code 25 = .ok (.bipush 12, 2) := by decide +kernel
theorem d_M_outcome_27 : decode prog_9_method_36_code 27 = .ok (.iload_n 1, 1) := by decide +kernel
theorem d_M_outcome_28 : decode prog_9_method_36_code 28 = .ok (.imul, 1) := by decide +kernel
theorem d_M_outcome_29 : decode prog_9_method_36_code 29 = .ok (.iadd, 1) := by decide +kernel
theorem d_M_outcome_30 : decode prog_9_method_36_code 30 = .ok (.iaload, 1) := by decide +kernel
theorem d_M_outcome_31 : decode prog_9_method_36_code 31 = .ok (.lookupswitch 76 #[(0, 25), (1, 55)], 25) := by decide +kernel
theorem d_M_outcome_56 : decode prog_9_method_36_code 56 = .ok (.iload_n 2, 1) := by decide +kernel
theorem d_M_outcome_57 : decode prog_9_method_36_code 57 = .ok (.iload_n 3, 1) := by decide +kernel
theorem d_M_outcome_58 : decode prog_9_method_36_code 58 = .ok (.if_icmp .le 7, 3) := by decide +kernel
theorem d_M_outcome_61 : decode prog_9_method_36_code 61 = .ok (.iconst 3, 1) := by decide +kernel
theorem d_M_outcome_62 : decode prog_9_method_36_code 62 = .ok (.goto 23, 3) := by decide +kernel
theorem d_M_outcome_65 : decode prog_9_method_36_code 65 = .ok (.iload_n 2, 1) := by decide +kernel
theorem d_M_outcome_66 : decode prog_9_method_36_code 66 = .ok (.iload_n 3, 1) := by decide +kernel
theorem d_M_outcome_67 : decode prog_9_method_36_code 67 = .ok (.if_icmp .ne 17, 3) := by decide +kernel
theorem d_M_outcome_70 : decode prog_9_method_36_code 70 = .ok (.aload_n 0, 1) := by decide +kernel
theorem d_M_outcome_71 : decode prog_9_method_36_code 71 = .ok (.getfield 7, 3) := by decide +kernel
theorem d_M_outcome_74 : decode prog_9_method_36_code 74 = .ok (.iconst 5, 1) := by decide +kernel
theorem d_M_outcome_75 : decode prog_9_method_36_code 75 = .ok (.iaload, 1) := by decide +kernel
theorem d_M_outcome_76 : decode prog_9_method_36_code 76 = .ok (.iconst 1, 1) := by decide +kernel
theorem d_M_outcome_77 : decode prog_9_method_36_code 77 = .ok (.if_icmp .ne 7, 3) := by decide +kernel
theorem d_M_outcome_80 : decode prog_9_method_36_code 80 = .ok (.iconst 2, 1) := by decide +kernel
theorem d_M_outcome_81 : decode prog_9_method_36_code 81 = .ok (.goto 4, 3) := by decide +kernel
theorem d_M_outcome_84 : decode prog_9_method_36_code 84 = .ok (.iconst 4, 1) := by decide +kernel
theorem d_M_outcome_85 : decode prog_9_method_36_code 85 = .ok (.ireturn, 1) := by decide +kernel
theorem d_M_outcome_86 : decode prog_9_method_36_code 86 = .ok (.iload_n 2, 1) := by decide +kernel
theorem d_M_outcome_87 : decode prog_9_method_36_code 87 = .ok (.ifCond .le 18, 3) := by decide +kernel
theorem d_M_outcome_90 : decode prog_9_method_36_code 90 = .ok (.iconst 3, 1) := by decide +kernel
theorem d_M_outcome_91 : decode prog_9_method_36_code 91 = .ok (.iload_n 2, 1) := by decide +kernel
theorem d_M_outcome_92 : decode prog_9_method_36_code 92 = .ok (.imul, 1) := by decide +kernel
theorem d_M_outcome_93 : decode prog_9_method_36_code 93 = .ok (.iconst 2, 1) := by decide +kernel
theorem d_M_outcome_94 : decode prog_9_method_36_code 94 = .ok (.iload_n 2, 1) := by decide +kernel
theorem d_M_outcome_95 : decode prog_9_method_36_code 95 = .ok (.iload_n 3, 1) := by decide +kernel
theorem d_M_outcome_96 : decode prog_9_method_36_code 96 = .ok (.iadd, 1) := by decide +kernel
theorem d_M_outcome_97 : decode prog_9_method_36_code 97 = .ok (.imul, 1) := by decide +kernel
theorem d_M_outcome_98 : decode prog_9_method_36_code 98 = .ok (.if_icmp .lt 7, 3) := by decide +kernel
theorem d_M_outcome_101 : decode prog_9_method_36_code 101 = .ok (.iconst 3, 1) := by decide +kernel
theorem d_M_outcome_102 : decode prog_9_method_36_code 102 = .ok (.goto 4, 3) := by decide +kernel
theorem d_M_outcome_105 : decode prog_9_method_36_code 105 = .ok (.iconst 4, 1) := by decide +kernel
theorem d_M_outcome_106 : decode prog_9_method_36_code 106 = .ok (.ireturn, 1) := by decide +kernel
theorem d_M_outcome_107 : decode prog_9_method_36_code 107 = .ok (.iload_n 2, 1) := by decide +kernel
theorem d_M_outcome_108 : decode prog_9_method_36_code 108 = .ok (.ifCond .le 20, 3) := by decide +kernel
theorem d_M_outcome_111 : decode prog_9_method_36_code 111 = .ok (.aload_n 0, 1) := by decide +kernel
theorem d_M_outcome_112 : decode prog_9_method_36_code 112 = .ok (.getfield 35, 3) := by decide +kernel
theorem d_M_outcome_115 : decode prog_9_method_36_code 115 = .ok (.iconst 0, 1) := by decide +kernel
theorem d_M_outcome_116 : decode prog_9_method_36_code 116 = .ok (.iaload, 1) := by decide +kernel
theorem d_M_outcome_117 : decode prog_9_method_36_code 117 = .ok (.ifCond .ne 11, 3) := by decide +kernel
theorem d_M_outcome_120 : decode prog_9_method_36_code 120 = .ok (.iload_n 3, 1) := by decide +kernel
theorem d_M_outcome_121 : decode prog_9_method_36_code 121 = .ok (.ifCond .ne 7, 3) := by decide +kernel
theorem d_M_outcome_124 : decode prog_9_method_36_code 124 = .ok (.iconst 3, 1) := by decide +kernel
theorem d_M_outcome_125 : decode prog_9_method_36_code 125 = .ok (.goto 4, 3) := by decide +kernel
theorem d_M_outcome_128 : decode prog_9_method_36_code 128 = .ok (.iconst 4, 1) := by decide +kernel
theorem d_M_outcome_129 : decode prog_9_method_36_code 129 = .ok (.ireturn, 1) := by decide +kernel
theorem d_M_close_0 : decode prog_9_method_40_code 0 = .ok (.aload_n 0, 1) := by decide +kernel
theorem d_M_close_1 : decode prog_9_method_40_code 1 = .ok (.iconst 1, 1) := by decide +kernel
theorem d_M_close_2 : decode prog_9_method_40_code 2 = .ok (.invokevirtual 120, 3) := by decide +kernel
theorem d_M_close_5 : decode prog_9_method_40_code 5 = .ok (.istore_n 1, 1) := by decide +kernel
theorem d_M_close_6 : decode prog_9_method_40_code 6 = .ok (.iload_n 1, 1) := by decide +kernel
theorem d_M_close_7 : decode prog_9_method_40_code 7 = .ok (.ifCond .ge 6, 3) := by decide +kernel
theorem d_M_close_10 : decode prog_9_method_40_code 10 = .ok (.bipush (-5), 2) := by decide +kernel
theorem d_M_close_12 : decode prog_9_method_40_code 12 = .ok (.ireturn, 1) := by decide +kernel
theorem d_M_close_13 : decode prog_9_method_40_code 13 = .ok (.aload_n 0, 1) := by decide +kernel
theorem d_M_close_14 : decode prog_9_method_40_code 14 = .ok (.invokevirtual 53, 3) := by decide +kernel
theorem d_M_close_17 : decode prog_9_method_40_code 17 = .ok (.bipush 100, 2) := by decide +kernel
theorem d_M_close_19 : decode prog_9_method_40_code 19 = .ok (.bipush 12, 2) := by decide +kernel
theorem d_M_close_21 : decode prog_9_method_40_code 21 = .ok (.iload_n 1, 1) := by decide +kernel
theorem d_M_close_22 : decode prog_9_method_40_code 22 = .ok (.imul, 1) := by decide +kernel
theorem d_M_close_23 : decode prog_9_method_40_code 23 = .ok (.iadd, 1) := by decide +kernel
theorem d_M_close_24 : decode prog_9_method_40_code 24 = .ok (.istore_n 2, 1) := by decide +kernel
theorem d_M_close_25 : decode prog_9_method_40_code 25 = .ok (.aload_n 0, 1) := by decide +kernel
theorem d_M_close_26 : decode prog_9_method_40_code 26 = .ok (.iload_n 1, 1) := by decide +kernel
theorem d_M_close_27 : decode prog_9_method_40_code 27 = .ok (.invokevirtual 123, 3) := by decide +kernel
theorem d_M_close_30 : decode prog_9_method_40_code 30 = .ok (.ifCond .ne 62, 3) := by decide +kernel
theorem d_M_close_33 : decode prog_9_method_40_code 33 = .ok (.aload_n 0, 1) := by decide +kernel
theorem d_M_close_34 : decode prog_9_method_40_code 34 = .ok (.getfield 7, 3) := by decide +kernel
theorem d_M_close_37 : decode prog_9_method_40_code 37 = .ok (.iload_n 2, 1) := by decide +kernel
theorem d_M_close_38 : decode prog_9_method_40_code 38 = .ok (.iconst 2, 1) := by decide +kernel
theorem d_M_close_39 : decode prog_9_method_40_code 39 = .ok (.iadd, 1) := by decide +kernel
theorem d_M_close_40 : decode prog_9_method_40_code 40 = .ok (.iconst 0, 1) := by decide +kernel
theorem d_M_close_41 : decode prog_9_method_40_code 41 = .ok (.iastore, 1) := by decide +kernel
theorem d_M_close_42 : decode prog_9_method_40_code 42 = .ok (.aload_n 0, 1) := by decide +kernel
theorem d_M_close_43 : decode prog_9_method_40_code 43 = .ok (.getfield 7, 3) := by decide +kernel
theorem d_M_close_46 : decode prog_9_method_40_code 46 = .ok (.iload_n 2, 1) := by decide +kernel
theorem d_M_close_47 : decode prog_9_method_40_code 47 = .ok (.bipush 10, 2) := by decide +kernel
theorem d_M_close_49 : decode prog_9_method_40_code 49 = .ok (.iadd, 1) := by decide +kernel
theorem d_M_close_50 : decode prog_9_method_40_code 50 = .ok (.dup2, 1) := by decide +kernel
theorem d_M_close_51 : decode prog_9_method_40_code 51 = .ok (.iaload, 1) := by decide +kernel
theorem d_M_close_52 : decode prog_9_method_40_code 52 = .ok (.iconst 1, 1) := by decide +kernel
theorem d_M_close_53 : decode prog_9_method_40_code 53 = .ok (.iadd, 1) := by decide +kernel
theorem d_M_close_54 : decode prog_9_method_40_code 54 = .ok (.iastore, 1) := by decide +kernel
theorem d_M_close_55 : decode prog_9_method_40_code 55 = .ok (.iconst 0, 1) := by decide +kernel
theorem d_M_close_56 : decode prog_9_method_40_code 56 = .ok (.istore_n 3, 1) := by decide +kernel
theorem d_M_close_57 : decode prog_9_method_40_code 57 = .ok (.iload_n 3, 1) := by decide +kernel
theorem d_M_close_58 : decode prog_9_method_40_code 58 = .ok (.bipush 12, 2) := by decide +kernel
theorem d_M_close_60 : decode prog_9_method_40_code 60 = .ok (.if_icmp .ge 30, 3) := by decide +kernel
theorem d_M_close_63 : decode prog_9_method_40_code 63 = .ok (.aload_n 0, 1) := by decide +kernel
theorem d_M_close_64 : decode prog_9_method_40_code 64 = .ok (.getfield 7, 3) := by decide +kernel
theorem d_M_close_67 : decode prog_9_method_40_code 67 = .ok (.sipush 250, 3) := by decide +kernel
theorem d_M_close_70 : decode prog_9_method_40_code 70 = .ok (.iconst 3, 1) := by decide +kernel
theorem d_M_close_71 : decode prog_9_method_40_code 71 = .ok (.bipush 12, 2) := by decide +kernel
theorem d_M_close_73 : decode prog_9_method_40_code 73 = .ok (.iload_n 1, 1) := by decide +kernel
theorem d_M_close_74 : decode prog_9_method_40_code 74 = .ok (.imul, 1) := by decide +kernel
theorem d_M_close_75 : decode prog_9_method_40_code 75 = .ok (.iload_n 3, 1) := by decide +kernel
theorem d_M_close_76 : decode prog_9_method_40_code 76 = .ok (.iadd, 1) := by decide +kernel
theorem d_M_close_77 : decode prog_9_method_40_code 77 = .ok (.imul, 1) := by decide +kernel
theorem d_M_close_78 : decode prog_9_method_40_code 78 = .ok (.iadd, 1) := by decide +kernel
theorem d_M_close_79 : decode prog_9_method_40_code 79 = .ok (.iconst 1, 1) := by decide +kernel
theorem d_M_close_80 : decode prog_9_method_40_code 80 = .ok (.iadd, 1) := by decide +kernel
theorem d_M_close_81 : decode prog_9_method_40_code 81 = .ok (.bipush (-6), 2) := by decide +kernel
theorem d_M_close_83 : decode prog_9_method_40_code 83 = .ok (.iastore, 1) := by decide +kernel
theorem d_M_close_84 : decode prog_9_method_40_code 84 = .ok (.iinc 3 1, 3) := by decide +kernel
theorem d_M_close_87 : decode prog_9_method_40_code 87 = .ok (.goto (-30), 3) := by decide +kernel
theorem d_M_close_90 : decode prog_9_method_40_code 90 = .ok (.iconst 0, 1) := by decide +kernel
theorem d_M_close_91 : decode prog_9_method_40_code 91 = .ok (.ireturn, 1) := by decide +kernel
theorem d_M_close_92 : decode prog_9_method_40_code 92 = .ok (.aload_n 0, 1) := by decide +kernel
theorem d_M_close_93 : decode prog_9_method_40_code 93 = .ok (.getfield 7, 3) := by decide +kernel
theorem d_M_close_96 : decode prog_9_method_40_code 96 = .ok (.iload_n 2, 1) := by decide +kernel
theorem d_M_close_97 : decode prog_9_method_40_code 97 = .ok (.iconst 2, 1) := by decide +kernel
theorem d_M_close_98 : decode prog_9_method_40_code 98 = .ok (.iadd, 1) := by decide +kernel
theorem d_M_close_99 : decode prog_9_method_40_code 99 = .ok (.aload_n 0, 1) := by decide +kernel
theorem d_M_close_100 : decode prog_9_method_40_code 100 = .ok (.iload_n 1, 1) := by decide +kernel
theorem d_M_close_101 : decode prog_9_method_40_code 101 = .ok (.invokevirtual 126, 3) := by decide +kernel
theorem d_M_close_104 : decode prog_9_method_40_code 104 = .ok (.iastore, 1) := by decide +kernel
theorem d_M_close_105 : decode prog_9_method_40_code 105 = .ok (.iconst 0, 1) := by decide +kernel
theorem d_M_close_106 : decode prog_9_method_40_code 106 = .ok (.istore_n 3, 1) := by decide +kernel
theorem d_M_close_107 : decode prog_9_method_40_code 107 = .ok (.iload_n 3, 1) := by decide +kernel
theorem d_M_close_108 : decode prog_9_method_40_code 108 = .ok (.bipush 6, 2) := by decide +kernel
theorem d_M_close_110 : decode prog_9_method_40_code 110 = .ok (.if_icmp .ge 25, 3) := by decide +kernel
theorem d_M_close_113 : decode prog_9_method_40_code 113 = .ok (.aload_n 0, 1) := by decide +kernel
theorem d_M_close_114 : decode prog_9_method_40_code 114 = .ok (.getfield 7, 3) := by decide +kernel
theorem d_M_close_117 : decode prog_9_method_40_code 117 = .ok (.iload_n 2, 1) := by decide +kernel
theorem d_M_close_118 : decode prog_9_method_40_code 118 = .ok (.iconst 3, 1) := by decide +kernel
theorem d_M_close_119 : decode prog_9_method_40_code 119 = .ok (.iadd, 1) := by decide +kernel
theorem d_M_close_120 : decode prog_9_method_40_code 120 = .ok (.iload_n 3, 1) := by decide +kernel
theorem d_M_close_121 : decode prog_9_method_40_code 121 = .ok (.iadd, 1) := by decide +kernel
theorem d_M_close_122 : decode prog_9_method_40_code 122 = .ok (.aload_n 0, 1) := by decide +kernel
theorem d_M_close_123 : decode prog_9_method_40_code 123 = .ok (.getfield 35, 3) := by decide +kernel
theorem d_M_close_126 : decode prog_9_method_40_code 126 = .ok (.iload_n 3, 1) := by decide +kernel
theorem d_M_close_127 : decode prog_9_method_40_code 127 = .ok (.iaload, 1) := by decide +kernel
theorem d_M_close_128 : decode prog_9_method_40_code 128 = .ok (.iastore, 1) := by decide +kernel
theorem d_M_close_129 : decode prog_9_method_40_code 129 = .ok (.iinc 3 1, 3) := by decide +kernel
theorem d_M_close_132 : decode prog_9_method_40_code 132 = .ok (.goto (-25), 3) := by decide +kernel
theorem d_M_close_135 : decode prog_9_method_40_code 135 = .ok (.aload_n 0, 1) := by decide +kernel
theorem d_M_close_136 : decode prog_9_method_40_code 136 = .ok (.getfield 7, 3) := by decide +kernel
theorem d_M_close_139 : decode prog_9_method_40_code 139 = .ok (.iload_n 2, 1) := by decide +kernel
theorem d_M_close_140 : decode prog_9_method_40_code 140 = .ok (.iconst 2, 1) := by decide +kernel
theorem d_M_close_141 : decode prog_9_method_40_code 141 = .ok (.iadd, 1) := by decide +kernel
theorem d_M_close_142 : decode prog_9_method_40_code 142 = .ok (.iaload, 1) := by decide +kernel
theorem d_M_close_143 : decode prog_9_method_40_code 143 = .ok (.ireturn, 1) := by decide +kernel
theorem d_M_chairNow_0 : decode prog_9_method_41_code 0 = .ok (.aload_n 0, 1) := by decide +kernel
theorem d_M_chairNow_1 : decode prog_9_method_41_code 1 = .ok (.getfield 7, 3) := by decide +kernel
theorem d_M_chairNow_4 : decode prog_9_method_41_code 4 = .ok (.bipush 9, 2) := by decide +kernel
theorem d_M_chairNow_6 : decode prog_9_method_41_code 6 = .ok (.iaload, 1) := by decide +kernel
theorem d_M_chairNow_7 : decode prog_9_method_41_code 7 = .ok (.ifCond .lt 25, 3) := by decide +kernel
theorem d_M_chairNow_10 : decode prog_9_method_41_code 10 = .ok (.aload_n 0, 1) := by decide +kernel
theorem d_M_chairNow_11 : decode prog_9_method_41_code 11 = .ok (.aload_n 0, 1) := by decide +kernel
theorem d_M_chairNow_12 : decode prog_9_method_41_code 12 = .ok (.getfield 7, 3) := by decide +kernel
theorem d_M_chairNow_15 : decode prog_9_method_41_code 15 = .ok (.bipush 9, 2) := by decide +kernel
theorem d_M_chairNow_17 : decode prog_9_method_41_code 17 = .ok (.iaload, 1) := by decide +kernel
theorem d_M_chairNow_18 : decode prog_9_method_41_code 18 = .ok (.invokevirtual 64, 3) := by decide +kernel
theorem d_M_chairNow_21 : decode prog_9_method_41_code 21 = .ok (.ifCond .eq 11, 3) := by decide +kernel
theorem d_M_chairNow_24 : decode prog_9_method_41_code 24 = .ok (.aload_n 0, 1) := by decide +kernel
theorem d_M_chairNow_25 : decode prog_9_method_41_code 25 = .ok (.getfield 7, 3) := by decide +kernel
theorem d_M_chairNow_28 : decode prog_9_method_41_code 28 = .ok (.bipush 9, 2) := by decide +kernel
theorem d_M_chairNow_30 : decode prog_9_method_41_code 30 = .ok (.iaload, 1) := by decide +kernel
theorem d_M_chairNow_31 : decode prog_9_method_41_code 31 = .ok (.ireturn, 1) := by decide +kernel
theorem d_M_chairNow_32 : decode prog_9_method_41_code 32 = .ok (.bipush (-6), 2) := by decide +kernel
theorem d_M_chairNow_34 : decode prog_9_method_41_code 34 = .ok (.istore_n 1, 1) := by decide +kernel
theorem d_M_chairNow_35 : decode prog_9_method_41_code 35 = .ok (.aload_n 0, 1) := by decide +kernel
theorem d_M_chairNow_36 : decode prog_9_method_41_code 36 = .ok (.getfield 7, 3) := by decide +kernel
theorem d_M_chairNow_39 : decode prog_9_method_41_code 39 = .ok (.bipush 7, 2) := by decide +kernel
theorem d_M_chairNow_41 : decode prog_9_method_41_code 41 = .ok (.iaload, 1) := by decide +kernel
theorem d_M_chairNow_42 : decode prog_9_method_41_code 42 = .ok (.iconst 1, 1) := by decide +kernel
theorem d_M_chairNow_43 : decode prog_9_method_41_code 43 = .ok (.isub, 1) := by decide +kernel
theorem d_M_chairNow_44 : decode prog_9_method_41_code 44 = .ok (.istore_n 2, 1) := by decide +kernel
theorem d_M_chairNow_45 : decode prog_9_method_41_code 45 = .ok (.iload_n 2, 1) := by decide +kernel
theorem d_M_chairNow_46 : decode prog_9_method_41_code 46 = .ok (.ifCond .lt 23, 3) := by decide +kernel
theorem d_M_chairNow_49 : decode prog_9_method_41_code 49 = .ok (.aload_n 0, 1) := by decide +kernel
theorem d_M_chairNow_50 : decode prog_9_method_41_code 50 = .ok (.iload_n 2, 1) := by decide +kernel
theorem d_M_chairNow_51 : decode prog_9_method_41_code 51 = .ok (.invokevirtual 64, 3) := by decide +kernel
theorem d_M_chairNow_54 : decode prog_9_method_41_code 54 = .ok (.ifCond .eq 7, 3) := by decide +kernel
theorem d_M_chairNow_57 : decode prog_9_method_41_code 57 = .ok (.iload_n 2, 1) := by decide +kernel
theorem d_M_chairNow_58 : decode prog_9_method_41_code 58 = .ok (.goto 4, 3) := by decide +kernel
theorem d_M_chairNow_61 : decode prog_9_method_41_code 61 = .ok (.iload_n 1, 1) := by decide +kernel
theorem d_M_chairNow_62 : decode prog_9_method_41_code 62 = .ok (.istore_n 1, 1) := by decide +kernel
theorem d_M_chairNow_63 : decode prog_9_method_41_code 63 = .ok (.iinc 2 (-1), 3) := by decide +kernel
theorem d_M_chairNow_66 : decode prog_9_method_41_code 66 = .ok (.goto (-21), 3) := by decide +kernel
theorem d_M_chairNow_69 : decode prog_9_method_41_code 69 = .ok (.iload_n 1, 1) := by decide +kernel
theorem d_M_chairNow_70 : decode prog_9_method_41_code 70 = .ok (.ireturn, 1) := by decide +kernel
theorem d_M_cast_0 : decode prog_9_method_42_code 0 = .ok (.iload_n 1, 1) := by decide +kernel
theorem d_M_cast_1 : decode prog_9_method_42_code 1 = .ok (.iconst 1, 1) := by decide +kernel
theorem d_M_cast_2 : decode prog_9_method_42_code 2 = .ok (.iconst 2, 1) := by decide +kernel
theorem d_M_cast_3 : decode prog_9_method_42_code 3 = .ok (.invokestatic 49, 3) := by decide +kernel
theorem d_M_cast_6 : decode prog_9_method_42_code 6 = .ok (.ifCond .ne 6, 3) := by decide +kernel
theorem d_M_cast_9 : decode prog_9_method_42_code 9 = .ok (.bipush (-2), 2) := by decide +kernel
theorem d_M_cast_11 : decode prog_9_method_42_code 11 = .ok (.ireturn, 1) := by decide +kernel
theorem d_M_cast_12 : decode prog_9_method_42_code 12 = .ok (.aload_n 0, 1) := by decide +kernel
theorem d_M_cast_13 : decode prog_9_method_42_code 13 = .ok (.iconst 2, 1) := by decide +kernel
theorem d_M_cast_14 : decode prog_9_method_42_code 14 = .ok (.invokevirtual 120, 3) := by decide +kernel
theorem d_M_cast_17 : decode prog_9_method_42_code 17 = .ok (.istore_n 2, 1) := by decide +kernel
theorem d_M_cast_18 : decode prog_9_method_42_code 18 = .ok (.aload_n 0, 1) := by decide +kernel
theorem d_M_cast_19 : decode prog_9_method_42_code 19 = .ok (.invokevirtual 129, 3) := by decide +kernel
theorem d_M_cast_22 : decode prog_9_method_42_code 22 = .ok (.istore_n 3, 1) := by decide +kernel
theorem d_M_cast_23 : decode prog_9_method_42_code 23 = .ok (.iload_n 2, 1) := by decide +kernel
theorem d_M_cast_24 : decode prog_9_method_42_code 24 = .ok (.ifCond .lt 16, 3) := by decide +kernel
theorem d_M_cast_27 : decode prog_9_method_42_code 27 = .ok (.iload_n 3, 1) := by decide +kernel
theorem d_M_cast_28 : decode prog_9_method_42_code 28 = .ok (.ifCond .lt 12, 3) := by decide +kernel
theorem d_M_cast_31 : decode prog_9_method_42_code 31 = .ok (.aload_n 0, 1) := by decide +kernel
theorem d_M_cast_32 : decode prog_9_method_42_code 32 = .ok (.iload_n 3, 1) := by decide +kernel
theorem d_M_cast_33 : decode prog_9_method_42_code 33 = .ok (.iload_n 2, 1) := by decide +kernel
theorem d_M_cast_34 : decode prog_9_method_42_code 34 = .ok (.invokevirtual 91, 3) := by decide +kernel
theorem d_M_cast_37 : decode prog_9_method_42_code 37 = .ok (.ifCond .eq 6, 3) := by decide +kernel
theorem d_M_cast_40 : decode prog_9_method_42_code 40 = .ok (.bipush (-5), 2) := by decide +kernel
theorem d_M_cast_42 : decode prog_9_method_42_code 42 = .ok (.ireturn, 1) := by decide +kernel
theorem d_M_cast_43 : decode prog_9_method_42_code 43 = .ok (.aload_n 0, 1) := by decide +kernel
theorem d_M_cast_44 : decode prog_9_method_42_code 44 = .ok (.invokevirtual 53, 3) := by decide +kernel
theorem d_M_cast_47 : decode prog_9_method_42_code 47 = .ok (.aload_n 0, 1) := by decide +kernel
theorem d_M_cast_48 : decode prog_9_method_42_code 48 = .ok (.getfield 7, 3) := by decide +kernel
theorem d_M_cast_51 : decode prog_9_method_42_code 51 = .ok (.bipush 100, 2) := by decide +kernel
theorem d_M_cast_53 : decode prog_9_method_42_code 53 = .ok (.bipush 12, 2) := by decide +kernel
theorem d_M_cast_55 : decode prog_9_method_42_code 55 = .ok (.iload_n 2, 1) := by decide +kernel
theorem d_M_cast_56 : decode prog_9_method_42_code 56 = .ok (.imul, 1) := by decide +kernel
theorem d_M_cast_57 : decode prog_9_method_42_code 57 = .ok (.iadd, 1) := by decide +kernel
theorem d_M_cast_58 : decode prog_9_method_42_code 58 = .ok (.iconst 2, 1) := by decide +kernel
theorem d_M_cast_59 : decode prog_9_method_42_code 59 = .ok (.iadd, 1) := by decide +kernel
theorem d_M_cast_60 : decode prog_9_method_42_code 60 = .ok (.iconst 2, 1) := by decide +kernel
theorem d_M_cast_61 : decode prog_9_method_42_code 61 = .ok (.iload_n 1, 1) := by decide +kernel
theorem d_M_cast_62 : decode prog_9_method_42_code 62 = .ok (.iadd, 1) := by decide +kernel
theorem d_M_cast_63 : decode prog_9_method_42_code 63 = .ok (.iastore, 1) := by decide +kernel
theorem d_M_cast_64 : decode prog_9_method_42_code 64 = .ok (.aload_n 0, 1) := by decide +kernel
theorem d_M_cast_65 : decode prog_9_method_42_code 65 = .ok (.getfield 7, 3) := by decide +kernel
theorem d_M_cast_68 : decode prog_9_method_42_code 68 = .ok (.bipush 100, 2) := by decide +kernel
theorem d_M_cast_70 : decode prog_9_method_42_code 70 = .ok (.bipush 12, 2) := by decide +kernel
theorem d_M_cast_72 : decode prog_9_method_42_code 72 = .ok (.iload_n 2, 1) := by decide +kernel
theorem d_M_cast_73 : decode prog_9_method_42_code 73 = .ok (.imul, 1) := by decide +kernel
theorem d_M_cast_74 : decode prog_9_method_42_code 74 = .ok (.iadd, 1) := by decide +kernel
theorem d_M_cast_75 : decode prog_9_method_42_code 75 = .ok (.bipush 9, 2) := by decide +kernel
theorem d_M_cast_77 : decode prog_9_method_42_code 77 = .ok (.iadd, 1) := by decide +kernel
theorem d_M_cast_78 : decode prog_9_method_42_code 78 = .ok (.iload_n 3, 1) := by decide +kernel
theorem d_M_cast_79 : decode prog_9_method_42_code 79 = .ok (.iastore, 1) := by decide +kernel
theorem d_M_cast_80 : decode prog_9_method_42_code 80 = .ok (.aload_n 0, 1) := by decide +kernel
theorem d_M_cast_81 : decode prog_9_method_42_code 81 = .ok (.getfield 7, 3) := by decide +kernel
theorem d_M_cast_84 : decode prog_9_method_42_code 84 = .ok (.bipush 20, 2) := by decide +kernel
theorem d_M_cast_86 : decode prog_9_method_42_code 86 = .ok (.bipush 6, 2) := by decide +kernel
theorem d_M_cast_88 : decode prog_9_method_42_code 88 = .ok (.iload_n 3, 1) := by decide +kernel
theorem d_M_cast_89 : decode prog_9_method_42_code 89 = .ok (.imul, 1) := by decide +kernel
theorem d_M_cast_90 : decode prog_9_method_42_code 90 = .ok (.iadd, 1) := by decide +kernel
theorem d_M_cast_91 : decode prog_9_method_42_code 91 = .ok (.iconst 4, 1) := by decide +kernel
theorem d_M_cast_92 : decode prog_9_method_42_code 92 = .ok (.iadd, 1) := by decide +kernel
theorem d_M_cast_93 : decode prog_9_method_42_code 93 = .ok (.dup2, 1) := by decide +kernel
theorem d_M_cast_94 : decode prog_9_method_42_code 94 = .ok (.iaload, 1) := by decide +kernel
theorem d_M_cast_95 : decode prog_9_method_42_code 95 = .ok (.iconst 1, 1) := by decide +kernel
theorem d_M_cast_96 : decode prog_9_method_42_code 96 = .ok (.iadd, 1) := by decide +kernel
theorem d_M_cast_97 : decode prog_9_method_42_code 97 = .ok (.iastore, 1) := by decide +kernel
theorem d_M_cast_98 : decode prog_9_method_42_code 98 = .ok (.iconst 2, 1) := by decide +kernel
theorem d_M_cast_99 : decode prog_9_method_42_code 99 = .ok (.iload_n 1, 1) := by decide +kernel
theorem d_M_cast_100 : decode prog_9_method_42_code 100 = .ok (.iadd, 1) := by decide +kernel
theorem d_M_cast_101 : decode prog_9_method_42_code 101 = .ok (.ireturn, 1) := by decide +kernel
theorem d_M_nextMinute_0 : decode prog_9_method_43_code 0 = .ok (.aload_n 0, 1) := by decide +kernel
theorem d_M_nextMinute_1 : decode prog_9_method_43_code 1 = .ok (.getfield 7, 3) := by decide +kernel
theorem d_M_nextMinute_4 : decode prog_9_method_43_code 4 = .ok (.bipush 6, 2) := by decide +kernel
theorem d_M_nextMinute_6 : decode prog_9_method_43_code 6 = .ok (.dup2, 1) := by decide +kernel
theorem d_M_nextMinute_7 : decode prog_9_method_43_code 7 = .ok (.iaload, 1) := by decide +kernel
theorem d_M_nextMinute_8 : decode prog_9_method_43_code 8 = .ok (.iconst 1, 1) := by decide +kernel
theorem d_M_nextMinute_9 : decode prog_9_method_43_code 9 = .ok (.iadd, 1) := by decide +kernel
theorem d_M_nextMinute_10 : decode prog_9_method_43_code 10 = .ok (.iastore, 1) := by decide +kernel
theorem d_M_nextMinute_11 : decode prog_9_method_43_code 11 = .ok (.iconst 0, 1) := by decide +kernel
theorem d_M_nextMinute_12 : decode prog_9_method_43_code 12 = .ok (.istore_n 1, 1) := by decide +kernel
theorem d_M_nextMinute_13 : decode prog_9_method_43_code 13 = .ok (.iconst 0, 1) := by decide +kernel
theorem d_M_nextMinute_14 : decode prog_9_method_43_code 14 = .ok (.istore_n 2, 1) := by decide +kernel
theorem d_M_nextMinute_15 : decode prog_9_method_43_code 15 = .ok (.iload_n 2, 1) := by decide +kernel
theorem d_M_nextMinute_16 : decode prog_9_method_43_code 16 = .ok (.aload_n 0, 1) := by decide +kernel
theorem d_M_nextMinute_17 : decode prog_9_method_43_code 17 = .ok (.getfield 7, 3) := by decide +kernel
theorem d_M_nextMinute_20 : decode prog_9_method_43_code 20 = .ok (.bipush 10, 2) := by decide +kernel
theorem d_M_nextMinute_22 : decode prog_9_method_43_code 22 = .ok (.iaload, 1) := by decide +kernel
theorem d_M_nextMinute_23 : decode prog_9_method_43_code 23 = .ok (.if_icmp .ge 107, 3) := by decide +kernel
theorem d_M_nextMinute_26 : decode prog_9_method_43_code 26 = .ok (.sipush 690, 3) := by decide +kernel
theorem d_M_nextMinute_29 : decode prog_9_method_43_code 29 = .ok (.iconst 3, 1) := by decide +kernel
theorem d_M_nextMinute_30 : decode prog_9_method_43_code 30 = .ok (.iload_n 2, 1) := by decide +kernel
theorem d_M_nextMinute_31 : decode prog_9_method_43_code 31 = .ok (.imul, 1) := by decide +kernel
theorem d_M_nextMinute_32 : decode prog_9_method_43_code 32 = .ok (.iadd, 1) := by decide +kernel
theorem d_M_nextMinute_33 : decode prog_9_method_43_code 33 = .ok (.istore_n 3, 1) := by decide +kernel
theorem d_M_nextMinute_34 : decode prog_9_method_43_code 34 = .ok (.aload_n 0, 1) := by decide +kernel
theorem d_M_nextMinute_35 : decode prog_9_method_43_code 35 = .ok (.getfield 7, 3) := by decide +kernel
theorem d_M_nextMinute_38 : decode prog_9_method_43_code 38 = .ok (.iload_n 3, 1) := by decide +kernel
theorem d_M_nextMinute_39 : decode prog_9_method_43_code 39 = .ok (.iaload, 1) := by decide +kernel
theorem d_M_nextMinute_40 : decode prog_9_method_43_code 40 = .ok (.aload_n 0, 1) := by decide +kernel
theorem d_M_nextMinute_41 : decode prog_9_method_43_code 41 = .ok (.getfield 7, 3) := by decide +kernel
theorem d_M_nextMinute_44 : decode prog_9_method_43_code 44 = .ok (.bipush 6, 2) := by decide +kernel
theorem d_M_nextMinute_46 : decode prog_9_method_43_code 46 = .ok (.iaload, 1) := by decide +kernel
theorem d_M_nextMinute_47 : decode prog_9_method_43_code 47 = .ok (.if_icmp .ne 35, 3) := by decide +kernel
theorem d_M_nextMinute_50 : decode prog_9_method_43_code 50 = .ok (.aload_n 0, 1) := by decide +kernel
theorem d_M_nextMinute_51 : decode prog_9_method_43_code 51 = .ok (.getfield 7, 3) := by decide +kernel
theorem d_M_nextMinute_54 : decode prog_9_method_43_code 54 = .ok (.bipush 20, 2) := by decide +kernel
theorem d_M_nextMinute_56 : decode prog_9_method_43_code 56 = .ok (.bipush 6, 2) := by decide +kernel
theorem d_M_nextMinute_58 : decode prog_9_method_43_code 58 = .ok (.aload_n 0, 1) := by decide +kernel
theorem d_M_nextMinute_59 : decode prog_9_method_43_code 59 = .ok (.getfield 7, 3) := by decide +kernel
theorem d_M_nextMinute_62 : decode prog_9_method_43_code 62 = .ok (.iload_n 3, 1) := by decide +kernel
theorem d_M_nextMinute_63 : decode prog_9_method_43_code 63 = .ok (.iconst 1, 1) := by decide +kernel
theorem d_M_nextMinute_64 : decode prog_9_method_43_code 64 = .ok (.iadd, 1) := by decide +kernel
theorem d_M_nextMinute_65 : decode prog_9_method_43_code 65 = .ok (.iaload, 1) := by decide +kernel
theorem d_M_nextMinute_66 : decode prog_9_method_43_code 66 = .ok (.imul, 1) := by decide +kernel
theorem d_M_nextMinute_67 : decode prog_9_method_43_code 67 = .ok (.iadd, 1) := by decide +kernel
theorem d_M_nextMinute_68 : decode prog_9_method_43_code 68 = .ok (.iconst 2, 1) := by decide +kernel
theorem d_M_nextMinute_69 : decode prog_9_method_43_code 69 = .ok (.iadd, 1) := by decide +kernel
theorem d_M_nextMinute_70 : decode prog_9_method_43_code 70 = .ok (.aload_n 0, 1) := by decide +kernel
theorem d_M_nextMinute_71 : decode prog_9_method_43_code 71 = .ok (.getfield 7, 3) := by decide +kernel
theorem d_M_nextMinute_74 : decode prog_9_method_43_code 74 = .ok (.iload_n 3, 1) := by decide +kernel
theorem d_M_nextMinute_75 : decode prog_9_method_43_code 75 = .ok (.iconst 2, 1) := by decide +kernel
theorem d_M_nextMinute_76 : decode prog_9_method_43_code 76 = .ok (.iadd, 1) := by decide +kernel
theorem d_M_nextMinute_77 : decode prog_9_method_43_code 77 = .ok (.iaload, 1) := by decide +kernel
theorem d_M_nextMinute_78 : decode prog_9_method_43_code 78 = .ok (.iastore, 1) := by decide +kernel
theorem d_M_nextMinute_79 : decode prog_9_method_43_code 79 = .ok (.goto 45, 3) := by decide +kernel
theorem d_M_nextMinute_82 : decode prog_9_method_43_code 82 = .ok (.iconst 0, 1) := by decide +kernel
theorem d_M_nextMinute_83 : decode prog_9_method_43_code 83 = .ok (.istore 4, 2) := by decide +kernel
theorem d_M_nextMinute_85 : decode prog_9_method_43_code 85 = .ok (.iload 4, 2) := by decide +kernel
theorem d_M_nextMinute_87 : decode prog_9_method_43_code 87 = .ok (.iconst 3, 1) := by decide +kernel
theorem d_M_nextMinute_88 : decode prog_9_method_43_code 88 = .ok (.if_icmp .ge 33, 3) := by decide +kernel
theorem d_M_nextMinute_91 : decode prog_9_method_43_code 91 = .ok (.aload_n 0, 1) := by decide +kernel
theorem d_M_nextMinute_92 : decode prog_9_method_43_code 92 = .ok (.getfield 7, 3) := by decide +kernel
theorem d_M_nextMinute_95 : decode prog_9_method_43_code 95 = .ok (.sipush 690, 3) := by decide +kernel
theorem d_M_nextMinute_98 : decode prog_9_method_43_code 98 = .ok (.iconst 3, 1) := by decide +kernel
theorem d_M_nextMinute_99 : decode prog_9_method_43_code 99 = .ok (.iload_n 1, 1) := by decide +kernel
theorem d_M_nextMinute_100 : decode prog_9_method_43_code 100 = .ok (.imul, 1) := by decide +kernel
theorem d_M_nextMinute_101 : decode prog_9_method_43_code 101 = .ok (.iadd, 1) := by decide +kernel
theorem d_M_nextMinute_102 : decode prog_9_method_43_code 102 = .ok (.iload 4, 2) := by decide +kernel
theorem d_M_nextMinute_104 : decode prog_9_method_43_code 104 = .ok (.iadd, 1) := by decide +kernel
theorem d_M_nextMinute_105 : decode prog_9_method_43_code 105 = .ok (.aload_n 0, 1) := by decide +kernel
theorem d_M_nextMinute_106 : decode prog_9_method_43_code 106 = .ok (.getfield 7, 3) := by decide +kernel
theorem d_M_nextMinute_109 : decode prog_9_method_43_code 109 = .ok (.iload_n 3, 1) := by decide +kernel
theorem d_M_nextMinute_110 : decode prog_9_method_43_code 110 = .ok (.iload 4, 2) := by decide +kernel
theorem d_M_nextMinute_112 : decode prog_9_method_43_code 112 = .ok (.iadd, 1) := by decide +kernel
theorem d_M_nextMinute_113 : decode prog_9_method_43_code 113 = .ok (.iaload, 1) := by decide +kernel
theorem d_M_nextMinute_114 : decode prog_9_method_43_code 114 = .ok (.iastore, 1) := by decide +kernel
theorem d_M_nextMinute_115 : decode prog_9_method_43_code 115 = .ok (.iinc 4 1, 3) := by decide +kernel
theorem d_M_nextMinute_118 : decode prog_9_method_43_code 118 = .ok (.goto (-33), 3) := by decide +kernel
theorem d_M_nextMinute_121 : decode prog_9_method_43_code 121 = .ok (.iinc 1 1, 3) := by decide +kernel
theorem d_M_nextMinute_124 : decode prog_9_method_43_code 124 = .ok (.iinc 2 1, 3) := by decide +kernel
theorem d_M_nextMinute_127 : decode prog_9_method_43_code 127 = .ok (.goto (-112), 3) := by decide +kernel
theorem d_M_nextMinute_130 : decode prog_9_method_43_code 130 = .ok (.aload_n 0, 1) := by decide +kernel
theorem d_M_nextMinute_131 : decode prog_9_method_43_code 131 = .ok (.getfield 7, 3) := by decide +kernel
theorem d_M_nextMinute_134 : decode prog_9_method_43_code 134 = .ok (.bipush 10, 2) := by decide +kernel
theorem d_M_nextMinute_136 : decode prog_9_method_43_code 136 = .ok (.iload_n 1, 1) := by decide +kernel
theorem d_M_nextMinute_137 : decode prog_9_method_43_code 137 = .ok (.iastore, 1) := by decide +kernel
theorem d_M_nextMinute_138 : decode prog_9_method_43_code 138 = .ok (.return_, 1) := by decide +kernel
theorem d_M_pass_0 : decode prog_9_method_44_code 0 = .ok (.iload_n 1, 1) := by decide +kernel
theorem d_M_pass_1 : decode prog_9_method_44_code 1 = .ok (.iconst 1, 1) := by decide +kernel
theorem d_M_pass_2 : decode prog_9_method_44_code 2 = .ok (.sipush 600, 3) := by decide +kernel
theorem d_M_pass_5 : decode prog_9_method_44_code 5 = .ok (.invokestatic 49, 3) := by decide +kernel
theorem d_M_pass_8 : decode prog_9_method_44_code 8 = .ok (.ifCond .ne 6, 3) := by decide +kernel
theorem d_M_pass_11 : decode prog_9_method_44_code 11 = .ok (.bipush (-2), 2) := by decide +kernel
theorem d_M_pass_13 : decode prog_9_method_44_code 13 = .ok (.ireturn, 1) := by decide +kernel
theorem d_M_pass_14 : decode prog_9_method_44_code 14 = .ok (.aload_n 0, 1) := by decide +kernel
theorem d_M_pass_15 : decode prog_9_method_44_code 15 = .ok (.getfield 7, 3) := by decide +kernel
theorem d_M_pass_18 : decode prog_9_method_44_code 18 = .ok (.bipush 6, 2) := by decide +kernel
theorem d_M_pass_20 : decode prog_9_method_44_code 20 = .ok (.iaload, 1) := by decide +kernel
theorem d_M_pass_21 : decode prog_9_method_44_code 21 = .ok (.iload_n 1, 1) := by decide +kernel
theorem d_M_pass_22 : decode prog_9_method_44_code 22 = .ok (.iadd, 1) := by decide +kernel
theorem d_M_pass_23 : decode prog_9_method_44_code 23 = .ok (.sipush 9000, 3) := by decide +kernel
theorem d_M_pass_26 : decode prog_9_method_44_code 26 = .ok (.if_icmp .le 6, 3) := by decide +kernel
theorem d_M_pass_29 : decode prog_9_method_44_code 29 = .ok (.bipush (-5), 2) := by decide +kernel
theorem d_M_pass_31 : decode prog_9_method_44_code 31 = .ok (.ireturn, 1) := by decide +kernel
theorem d_M_pass_32 : decode prog_9_method_44_code 32 = .ok (.aload_n 0, 1) := by decide +kernel
theorem d_M_pass_33 : decode prog_9_method_44_code 33 = .ok (.invokevirtual 53, 3) := by decide +kernel
theorem d_M_pass_36 : decode prog_9_method_44_code 36 = .ok (.iconst 0, 1) := by decide +kernel
theorem d_M_pass_37 : decode prog_9_method_44_code 37 = .ok (.istore_n 2, 1) := by decide +kernel
theorem d_M_pass_38 : decode prog_9_method_44_code 38 = .ok (.iload_n 2, 1) := by decide +kernel
theorem d_M_pass_39 : decode prog_9_method_44_code 39 = .ok (.iload_n 1, 1) := by decide +kernel
theorem d_M_pass_40 : decode prog_9_method_44_code 40 = .ok (.if_icmp .ge 13, 3) := by decide +kernel
theorem d_M_pass_43 : decode prog_9_method_44_code 43 = .ok (.aload_n 0, 1) := by decide +kernel
theorem d_M_pass_44 : decode prog_9_method_44_code 44 = .ok (.invokevirtual 132, 3) := by decide +kernel
theorem d_M_pass_47 : decode prog_9_method_44_code 47 = .ok (.iinc 2 1, 3) := by decide +kernel
theorem d_M_pass_50 : decode prog_9_method_44_code 50 = .ok (.goto (-12), 3) := by decide +kernel
theorem d_M_pass_53 : decode prog_9_method_44_code 53 = .ok (.aload_n 0, 1) := by decide +kernel
theorem d_M_pass_54 : decode prog_9_method_44_code 54 = .ok (.getfield 7, 3) := by decide +kernel
theorem d_M_pass_57 : decode prog_9_method_44_code 57 = .ok (.bipush 6, 2) := by decide +kernel
theorem d_M_pass_59 : decode prog_9_method_44_code 59 = .ok (.iaload, 1) := by decide +kernel
theorem d_M_pass_60 : decode prog_9_method_44_code 60 = .ok (.ireturn, 1) := by decide +kernel
theorem d_M_votesOf_0 : decode prog_9_method_45_code 0 = .ok (.iconst 0, 1) := by decide +kernel
theorem d_M_votesOf_1 : decode prog_9_method_45_code 1 = .ok (.istore_n 2, 1) := by decide +kernel
theorem d_M_votesOf_2 : decode prog_9_method_45_code 2 = .ok (.iconst 0, 1) := by decide +kernel
theorem d_M_votesOf_3 : decode prog_9_method_45_code 3 = .ok (.istore_n 3, 1) := by decide +kernel
theorem d_M_votesOf_4 : decode prog_9_method_45_code 4 = .ok (.iload_n 3, 1) := by decide +kernel
theorem d_M_votesOf_5 : decode prog_9_method_45_code 5 = .ok (.aload_n 0, 1) := by decide +kernel
theorem d_M_votesOf_6 : decode prog_9_method_45_code 6 = .ok (.getfield 7, 3) := by decide +kernel
theorem d_M_votesOf_9 : decode prog_9_method_45_code 9 = .ok (.bipush 8, 2) := by decide +kernel
theorem d_M_votesOf_11 : decode prog_9_method_45_code 11 = .ok (.iaload, 1) := by decide +kernel
theorem d_M_votesOf_12 : decode prog_9_method_45_code 12 = .ok (.if_icmp .ge 27, 3) := by decide +kernel
theorem d_M_votesOf_15 : decode prog_9_method_45_code 15 = .ok (.iload_n 2, 1) := by decide +kernel
theorem d_M_votesOf_16 : decode prog_9_method_45_code 16 = .ok (.aload_n 0, 1) := by decide +kernel
theorem d_M_votesOf_17 : decode prog_9_method_45_code 17 = .ok (.iload_n 3, 1) := by decide +kernel
theorem d_M_votesOf_18 : decode prog_9_method_45_code 18 = .ok (.iload_n 1, 1) := by decide +kernel
theorem d_M_votesOf_19 : decode prog_9_method_45_code 19 = .ok (.iconst 1, 1) := by decide +kernel
theorem d_M_votesOf_20 : decode prog_9_method_45_code 20 = .ok (.invokevirtual 94, 3) := by decide +kernel
theorem d_M_votesOf_23 : decode prog_9_method_45_code 23 = .ok (.ifCond .lt 7, 3) := by decide +kernel
theorem d_M_votesOf_26 : decode prog_9_method_45_code 26 = .ok (.iconst 1, 1) := by decide +kernel
theorem d_M_votesOf_27 : decode prog_9_method_45_code 27 = .ok (.goto 4, 3) := by decide +kernel
theorem d_M_votesOf_30 : decode prog_9_method_45_code 30 = .ok (.iconst 0, 1) := by decide +kernel
theorem d_M_votesOf_31 : decode prog_9_method_45_code 31 = .ok (.iadd, 1) := by decide +kernel
theorem d_M_votesOf_32 : decode prog_9_method_45_code 32 = .ok (.istore_n 2, 1) := by decide +kernel
theorem d_M_votesOf_33 : decode prog_9_method_45_code 33 = .ok (.iinc 3 1, 3) := by decide +kernel
theorem d_M_votesOf_36 : decode prog_9_method_45_code 36 = .ok (.goto (-32), 3) := by decide +kernel
theorem d_M_votesOf_39 : decode prog_9_method_45_code 39 = .ok (.iload_n 2, 1) := by decide +kernel
theorem d_M_votesOf_40 : decode prog_9_method_45_code 40 = .ok (.ireturn, 1) := by decide +kernel
theorem d_M_ofMember_0 : decode prog_9_method_46_code 0 = .ok (.aload_n 0, 1) := by decide +kernel
theorem d_M_ofMember_1 : decode prog_9_method_46_code 1 = .ok (.iload_n 1, 1) := by decide +kernel
theorem d_M_ofMember_2 : decode prog_9_method_46_code 2 = .ok (.invokevirtual 56, 3) := by decide +kernel
theorem d_M_ofMember_5 : decode prog_9_method_46_code 5 = .ok (.ifCond .ne 5, 3) := by decide +kernel
theorem d_M_ofMember_8 : decode prog_9_method_46_code 8 = .ok (.iconst (-1), 1) := by decide +kernel
theorem d_M_ofMember_9 : decode prog_9_method_46_code 9 = .ok (.ireturn, 1) := by decide +kernel
theorem d_M_ofMember_10 : decode prog_9_method_46_code 10 = .ok (.iload_n 2, 1) := by decide +kernel
theorem d_M_ofMember_11 : decode prog_9_method_46_code 11 = .ok (.iconst 0, 1) := by decide +kernel
theorem d_M_ofMember_12 : decode prog_9_method_46_code 12 = .ok (.iconst 3, 1) := by decide +kernel
theorem d_M_ofMember_13 : decode prog_9_method_46_code 13 = .ok (.invokestatic 49, 3) := by decide +kernel
theorem d_M_ofMember_16 : decode prog_9_method_46_code 16 = .ok (.ifCond .eq 12, 3) := by decide +kernel
theorem d_M_ofMember_19 : decode prog_9_method_46_code 19 = .ok (.aload_n 0, 1) := by decide +kernel
theorem d_M_ofMember_20 : decode prog_9_method_46_code 20 = .ok (.iload_n 1, 1) := by decide +kernel
theorem d_M_ofMember_21 : decode prog_9_method_46_code 21 = .ok (.iload_n 2, 1) := by decide +kernel
theorem d_M_ofMember_22 : decode prog_9_method_46_code 22 = .ok (.invokevirtual 60, 3) := by decide +kernel
theorem d_M_ofMember_25 : decode prog_9_method_46_code 25 = .ok (.goto 32, 3) := by decide +kernel
theorem d_M_ofMember_28 : decode prog_9_method_46_code 28 = .ok (.iload_n 2, 1) := by decide +kernel
theorem d_M_ofMember_29 : decode prog_9_method_46_code 29 = .ok (.iconst 4, 1) := by decide +kernel
theorem d_M_ofMember_30 : decode prog_9_method_46_code 30 = .ok (.if_icmp .ne 11, 3) := by decide +kernel
theorem d_M_ofMember_33 : decode prog_9_method_46_code 33 = .ok (.aload_n 0, 1) := by decide +kernel
theorem d_M_ofMember_34 : decode prog_9_method_46_code 34 = .ok (.iload_n 1, 1) := by decide +kernel
theorem d_M_ofMember_35 : decode prog_9_method_46_code 35 = .ok (.invokevirtual 135, 3) := by decide +kernel
theorem d_M_ofMember_38 : decode prog_9_method_46_code 38 = .ok (.goto 19, 3) := by decide +kernel
theorem d_M_ofMember_41 : decode prog_9_method_46_code 41 = .ok (.iload_n 2, 1) := by decide +kernel
theorem d_M_ofMember_42 : decode prog_9_method_46_code 42 = .ok (.iconst 5, 1) := by decide +kernel
theorem d_M_ofMember_43 : decode prog_9_method_46_code 43 = .ok (.if_icmp .ne 12, 3) := by decide +kernel
theorem d_M_ofMember_46 : decode prog_9_method_46_code 46 = .ok (.aload_n 0, 1) := by decide +kernel
theorem d_M_ofMember_47 : decode prog_9_method_46_code 47 = .ok (.iload_n 1, 1) := by decide +kernel
theorem d_M_ofMember_48 : decode prog_9_method_46_code 48 = .ok (.iconst 4, 1) := by decide +kernel
theorem d_M_ofMember_49 : decode prog_9_method_46_code 49 = .ok (.invokevirtual 60, 3) := by decide +kernel
theorem d_M_ofMember_52 : decode prog_9_method_46_code 52 = .ok (.goto 5, 3) := by decide +kernel
theorem d_M_ofMember_55 : decode prog_9_method_46_code 55 = .ok (.bipush (-2), 2) := by decide +kernel
theorem d_M_ofMember_57 : decode prog_9_method_46_code 57 = .ok (.ireturn, 1) := by decide +kernel
theorem d_M_ofItem_0 : decode prog_9_method_47_code 0 = .ok (.aload_n 0, 1) := by decide +kernel
theorem d_M_ofItem_1 : decode prog_9_method_47_code 1 = .ok (.iload_n 1, 1) := by decide +kernel
theorem d_M_ofItem_2 : decode prog_9_method_47_code 2 = .ok (.invokevirtual 78, 3) := by decide +kernel
theorem d_M_ofItem_5 : decode prog_9_method_47_code 5 = .ok (.ifCond .ne 5, 3) := by decide +kernel
theorem d_M_ofItem_8 : decode prog_9_method_47_code 8 = .ok (.iconst (-1), 1) := by decide +kernel
theorem d_M_ofItem_9 : decode prog_9_method_47_code 9 = .ok (.ireturn, 1) := by decide +kernel
theorem d_M_ofItem_10 : decode prog_9_method_47_code 10 = .ok (.iload_n 2, 1) := by decide +kernel
theorem d_M_ofItem_11 : decode prog_9_method_47_code 11 = .ok (.iconst 3, 1) := by decide +kernel
theorem d_M_ofItem_12 : decode prog_9_method_47_code 12 = .ok (.bipush 8, 2) := by decide +kernel
theorem d_M_ofItem_14 : decode prog_9_method_47_code 14 = .ok (.invokestatic 49, 3) := by decide +kernel
theorem d_M_ofItem_17 : decode prog_9_method_47_code 17 = .ok (.ifCond .eq 25, 3) := by decide +kernel
theorem d_M_ofItem_20 : decode prog_9_method_47_code 20 = .ok (.aload_n 0, 1) := by decide +kernel
theorem d_M_ofItem_21 : decode prog_9_method_47_code 21 = .ok (.iload_n 1, 1) := by decide +kernel
theorem d_M_ofItem_22 : decode prog_9_method_47_code 22 = .ok (.invokevirtual 84, 3) := by decide +kernel
theorem d_M_ofItem_25 : decode prog_9_method_47_code 25 = .ok (.ifCond .eq 17, 3) := by decide +kernel
theorem d_M_ofItem_28 : decode prog_9_method_47_code 28 = .ok (.aload_n 0, 1) := by decide +kernel
theorem d_M_ofItem_29 : decode prog_9_method_47_code 29 = .ok (.iload_n 1, 1) := by decide +kernel
theorem d_M_ofItem_30 : decode prog_9_method_47_code 30 = .ok (.invokevirtual 117, 3) := by decide +kernel
theorem d_M_ofItem_33 : decode prog_9_method_47_code 33 = .ok (.aload_n 0, 1) := by decide +kernel
theorem d_M_ofItem_34 : decode prog_9_method_47_code 34 = .ok (.getfield 35, 3) := by decide +kernel
theorem d_M_ofItem_37 : decode prog_9_method_47_code 37 = .ok (.iload_n 2, 1) := by decide +kernel
theorem d_M_ofItem_38 : decode prog_9_method_47_code 38 = .ok (.iconst 3, 1) := by decide +kernel
theorem d_M_ofItem_39 : decode prog_9_method_47_code 39 = .ok (.isub, 1) := by decide +kernel
theorem d_M_ofItem_40 : decode prog_9_method_47_code 40 = .ok (.iaload, 1) := by decide +kernel
theorem d_M_ofItem_41 : decode prog_9_method_47_code 41 = .ok (.ireturn, 1) := by decide +kernel
theorem d_M_ofItem_42 : decode prog_9_method_47_code 42 = .ok (.iload_n 2, 1) := by decide +kernel
theorem d_M_ofItem_43 : decode prog_9_method_47_code 43 = .ok (.iconst 0, 1) := by decide +kernel
theorem d_M_ofItem_44 : decode prog_9_method_47_code 44 = .ok (.bipush 10, 2) := by decide +kernel
theorem d_M_ofItem_46 : decode prog_9_method_47_code 46 = .ok (.invokestatic 49, 3) := by decide +kernel
theorem d_M_ofItem_49 : decode prog_9_method_47_code 49 = .ok (.ifCond .eq 20, 3) := by decide +kernel
theorem d_M_ofItem_52 : decode prog_9_method_47_code 52 = .ok (.aload_n 0, 1) := by decide +kernel
theorem d_M_ofItem_53 : decode prog_9_method_47_code 53 = .ok (.getfield 7, 3) := by decide +kernel
theorem d_M_ofItem_56 : decode prog_9_method_47_code 56 = .ok (.bipush 100, 2) := by decide +kernel
theorem d_M_ofItem_58 : decode prog_9_method_47_code 58 = .ok (.bipush 12, 2) := by decide +kernel
theorem d_M_ofItem_60 : decode prog_9_method_47_code 60 = .ok (.iload_n 1, 1) := by decide +kernel
theorem d_M_ofItem_61 : decode prog_9_method_47_code 61 = .ok (.imul, 1) := by decide +kernel
theorem d_M_ofItem_62 : decode prog_9_method_47_code 62 = .ok (.iadd, 1) := by decide +kernel
theorem d_M_ofItem_63 : decode prog_9_method_47_code 63 = .ok (.iload_n 2, 1) := by decide +kernel
theorem d_M_ofItem_64 : decode prog_9_method_47_code 64 = .ok (.iadd, 1) := by decide +kernel
theorem d_M_ofItem_65 : decode prog_9_method_47_code 65 = .ok (.iaload, 1) := by decide +kernel
theorem d_M_ofItem_66 : decode prog_9_method_47_code 66 = .ok (.goto 27, 3) := by decide +kernel
theorem d_M_ofItem_69 : decode prog_9_method_47_code 69 = .ok (.iload_n 2, 1) := by decide +kernel
theorem d_M_ofItem_70 : decode prog_9_method_47_code 70 = .ok (.bipush 11, 2) := by decide +kernel
theorem d_M_ofItem_72 : decode prog_9_method_47_code 72 = .ok (.if_icmp .eq 8, 3) := by decide +kernel
theorem d_M_ofItem_75 : decode prog_9_method_47_code 75 = .ok (.bipush (-2), 2) := by decide +kernel
theorem d_M_ofItem_77 : decode prog_9_method_47_code 77 = .ok (.goto 16, 3) := by decide +kernel
theorem d_M_ofItem_80 : decode prog_9_method_47_code 80 = .ok (.aload_n 0, 1) := by decide +kernel
theorem d_M_ofItem_81 : decode prog_9_method_47_code 81 = .ok (.iload_n 1, 1) := by decide +kernel
theorem d_M_ofItem_82 : decode prog_9_method_47_code 82 = .ok (.invokevirtual 123, 3) := by decide +kernel
theorem d_M_ofItem_85 : decode prog_9_method_47_code 85 = .ok (.ifCond .eq 7, 3) := by decide +kernel
theorem d_M_ofItem_88 : decode prog_9_method_47_code 88 = .ok (.iconst 1, 1) := by decide +kernel
theorem d_M_ofItem_89 : decode prog_9_method_47_code 89 = .ok (.goto 4, 3) := by decide +kernel
theorem d_M_ofItem_92 : decode prog_9_method_47_code 92 = .ok (.iconst 0, 1) := by decide +kernel
theorem d_M_ofItem_93 : decode prog_9_method_47_code 93 = .ok (.ireturn, 1) := by decide +kernel
theorem d_M_at_0 : decode prog_9_method_48_code 0 = .ok (.aload_n 0, 1) := by decide +kernel
theorem d_M_at_1 : decode prog_9_method_48_code 1 = .ok (.iload_n 1, 1) := by decide +kernel
theorem d_M_at_2 : decode prog_9_method_48_code 2 = .ok (.invokevirtual 56, 3) := by decide +kernel
theorem d_M_at_5 : decode prog_9_method_48_code 5 = .ok (.ifCond .eq 11, 3) := by decide +kernel
theorem d_M_at_8 : decode prog_9_method_48_code 8 = .ok (.aload_n 0, 1) := by decide +kernel
theorem d_M_at_9 : decode prog_9_method_48_code 9 = .ok (.iload_n 2, 1) := by decide +kernel
theorem d_M_at_10 : decode prog_9_method_48_code 10 = .ok (.invokevirtual 78, 3) := by decide +kernel
theorem d_M_at_13 : decode prog_9_method_48_code 13 = .ok (.ifCond .ne 5, 3) := by decide +kernel
theorem d_M_at_16 : decode prog_9_method_48_code 16 = .ok (.iconst (-1), 1) := by decide +kernel
theorem d_M_at_17 : decode prog_9_method_48_code 17 = .ok (.ireturn, 1) := by decide +kernel
theorem d_M_at_18 : decode prog_9_method_48_code 18 = .ok (.aload_n 0, 1) := by decide +kernel
theorem d_M_at_19 : decode prog_9_method_48_code 19 = .ok (.iload_n 2, 1) := by decide +kernel
theorem d_M_at_20 : decode prog_9_method_48_code 20 = .ok (.invokevirtual 104, 3) := by decide +kernel
theorem d_M_at_23 : decode prog_9_method_48_code 23 = .ok (.iload_n 3, 1) := by decide +kernel
theorem d_M_at_24 : decode prog_9_method_48_code 24 = .ok (.tableswitch 93 0 5 #[40, 47, 55, 63, 70, 78], 40) := by decide +kernel
theorem d_M_at_64 : decode prog_9_method_48_code 64 = .ok (.aload_n 0, 1) := by decide +kernel
theorem d_M_at_65 : decode prog_9_method_48_code 65 = .ok (.getfield 29, 3) := by decide +kernel
theorem d_M_at_68 : decode prog_9_method_48_code 68 = .ok (.iload_n 1, 1) := by decide +kernel
theorem d_M_at_69 : decode prog_9_method_48_code 69 = .ok (.iaload, 1) := by decide +kernel
theorem d_M_at_70 : decode prog_9_method_48_code 70 = .ok (.ireturn, 1) := by decide +kernel
theorem d_M_at_71 : decode prog_9_method_48_code 71 = .ok (.aload_n 0, 1) := by decide +kernel
theorem d_M_at_72 : decode prog_9_method_48_code 72 = .ok (.iload_n 2, 1) := by decide +kernel
theorem d_M_at_73 : decode prog_9_method_48_code 73 = .ok (.iload_n 1, 1) := by decide +kernel
theorem d_M_at_74 : decode prog_9_method_48_code 74 = .ok (.iconst 1, 1) := by decide +kernel
theorem d_M_at_75 : decode prog_9_method_48_code 75 = .ok (.invokevirtual 94, 3) := by decide +kernel
theorem d_M_at_78 : decode prog_9_method_48_code 78 = .ok (.ireturn, 1) := by decide +kernel
theorem d_M_at_79 : decode prog_9_method_48_code 79 = .ok (.aload_n 0, 1) := by decide +kernel
theorem d_M_at_80 : decode prog_9_method_48_code 80 = .ok (.iload_n 2, 1) := by decide +kernel
theorem d_M_at_81 : decode prog_9_method_48_code 81 = .ok (.iload_n 1, 1) := by decide +kernel
theorem d_M_at_82 : decode prog_9_method_48_code 82 = .ok (.iconst 2, 1) := by decide +kernel
theorem d_M_at_83 : decode prog_9_method_48_code 83 = .ok (.invokevirtual 94, 3) := by decide +kernel
theorem d_M_at_86 : decode prog_9_method_48_code 86 = .ok (.ireturn, 1) := by decide +kernel
theorem d_M_at_87 : decode prog_9_method_48_code 87 = .ok (.aload_n 0, 1) := by decide +kernel
theorem d_M_at_88 : decode prog_9_method_48_code 88 = .ok (.iload_n 1, 1) := by decide +kernel
theorem d_M_at_89 : decode prog_9_method_48_code 89 = .ok (.iload_n 2, 1) := by decide +kernel
theorem d_M_at_90 : decode prog_9_method_48_code 90 = .ok (.invokevirtual 108, 3) := by decide +kernel
theorem d_M_at_93 : decode prog_9_method_48_code 93 = .ok (.ireturn, 1) := by decide +kernel
theorem d_M_at_94 : decode prog_9_method_48_code 94 = .ok (.aload_n 0, 1) := by decide +kernel
theorem d_M_at_95 : decode prog_9_method_48_code 95 = .ok (.iload_n 2, 1) := by decide +kernel
theorem d_M_at_96 : decode prog_9_method_48_code 96 = .ok (.iload_n 1, 1) := by decide +kernel
theorem d_M_at_97 : decode prog_9_method_48_code 97 = .ok (.iconst 0, 1) := by decide +kernel
theorem d_M_at_98 : decode prog_9_method_48_code 98 = .ok (.invokevirtual 94, 3) := by decide +kernel
theorem d_M_at_101 : decode prog_9_method_48_code 101 = .ok (.ireturn, 1) := by decide +kernel
theorem d_M_at_102 : decode prog_9_method_48_code 102 = .ok (.aload_n 0, 1) := by decide +kernel
theorem d_M_at_103 : decode prog_9_method_48_code 103 = .ok (.iload_n 1, 1) := by decide +kernel
theorem d_M_at_104 : decode prog_9_method_48_code 104 = .ok (.iload_n 2, 1) := by decide +kernel
theorem d_M_at_105 : decode prog_9_method_48_code 105 = .ok (.invokevirtual 91, 3) := by decide +kernel
theorem d_M_at_108 : decode prog_9_method_48_code 108 = .ok (.ifCond .eq 7, 3) := by decide +kernel
theorem d_M_at_111 : decode prog_9_method_48_code 111 = .ok (.iconst 1, 1) := by decide +kernel
theorem d_M_at_112 : decode prog_9_method_48_code 112 = .ok (.goto 4, 3) := by decide +kernel
theorem d_M_at_115 : decode prog_9_method_48_code 115 = .ok (.iconst 0, 1) := by decide +kernel
theorem d_M_at_116 : decode prog_9_method_48_code 116 = .ok (.ireturn, 1) := by decide +kernel
theorem d_M_at_117 : decode prog_9_method_48_code 117 = .ok (.iload_n 3, 1) := by decide +kernel
theorem d_M_at_118 : decode prog_9_method_48_code 118 = .ok (.bipush 6, 2) := by decide +kernel
theorem d_M_at_120 : decode prog_9_method_48_code 120 = .ok (.if_icmp .ne 12, 3) := by decide +kernel
theorem d_M_at_123 : decode prog_9_method_48_code 123 = .ok (.aload_n 0, 1) := by decide +kernel
theorem d_M_at_124 : decode prog_9_method_48_code 124 = .ok (.getfield 32, 3) := by decide +kernel
theorem d_M_at_127 : decode prog_9_method_48_code 127 = .ok (.iload_n 1, 1) := by decide +kernel
theorem d_M_at_128 : decode prog_9_method_48_code 128 = .ok (.iaload, 1) := by decide +kernel
theorem d_M_at_129 : decode prog_9_method_48_code 129 = .ok (.goto 5, 3) := by decide +kernel
theorem d_M_at_132 : decode prog_9_method_48_code 132 = .ok (.bipush (-2), 2) := by decide +kernel
theorem d_M_at_134 : decode prog_9_method_48_code 134 = .ok (.ireturn, 1) := by decide +kernel
theorem d_M_itemsIn_0 : decode prog_9_method_49_code 0 = .ok (.iconst 0, 1) := by decide +kernel
theorem d_M_itemsIn_1 : decode prog_9_method_49_code 1 = .ok (.istore_n 2, 1) := by decide +kernel
theorem d_M_itemsIn_2 : decode prog_9_method_49_code 2 = .ok (.iconst 0, 1) := by decide +kernel
theorem d_M_itemsIn_3 : decode prog_9_method_49_code 3 = .ok (.istore_n 3, 1) := by decide +kernel
theorem d_M_itemsIn_4 : decode prog_9_method_49_code 4 = .ok (.iload_n 3, 1) := by decide +kernel
theorem d_M_itemsIn_5 : decode prog_9_method_49_code 5 = .ok (.aload_n 0, 1) := by decide +kernel
theorem d_M_itemsIn_6 : decode prog_9_method_49_code 6 = .ok (.getfield 7, 3) := by decide +kernel
theorem d_M_itemsIn_9 : decode prog_9_method_49_code 9 = .ok (.bipush 8, 2) := by decide +kernel
theorem d_M_itemsIn_11 : decode prog_9_method_49_code 11 = .ok (.iaload, 1) := by decide +kernel
theorem d_M_itemsIn_12 : decode prog_9_method_49_code 12 = .ok (.if_icmp .ge 26, 3) := by decide +kernel
theorem d_M_itemsIn_15 : decode prog_9_method_49_code 15 = .ok (.iload_n 2, 1) := by decide +kernel
theorem d_M_itemsIn_16 : decode prog_9_method_49_code 16 = .ok (.aload_n 0, 1) := by decide +kernel
theorem d_M_itemsIn_17 : decode prog_9_method_49_code 17 = .ok (.iload_n 3, 1) := by decide +kernel
theorem d_M_itemsIn_18 : decode prog_9_method_49_code 18 = .ok (.invokevirtual 81, 3) := by decide +kernel
theorem d_M_itemsIn_21 : decode prog_9_method_49_code 21 = .ok (.iload_n 1, 1) := by decide +kernel
theorem d_M_itemsIn_22 : decode prog_9_method_49_code 22 = .ok (.if_icmp .ne 7, 3) := by decide +kernel
theorem d_M_itemsIn_25 : decode prog_9_method_49_code 25 = .ok (.iconst 1, 1) := by decide +kernel
theorem d_M_itemsIn_26 : decode prog_9_method_49_code 26 = .ok (.goto 4, 3) := by decide +kernel
theorem d_M_itemsIn_29 : decode prog_9_method_49_code 29 = .ok (.iconst 0, 1) := by decide +kernel
theorem d_M_itemsIn_30 : decode prog_9_method_49_code 30 = .ok (.iadd, 1) := by decide +kernel
theorem d_M_itemsIn_31 : decode prog_9_method_49_code 31 = .ok (.istore_n 2, 1) := by decide +kernel
theorem d_M_itemsIn_32 : decode prog_9_method_49_code 32 = .ok (.iinc 3 1, 3) := by decide +kernel
theorem d_M_itemsIn_35 : decode prog_9_method_49_code 35 = .ok (.goto (-31), 3) := by decide +kernel
theorem d_M_itemsIn_38 : decode prog_9_method_49_code 38 = .ok (.iload_n 2, 1) := by decide +kernel
theorem d_M_itemsIn_39 : decode prog_9_method_49_code 39 = .ok (.ireturn, 1) := by decide +kernel
theorem d_M_count_0 : decode prog_9_method_50_code 0 = .ok (.iload_n 1, 1) := by decide +kernel
theorem d_M_count_1 : decode prog_9_method_50_code 1 = .ok (.bipush 8, 2) := by decide +kernel
theorem d_M_count_3 : decode prog_9_method_50_code 3 = .ok (.bipush 12, 2) := by decide +kernel
theorem d_M_count_5 : decode prog_9_method_50_code 5 = .ok (.invokestatic 49, 3) := by decide +kernel
theorem d_M_count_8 : decode prog_9_method_50_code 8 = .ok (.ifCond .eq 12, 3) := by decide +kernel
theorem d_M_count_11 : decode prog_9_method_50_code 11 = .ok (.aload_n 0, 1) := by decide +kernel
theorem d_M_count_12 : decode prog_9_method_50_code 12 = .ok (.iload_n 1, 1) := by decide +kernel
theorem d_M_count_13 : decode prog_9_method_50_code 13 = .ok (.bipush 8, 2) := by decide +kernel
theorem d_M_count_15 : decode prog_9_method_50_code 15 = .ok (.isub, 1) := by decide +kernel
theorem d_M_count_16 : decode prog_9_method_50_code 16 = .ok (.invokevirtual 138, 3) := by decide +kernel
theorem d_M_count_19 : decode prog_9_method_50_code 19 = .ok (.ireturn, 1) := by decide +kernel
theorem d_M_count_20 : decode prog_9_method_50_code 20 = .ok (.iload_n 1, 1) := by decide +kernel
theorem d_M_count_21 : decode prog_9_method_50_code 21 = .ok (.bipush 16, 2) := by decide +kernel
theorem d_M_count_23 : decode prog_9_method_50_code 23 = .ok (.bipush 21, 2) := by decide +kernel
theorem d_M_count_25 : decode prog_9_method_50_code 25 = .ok (.invokestatic 49, 3) := by decide +kernel
theorem d_M_count_28 : decode prog_9_method_50_code 28 = .ok (.ifCond .eq 13, 3) := by decide +kernel
theorem d_M_count_31 : decode prog_9_method_50_code 31 = .ok (.aload_n 0, 1) := by decide +kernel
theorem d_M_count_32 : decode prog_9_method_50_code 32 = .ok (.getfield 7, 3) := by decide +kernel
theorem d_M_count_35 : decode prog_9_method_50_code 35 = .ok (.iload_n 1, 1) := by decide +kernel
theorem d_M_count_36 : decode prog_9_method_50_code 36 = .ok (.bipush 16, 2) := by decide +kernel
theorem d_M_count_38 : decode prog_9_method_50_code 38 = .ok (.isub, 1) := by decide +kernel
theorem d_M_count_39 : decode prog_9_method_50_code 39 = .ok (.iaload, 1) := by decide +kernel
theorem d_M_count_40 : decode prog_9_method_50_code 40 = .ok (.ireturn, 1) := by decide +kernel
theorem d_M_count_41 : decode prog_9_method_50_code 41 = .ok (.iload_n 1, 1) := by decide +kernel
theorem d_M_count_42 : decode prog_9_method_50_code 42 = .ok (.tableswitch 140 0 14 #[74, 82, 90, 98, 103, 109, 117, 122, 140, 140, 140, 140, 140, 127, 135], 74) := by decide +kernel
theorem d_M_count_116 : decode prog_9_method_50_code 116 = .ok (.aload_n 0, 1) := by decide +kernel
theorem d_M_count_117 : decode prog_9_method_50_code 117 = .ok (.getfield 7, 3) := by decide +kernel
theorem d_M_count_120 : decode prog_9_method_50_code 120 = .ok (.bipush 6, 2) := by decide +kernel
theorem d_M_count_122 : decode prog_9_method_50_code 122 = .ok (.iaload, 1) := by decide +kernel
theorem d_M_count_123 : decode prog_9_method_50_code 123 = .ok (.ireturn, 1) := by decide +kernel
theorem d_M_count_124 : decode prog_9_method_50_code 124 = .ok (.aload_n 0, 1) := by decide +kernel
theorem d_M_count_125 : decode prog_9_method_50_code 125 = .ok (.getfield 7, 3) := by decide +kernel
theorem d_M_count_128 : decode prog_9_method_50_code 128 = .ok (.bipush 7, 2) := by decide +kernel
theorem d_M_count_130 : decode prog_9_method_50_code 130 = .ok (.iaload, 1) := by decide +kernel
theorem d_M_count_131 : decode prog_9_method_50_code 131 = .ok (.ireturn, 1) := by decide +kernel
theorem d_M_count_132 : decode prog_9_method_50_code 132 = .ok (.aload_n 0, 1) := by decide +kernel
theorem d_M_count_133 : decode prog_9_method_50_code 133 = .ok (.getfield 7, 3) := by decide +kernel
theorem d_M_count_136 : decode prog_9_method_50_code 136 = .ok (.bipush 8, 2) := by decide +kernel
theorem d_M_count_138 : decode prog_9_method_50_code 138 = .ok (.iaload, 1) := by decide +kernel
theorem d_M_count_139 : decode prog_9_method_50_code 139 = .ok (.ireturn, 1) := by decide +kernel
theorem d_M_count_140 : decode prog_9_method_50_code 140 = .ok (.aload_n 0, 1) := by decide +kernel
theorem d_M_count_141 : decode prog_9_method_50_code 141 = .ok (.invokevirtual 67, 3) := by decide +kernel
theorem d_M_count_144 : decode prog_9_method_50_code 144 = .ok (.ireturn, 1) := by decide +kernel
theorem d_M_count_145 : decode prog_9_method_50_code 145 = .ok (.aload_n 0, 1) := by decide +kernel
theorem d_M_count_146 : decode prog_9_method_50_code 146 = .ok (.iconst 1, 1) := by decide +kernel
theorem d_M_count_147 : decode prog_9_method_50_code 147 = .ok (.invokevirtual 120, 3) := by decide +kernel
theorem d_M_count_150 : decode prog_9_method_50_code 150 = .ok (.ireturn, 1) := by decide +kernel
theorem d_M_count_151 : decode prog_9_method_50_code 151 = .ok (.aload_n 0, 1) := by decide +kernel
theorem d_M_count_152 : decode prog_9_method_50_code 152 = .ok (.getfield 7, 3) := by decide +kernel
theorem d_M_count_155 : decode prog_9_method_50_code 155 = .ok (.bipush 9, 2) := by decide +kernel
theorem d_M_count_157 : decode prog_9_method_50_code 157 = .ok (.iaload, 1) := by decide +kernel
theorem d_M_count_158 : decode prog_9_method_50_code 158 = .ok (.ireturn, 1) := by decide +kernel
theorem d_M_count_159 : decode prog_9_method_50_code 159 = .ok (.aload_n 0, 1) := by decide +kernel
theorem d_M_count_160 : decode prog_9_method_50_code 160 = .ok (.invokevirtual 129, 3) := by decide +kernel
theorem d_M_count_163 : decode prog_9_method_50_code 163 = .ok (.ireturn, 1) := by decide +kernel
theorem d_M_count_164 : decode prog_9_method_50_code 164 = .ok (.aload_n 0, 1) := by decide +kernel
theorem d_M_count_165 : decode prog_9_method_50_code 165 = .ok (.invokevirtual 114, 3) := by decide +kernel
theorem d_M_count_168 : decode prog_9_method_50_code 168 = .ok (.ireturn, 1) := by decide +kernel
theorem d_M_count_169 : decode prog_9_method_50_code 169 = .ok (.aload_n 0, 1) := by decide +kernel
theorem d_M_count_170 : decode prog_9_method_50_code 170 = .ok (.getfield 7, 3) := by decide +kernel
theorem d_M_count_173 : decode prog_9_method_50_code 173 = .ok (.bipush 10, 2) := by decide +kernel
theorem d_M_count_175 : decode prog_9_method_50_code 175 = .ok (.iaload, 1) := by decide +kernel
theorem d_M_count_176 : decode prog_9_method_50_code 176 = .ok (.ireturn, 1) := by decide +kernel
theorem d_M_count_177 : decode prog_9_method_50_code 177 = .ok (.aload_n 0, 1) := by decide +kernel
theorem d_M_count_178 : decode prog_9_method_50_code 178 = .ok (.getfield 141, 3) := by decide +kernel
theorem d_M_count_181 : decode prog_9_method_50_code 181 = .ok (.ireturn, 1) := by decide +kernel
theorem d_M_count_182 : decode prog_9_method_50_code 182 = .ok (.iload_n 1, 1) := by decide +kernel
theorem d_M_count_183 : decode prog_9_method_50_code 183 = .ok (.bipush 15, 2) := by decide +kernel
theorem d_M_count_185 : decode prog_9_method_50_code 185 = .ok (.if_icmp .ne 10, 3) := by decide +kernel
theorem d_M_count_188 : decode prog_9_method_50_code 188 = .ok (.aload_n 0, 1) := by decide +kernel
theorem d_M_count_189 : decode prog_9_method_50_code 189 = .ok (.getfield 45, 3) := by decide +kernel
theorem d_M_count_192 : decode prog_9_method_50_code 192 = .ok (.goto 5, 3) := by decide +kernel
theorem d_M_count_195 : decode prog_9_method_50_code 195 = .ok (.bipush (-2), 2) := by decide +kernel
theorem d_M_count_197 : decode prog_9_method_50_code 197 = .ok (.ireturn, 1) := by decide +kernel
theorem d_M_wouldBe_0 : decode prog_9_method_51_code 0 = .ok (.aload_n 0, 1) := by decide +kernel
theorem d_M_wouldBe_1 : decode prog_9_method_51_code 1 = .ok (.iload_n 1, 1) := by decide +kernel
theorem d_M_wouldBe_2 : decode prog_9_method_51_code 2 = .ok (.invokevirtual 78, 3) := by decide +kernel
theorem d_M_wouldBe_5 : decode prog_9_method_51_code 5 = .ok (.ifCond .ne 5, 3) := by decide +kernel
theorem d_M_wouldBe_8 : decode prog_9_method_51_code 8 = .ok (.iconst (-1), 1) := by decide +kernel
theorem d_M_wouldBe_9 : decode prog_9_method_51_code 9 = .ok (.ireturn, 1) := by decide +kernel
theorem d_M_wouldBe_10 : decode prog_9_method_51_code 10 = .ok (.aload_n 0, 1) := by decide +kernel
theorem d_M_wouldBe_11 : decode prog_9_method_51_code 11 = .ok (.iload_n 1, 1) := by decide +kernel
theorem d_M_wouldBe_12 : decode prog_9_method_51_code 12 = .ok (.invokevirtual 84, 3) := by decide +kernel
theorem d_M_wouldBe_15 : decode prog_9_method_51_code 15 = .ok (.ifCond .eq 11, 3) := by decide +kernel
theorem d_M_wouldBe_18 : decode prog_9_method_51_code 18 = .ok (.aload_n 0, 1) := by decide +kernel
theorem d_M_wouldBe_19 : decode prog_9_method_51_code 19 = .ok (.iload_n 1, 1) := by decide +kernel
theorem d_M_wouldBe_20 : decode prog_9_method_51_code 20 = .ok (.invokevirtual 126, 3) := by decide +kernel
theorem d_M_wouldBe_23 : decode prog_9_method_51_code 23 = .ok (.goto 5, 3) := by decide +kernel
theorem d_M_wouldBe_26 : decode prog_9_method_51_code 26 = .ok (.bipush (-5), 2) := by decide +kernel
theorem d_M_wouldBe_28 : decode prog_9_method_51_code 28 = .ok (.ireturn, 1) := by decide +kernel
theorem d_M_canVote_0 : decode prog_9_method_52_code 0 = .ok (.aload_n 0, 1) := by decide +kernel
theorem d_M_canVote_1 : decode prog_9_method_52_code 1 = .ok (.iload_n 1, 1) := by decide +kernel
theorem d_M_canVote_2 : decode prog_9_method_52_code 2 = .ok (.invokevirtual 64, 3) := by decide +kernel
theorem d_M_canVote_5 : decode prog_9_method_52_code 5 = .ok (.ifCond .eq 16, 3) := by decide +kernel
theorem d_M_canVote_8 : decode prog_9_method_52_code 8 = .ok (.aload_n 0, 1) := by decide +kernel
theorem d_M_canVote_9 : decode prog_9_method_52_code 9 = .ok (.iload_n 1, 1) := by decide +kernel
theorem d_M_canVote_10 : decode prog_9_method_52_code 10 = .ok (.iload_n 2, 1) := by decide +kernel
theorem d_M_canVote_11 : decode prog_9_method_52_code 11 = .ok (.invokevirtual 91, 3) := by decide +kernel
theorem d_M_canVote_14 : decode prog_9_method_52_code 14 = .ok (.ifCond .ne 7, 3) := by decide +kernel
theorem d_M_canVote_17 : decode prog_9_method_52_code 17 = .ok (.iconst 1, 1) := by decide +kernel
theorem d_M_canVote_18 : decode prog_9_method_52_code 18 = .ok (.goto 4, 3) := by decide +kernel
theorem d_M_canVote_21 : decode prog_9_method_52_code 21 = .ok (.iconst 0, 1) := by decide +kernel
theorem d_M_canVote_22 : decode prog_9_method_52_code 22 = .ok (.ireturn, 1) := by decide +kernel
theorem d_M_decisive_0 : decode prog_9_method_53_code 0 = .ok (.aload_n 0, 1) := by decide +kernel
theorem d_M_decisive_1 : decode prog_9_method_53_code 1 = .ok (.iload_n 1, 1) := by decide +kernel
theorem d_M_decisive_2 : decode prog_9_method_53_code 2 = .ok (.invokevirtual 78, 3) := by decide +kernel
theorem d_M_decisive_5 : decode prog_9_method_53_code 5 = .ok (.ifCond .ne 5, 3) := by decide +kernel
theorem d_M_decisive_8 : decode prog_9_method_53_code 8 = .ok (.iconst (-1), 1) := by decide +kernel
theorem d_M_decisive_9 : decode prog_9_method_53_code 9 = .ok (.ireturn, 1) := by decide +kernel
theorem d_M_decisive_10 : decode prog_9_method_53_code 10 = .ok (.aload_n 0, 1) := by decide +kernel
theorem d_M_decisive_11 : decode prog_9_method_53_code 11 = .ok (.iload_n 1, 1) := by decide +kernel
theorem d_M_decisive_12 : decode prog_9_method_53_code 12 = .ok (.invokevirtual 84, 3) := by decide +kernel
theorem d_M_decisive_15 : decode prog_9_method_53_code 15 = .ok (.ifCond .ne 6, 3) := by decide +kernel
theorem d_M_decisive_18 : decode prog_9_method_53_code 18 = .ok (.bipush (-5), 2) := by decide +kernel
theorem d_M_decisive_20 : decode prog_9_method_53_code 20 = .ok (.ireturn, 1) := by decide +kernel
theorem d_M_decisive_21 : decode prog_9_method_53_code 21 = .ok (.aload_n 0, 1) := by decide +kernel
theorem d_M_decisive_22 : decode prog_9_method_53_code 22 = .ok (.iload_n 1, 1) := by decide +kernel
theorem d_M_decisive_23 : decode prog_9_method_53_code 23 = .ok (.invokevirtual 126, 3) := by decide +kernel
theorem d_M_decisive_26 : decode prog_9_method_53_code 26 = .ok (.istore_n 2, 1) := by decide +kernel
theorem d_M_decisive_27 : decode prog_9_method_53_code 27 = .ok (.iconst 0, 1) := by decide +kernel
theorem d_M_decisive_28 : decode prog_9_method_53_code 28 = .ok (.istore_n 3, 1) := by decide +kernel
theorem d_M_decisive_29 : decode prog_9_method_53_code 29 = .ok (.iconst 0, 1) := by decide +kernel
theorem d_M_decisive_30 : decode prog_9_method_53_code 30 = .ok (.istore 4, 2) := by decide +kernel
theorem d_M_decisive_32 : decode prog_9_method_53_code 32 = .ok (.iload 4, 2) := by decide +kernel
theorem d_M_decisive_34 : decode prog_9_method_53_code 34 = .ok (.aload_n 0, 1) := by decide +kernel
theorem d_M_decisive_35 : decode prog_9_method_53_code 35 = .ok (.getfield 7, 3) := by decide +kernel
theorem d_M_decisive_38 : decode prog_9_method_53_code 38 = .ok (.bipush 7, 2) := by decide +kernel
theorem d_M_decisive_40 : decode prog_9_method_53_code 40 = .ok (.iaload, 1) := by decide +kernel
theorem d_M_decisive_41 : decode prog_9_method_53_code 41 = .ok (.if_icmp .ge 98, 3) := by decide +kernel
theorem d_M_decisive_44 : decode prog_9_method_53_code 44 = .ok (.sipush 250, 3) := by decide +kernel
theorem d_M_decisive_47 : decode prog_9_method_53_code 47 = .ok (.iconst 3, 1) := by decide +kernel
theorem d_M_decisive_48 : decode prog_9_method_53_code 48 = .ok (.bipush 12, 2) := by decide +kernel
theorem d_M_decisive_50 : decode prog_9_method_53_code 50 = .ok (.iload_n 1, 1) := by decide +kernel
theorem d_M_decisive_51 : decode prog_9_method_53_code 51 = .ok (.imul, 1) := by decide +kernel
theorem d_M_decisive_52 : decode prog_9_method_53_code 52 = .ok (.iload 4, 2) := by decide +kernel
theorem d_M_decisive_54 : decode prog_9_method_53_code 54 = .ok (.iadd, 1) := by decide +kernel
theorem d_M_decisive_55 : decode prog_9_method_53_code 55 = .ok (.imul, 1) := by decide +kernel
theorem d_M_decisive_56 : decode prog_9_method_53_code 56 = .ok (.iadd, 1) := by decide +kernel
theorem d_M_decisive_57 : decode prog_9_method_53_code 57 = .ok (.iconst 1, 1) := by decide +kernel
theorem d_M_decisive_58 : decode prog_9_method_53_code 58 = .ok (.iadd, 1) := by decide +kernel
theorem d_M_decisive_59 : decode prog_9_method_53_code 59 = .ok (.istore 5, 2) := by decide +kernel
theorem d_M_decisive_61 : decode prog_9_method_53_code 61 = .ok (.aload_n 0, 1) := by decide +kernel
theorem d_M_decisive_62 : decode prog_9_method_53_code 62 = .ok (.getfield 7, 3) := by decide +kernel
theorem d_M_decisive_65 : decode prog_9_method_53_code 65 = .ok (.iload 5, 2) := by decide +kernel
theorem d_M_decisive_67 : decode prog_9_method_53_code 67 = .ok (.iaload, 1) := by decide +kernel
theorem d_M_decisive_68 : decode prog_9_method_53_code 68 = .ok (.istore 6, 2) := by decide +kernel
theorem d_M_decisive_70 : decode prog_9_method_53_code 70 = .ok (.iconst 0, 1) := by decide +kernel
theorem d_M_decisive_71 : decode prog_9_method_53_code 71 = .ok (.istore 7, 2) := by decide +kernel
theorem d_M_decisive_73 : decode prog_9_method_53_code 73 = .ok (.iload 7, 2) := by decide +kernel
theorem d_M_decisive_75 : decode prog_9_method_53_code 75 = .ok (.iconst 3, 1) := by decide +kernel
theorem d_M_decisive_76 : decode prog_9_method_53_code 76 = .ok (.if_icmp .ge 48, 3) := by decide +kernel
theorem d_M_decisive_79 : decode prog_9_method_53_code 79 = .ok (.aload_n 0, 1) := by decide +kernel
theorem d_M_decisive_80 : decode prog_9_method_53_code 80 = .ok (.iload 4, 2) := by decide +kernel
theorem d_M_decisive_82 : decode prog_9_method_53_code 82 = .ok (.iload_n 1, 1) := by decide +kernel
theorem d_M_decisive_83 : decode prog_9_method_53_code 83 = .ok (.invokevirtual 144, 3) := by decide +kernel
theorem d_M_decisive_86 : decode prog_9_method_53_code 86 = .ok (.ifCond .eq 38, 3) := by decide +kernel
theorem d_M_decisive_89 : decode prog_9_method_53_code 89 = .ok (.aload_n 0, 1) := by decide +kernel
theorem d_M_decisive_90 : decode prog_9_method_53_code 90 = .ok (.getfield 7, 3) := by decide +kernel
theorem d_M_decisive_93 : decode prog_9_method_53_code 93 = .ok (.iload 5, 2) := by decide +kernel
theorem d_M_decisive_95 : decode prog_9_method_53_code 95 = .ok (.iload 7, 2) := by decide +kernel
theorem d_M_decisive_97 : decode prog_9_method_53_code 97 = .ok (.iastore, 1) := by decide +kernel
theorem d_M_decisive_98 : decode prog_9_method_53_code 98 = .ok (.iload_n 3, 1) := by decide +kernel
theorem d_M_decisive_99 : decode prog_9_method_53_code 99 = .ok (.aload_n 0, 1) := by decide +kernel
theorem d_M_decisive_100 : decode prog_9_method_53_code 100 = .ok (.iload_n 1, 1) := by decide +kernel
theorem d_M_decisive_101 : decode prog_9_method_53_code 101 = .ok (.invokevirtual 126, 3) := by decide +kernel
theorem d_M_decisive_104 : decode prog_9_method_53_code 104 = .ok (.iload_n 2, 1) := by decide +kernel
theorem d_M_decisive_105 : decode prog_9_method_53_code 105 = .ok (.if_icmp .eq 10, 3) := by decide +kernel
theorem d_M_decisive_108 : decode prog_9_method_53_code 108 = .ok (.iconst 1, 1) := by decide +kernel
theorem d_M_decisive_109 : decode prog_9_method_53_code 109 = .ok (.iload 4, 2) := by decide +kernel
theorem d_M_decisive_111 : decode prog_9_method_53_code 111 = .ok (.ishl, 1) := by decide +kernel
theorem d_M_decisive_112 : decode prog_9_method_53_code 112 = .ok (.goto 4, 3) := by decide +kernel
theorem d_M_decisive_115 : decode prog_9_method_53_code 115 = .ok (.iconst 0, 1) := by decide +kernel
theorem d_M_decisive_116 : decode prog_9_method_53_code 116 = .ok (.ior, 1) := by decide +kernel
theorem d_M_decisive_117 : decode prog_9_method_53_code 117 = .ok (.istore_n 3, 1) := by decide +kernel
theorem d_M_decisive_118 : decode prog_9_method_53_code 118 = .ok (.iinc 7 1, 3) := by decide +kernel
theorem d_M_decisive_121 : decode prog_9_method_53_code 121 = .ok (.goto (-48), 3) := by decide +kernel
theorem d_M_decisive_124 : decode prog_9_method_53_code 124 = .ok (.aload_n 0, 1) := by decide +kernel
theorem d_M_decisive_125 : decode prog_9_method_53_code 125 = .ok (.getfield 7, 3) := by decide +kernel
theorem d_M_decisive_128 : decode prog_9_method_53_code 128 = .ok (.iload 5, 2) := by decide +kernel
theorem d_M_decisive_130 : decode prog_9_method_53_code 130 = .ok (.iload 6, 2) := by decide +kernel
theorem d_M_decisive_132 : decode prog_9_method_53_code 132 = .ok (.iastore, 1) := by decide +kernel
theorem d_M_decisive_133 : decode prog_9_method_53_code 133 = .ok (.iinc 4 1, 3) := by decide +kernel
theorem d_M_decisive_136 : decode prog_9_method_53_code 136 = .ok (.goto (-104), 3) := by decide +kernel
theorem d_M_decisive_139 : decode prog_9_method_53_code 139 = .ok (.iload_n 3, 1) := by decide +kernel
theorem d_M_decisive_140 : decode prog_9_method_53_code 140 = .ok (.ireturn, 1) := by decide +kernel
theorem d_M_isCarriedBy_0 : decode prog_9_method_54_code 0 = .ok (.iconst 0, 1) := by decide +kernel
theorem d_M_isCarriedBy_1 : decode prog_9_method_54_code 1 = .ok (.istore_n 3, 1) := by decide +kernel
theorem d_M_isCarriedBy_2 : decode prog_9_method_54_code 2 = .ok (.iload_n 3, 1) := by decide +kernel
theorem d_M_isCarriedBy_3 : decode prog_9_method_54_code 3 = .ok (.aload_n 0, 1) := by decide +kernel
theorem d_M_isCarriedBy_4 : decode prog_9_method_54_code 4 = .ok (.getfield 7, 3) := by decide +kernel
theorem d_M_isCarriedBy_7 : decode prog_9_method_54_code 7 = .ok (.bipush 7, 2) := by decide +kernel
theorem d_M_isCarriedBy_9 : decode prog_9_method_54_code 9 = .ok (.iaload, 1) := by decide +kernel
theorem d_M_isCarriedBy_10 : decode prog_9_method_54_code 10 = .ok (.if_icmp .ge 37, 3) := by decide +kernel
theorem d_M_isCarriedBy_13 : decode prog_9_method_54_code 13 = .ok (.iload_n 2, 1) := by decide +kernel
theorem d_M_isCarriedBy_14 : decode prog_9_method_54_code 14 = .ok (.iload_n 3, 1) := by decide +kernel
theorem d_M_isCarriedBy_15 : decode prog_9_method_54_code 15 = .ok (.invokestatic 87, 3) := by decide +kernel
theorem d_M_isCarriedBy_18 : decode prog_9_method_54_code 18 = .ok (.ifCond .eq 23, 3) := by decide +kernel
theorem d_M_isCarriedBy_21 : decode prog_9_method_54_code 21 = .ok (.aload_n 0, 1) := by decide +kernel
theorem d_M_isCarriedBy_22 : decode prog_9_method_54_code 22 = .ok (.getfield 7, 3) := by decide +kernel
theorem d_M_isCarriedBy_25 : decode prog_9_method_54_code 25 = .ok (.sipush 250, 3) := by decide +kernel
theorem d_M_isCarriedBy_28 : decode prog_9_method_54_code 28 = .ok (.iconst 3, 1) := by decide +kernel
theorem d_M_isCarriedBy_29 : decode prog_9_method_54_code 29 = .ok (.bipush 12, 2) := by decide +kernel
theorem d_M_isCarriedBy_31 : decode prog_9_method_54_code 31 = .ok (.iload_n 1, 1) := by decide +kernel
theorem d_M_isCarriedBy_32 : decode prog_9_method_54_code 32 = .ok (.imul, 1) := by decide +kernel
theorem d_M_isCarriedBy_33 : decode prog_9_method_54_code 33 = .ok (.iload_n 3, 1) := by decide +kernel
theorem d_M_isCarriedBy_34 : decode prog_9_method_54_code 34 = .ok (.iadd, 1) := by decide +kernel
theorem d_M_isCarriedBy_35 : decode prog_9_method_54_code 35 = .ok (.imul, 1) := by decide +kernel
theorem d_M_isCarriedBy_36 : decode prog_9_method_54_code 36 = .ok (.iadd, 1) := by decide +kernel
theorem d_M_isCarriedBy_37 : decode prog_9_method_54_code 37 = .ok (.iconst 1, 1) := by decide +kernel
theorem d_M_isCarriedBy_38 : decode prog_9_method_54_code 38 = .ok (.iadd, 1) := by decide +kernel
theorem d_M_isCarriedBy_39 : decode prog_9_method_54_code 39 = .ok (.iconst 1, 1) := by decide +kernel
theorem d_M_isCarriedBy_40 : decode prog_9_method_54_code 40 = .ok (.iastore, 1) := by decide +kernel
theorem d_M_isCarriedBy_41 : decode prog_9_method_54_code 41 = .ok (.iinc 3 1, 3) := by decide +kernel
theorem d_M_isCarriedBy_44 : decode prog_9_method_54_code 44 = .ok (.goto (-42), 3) := by decide +kernel
theorem d_M_isCarriedBy_47 : decode prog_9_method_54_code 47 = .ok (.aload_n 0, 1) := by decide +kernel
theorem d_M_isCarriedBy_48 : decode prog_9_method_54_code 48 = .ok (.iload_n 1, 1) := by decide +kernel
theorem d_M_isCarriedBy_49 : decode prog_9_method_54_code 49 = .ok (.invokevirtual 126, 3) := by decide +kernel
theorem d_M_isCarriedBy_52 : decode prog_9_method_54_code 52 = .ok (.iconst 3, 1) := by decide +kernel
theorem d_M_isCarriedBy_53 : decode prog_9_method_54_code 53 = .ok (.if_icmp .ne 7, 3) := by decide +kernel
theorem d_M_isCarriedBy_56 : decode prog_9_method_54_code 56 = .ok (.iconst 1, 1) := by decide +kernel
theorem d_M_isCarriedBy_57 : decode prog_9_method_54_code 57 = .ok (.goto 4, 3) := by decide +kernel
theorem d_M_isCarriedBy_60 : decode prog_9_method_54_code 60 = .ok (.iconst 0, 1) := by decide +kernel
theorem d_M_isCarriedBy_61 : decode prog_9_method_54_code 61 = .ok (.istore_n 3, 1) := by decide +kernel
theorem d_M_isCarriedBy_62 : decode prog_9_method_54_code 62 = .ok (.iconst 0, 1) := by decide +kernel
theorem d_M_isCarriedBy_63 : decode prog_9_method_54_code 63 = .ok (.istore 4, 2) := by decide +kernel
theorem d_M_isCarriedBy_65 : decode prog_9_method_54_code 65 = .ok (.iload 4, 2) := by decide +kernel
theorem d_M_isCarriedBy_67 : decode prog_9_method_54_code 67 = .ok (.aload_n 0, 1) := by decide +kernel
theorem d_M_isCarriedBy_68 : decode prog_9_method_54_code 68 = .ok (.getfield 7, 3) := by decide +kernel
theorem d_M_isCarriedBy_71 : decode prog_9_method_54_code 71 = .ok (.bipush 7, 2) := by decide +kernel
theorem d_M_isCarriedBy_73 : decode prog_9_method_54_code 73 = .ok (.iaload, 1) := by decide +kernel
theorem d_M_isCarriedBy_74 : decode prog_9_method_54_code 74 = .ok (.if_icmp .ge 40, 3) := by decide +kernel
theorem d_M_isCarriedBy_77 : decode prog_9_method_54_code 77 = .ok (.iload_n 2, 1) := by decide +kernel
theorem d_M_isCarriedBy_78 : decode prog_9_method_54_code 78 = .ok (.iload 4, 2) := by decide +kernel
theorem d_M_isCarriedBy_80 : decode prog_9_method_54_code 80 = .ok (.invokestatic 87, 3) := by decide +kernel
theorem d_M_isCarriedBy_83 : decode prog_9_method_54_code 83 = .ok (.ifCond .eq 25, 3) := by decide +kernel
theorem d_M_isCarriedBy_86 : decode prog_9_method_54_code 86 = .ok (.aload_n 0, 1) := by decide +kernel
theorem d_M_isCarriedBy_87 : decode prog_9_method_54_code 87 = .ok (.getfield 7, 3) := by decide +kernel
theorem d_M_isCarriedBy_90 : decode prog_9_method_54_code 90 = .ok (.sipush 250, 3) := by decide +kernel
theorem d_M_isCarriedBy_93 : decode prog_9_method_54_code 93 = .ok (.iconst 3, 1) := by decide +kernel
theorem d_M_isCarriedBy_94 : decode prog_9_method_54_code 94 = .ok (.bipush 12, 2) := by decide +kernel
theorem d_M_isCarriedBy_96 : decode prog_9_method_54_code 96 = .ok (.iload_n 1, 1) := by decide +kernel
theorem d_M_isCarriedBy_97 : decode prog_9_method_54_code 97 = .ok (.imul, 1) := by decide +kernel
theorem d_M_isCarriedBy_98 : decode prog_9_method_54_code 98 = .ok (.iload 4, 2) := by decide +kernel
theorem d_M_isCarriedBy_100 : decode prog_9_method_54_code 100 = .ok (.iadd, 1) := by decide +kernel
theorem d_M_isCarriedBy_101 : decode prog_9_method_54_code 101 = .ok (.imul, 1) := by decide +kernel
theorem d_M_isCarriedBy_102 : decode prog_9_method_54_code 102 = .ok (.iadd, 1) := by decide +kernel
theorem d_M_isCarriedBy_103 : decode prog_9_method_54_code 103 = .ok (.iconst 1, 1) := by decide +kernel
theorem d_M_isCarriedBy_104 : decode prog_9_method_54_code 104 = .ok (.iadd, 1) := by decide +kernel
theorem d_M_isCarriedBy_105 : decode prog_9_method_54_code 105 = .ok (.bipush (-6), 2) := by decide +kernel
theorem d_M_isCarriedBy_107 : decode prog_9_method_54_code 107 = .ok (.iastore, 1) := by decide +kernel
theorem d_M_isCarriedBy_108 : decode prog_9_method_54_code 108 = .ok (.iinc 4 1, 3) := by decide +kernel
theorem d_M_isCarriedBy_111 : decode prog_9_method_54_code 111 = .ok (.goto (-46), 3) := by decide +kernel
theorem d_M_isCarriedBy_114 : decode prog_9_method_54_code 114 = .ok (.iload_n 3, 1) := by decide +kernel
theorem d_M_isCarriedBy_115 : decode prog_9_method_54_code 115 = .ok (.ireturn, 1) := by decide +kernel
theorem d_M_needed_0 : decode prog_9_method_55_code 0 = .ok (.aload_n 0, 1) := by decide +kernel
theorem d_M_needed_1 : decode prog_9_method_55_code 1 = .ok (.iload_n 1, 1) := by decide +kernel
theorem d_M_needed_2 : decode prog_9_method_55_code 2 = .ok (.invokevirtual 78, 3) := by decide +kernel
theorem d_M_needed_5 : decode prog_9_method_55_code 5 = .ok (.ifCond .ne 5, 3) := by decide +kernel
theorem d_M_needed_8 : decode prog_9_method_55_code 8 = .ok (.iconst (-1), 1) := by decide +kernel
theorem d_M_needed_9 : decode prog_9_method_55_code 9 = .ok (.ireturn, 1) := by decide +kernel
theorem d_M_needed_10 : decode prog_9_method_55_code 10 = .ok (.iload_n 2, 1) := by decide +kernel
theorem d_M_needed_11 : decode prog_9_method_55_code 11 = .ok (.iconst 0, 1) := by decide +kernel
theorem d_M_needed_12 : decode prog_9_method_55_code 12 = .ok (.iconst 1, 1) := by decide +kernel
theorem d_M_needed_13 : decode prog_9_method_55_code 13 = .ok (.invokestatic 49, 3) := by decide +kernel
theorem d_M_needed_16 : decode prog_9_method_55_code 16 = .ok (.ifCond .ne 6, 3) := by decide +kernel
theorem d_M_needed_19 : decode prog_9_method_55_code 19 = .ok (.bipush (-2), 2) := by decide +kernel
theorem d_M_needed_21 : decode prog_9_method_55_code 21 = .ok (.ireturn, 1) := by decide +kernel
theorem d_M_needed_22 : decode prog_9_method_55_code 22 = .ok (.aload_n 0, 1) := by decide +kernel
theorem d_M_needed_23 : decode prog_9_method_55_code 23 = .ok (.iload_n 1, 1) := by decide +kernel
theorem d_M_needed_24 : decode prog_9_method_55_code 24 = .ok (.invokevirtual 84, 3) := by decide +kernel
theorem d_M_needed_27 : decode prog_9_method_55_code 27 = .ok (.ifCond .ne 6, 3) := by decide +kernel
theorem d_M_needed_30 : decode prog_9_method_55_code 30 = .ok (.bipush (-5), 2) := by decide +kernel
theorem d_M_needed_32 : decode prog_9_method_55_code 32 = .ok (.ireturn, 1) := by decide +kernel
theorem d_M_needed_33 : decode prog_9_method_55_code 33 = .ok (.iconst 0, 1) := by decide +kernel
theorem d_M_needed_34 : decode prog_9_method_55_code 34 = .ok (.istore_n 3, 1) := by decide +kernel
theorem d_M_needed_35 : decode prog_9_method_55_code 35 = .ok (.iconst 0, 1) := by decide +kernel
theorem d_M_needed_36 : decode prog_9_method_55_code 36 = .ok (.istore 4, 2) := by decide +kernel
theorem d_M_needed_38 : decode prog_9_method_55_code 38 = .ok (.iload 4, 2) := by decide +kernel
theorem d_M_needed_40 : decode prog_9_method_55_code 40 = .ok (.aload_n 0, 1) := by decide +kernel
theorem d_M_needed_41 : decode prog_9_method_55_code 41 = .ok (.getfield 7, 3) := by decide +kernel
theorem d_M_needed_44 : decode prog_9_method_55_code 44 = .ok (.bipush 7, 2) := by decide +kernel
theorem d_M_needed_46 : decode prog_9_method_55_code 46 = .ok (.iaload, 1) := by decide +kernel
theorem d_M_needed_47 : decode prog_9_method_55_code 47 = .ok (.if_icmp .ge 41, 3) := by decide +kernel
theorem d_M_needed_50 : decode prog_9_method_55_code 50 = .ok (.iload_n 3, 1) := by decide +kernel
theorem d_M_needed_51 : decode prog_9_method_55_code 51 = .ok (.aload_n 0, 1) := by decide +kernel
theorem d_M_needed_52 : decode prog_9_method_55_code 52 = .ok (.iload 4, 2) := by decide +kernel
theorem d_M_needed_54 : decode prog_9_method_55_code 54 = .ok (.iload_n 1, 1) := by decide +kernel
theorem d_M_needed_55 : decode prog_9_method_55_code 55 = .ok (.invokevirtual 144, 3) := by decide +kernel
theorem d_M_needed_58 : decode prog_9_method_55_code 58 = .ok (.ifCond .eq 21, 3) := by decide +kernel
theorem d_M_needed_61 : decode prog_9_method_55_code 61 = .ok (.aload_n 0, 1) := by decide +kernel
theorem d_M_needed_62 : decode prog_9_method_55_code 62 = .ok (.iload_n 1, 1) := by decide +kernel
theorem d_M_needed_63 : decode prog_9_method_55_code 63 = .ok (.iload 4, 2) := by decide +kernel
theorem d_M_needed_65 : decode prog_9_method_55_code 65 = .ok (.iconst 1, 1) := by decide +kernel
theorem d_M_needed_66 : decode prog_9_method_55_code 66 = .ok (.invokevirtual 94, 3) := by decide +kernel
theorem d_M_needed_69 : decode prog_9_method_55_code 69 = .ok (.ifCond .ge 10, 3) := by decide +kernel
theorem d_M_needed_72 : decode prog_9_method_55_code 72 = .ok (.iconst 1, 1) := by decide +kernel
theorem d_M_needed_73 : decode prog_9_method_55_code 73 = .ok (.iload 4, 2) := by decide +kernel
theorem d_M_needed_75 : decode prog_9_method_55_code 75 = .ok (.ishl, 1) := by decide +kernel
theorem d_M_needed_76 : decode prog_9_method_55_code 76 = .ok (.goto 4, 3) := by decide +kernel
theorem d_M_needed_79 : decode prog_9_method_55_code 79 = .ok (.iconst 0, 1) := by decide +kernel
theorem d_M_needed_80 : decode prog_9_method_55_code 80 = .ok (.ior, 1) := by decide +kernel
theorem d_M_needed_81 : decode prog_9_method_55_code 81 = .ok (.istore_n 3, 1) := by decide +kernel
theorem d_M_needed_82 : decode prog_9_method_55_code 82 = .ok (.iinc 4 1, 3) := by decide +kernel
theorem d_M_needed_85 : decode prog_9_method_55_code 85 = .ok (.goto (-47), 3) := by decide +kernel
theorem d_M_needed_88 : decode prog_9_method_55_code 88 = .ok (.bipush (-6), 2) := by decide +kernel
theorem d_M_needed_90 : decode prog_9_method_55_code 90 = .ok (.istore 4, 2) := by decide +kernel
theorem d_M_needed_92 : decode prog_9_method_55_code 92 = .ok (.iconst 0, 1) := by decide +kernel
theorem d_M_needed_93 : decode prog_9_method_55_code 93 = .ok (.istore 5, 2) := by decide +kernel
theorem d_M_needed_95 : decode prog_9_method_55_code 95 = .ok (.iload 5, 2) := by decide +kernel
theorem d_M_needed_97 : decode prog_9_method_55_code 97 = .ok (.sipush 4096, 3) := by decide +kernel
theorem d_M_needed_100 : decode prog_9_method_55_code 100 = .ok (.if_icmp .ge 67, 3) := by decide +kernel
theorem d_M_needed_103 : decode prog_9_method_55_code 103 = .ok (.iload 5, 2) := by decide +kernel
theorem d_M_needed_105 : decode prog_9_method_55_code 105 = .ok (.iload_n 3, 1) := by decide +kernel
theorem d_M_needed_106 : decode prog_9_method_55_code 106 = .ok (.iconst (-1), 1) := by decide +kernel
theorem d_M_needed_107 : decode prog_9_method_55_code 107 = .ok (.ixor, 1) := by decide +kernel
theorem d_M_needed_108 : decode prog_9_method_55_code 108 = .ok (.iand, 1) := by decide +kernel
theorem d_M_needed_109 : decode prog_9_method_55_code 109 = .ok (.ifCond .ne 25, 3) := by decide +kernel
theorem d_M_needed_112 : decode prog_9_method_55_code 112 = .ok (.iload 4, 2) := by decide +kernel
theorem d_M_needed_114 : decode prog_9_method_55_code 114 = .ok (.ifCond .lt 16, 3) := by decide +kernel
theorem d_M_needed_117 : decode prog_9_method_55_code 117 = .ok (.iload 5, 2) := by decide +kernel
theorem d_M_needed_119 : decode prog_9_method_55_code 119 = .ok (.invokestatic 71, 3) := by decide +kernel
theorem d_M_needed_122 : decode prog_9_method_55_code 122 = .ok (.iload 4, 2) := by decide +kernel
theorem d_M_needed_124 : decode prog_9_method_55_code 124 = .ok (.invokestatic 71, 3) := by decide +kernel
theorem d_M_needed_127 : decode prog_9_method_55_code 127 = .ok (.if_icmp .ge 7, 3) := by decide +kernel
theorem d_M_needed_130 : decode prog_9_method_55_code 130 = .ok (.iconst 1, 1) := by decide +kernel
theorem d_M_needed_131 : decode prog_9_method_55_code 131 = .ok (.goto 4, 3) := by decide +kernel
theorem d_M_needed_134 : decode prog_9_method_55_code 134 = .ok (.iconst 0, 1) := by decide +kernel
theorem d_M_needed_135 : decode prog_9_method_55_code 135 = .ok (.istore 6, 2) := by decide +kernel
theorem d_M_needed_137 : decode prog_9_method_55_code 137 = .ok (.iload 6, 2) := by decide +kernel
theorem d_M_needed_139 : decode prog_9_method_55_code 139 = .ok (.ifCond .eq 18, 3) := by decide +kernel
theorem d_M_needed_142 : decode prog_9_method_55_code 142 = .ok (.aload_n 0, 1) := by decide +kernel
theorem d_M_needed_143 : decode prog_9_method_55_code 143 = .ok (.iload_n 1, 1) := by decide +kernel
theorem d_M_needed_144 : decode prog_9_method_55_code 144 = .ok (.iload 5, 2) := by decide +kernel
theorem d_M_needed_146 : decode prog_9_method_55_code 146 = .ok (.invokevirtual 147, 3) := by decide +kernel
theorem d_M_needed_149 : decode prog_9_method_55_code 149 = .ok (.ifCond .eq 8, 3) := by decide +kernel
theorem d_M_needed_152 : decode prog_9_method_55_code 152 = .ok (.iload 5, 2) := by decide +kernel
theorem d_M_needed_154 : decode prog_9_method_55_code 154 = .ok (.goto 5, 3) := by decide +kernel
theorem d_M_needed_157 : decode prog_9_method_55_code 157 = .ok (.iload 4, 2) := by decide +kernel
theorem d_M_needed_159 : decode prog_9_method_55_code 159 = .ok (.istore 4, 2) := by decide +kernel
theorem d_M_needed_161 : decode prog_9_method_55_code 161 = .ok (.iinc 5 1, 3) := by decide +kernel
theorem d_M_needed_164 : decode prog_9_method_55_code 164 = .ok (.goto (-69), 3) := by decide +kernel
theorem d_M_needed_167 : decode prog_9_method_55_code 167 = .ok (.iload 4, 2) := by decide +kernel
theorem d_M_needed_169 : decode prog_9_method_55_code 169 = .ok (.ifCond .lt 8, 3) := by decide +kernel
theorem d_M_needed_172 : decode prog_9_method_55_code 172 = .ok (.iload_n 2, 1) := by decide +kernel
theorem d_M_needed_173 : decode prog_9_method_55_code 173 = .ok (.iconst 1, 1) := by decide +kernel
theorem d_M_needed_174 : decode prog_9_method_55_code 174 = .ok (.if_icmp .ne 8, 3) := by decide +kernel
theorem d_M_needed_177 : decode prog_9_method_55_code 177 = .ok (.iload 4, 2) := by decide +kernel
theorem d_M_needed_179 : decode prog_9_method_55_code 179 = .ok (.goto 8, 3) := by decide +kernel
theorem d_M_needed_182 : decode prog_9_method_55_code 182 = .ok (.iload 4, 2) := by decide +kernel
theorem d_M_needed_184 : decode prog_9_method_55_code 184 = .ok (.invokestatic 71, 3) := by decide +kernel
theorem d_M_needed_187 : decode prog_9_method_55_code 187 = .ok (.ireturn, 1) := by decide +kernel
theorem d_M_power_0 : decode prog_9_method_56_code 0 = .ok (.aload_n 0, 1) := by decide +kernel
theorem d_M_power_1 : decode prog_9_method_56_code 1 = .ok (.iload_n 1, 1) := by decide +kernel
theorem d_M_power_2 : decode prog_9_method_56_code 2 = .ok (.invokevirtual 56, 3) := by decide +kernel
theorem d_M_power_5 : decode prog_9_method_56_code 5 = .ok (.ifCond .ne 5, 3) := by decide +kernel
theorem d_M_power_8 : decode prog_9_method_56_code 8 = .ok (.iconst (-1), 1) := by decide +kernel
theorem d_M_power_9 : decode prog_9_method_56_code 9 = .ok (.ireturn, 1) := by decide +kernel
theorem d_M_power_10 : decode prog_9_method_56_code 10 = .ok (.aload_n 0, 1) := by decide +kernel
theorem d_M_power_11 : decode prog_9_method_56_code 11 = .ok (.invokevirtual 114, 3) := by decide +kernel
theorem d_M_power_14 : decode prog_9_method_56_code 14 = .ok (.istore_n 2, 1) := by decide +kernel
theorem d_M_power_15 : decode prog_9_method_56_code 15 = .ok (.iconst 0, 1) := by decide +kernel
theorem d_M_power_16 : decode prog_9_method_56_code 16 = .ok (.istore_n 3, 1) := by decide +kernel
theorem d_M_power_17 : decode prog_9_method_56_code 17 = .ok (.iconst 0, 1) := by decide +kernel
theorem d_M_power_18 : decode prog_9_method_56_code 18 = .ok (.istore 4, 2) := by decide +kernel
theorem d_M_power_20 : decode prog_9_method_56_code 20 = .ok (.iload 4, 2) := by decide +kernel
theorem d_M_power_22 : decode prog_9_method_56_code 22 = .ok (.iconst 1, 1) := by decide +kernel
theorem d_M_power_23 : decode prog_9_method_56_code 23 = .ok (.aload_n 0, 1) := by decide +kernel
theorem d_M_power_24 : decode prog_9_method_56_code 24 = .ok (.getfield 7, 3) := by decide +kernel
theorem d_M_power_27 : decode prog_9_method_56_code 27 = .ok (.bipush 7, 2) := by decide +kernel
theorem d_M_power_29 : decode prog_9_method_56_code 29 = .ok (.iaload, 1) := by decide +kernel
theorem d_M_power_30 : decode prog_9_method_56_code 30 = .ok (.ishl, 1) := by decide +kernel
theorem d_M_power_31 : decode prog_9_method_56_code 31 = .ok (.if_icmp .ge 99, 3) := by decide +kernel
theorem d_M_power_34 : decode prog_9_method_56_code 34 = .ok (.iconst 0, 1) := by decide +kernel
theorem d_M_power_35 : decode prog_9_method_56_code 35 = .ok (.istore 5, 2) := by decide +kernel
theorem d_M_power_37 : decode prog_9_method_56_code 37 = .ok (.iconst 0, 1) := by decide +kernel
theorem d_M_power_38 : decode prog_9_method_56_code 38 = .ok (.istore 6, 2) := by decide +kernel
theorem d_M_power_40 : decode prog_9_method_56_code 40 = .ok (.iload 6, 2) := by decide +kernel
theorem d_M_power_42 : decode prog_9_method_56_code 42 = .ok (.aload_n 0, 1) := by decide +kernel
theorem d_M_power_43 : decode prog_9_method_56_code 43 = .ok (.getfield 7, 3) := by decide +kernel
theorem d_M_power_46 : decode prog_9_method_56_code 46 = .ok (.bipush 7, 2) := by decide +kernel
theorem d_M_power_48 : decode prog_9_method_56_code 48 = .ok (.iaload, 1) := by decide +kernel
theorem d_M_power_49 : decode prog_9_method_56_code 49 = .ok (.if_icmp .ge 35, 3) := by decide +kernel
theorem d_M_power_52 : decode prog_9_method_56_code 52 = .ok (.iload 5, 2) := by decide +kernel
theorem d_M_power_54 : decode prog_9_method_56_code 54 = .ok (.iload 4, 2) := by decide +kernel
theorem d_M_power_56 : decode prog_9_method_56_code 56 = .ok (.iload 6, 2) := by decide +kernel
theorem d_M_power_58 : decode prog_9_method_56_code 58 = .ok (.invokestatic 87, 3) := by decide +kernel
theorem d_M_power_61 : decode prog_9_method_56_code 61 = .ok (.ifCond .eq 13, 3) := by decide +kernel
theorem d_M_power_64 : decode prog_9_method_56_code 64 = .ok (.aload_n 0, 1) := by decide +kernel
theorem d_M_power_65 : decode prog_9_method_56_code 65 = .ok (.iload 6, 2) := by decide +kernel
theorem d_M_power_67 : decode prog_9_method_56_code 67 = .ok (.iconst 0, 1) := by decide +kernel
theorem d_M_power_68 : decode prog_9_method_56_code 68 = .ok (.invokevirtual 60, 3) := by decide +kernel
theorem d_M_power_71 : decode prog_9_method_56_code 71 = .ok (.goto 4, 3) := by decide +kernel
theorem d_M_power_74 : decode prog_9_method_56_code 74 = .ok (.iconst 0, 1) := by decide +kernel
theorem d_M_power_75 : decode prog_9_method_56_code 75 = .ok (.iadd, 1) := by decide +kernel
theorem d_M_power_76 : decode prog_9_method_56_code 76 = .ok (.istore 5, 2) := by decide +kernel
theorem d_M_power_78 : decode prog_9_method_56_code 78 = .ok (.iinc 6 1, 3) := by decide +kernel
theorem d_M_power_81 : decode prog_9_method_56_code 81 = .ok (.goto (-41), 3) := by decide +kernel
theorem d_M_power_84 : decode prog_9_method_56_code 84 = .ok (.iload_n 3, 1) := by decide +kernel
theorem d_M_power_85 : decode prog_9_method_56_code 85 = .ok (.iload 4, 2) := by decide +kernel
theorem d_M_power_87 : decode prog_9_method_56_code 87 = .ok (.iload_n 1, 1) := by decide +kernel
theorem d_M_power_88 : decode prog_9_method_56_code 88 = .ok (.invokestatic 87, 3) := by decide +kernel
theorem d_M_power_91 : decode prog_9_method_56_code 91 = .ok (.ifCond .ne 30, 3) := by decide +kernel
theorem d_M_power_94 : decode prog_9_method_56_code 94 = .ok (.iconst 2, 1) := by decide +kernel
theorem d_M_power_95 : decode prog_9_method_56_code 95 = .ok (.iload 5, 2) := by decide +kernel
theorem d_M_power_97 : decode prog_9_method_56_code 97 = .ok (.imul, 1) := by decide +kernel
theorem d_M_power_98 : decode prog_9_method_56_code 98 = .ok (.iload_n 2, 1) := by decide +kernel
theorem d_M_power_99 : decode prog_9_method_56_code 99 = .ok (.if_icmp .gt 22, 3) := by decide +kernel
theorem d_M_power_102 : decode prog_9_method_56_code 102 = .ok (.iconst 2, 1) := by decide +kernel
theorem d_M_power_103 : decode prog_9_method_56_code 103 = .ok (.iload 5, 2) := by decide +kernel
theorem d_M_power_105 : decode prog_9_method_56_code 105 = .ok (.aload_n 0, 1) := by decide +kernel
theorem d_M_power_106 : decode prog_9_method_56_code 106 = .ok (.iload_n 1, 1) := by decide +kernel
theorem d_M_power_107 : decode prog_9_method_56_code 107 = .ok (.iconst 0, 1) := by decide +kernel
theorem d_M_power_108 : decode prog_9_method_56_code 108 = .ok (.invokevirtual 60, 3) := by decide +kernel
theorem d_M_power_111 : decode prog_9_method_56_code 111 = .ok (.iadd, 1) := by decide +kernel
theorem d_M_power_112 : decode prog_9_method_56_code 112 = .ok (.imul, 1) := by decide +kernel
theorem d_M_power_113 : decode prog_9_method_56_code 113 = .ok (.iload_n 2, 1) := by decide +kernel
theorem d_M_power_114 : decode prog_9_method_56_code 114 = .ok (.if_icmp .le 7, 3) := by decide +kernel
theorem d_M_power_117 : decode prog_9_method_56_code 117 = .ok (.iconst 1, 1) := by decide +kernel
theorem d_M_power_118 : decode prog_9_method_56_code 118 = .ok (.goto 4, 3) := by decide +kernel
theorem d_M_power_121 : decode prog_9_method_56_code 121 = .ok (.iconst 0, 1) := by decide +kernel
theorem d_M_power_122 : decode prog_9_method_56_code 122 = .ok (.iadd, 1) := by decide +kernel
theorem d_M_power_123 : decode prog_9_method_56_code 123 = .ok (.istore_n 3, 1) := by decide +kernel
theorem d_M_power_124 : decode prog_9_method_56_code 124 = .ok (.iinc 4 1, 3) := by decide +kernel
theorem d_M_power_127 : decode prog_9_method_56_code 127 = .ok (.goto (-107), 3) := by decide +kernel
theorem d_M_power_130 : decode prog_9_method_56_code 130 = .ok (.iload_n 3, 1) := by decide +kernel
theorem d_M_power_131 : decode prog_9_method_56_code 131 = .ok (.ireturn, 1) := by decide +kernel
theorem d_M_keep_0 : decode prog_9_method_6_code 0 = .ok (.iconst 0, 1) := by decide +kernel
theorem d_M_keep_1 : decode prog_9_method_6_code 1 = .ok (.istore_n 1, 1) := by decide +kernel
theorem d_M_keep_2 : decode prog_9_method_6_code 2 = .ok (.iload_n 1, 1) := by decide +kernel
theorem d_M_keep_3 : decode prog_9_method_6_code 3 = .ok (.sipush 760, 3) := by decide +kernel
theorem d_M_keep_6 : decode prog_9_method_6_code 6 = .ok (.if_icmp .ge 21, 3) := by decide +kernel
theorem d_M_keep_9 : decode prog_9_method_6_code 9 = .ok (.aload_n 0, 1) := by decide +kernel
theorem d_M_keep_10 : decode prog_9_method_6_code 10 = .ok (.getfield 13, 3) := by decide +kernel
theorem d_M_keep_13 : decode prog_9_method_6_code 13 = .ok (.iload_n 1, 1) := by decide +kernel
theorem d_M_keep_14 : decode prog_9_method_6_code 14 = .ok (.aload_n 0, 1) := by decide +kernel
theorem d_M_keep_15 : decode prog_9_method_6_code 15 = .ok (.getfield 7, 3) := by decide +kernel
theorem d_M_keep_18 : decode prog_9_method_6_code 18 = .ok (.iload_n 1, 1) := by decide +kernel
theorem d_M_keep_19 : decode prog_9_method_6_code 19 = .ok (.iaload, 1) := by decide +kernel
theorem d_M_keep_20 : decode prog_9_method_6_code 20 = .ok (.iastore, 1) := by decide +kernel
theorem d_M_keep_21 : decode prog_9_method_6_code 21 = .ok (.iinc 1 1, 3) := by decide +kernel
theorem d_M_keep_24 : decode prog_9_method_6_code 24 = .ok (.goto (-22), 3) := by decide +kernel
theorem d_M_keep_27 : decode prog_9_method_6_code 27 = .ok (.return_, 1) := by decide +kernel
theorem d_M_comeBack_0 : decode prog_9_method_7_code 0 = .ok (.iconst 0, 1) := by decide +kernel
theorem d_M_comeBack_1 : decode prog_9_method_7_code 1 = .ok (.istore_n 1, 1) := by decide +kernel
theorem d_M_comeBack_2 : decode prog_9_method_7_code 2 = .ok (.iload_n 1, 1) := by decide +kernel
theorem d_M_comeBack_3 : decode prog_9_method_7_code 3 = .ok (.sipush 760, 3) := by decide +kernel
theorem d_M_comeBack_6 : decode prog_9_method_7_code 6 = .ok (.if_icmp .ge 21, 3) := by decide +kernel
theorem d_M_comeBack_9 : decode prog_9_method_7_code 9 = .ok (.aload_n 0, 1) := by decide +kernel
theorem d_M_comeBack_10 : decode prog_9_method_7_code 10 = .ok (.getfield 7, 3) := by decide +kernel
theorem d_M_comeBack_13 : decode prog_9_method_7_code 13 = .ok (.iload_n 1, 1) := by decide +kernel
theorem d_M_comeBack_14 : decode prog_9_method_7_code 14 = .ok (.aload_n 0, 1) := by decide +kernel
theorem d_M_comeBack_15 : decode prog_9_method_7_code 15 = .ok (.getfield 13, 3) := by decide +kernel
theorem d_M_comeBack_18 : decode prog_9_method_7_code 18 = .ok (.iload_n 1, 1) := by decide +kernel
theorem d_M_comeBack_19 : decode prog_9_method_7_code 19 = .ok (.iaload, 1) := by decide +kernel
theorem d_M_comeBack_20 : decode prog_9_method_7_code 20 = .ok (.iastore, 1) := by decide +kernel
theorem d_M_comeBack_21 : decode prog_9_method_7_code 21 = .ok (.iinc 1 1, 3) := by decide +kernel
theorem d_M_comeBack_24 : decode prog_9_method_7_code 24 = .ok (.goto (-22), 3) := by decide +kernel
theorem d_M_comeBack_27 : decode prog_9_method_7_code 27 = .ok (.return_, 1) := by decide +kernel
theorem d_M_quorumAt_0 : decode prog_9_method_57_code 0 = .ok (.aload_n 0, 1) := by decide +kernel
theorem d_M_quorumAt_1 : decode prog_9_method_57_code 1 = .ok (.iload_n 1, 1) := by decide +kernel
theorem d_M_quorumAt_2 : decode prog_9_method_57_code 2 = .ok (.invokevirtual 78, 3) := by decide +kernel
theorem d_M_quorumAt_5 : decode prog_9_method_57_code 5 = .ok (.ifCond .ne 5, 3) := by decide +kernel
theorem d_M_quorumAt_8 : decode prog_9_method_57_code 8 = .ok (.iconst (-1), 1) := by decide +kernel
theorem d_M_quorumAt_9 : decode prog_9_method_57_code 9 = .ok (.ireturn, 1) := by decide +kernel
theorem d_M_quorumAt_10 : decode prog_9_method_57_code 10 = .ok (.aload_n 0, 1) := by decide +kernel
theorem d_M_quorumAt_11 : decode prog_9_method_57_code 11 = .ok (.invokevirtual 150, 3) := by decide +kernel
theorem d_M_quorumAt_14 : decode prog_9_method_57_code 14 = .ok (.aload_n 0, 1) := by decide +kernel
theorem d_M_quorumAt_15 : decode prog_9_method_57_code 15 = .ok (.getfield 7, 3) := by decide +kernel
theorem d_M_quorumAt_18 : decode prog_9_method_57_code 18 = .ok (.iconst 2, 1) := by decide +kernel
theorem d_M_quorumAt_19 : decode prog_9_method_57_code 19 = .ok (.iaload, 1) := by decide +kernel
theorem d_M_quorumAt_20 : decode prog_9_method_57_code 20 = .ok (.istore_n 2, 1) := by decide +kernel
theorem d_M_quorumAt_21 : decode prog_9_method_57_code 21 = .ok (.iconst 0, 1) := by decide +kernel
theorem d_M_quorumAt_22 : decode prog_9_method_57_code 22 = .ok (.istore_n 3, 1) := by decide +kernel
theorem d_M_quorumAt_23 : decode prog_9_method_57_code 23 = .ok (.iload_n 3, 1) := by decide +kernel
theorem d_M_quorumAt_24 : decode prog_9_method_57_code 24 = .ok (.aload_n 0, 1) := by decide +kernel
theorem d_M_quorumAt_25 : decode prog_9_method_57_code 25 = .ok (.getfield 7, 3) := by decide +kernel
theorem d_M_quorumAt_28 : decode prog_9_method_57_code 28 = .ok (.bipush 10, 2) := by decide +kernel
theorem d_M_quorumAt_30 : decode prog_9_method_57_code 30 = .ok (.iaload, 1) := by decide +kernel
theorem d_M_quorumAt_31 : decode prog_9_method_57_code 31 = .ok (.if_icmp .ge 42, 3) := by decide +kernel
theorem d_M_quorumAt_34 : decode prog_9_method_57_code 34 = .ok (.aload_n 0, 1) := by decide +kernel
theorem d_M_quorumAt_35 : decode prog_9_method_57_code 35 = .ok (.getfield 7, 3) := by decide +kernel
theorem d_M_quorumAt_38 : decode prog_9_method_57_code 38 = .ok (.sipush 690, 3) := by decide +kernel
theorem d_M_quorumAt_41 : decode prog_9_method_57_code 41 = .ok (.iconst 3, 1) := by decide +kernel
theorem d_M_quorumAt_42 : decode prog_9_method_57_code 42 = .ok (.iload_n 3, 1) := by decide +kernel
theorem d_M_quorumAt_43 : decode prog_9_method_57_code 43 = .ok (.imul, 1) := by decide +kernel
theorem d_M_quorumAt_44 : decode prog_9_method_57_code 44 = .ok (.iadd, 1) := by decide +kernel
theorem d_M_quorumAt_45 : decode prog_9_method_57_code 45 = .ok (.iaload, 1) := by decide +kernel
theorem d_M_quorumAt_46 : decode prog_9_method_57_code 46 = .ok (.iload_n 2, 1) := by decide +kernel
theorem d_M_quorumAt_47 : decode prog_9_method_57_code 47 = .ok (.if_icmp .le 18, 3) := by decide +kernel
theorem d_M_quorumAt_50 : decode prog_9_method_57_code 50 = .ok (.aload_n 0, 1) := by decide +kernel
theorem d_M_quorumAt_51 : decode prog_9_method_57_code 51 = .ok (.getfield 7, 3) := by decide +kernel
theorem d_M_quorumAt_54 : decode prog_9_method_57_code 54 = .ok (.sipush 690, 3) := by decide +kernel
theorem d_M_quorumAt_57 : decode prog_9_method_57_code 57 = .ok (.iconst 3, 1) := by decide +kernel
theorem d_M_quorumAt_58 : decode prog_9_method_57_code 58 = .ok (.iload_n 3, 1) := by decide +kernel
theorem d_M_quorumAt_59 : decode prog_9_method_57_code 59 = .ok (.imul, 1) := by decide +kernel
theorem d_M_quorumAt_60 : decode prog_9_method_57_code 60 = .ok (.iadd, 1) := by decide +kernel
theorem d_M_quorumAt_61 : decode prog_9_method_57_code 61 = .ok (.iaload, 1) := by decide +kernel
theorem d_M_quorumAt_62 : decode prog_9_method_57_code 62 = .ok (.goto 4, 3) := by decide +kernel
theorem d_M_quorumAt_65 : decode prog_9_method_57_code 65 = .ok (.iload_n 2, 1) := by decide +kernel
theorem d_M_quorumAt_66 : decode prog_9_method_57_code 66 = .ok (.istore_n 2, 1) := by decide +kernel
theorem d_M_quorumAt_67 : decode prog_9_method_57_code 67 = .ok (.iinc 3 1, 3) := by decide +kernel
theorem d_M_quorumAt_70 : decode prog_9_method_57_code 70 = .ok (.goto (-47), 3) := by decide +kernel
theorem d_M_quorumAt_73 : decode prog_9_method_57_code 73 = .ok (.aload_n 0, 1) := by decide +kernel
theorem d_M_quorumAt_74 : decode prog_9_method_57_code 74 = .ok (.iload_n 1, 1) := by decide +kernel
theorem d_M_quorumAt_75 : decode prog_9_method_57_code 75 = .ok (.invokevirtual 123, 3) := by decide +kernel
theorem d_M_quorumAt_78 : decode prog_9_method_57_code 78 = .ok (.ifCond .ne 21, 3) := by decide +kernel
theorem d_M_quorumAt_81 : decode prog_9_method_57_code 81 = .ok (.aload_n 0, 1) := by decide +kernel
theorem d_M_quorumAt_82 : decode prog_9_method_57_code 82 = .ok (.getfield 7, 3) := by decide +kernel
theorem d_M_quorumAt_85 : decode prog_9_method_57_code 85 = .ok (.bipush 6, 2) := by decide +kernel
theorem d_M_quorumAt_87 : decode prog_9_method_57_code 87 = .ok (.iaload, 1) := by decide +kernel
theorem d_M_quorumAt_88 : decode prog_9_method_57_code 88 = .ok (.iload_n 2, 1) := by decide +kernel
theorem d_M_quorumAt_89 : decode prog_9_method_57_code 89 = .ok (.if_icmp .ge 10, 3) := by decide +kernel
theorem d_M_quorumAt_92 : decode prog_9_method_57_code 92 = .ok (.aload_n 0, 1) := by decide +kernel
theorem d_M_quorumAt_93 : decode prog_9_method_57_code 93 = .ok (.invokevirtual 132, 3) := by decide +kernel
theorem d_M_quorumAt_96 : decode prog_9_method_57_code 96 = .ok (.goto (-23), 3) := by decide +kernel
theorem d_M_quorumAt_99 : decode prog_9_method_57_code 99 = .ok (.aload_n 0, 1) := by decide +kernel
theorem d_M_quorumAt_100 : decode prog_9_method_57_code 100 = .ok (.iload_n 1, 1) := by decide +kernel
theorem d_M_quorumAt_101 : decode prog_9_method_57_code 101 = .ok (.invokevirtual 123, 3) := by decide +kernel
theorem d_M_quorumAt_104 : decode prog_9_method_57_code 104 = .ok (.ifCond .eq 13, 3) := by decide +kernel
theorem d_M_quorumAt_107 : decode prog_9_method_57_code 107 = .ok (.aload_n 0, 1) := by decide +kernel
theorem d_M_quorumAt_108 : decode prog_9_method_57_code 108 = .ok (.getfield 7, 3) := by decide +kernel
theorem d_M_quorumAt_111 : decode prog_9_method_57_code 111 = .ok (.bipush 6, 2) := by decide +kernel
theorem d_M_quorumAt_113 : decode prog_9_method_57_code 113 = .ok (.iaload, 1) := by decide +kernel
theorem d_M_quorumAt_114 : decode prog_9_method_57_code 114 = .ok (.goto 5, 3) := by decide +kernel
theorem d_M_quorumAt_117 : decode prog_9_method_57_code 117 = .ok (.bipush (-6), 2) := by decide +kernel
theorem d_M_quorumAt_119 : decode prog_9_method_57_code 119 = .ok (.istore_n 3, 1) := by decide +kernel
theorem d_M_quorumAt_120 : decode prog_9_method_57_code 120 = .ok (.aload_n 0, 1) := by decide +kernel
theorem d_M_quorumAt_121 : decode prog_9_method_57_code 121 = .ok (.invokevirtual 153, 3) := by decide +kernel
theorem d_M_quorumAt_124 : decode prog_9_method_57_code 124 = .ok (.iload_n 3, 1) := by decide +kernel
theorem d_M_quorumAt_125 : decode prog_9_method_57_code 125 = .ok (.ireturn, 1) := by decide +kernel
theorem d_M_bestHolder_0 : decode prog_9_method_58_code 0 = .ok (.aload_n 0, 1) := by decide +kernel
theorem d_M_bestHolder_1 : decode prog_9_method_58_code 1 = .ok (.iload_n 1, 1) := by decide +kernel
theorem d_M_bestHolder_2 : decode prog_9_method_58_code 2 = .ok (.invokevirtual 56, 3) := by decide +kernel
theorem d_M_bestHolder_5 : decode prog_9_method_58_code 5 = .ok (.ifCond .eq 11, 3) := by decide +kernel
theorem d_M_bestHolder_8 : decode prog_9_method_58_code 8 = .ok (.aload_n 0, 1) := by decide +kernel
theorem d_M_bestHolder_9 : decode prog_9_method_58_code 9 = .ok (.iload_n 2, 1) := by decide +kernel
theorem d_M_bestHolder_10 : decode prog_9_method_58_code 10 = .ok (.invokevirtual 78, 3) := by decide +kernel
theorem d_M_bestHolder_13 : decode prog_9_method_58_code 13 = .ok (.ifCond .ne 5, 3) := by decide +kernel
theorem d_M_bestHolder_16 : decode prog_9_method_58_code 16 = .ok (.iconst (-1), 1) := by decide +kernel
theorem d_M_bestHolder_17 : decode prog_9_method_58_code 17 = .ok (.ireturn, 1) := by decide +kernel
theorem d_M_bestHolder_18 : decode prog_9_method_58_code 18 = .ok (.aload_n 0, 1) := by decide +kernel
theorem d_M_bestHolder_19 : decode prog_9_method_58_code 19 = .ok (.iload_n 1, 1) := by decide +kernel
theorem d_M_bestHolder_20 : decode prog_9_method_58_code 20 = .ok (.invokevirtual 64, 3) := by decide +kernel
theorem d_M_bestHolder_23 : decode prog_9_method_58_code 23 = .ok (.ifCond .ne 22, 3) := by decide +kernel
theorem d_M_bestHolder_26 : decode prog_9_method_58_code 26 = .ok (.aload_n 0, 1) := by decide +kernel
theorem d_M_bestHolder_27 : decode prog_9_method_58_code 27 = .ok (.iload_n 1, 1) := by decide +kernel
theorem d_M_bestHolder_28 : decode prog_9_method_58_code 28 = .ok (.iload_n 2, 1) := by decide +kernel
theorem d_M_bestHolder_29 : decode prog_9_method_58_code 29 = .ok (.invokevirtual 91, 3) := by decide +kernel
theorem d_M_bestHolder_32 : decode prog_9_method_58_code 32 = .ok (.ifCond .ne 13, 3) := by decide +kernel
theorem d_M_bestHolder_35 : decode prog_9_method_58_code 35 = .ok (.aload_n 0, 1) := by decide +kernel
theorem d_M_bestHolder_36 : decode prog_9_method_58_code 36 = .ok (.iload_n 2, 1) := by decide +kernel
theorem d_M_bestHolder_37 : decode prog_9_method_58_code 37 = .ok (.iload_n 1, 1) := by decide +kernel
theorem d_M_bestHolder_38 : decode prog_9_method_58_code 38 = .ok (.iconst 0, 1) := by decide +kernel
theorem d_M_bestHolder_39 : decode prog_9_method_58_code 39 = .ok (.invokevirtual 94, 3) := by decide +kernel
theorem d_M_bestHolder_42 : decode prog_9_method_58_code 42 = .ok (.ifCond .lt 6, 3) := by decide +kernel
theorem d_M_bestHolder_45 : decode prog_9_method_58_code 45 = .ok (.bipush (-5), 2) := by decide +kernel
theorem d_M_bestHolder_47 : decode prog_9_method_58_code 47 = .ok (.ireturn, 1) := by decide +kernel
theorem d_M_bestHolder_48 : decode prog_9_method_58_code 48 = .ok (.bipush 20, 2) := by decide +kernel
theorem d_M_bestHolder_50 : decode prog_9_method_58_code 50 = .ok (.bipush 6, 2) := by decide +kernel
theorem d_M_bestHolder_52 : decode prog_9_method_58_code 52 = .ok (.iload_n 1, 1) := by decide +kernel
theorem d_M_bestHolder_53 : decode prog_9_method_58_code 53 = .ok (.imul, 1) := by decide +kernel
theorem d_M_bestHolder_54 : decode prog_9_method_58_code 54 = .ok (.iadd, 1) := by decide +kernel
theorem d_M_bestHolder_55 : decode prog_9_method_58_code 55 = .ok (.iconst 3, 1) := by decide +kernel
theorem d_M_bestHolder_56 : decode prog_9_method_58_code 56 = .ok (.iadd, 1) := by decide +kernel
theorem d_M_bestHolder_57 : decode prog_9_method_58_code 57 = .ok (.istore_n 3, 1) := by decide +kernel
theorem d_M_bestHolder_58 : decode prog_9_method_58_code 58 = .ok (.aload_n 0, 1) := by decide +kernel
theorem d_M_bestHolder_59 : decode prog_9_method_58_code 59 = .ok (.getfield 7, 3) := by decide +kernel
theorem d_M_bestHolder_62 : decode prog_9_method_58_code 62 = .ok (.iload_n 3, 1) := by decide +kernel
theorem d_M_bestHolder_63 : decode prog_9_method_58_code 63 = .ok (.iaload, 1) := by decide +kernel
theorem d_M_bestHolder_64 : decode prog_9_method_58_code 64 = .ok (.istore 4, 2) := by decide +kernel
theorem d_M_bestHolder_66 : decode prog_9_method_58_code 66 = .ok (.bipush (-6), 2) := by decide +kernel
theorem d_M_bestHolder_68 : decode prog_9_method_58_code 68 = .ok (.istore 5, 2) := by decide +kernel
theorem d_M_bestHolder_70 : decode prog_9_method_58_code 70 = .ok (.iconst 0, 1) := by decide +kernel
theorem d_M_bestHolder_71 : decode prog_9_method_58_code 71 = .ok (.istore 6, 2) := by decide +kernel
theorem d_M_bestHolder_73 : decode prog_9_method_58_code 73 = .ok (.iconst 0, 1) := by decide +kernel
theorem d_M_bestHolder_74 : decode prog_9_method_58_code 74 = .ok (.istore 7, 2) := by decide +kernel
theorem d_M_bestHolder_76 : decode prog_9_method_58_code 76 = .ok (.iload 7, 2) := by decide +kernel
theorem d_M_bestHolder_78 : decode prog_9_method_58_code 78 = .ok (.aload_n 0, 1) := by decide +kernel
theorem d_M_bestHolder_79 : decode prog_9_method_58_code 79 = .ok (.getfield 7, 3) := by decide +kernel
theorem d_M_bestHolder_82 : decode prog_9_method_58_code 82 = .ok (.bipush 7, 2) := by decide +kernel
theorem d_M_bestHolder_84 : decode prog_9_method_58_code 84 = .ok (.iaload, 1) := by decide +kernel
theorem d_M_bestHolder_85 : decode prog_9_method_58_code 85 = .ok (.if_icmp .ge 106, 3) := by decide +kernel
theorem d_M_bestHolder_88 : decode prog_9_method_58_code 88 = .ok (.aload_n 0, 1) := by decide +kernel
theorem d_M_bestHolder_89 : decode prog_9_method_58_code 89 = .ok (.iload 7, 2) := by decide +kernel
theorem d_M_bestHolder_91 : decode prog_9_method_58_code 91 = .ok (.iload_n 2, 1) := by decide +kernel
theorem d_M_bestHolder_92 : decode prog_9_method_58_code 92 = .ok (.invokevirtual 144, 3) := by decide +kernel
theorem d_M_bestHolder_95 : decode prog_9_method_58_code 95 = .ok (.ifCond .eq 90, 3) := by decide +kernel
theorem d_M_bestHolder_98 : decode prog_9_method_58_code 98 = .ok (.aload_n 0, 1) := by decide +kernel
theorem d_M_bestHolder_99 : decode prog_9_method_58_code 99 = .ok (.getfield 7, 3) := by decide +kernel
theorem d_M_bestHolder_102 : decode prog_9_method_58_code 102 = .ok (.iload_n 3, 1) := by decide +kernel
theorem d_M_bestHolder_103 : decode prog_9_method_58_code 103 = .ok (.iload 7, 2) := by decide +kernel
theorem d_M_bestHolder_105 : decode prog_9_method_58_code 105 = .ok (.iastore, 1) := by decide +kernel
theorem d_M_bestHolder_106 : decode prog_9_method_58_code 106 = .ok (.aload_n 0, 1) := by decide +kernel
theorem d_M_bestHolder_107 : decode prog_9_method_58_code 107 = .ok (.iload_n 2, 1) := by decide +kernel
theorem d_M_bestHolder_108 : decode prog_9_method_58_code 108 = .ok (.invokevirtual 104, 3) := by decide +kernel
theorem d_M_bestHolder_111 : decode prog_9_method_58_code 111 = .ok (.aload_n 0, 1) := by decide +kernel
theorem d_M_bestHolder_112 : decode prog_9_method_58_code 112 = .ok (.getfield 29, 3) := by decide +kernel
theorem d_M_bestHolder_115 : decode prog_9_method_58_code 115 = .ok (.iload_n 1, 1) := by decide +kernel
theorem d_M_bestHolder_116 : decode prog_9_method_58_code 116 = .ok (.iaload, 1) := by decide +kernel
theorem d_M_bestHolder_117 : decode prog_9_method_58_code 117 = .ok (.iload 7, 2) := by decide +kernel
theorem d_M_bestHolder_119 : decode prog_9_method_58_code 119 = .ok (.if_icmp .ne 27, 3) := by decide +kernel
theorem d_M_bestHolder_122 : decode prog_9_method_58_code 122 = .ok (.iload 5, 2) := by decide +kernel
theorem d_M_bestHolder_124 : decode prog_9_method_58_code 124 = .ok (.ifCond .lt 18, 3) := by decide +kernel
theorem d_M_bestHolder_127 : decode prog_9_method_58_code 127 = .ok (.aload_n 0, 1) := by decide +kernel
theorem d_M_bestHolder_128 : decode prog_9_method_58_code 128 = .ok (.getfield 32, 3) := by decide +kernel
theorem d_M_bestHolder_131 : decode prog_9_method_58_code 131 = .ok (.iload 7, 2) := by decide +kernel
theorem d_M_bestHolder_133 : decode prog_9_method_58_code 133 = .ok (.iaload, 1) := by decide +kernel
theorem d_M_bestHolder_134 : decode prog_9_method_58_code 134 = .ok (.invokestatic 71, 3) := by decide +kernel
theorem d_M_bestHolder_137 : decode prog_9_method_58_code 137 = .ok (.iload 6, 2) := by decide +kernel
theorem d_M_bestHolder_139 : decode prog_9_method_58_code 139 = .ok (.if_icmp .ge 7, 3) := by decide +kernel
theorem d_M_bestHolder_142 : decode prog_9_method_58_code 142 = .ok (.iconst 1, 1) := by decide +kernel
theorem d_M_bestHolder_143 : decode prog_9_method_58_code 143 = .ok (.goto 4, 3) := by decide +kernel
theorem d_M_bestHolder_146 : decode prog_9_method_58_code 146 = .ok (.iconst 0, 1) := by decide +kernel
theorem d_M_bestHolder_147 : decode prog_9_method_58_code 147 = .ok (.istore 8, 2) := by decide +kernel
theorem d_M_bestHolder_149 : decode prog_9_method_58_code 149 = .ok (.iload 8, 2) := by decide +kernel
theorem d_M_bestHolder_151 : decode prog_9_method_58_code 151 = .ok (.ifCond .eq 8, 3) := by decide +kernel
theorem d_M_bestHolder_154 : decode prog_9_method_58_code 154 = .ok (.iload 7, 2) := by decide +kernel
theorem d_M_bestHolder_156 : decode prog_9_method_58_code 156 = .ok (.goto 5, 3) := by decide +kernel
theorem d_M_bestHolder_159 : decode prog_9_method_58_code 159 = .ok (.iload 5, 2) := by decide +kernel
theorem d_M_bestHolder_161 : decode prog_9_method_58_code 161 = .ok (.istore 5, 2) := by decide +kernel
theorem d_M_bestHolder_163 : decode prog_9_method_58_code 163 = .ok (.iload 8, 2) := by decide +kernel
theorem d_M_bestHolder_165 : decode prog_9_method_58_code 165 = .ok (.ifCond .eq 16, 3) := by decide +kernel
theorem d_M_bestHolder_168 : decode prog_9_method_58_code 168 = .ok (.aload_n 0, 1) := by decide +kernel
theorem d_M_bestHolder_169 : decode prog_9_method_58_code 169 = .ok (.getfield 32, 3) := by decide +kernel
theorem d_M_bestHolder_172 : decode prog_9_method_58_code 172 = .ok (.iload 7, 2) := by decide +kernel
theorem d_M_bestHolder_174 : decode prog_9_method_58_code 174 = .ok (.iaload, 1) := by decide +kernel
theorem d_M_bestHolder_175 : decode prog_9_method_58_code 175 = .ok (.invokestatic 71, 3) := by decide +kernel
theorem d_M_bestHolder_178 : decode prog_9_method_58_code 178 = .ok (.goto 5, 3) := by decide +kernel
theorem d_M_bestHolder_181 : decode prog_9_method_58_code 181 = .ok (.iload 6, 2) := by decide +kernel
theorem d_M_bestHolder_183 : decode prog_9_method_58_code 183 = .ok (.istore 6, 2) := by decide +kernel
theorem d_M_bestHolder_185 : decode prog_9_method_58_code 185 = .ok (.iinc 7 1, 3) := by decide +kernel
theorem d_M_bestHolder_188 : decode prog_9_method_58_code 188 = .ok (.goto (-112), 3) := by decide +kernel
theorem d_M_bestHolder_191 : decode prog_9_method_58_code 191 = .ok (.aload_n 0, 1) := by decide +kernel
theorem d_M_bestHolder_192 : decode prog_9_method_58_code 192 = .ok (.getfield 7, 3) := by decide +kernel
theorem d_M_bestHolder_195 : decode prog_9_method_58_code 195 = .ok (.iload_n 3, 1) := by decide +kernel
theorem d_M_bestHolder_196 : decode prog_9_method_58_code 196 = .ok (.iload 4, 2) := by decide +kernel
theorem d_M_bestHolder_198 : decode prog_9_method_58_code 198 = .ok (.iastore, 1) := by decide +kernel
theorem d_M_bestHolder_199 : decode prog_9_method_58_code 199 = .ok (.iload 5, 2) := by decide +kernel
theorem d_M_bestHolder_201 : decode prog_9_method_58_code 201 = .ok (.ireturn, 1) := by decide +kernel
theorem d_M_put_0 : decode prog_9_method_64_code 0 = .ok (.iconst 0, 1) := by decide +kernel
theorem d_M_put_1 : decode prog_9_method_64_code 1 = .ok (.istore_n 3, 1) := by decide +kernel
theorem d_M_put_2 : decode prog_9_method_64_code 2 = .ok (.lload_n 1, 1) := by decide +kernel
theorem d_M_put_3 : decode prog_9_method_64_code 3 = .ok (.lstore 4, 2) := by decide +kernel
theorem d_M_put_5 : decode prog_9_method_64_code 5 = .ok (.lload 4, 2) := by decide +kernel
theorem d_M_put_7 : decode prog_9_method_64_code 7 = .ok (.ldc2_w 177, 3) := by decide +kernel
theorem d_M_put_10 : decode prog_9_method_64_code 10 = .ok (.land, 1) := by decide +kernel
theorem d_M_put_11 : decode prog_9_method_64_code 11 = .ok (.lconst 0, 1) := by decide +kernel
theorem d_M_put_12 : decode prog_9_method_64_code 12 = .ok (.lcmp, 1) := by decide +kernel
theorem d_M_put_13 : decode prog_9_method_64_code 13 = .ok (.ifCond .eq 36, 3) := by decide +kernel
theorem d_M_put_16 : decode prog_9_method_64_code 16 = .ok (.lload 4, 2) := by decide +kernel
theorem d_M_put_18 : decode prog_9_method_64_code 18 = .ok (.ldc2_w 177, 3) := by decide +kernel
theorem d_M_put_21 : decode prog_9_method_64_code 21 = .ok (.land, 1) := by decide +kernel
theorem d_M_put_22 : decode prog_9_method_64_code 22 = .ok (.l2i, 1) := by decide +kernel
theorem d_M_put_23 : decode prog_9_method_64_code 23 = .ok (.bipush 33, 2) := by decide +kernel
theorem d_M_put_25 : decode prog_9_method_64_code 25 = .ok (.bipush 126, 2) := by decide +kernel
theorem d_M_put_27 : decode prog_9_method_64_code 27 = .ok (.invokestatic 49, 3) := by decide +kernel
theorem d_M_put_30 : decode prog_9_method_64_code 30 = .ok (.ifCond .ne 6, 3) := by decide +kernel
theorem d_M_put_33 : decode prog_9_method_64_code 33 = .ok (.bipush (-2), 2) := by decide +kernel
theorem d_M_put_35 : decode prog_9_method_64_code 35 = .ok (.ireturn, 1) := by decide +kernel
theorem d_M_put_36 : decode prog_9_method_64_code 36 = .ok (.iinc 3 1, 3) := by decide +kernel
theorem d_M_put_39 : decode prog_9_method_64_code 39 = .ok (.lload 4, 2) := by decide +kernel
theorem d_M_put_41 : decode prog_9_method_64_code 41 = .ok (.bipush 8, 2) := by decide +kernel
theorem d_M_put_43 : decode prog_9_method_64_code 43 = .ok (.lushr, 1) := by decide +kernel
theorem d_M_put_44 : decode prog_9_method_64_code 44 = .ok (.lstore 4, 2) := by decide +kernel
theorem d_M_put_46 : decode prog_9_method_64_code 46 = .ok (.goto (-41), 3) := by decide +kernel
theorem d_M_put_49 : decode prog_9_method_64_code 49 = .ok (.lload 4, 2) := by decide +kernel
theorem d_M_put_51 : decode prog_9_method_64_code 51 = .ok (.lconst 0, 1) := by decide +kernel
theorem d_M_put_52 : decode prog_9_method_64_code 52 = .ok (.lcmp, 1) := by decide +kernel
theorem d_M_put_53 : decode prog_9_method_64_code 53 = .ok (.ifCond .ne 7, 3) := by decide +kernel
theorem d_M_put_56 : decode prog_9_method_64_code 56 = .ok (.iload_n 3, 1) := by decide +kernel
theorem d_M_put_57 : decode prog_9_method_64_code 57 = .ok (.ifCond .ne 6, 3) := by decide +kernel
theorem d_M_put_60 : decode prog_9_method_64_code 60 = .ok (.bipush (-2), 2) := by decide +kernel
theorem d_M_put_62 : decode prog_9_method_64_code 62 = .ok (.ireturn, 1) := by decide +kernel
theorem d_M_put_63 : decode prog_9_method_64_code 63 = .ok (.aload_n 0, 1) := by decide +kernel
theorem d_M_put_64 : decode prog_9_method_64_code 64 = .ok (.getfield 141, 3) := by decide +kernel
theorem d_M_put_67 : decode prog_9_method_64_code 67 = .ok (.iload_n 3, 1) := by decide +kernel
theorem d_M_put_68 : decode prog_9_method_64_code 68 = .ok (.iadd, 1) := by decide +kernel
theorem d_M_put_69 : decode prog_9_method_64_code 69 = .ok (.bipush 80, 2) := by decide +kernel
theorem d_M_put_71 : decode prog_9_method_64_code 71 = .ok (.if_icmp .le 6, 3) := by decide +kernel
theorem d_M_put_74 : decode prog_9_method_64_code 74 = .ok (.bipush (-4), 2) := by decide +kernel
theorem d_M_put_76 : decode prog_9_method_64_code 76 = .ok (.ireturn, 1) := by decide +kernel
theorem d_M_put_77 : decode prog_9_method_64_code 77 = .ok (.lload_n 1, 1) := by decide +kernel
theorem d_M_put_78 : decode prog_9_method_64_code 78 = .ok (.lstore 4, 2) := by decide +kernel
theorem d_M_put_80 : decode prog_9_method_64_code 80 = .ok (.iload_n 3, 1) := by decide +kernel
theorem d_M_put_81 : decode prog_9_method_64_code 81 = .ok (.iconst 1, 1) := by decide +kernel
theorem d_M_put_82 : decode prog_9_method_64_code 82 = .ok (.isub, 1) := by decide +kernel
theorem d_M_put_83 : decode prog_9_method_64_code 83 = .ok (.istore 6, 2) := by decide +kernel
theorem d_M_put_85 : decode prog_9_method_64_code 85 = .ok (.iload 6, 2) := by decide +kernel
theorem d_M_put_87 : decode prog_9_method_64_code 87 = .ok (.ifCond .lt 35, 3) := by decide +kernel
theorem d_M_put_90 : decode prog_9_method_64_code 90 = .ok (.aload_n 0, 1) := by decide +kernel
theorem d_M_put_91 : decode prog_9_method_64_code 91 = .ok (.getfield 26, 3) := by decide +kernel
theorem d_M_put_94 : decode prog_9_method_64_code 94 = .ok (.aload_n 0, 1) := by decide +kernel
theorem d_M_put_95 : decode prog_9_method_64_code 95 = .ok (.getfield 141, 3) := by decide +kernel
theorem d_M_put_98 : decode prog_9_method_64_code 98 = .ok (.iload 6, 2) := by decide +kernel
theorem d_M_put_100 : decode prog_9_method_64_code 100 = .ok (.iadd, 1) := by decide +kernel
theorem d_M_put_101 : decode prog_9_method_64_code 101 = .ok (.lload 4, 2) := by decide +kernel
theorem d_M_put_103 : decode prog_9_method_64_code 103 = .ok (.ldc2_w 177, 3) := by decide +kernel
theorem d_M_put_106 : decode prog_9_method_64_code 106 = .ok (.land, 1) := by decide +kernel
theorem d_M_put_107 : decode prog_9_method_64_code 107 = .ok (.l2i, 1) := by decide +kernel
theorem d_M_put_108 : decode prog_9_method_64_code 108 = .ok (.iastore, 1) := by decide +kernel
theorem d_M_put_109 : decode prog_9_method_64_code 109 = .ok (.lload 4, 2) := by decide +kernel
theorem d_M_put_111 : decode prog_9_method_64_code 111 = .ok (.bipush 8, 2) := by decide +kernel
theorem d_M_put_113 : decode prog_9_method_64_code 113 = .ok (.lushr, 1) := by decide +kernel
theorem d_M_put_114 : decode prog_9_method_64_code 114 = .ok (.lstore 4, 2) := by decide +kernel
theorem d_M_put_116 : decode prog_9_method_64_code 116 = .ok (.iinc 6 (-1), 3) := by decide +kernel
theorem d_M_put_119 : decode prog_9_method_64_code 119 = .ok (.goto (-34), 3) := by decide +kernel
theorem d_M_put_122 : decode prog_9_method_64_code 122 = .ok (.aload_n 0, 1) := by decide +kernel
theorem d_M_put_123 : decode prog_9_method_64_code 123 = .ok (.dup, 1) := by decide +kernel
theorem d_M_put_124 : decode prog_9_method_64_code 124 = .ok (.getfield 141, 3) := by decide +kernel
theorem d_M_put_127 : decode prog_9_method_64_code 127 = .ok (.iload_n 3, 1) := by decide +kernel
theorem d_M_put_128 : decode prog_9_method_64_code 128 = .ok (.iadd, 1) := by decide +kernel
theorem d_M_put_129 : decode prog_9_method_64_code 129 = .ok (.putfield 141, 3) := by decide +kernel
theorem d_M_put_132 : decode prog_9_method_64_code 132 = .ok (.aload_n 0, 1) := by decide +kernel
theorem d_M_put_133 : decode prog_9_method_64_code 133 = .ok (.getfield 141, 3) := by decide +kernel
theorem d_M_put_136 : decode prog_9_method_64_code 136 = .ok (.ireturn, 1) := by decide +kernel
theorem d_M_wipe_0 : decode prog_9_method_65_code 0 = .ok (.aload_n 0, 1) := by decide +kernel
theorem d_M_wipe_1 : decode prog_9_method_65_code 1 = .ok (.getfield 141, 3) := by decide +kernel
theorem d_M_wipe_4 : decode prog_9_method_65_code 4 = .ok (.istore_n 1, 1) := by decide +kernel
theorem d_M_wipe_5 : decode prog_9_method_65_code 5 = .ok (.aload_n 0, 1) := by decide +kernel
theorem d_M_wipe_6 : decode prog_9_method_65_code 6 = .ok (.iconst 0, 1) := by decide +kernel
theorem d_M_wipe_7 : decode prog_9_method_65_code 7 = .ok (.putfield 141, 3) := by decide +kernel
theorem d_M_wipe_10 : decode prog_9_method_65_code 10 = .ok (.iload_n 1, 1) := by decide +kernel
theorem d_M_wipe_11 : decode prog_9_method_65_code 11 = .ok (.ireturn, 1) := by decide +kernel
theorem d_M_sign_0 : decode prog_9_method_59_code 0 = .ok (.aload_n 0, 1) := by decide +kernel
theorem d_M_sign_1 : decode prog_9_method_59_code 1 = .ok (.getfield 156, 3) := by decide +kernel
theorem d_M_sign_4 : decode prog_9_method_59_code 4 = .ok (.aload_n 0, 1) := by decide +kernel
theorem d_M_sign_5 : decode prog_9_method_59_code 5 = .ok (.getfield 141, 3) := by decide +kernel
theorem d_M_sign_8 : decode prog_9_method_59_code 8 = .ok (.if_icmp .ge 15, 3) := by decide +kernel
theorem d_M_sign_11 : decode prog_9_method_59_code 11 = .ok (.aload_n 0, 1) := by decide +kernel
theorem d_M_sign_12 : decode prog_9_method_59_code 12 = .ok (.getfield 26, 3) := by decide +kernel
theorem d_M_sign_15 : decode prog_9_method_59_code 15 = .ok (.aload_n 0, 1) := by decide +kernel
theorem d_M_sign_16 : decode prog_9_method_59_code 16 = .ok (.getfield 156, 3) := by decide +kernel
theorem d_M_sign_19 : decode prog_9_method_59_code 19 = .ok (.iaload, 1) := by decide +kernel
theorem d_M_sign_20 : decode prog_9_method_59_code 20 = .ok (.goto 4, 3) := by decide +kernel
theorem d_M_sign_23 : decode prog_9_method_59_code 23 = .ok (.iconst 0, 1) := by decide +kernel
theorem d_M_sign_24 : decode prog_9_method_59_code 24 = .ok (.ireturn, 1) := by decide +kernel
theorem d_M_one_0 : decode prog_9_method_60_code 0 = .ok (.aload_n 0, 1) := by decide +kernel
theorem d_M_one_1 : decode prog_9_method_60_code 1 = .ok (.invokevirtual 159, 3) := by decide +kernel
theorem d_M_one_4 : decode prog_9_method_60_code 4 = .ok (.iload_n 1, 1) := by decide +kernel
theorem d_M_one_5 : decode prog_9_method_60_code 5 = .ok (.isub, 1) := by decide +kernel
theorem d_M_one_6 : decode prog_9_method_60_code 6 = .ok (.istore 4, 2) := by decide +kernel
theorem d_M_one_8 : decode prog_9_method_60_code 8 = .ok (.aload_n 0, 1) := by decide +kernel
theorem d_M_one_9 : decode prog_9_method_60_code 9 = .ok (.aload_n 0, 1) := by decide +kernel
theorem d_M_one_10 : decode prog_9_method_60_code 10 = .ok (.getfield 162, 3) := by decide +kernel
theorem d_M_one_13 : decode prog_9_method_60_code 13 = .ok (.ifCond .ne 13, 3) := by decide +kernel
theorem d_M_one_16 : decode prog_9_method_60_code 16 = .ok (.iload 4, 2) := by decide +kernel
theorem d_M_one_18 : decode prog_9_method_60_code 18 = .ok (.iload_n 2, 1) := by decide +kernel
theorem d_M_one_19 : decode prog_9_method_60_code 19 = .ok (.iload_n 3, 1) := by decide +kernel
theorem d_M_one_20 : decode prog_9_method_60_code 20 = .ok (.invokestatic 49, 3) := by decide +kernel
theorem d_M_one_23 : decode prog_9_method_60_code 23 = .ok (.ifCond .ne 7, 3) := by decide +kernel
theorem d_M_one_26 : decode prog_9_method_60_code 26 = .ok (.iconst 1, 1) := by decide +kernel
theorem d_M_one_27 : decode prog_9_method_60_code 27 = .ok (.goto 4, 3) := by decide +kernel
theorem d_M_one_30 : decode prog_9_method_60_code 30 = .ok (.iconst 0, 1) := by decide +kernel
theorem d_M_one_31 : decode prog_9_method_60_code 31 = .ok (.putfield 162, 3) := by decide +kernel
theorem d_M_one_34 : decode prog_9_method_60_code 34 = .ok (.aload_n 0, 1) := by decide +kernel
theorem d_M_one_35 : decode prog_9_method_60_code 35 = .ok (.dup, 1) := by decide +kernel
theorem d_M_one_36 : decode prog_9_method_60_code 36 = .ok (.getfield 156, 3) := by decide +kernel
theorem d_M_one_39 : decode prog_9_method_60_code 39 = .ok (.aload_n 0, 1) := by decide +kernel
theorem d_M_one_40 : decode prog_9_method_60_code 40 = .ok (.getfield 162, 3) := by decide +kernel
theorem d_M_one_43 : decode prog_9_method_60_code 43 = .ok (.ifCond .eq 7, 3) := by decide +kernel
theorem d_M_one_46 : decode prog_9_method_60_code 46 = .ok (.iconst 0, 1) := by decide +kernel
theorem d_M_one_47 : decode prog_9_method_60_code 47 = .ok (.goto 4, 3) := by decide +kernel
theorem d_M_one_50 : decode prog_9_method_60_code 50 = .ok (.iconst 1, 1) := by decide +kernel
theorem d_M_one_51 : decode prog_9_method_60_code 51 = .ok (.iadd, 1) := by decide +kernel
theorem d_M_one_52 : decode prog_9_method_60_code 52 = .ok (.putfield 156, 3) := by decide +kernel
theorem d_M_one_55 : decode prog_9_method_60_code 55 = .ok (.iload 4, 2) := by decide +kernel
theorem d_M_one_57 : decode prog_9_method_60_code 57 = .ok (.ireturn, 1) := by decide +kernel
theorem d_M_number_0 : decode prog_9_method_61_code 0 = .ok (.aload_n 0, 1) := by decide +kernel
theorem d_M_number_1 : decode prog_9_method_61_code 1 = .ok (.bipush 48, 2) := by decide +kernel
theorem d_M_number_3 : decode prog_9_method_61_code 3 = .ok (.iconst 0, 1) := by decide +kernel
theorem d_M_number_4 : decode prog_9_method_61_code 4 = .ok (.bipush 9, 2) := by decide +kernel
theorem d_M_number_6 : decode prog_9_method_61_code 6 = .ok (.invokevirtual 165, 3) := by decide +kernel
theorem d_M_number_9 : decode prog_9_method_61_code 9 = .ok (.istore_n 1, 1) := by decide +kernel
theorem d_M_number_10 : decode prog_9_method_61_code 10 = .ok (.aload_n 0, 1) := by decide +kernel
theorem d_M_number_11 : decode prog_9_method_61_code 11 = .ok (.getfield 162, 3) := by decide +kernel
theorem d_M_number_14 : decode prog_9_method_61_code 14 = .ok (.ifCond .ne 65, 3) := by decide +kernel
theorem d_M_number_17 : decode prog_9_method_61_code 17 = .ok (.iload_n 1, 1) := by decide +kernel
theorem d_M_number_18 : decode prog_9_method_61_code 18 = .ok (.ifCond .le 61, 3) := by decide +kernel
theorem d_M_number_21 : decode prog_9_method_61_code 21 = .ok (.aload_n 0, 1) := by decide +kernel
theorem d_M_number_22 : decode prog_9_method_61_code 22 = .ok (.invokevirtual 159, 3) := by decide +kernel
theorem d_M_number_25 : decode prog_9_method_61_code 25 = .ok (.bipush 48, 2) := by decide +kernel
theorem d_M_number_27 : decode prog_9_method_61_code 27 = .ok (.bipush 57, 2) := by decide +kernel
theorem d_M_number_29 : decode prog_9_method_61_code 29 = .ok (.invokestatic 49, 3) := by decide +kernel
theorem d_M_number_32 : decode prog_9_method_61_code 32 = .ok (.ifCond .eq 47, 3) := by decide +kernel
theorem d_M_number_35 : decode prog_9_method_61_code 35 = .ok (.bipush 10, 2) := by decide +kernel
theorem d_M_number_37 : decode prog_9_method_61_code 37 = .ok (.iload_n 1, 1) := by decide +kernel
theorem d_M_number_38 : decode prog_9_method_61_code 38 = .ok (.imul, 1) := by decide +kernel
theorem d_M_number_39 : decode prog_9_method_61_code 39 = .ok (.aload_n 0, 1) := by decide +kernel
theorem d_M_number_40 : decode prog_9_method_61_code 40 = .ok (.invokevirtual 159, 3) := by decide +kernel
theorem d_M_number_43 : decode prog_9_method_61_code 43 = .ok (.iadd, 1) := by decide +kernel
theorem d_M_number_44 : decode prog_9_method_61_code 44 = .ok (.bipush 48, 2) := by decide +kernel
theorem d_M_number_46 : decode prog_9_method_61_code 46 = .ok (.isub, 1) := by decide +kernel
theorem d_M_number_47 : decode prog_9_method_61_code 47 = .ok (.sipush 999, 3) := by decide +kernel
theorem d_M_number_50 : decode prog_9_method_61_code 50 = .ok (.if_icmp .gt 29, 3) := by decide +kernel
theorem d_M_number_53 : decode prog_9_method_61_code 53 = .ok (.bipush 10, 2) := by decide +kernel
theorem d_M_number_55 : decode prog_9_method_61_code 55 = .ok (.iload_n 1, 1) := by decide +kernel
theorem d_M_number_56 : decode prog_9_method_61_code 56 = .ok (.imul, 1) := by decide +kernel
theorem d_M_number_57 : decode prog_9_method_61_code 57 = .ok (.aload_n 0, 1) := by decide +kernel
theorem d_M_number_58 : decode prog_9_method_61_code 58 = .ok (.invokevirtual 159, 3) := by decide +kernel
theorem d_M_number_61 : decode prog_9_method_61_code 61 = .ok (.iadd, 1) := by decide +kernel
theorem d_M_number_62 : decode prog_9_method_61_code 62 = .ok (.bipush 48, 2) := by decide +kernel
theorem d_M_number_64 : decode prog_9_method_61_code 64 = .ok (.isub, 1) := by decide +kernel
theorem d_M_number_65 : decode prog_9_method_61_code 65 = .ok (.istore_n 1, 1) := by decide +kernel
theorem d_M_number_66 : decode prog_9_method_61_code 66 = .ok (.aload_n 0, 1) := by decide +kernel
theorem d_M_number_67 : decode prog_9_method_61_code 67 = .ok (.dup, 1) := by decide +kernel
theorem d_M_number_68 : decode prog_9_method_61_code 68 = .ok (.getfield 156, 3) := by decide +kernel
theorem d_M_number_71 : decode prog_9_method_61_code 71 = .ok (.iconst 1, 1) := by decide +kernel
theorem d_M_number_72 : decode prog_9_method_61_code 72 = .ok (.iadd, 1) := by decide +kernel
theorem d_M_number_73 : decode prog_9_method_61_code 73 = .ok (.putfield 156, 3) := by decide +kernel
theorem d_M_number_76 : decode prog_9_method_61_code 76 = .ok (.goto (-66), 3) := by decide +kernel
theorem d_M_number_79 : decode prog_9_method_61_code 79 = .ok (.iload_n 1, 1) := by decide +kernel
theorem d_M_number_80 : decode prog_9_method_61_code 80 = .ok (.ireturn, 1) := by decide +kernel
theorem d_M_readOne_0 : decode prog_9_method_62_code 0 = .ok (.iconst 3, 1) := by decide +kernel
theorem d_M_readOne_1 : decode prog_9_method_62_code 1 = .ok (.aload_n 0, 1) := by decide +kernel
theorem d_M_readOne_2 : decode prog_9_method_62_code 2 = .ok (.getfield 168, 3) := by decide +kernel
theorem d_M_readOne_5 : decode prog_9_method_62_code 5 = .ok (.imul, 1) := by decide +kernel
theorem d_M_readOne_6 : decode prog_9_method_62_code 6 = .ok (.istore_n 1, 1) := by decide +kernel
theorem d_M_readOne_7 : decode prog_9_method_62_code 7 = .ok (.aload_n 0, 1) := by decide +kernel
theorem d_M_readOne_8 : decode prog_9_method_62_code 8 = .ok (.invokevirtual 159, 3) := by decide +kernel
theorem d_M_readOne_11 : decode prog_9_method_62_code 11 = .ok (.istore_n 2, 1) := by decide +kernel
theorem d_M_readOne_12 : decode prog_9_method_62_code 12 = .ok (.aload_n 0, 1) := by decide +kernel
theorem d_M_readOne_13 : decode prog_9_method_62_code 13 = .ok (.getfield 38, 3) := by decide +kernel
theorem d_M_readOne_16 : decode prog_9_method_62_code 16 = .ok (.iload_n 1, 1) := by decide +kernel
theorem d_M_readOne_17 : decode prog_9_method_62_code 17 = .ok (.iload_n 2, 1) := by decide +kernel
theorem d_M_readOne_18 : decode prog_9_method_62_code 18 = .ok (.iastore, 1) := by decide +kernel
theorem d_M_readOne_19 : decode prog_9_method_62_code 19 = .ok (.aload_n 0, 1) := by decide +kernel
theorem d_M_readOne_20 : decode prog_9_method_62_code 20 = .ok (.iload_n 2, 1) := by decide +kernel
theorem d_M_readOne_21 : decode prog_9_method_62_code 21 = .ok (.bipush 43, 2) := by decide +kernel
theorem d_M_readOne_23 : decode prog_9_method_62_code 23 = .ok (.if_icmp .eq 43, 3) := by decide +kernel
theorem d_M_readOne_26 : decode prog_9_method_62_code 26 = .ok (.iload_n 2, 1) := by decide +kernel
theorem d_M_readOne_27 : decode prog_9_method_62_code 27 = .ok (.bipush 45, 2) := by decide +kernel
theorem d_M_readOne_29 : decode prog_9_method_62_code 29 = .ok (.if_icmp .eq 37, 3) := by decide +kernel
theorem d_M_readOne_32 : decode prog_9_method_62_code 32 = .ok (.iload_n 2, 1) := by decide +kernel
theorem d_M_readOne_33 : decode prog_9_method_62_code 33 = .ok (.bipush 111, 2) := by decide +kernel
theorem d_M_readOne_35 : decode prog_9_method_62_code 35 = .ok (.if_icmp .eq 31, 3) := by decide +kernel
theorem d_M_readOne_38 : decode prog_9_method_62_code 38 = .ok (.iload_n 2, 1) := by decide +kernel
theorem d_M_readOne_39 : decode prog_9_method_62_code 39 = .ok (.bipush 118, 2) := by decide +kernel
theorem d_M_readOne_41 : decode prog_9_method_62_code 41 = .ok (.if_icmp .eq 25, 3) := by decide +kernel
theorem d_M_readOne_44 : decode prog_9_method_62_code 44 = .ok (.iload_n 2, 1) := by decide +kernel
theorem d_M_readOne_45 : decode prog_9_method_62_code 45 = .ok (.bipush 99, 2) := by decide +kernel
theorem d_M_readOne_47 : decode prog_9_method_62_code 47 = .ok (.if_icmp .eq 19, 3) := by decide +kernel
theorem d_M_readOne_50 : decode prog_9_method_62_code 50 = .ok (.iload_n 2, 1) := by decide +kernel
theorem d_M_readOne_51 : decode prog_9_method_62_code 51 = .ok (.bipush 120, 2) := by decide +kernel
theorem d_M_readOne_53 : decode prog_9_method_62_code 53 = .ok (.if_icmp .eq 13, 3) := by decide +kernel
theorem d_M_readOne_56 : decode prog_9_method_62_code 56 = .ok (.iload_n 2, 1) := by decide +kernel
theorem d_M_readOne_57 : decode prog_9_method_62_code 57 = .ok (.bipush 109, 2) := by decide +kernel
theorem d_M_readOne_59 : decode prog_9_method_62_code 59 = .ok (.if_icmp .eq 7, 3) := by decide +kernel
theorem d_M_readOne_62 : decode prog_9_method_62_code 62 = .ok (.iconst 1, 1) := by decide +kernel
theorem d_M_readOne_63 : decode prog_9_method_62_code 63 = .ok (.goto 4, 3) := by decide +kernel
theorem d_M_readOne_66 : decode prog_9_method_62_code 66 = .ok (.iconst 0, 1) := by decide +kernel
theorem d_M_readOne_67 : decode prog_9_method_62_code 67 = .ok (.putfield 162, 3) := by decide +kernel
theorem d_M_readOne_70 : decode prog_9_method_62_code 70 = .ok (.aload_n 0, 1) := by decide +kernel
theorem d_M_readOne_71 : decode prog_9_method_62_code 71 = .ok (.getfield 162, 3) := by decide +kernel
theorem d_M_readOne_74 : decode prog_9_method_62_code 74 = .ok (.ifCond .eq 4, 3) := by decide +kernel
theorem d_M_readOne_77 : decode prog_9_method_62_code 77 = .ok (.return_, 1) := by decide +kernel
theorem d_M_readOne_78 : decode prog_9_method_62_code 78 = .ok (.aload_n 0, 1) := by decide +kernel
theorem d_M_readOne_79 : decode prog_9_method_62_code 79 = .ok (.dup, 1) := by decide +kernel
theorem d_M_readOne_80 : decode prog_9_method_62_code 80 = .ok (.getfield 156, 3) := by decide +kernel
theorem d_M_readOne_83 : decode prog_9_method_62_code 83 = .ok (.iconst 1, 1) := by decide +kernel
theorem d_M_readOne_84 : decode prog_9_method_62_code 84 = .ok (.iadd, 1) := by decide +kernel
theorem d_M_readOne_85 : decode prog_9_method_62_code 85 = .ok (.putfield 156, 3) := by decide +kernel
theorem d_M_readOne_88 : decode prog_9_method_62_code 88 = .ok (.iload_n 2, 1) := by decide +kernel
theorem d_M_readOne_89 : decode prog_9_method_62_code 89 = .ok (.lookupswitch 80 #[(99, 58), (109, 43), (111, 43), (120, 61)], 43) := by decide +kernel
theorem d_M_readOne_132 : decode prog_9_method_62_code 132 = .ok (.aload_n 0, 1) := by decide +kernel
theorem d_M_readOne_133 : decode prog_9_method_62_code 133 = .ok (.getfield 38, 3) := by decide +kernel
theorem d_M_readOne_136 : decode prog_9_method_62_code 136 = .ok (.iload_n 1, 1) := by decide +kernel
theorem d_M_readOne_137 : decode prog_9_method_62_code 137 = .ok (.iconst 1, 1) := by decide +kernel
theorem d_M_readOne_138 : decode prog_9_method_62_code 138 = .ok (.iadd, 1) := by decide +kernel
theorem d_M_readOne_139 : decode prog_9_method_62_code 139 = .ok (.aload_n 0, 1) := by decide +kernel
theorem d_M_readOne_140 : decode prog_9_method_62_code 140 = .ok (.invokevirtual 171, 3) := by decide +kernel
theorem d_M_readOne_143 : decode prog_9_method_62_code 143 = .ok (.iastore, 1) := by decide +kernel
theorem d_M_readOne_144 : decode prog_9_method_62_code 144 = .ok (.goto 75, 3) := by decide +kernel
theorem d_M_readOne_147 : decode prog_9_method_62_code 147 = .ok (.goto 72, 3) := by decide +kernel
theorem d_M_readOne_150 : decode prog_9_method_62_code 150 = .ok (.aload_n 0, 1) := by decide +kernel
theorem d_M_readOne_151 : decode prog_9_method_62_code 151 = .ok (.getfield 38, 3) := by decide +kernel
theorem d_M_readOne_154 : decode prog_9_method_62_code 154 = .ok (.iload_n 1, 1) := by decide +kernel
theorem d_M_readOne_155 : decode prog_9_method_62_code 155 = .ok (.iconst 1, 1) := by decide +kernel
theorem d_M_readOne_156 : decode prog_9_method_62_code 156 = .ok (.iadd, 1) := by decide +kernel
theorem d_M_readOne_157 : decode prog_9_method_62_code 157 = .ok (.aload_n 0, 1) := by decide +kernel
theorem d_M_readOne_158 : decode prog_9_method_62_code 158 = .ok (.bipush 48, 2) := by decide +kernel
theorem d_M_readOne_160 : decode prog_9_method_62_code 160 = .ok (.iconst 1, 1) := by decide +kernel
theorem d_M_readOne_161 : decode prog_9_method_62_code 161 = .ok (.iconst 2, 1) := by decide +kernel
theorem d_M_readOne_162 : decode prog_9_method_62_code 162 = .ok (.invokevirtual 165, 3) := by decide +kernel
theorem d_M_readOne_165 : decode prog_9_method_62_code 165 = .ok (.iastore, 1) := by decide +kernel
theorem d_M_readOne_166 : decode prog_9_method_62_code 166 = .ok (.goto 53, 3) := by decide +kernel
theorem d_M_readOne_169 : decode prog_9_method_62_code 169 = .ok (.aload_n 0, 1) := by decide +kernel
theorem d_M_readOne_170 : decode prog_9_method_62_code 170 = .ok (.getfield 38, 3) := by decide +kernel
theorem d_M_readOne_173 : decode prog_9_method_62_code 173 = .ok (.iload_n 1, 1) := by decide +kernel
theorem d_M_readOne_174 : decode prog_9_method_62_code 174 = .ok (.iconst 1, 1) := by decide +kernel
theorem d_M_readOne_175 : decode prog_9_method_62_code 175 = .ok (.iadd, 1) := by decide +kernel
theorem d_M_readOne_176 : decode prog_9_method_62_code 176 = .ok (.aload_n 0, 1) := by decide +kernel
theorem d_M_readOne_177 : decode prog_9_method_62_code 177 = .ok (.bipush 65, 2) := by decide +kernel
theorem d_M_readOne_179 : decode prog_9_method_62_code 179 = .ok (.iconst 0, 1) := by decide +kernel
theorem d_M_readOne_180 : decode prog_9_method_62_code 180 = .ok (.bipush 11, 2) := by decide +kernel
theorem d_M_readOne_182 : decode prog_9_method_62_code 182 = .ok (.invokevirtual 165, 3) := by decide +kernel
theorem d_M_readOne_185 : decode prog_9_method_62_code 185 = .ok (.iastore, 1) := by decide +kernel
theorem d_M_readOne_186 : decode prog_9_method_62_code 186 = .ok (.aload_n 0, 1) := by decide +kernel
theorem d_M_readOne_187 : decode prog_9_method_62_code 187 = .ok (.getfield 38, 3) := by decide +kernel
theorem d_M_readOne_190 : decode prog_9_method_62_code 190 = .ok (.iload_n 1, 1) := by decide +kernel
theorem d_M_readOne_191 : decode prog_9_method_62_code 191 = .ok (.iconst 2, 1) := by decide +kernel
theorem d_M_readOne_192 : decode prog_9_method_62_code 192 = .ok (.iadd, 1) := by decide +kernel
theorem d_M_readOne_193 : decode prog_9_method_62_code 193 = .ok (.iload_n 2, 1) := by decide +kernel
theorem d_M_readOne_194 : decode prog_9_method_62_code 194 = .ok (.bipush 118, 2) := by decide +kernel
theorem d_M_readOne_196 : decode prog_9_method_62_code 196 = .ok (.if_icmp .ne 21, 3) := by decide +kernel
theorem d_M_readOne_199 : decode prog_9_method_62_code 199 = .ok (.aload_n 0, 1) := by decide +kernel
theorem d_M_readOne_200 : decode prog_9_method_62_code 200 = .ok (.getfield 162, 3) := by decide +kernel
theorem d_M_readOne_203 : decode prog_9_method_62_code 203 = .ok (.ifCond .ne 14, 3) := by decide +kernel
theorem d_M_readOne_206 : decode prog_9_method_62_code 206 = .ok (.aload_n 0, 1) := by decide +kernel
theorem d_M_readOne_207 : decode prog_9_method_62_code 207 = .ok (.bipush 48, 2) := by decide +kernel
theorem d_M_readOne_209 : decode prog_9_method_62_code 209 = .ok (.iconst 0, 1) := by decide +kernel
theorem d_M_readOne_210 : decode prog_9_method_62_code 210 = .ok (.iconst 2, 1) := by decide +kernel
theorem d_M_readOne_211 : decode prog_9_method_62_code 211 = .ok (.invokevirtual 165, 3) := by decide +kernel
theorem d_M_readOne_214 : decode prog_9_method_62_code 214 = .ok (.goto 4, 3) := by decide +kernel
theorem d_M_readOne_217 : decode prog_9_method_62_code 217 = .ok (.iconst 0, 1) := by decide +kernel
theorem d_M_readOne_218 : decode prog_9_method_62_code 218 = .ok (.iastore, 1) := by decide +kernel
theorem d_M_readOne_219 : decode prog_9_method_62_code 219 = .ok (.aload_n 0, 1) := by decide +kernel
theorem d_M_readOne_220 : decode prog_9_method_62_code 220 = .ok (.dup, 1) := by decide +kernel
theorem d_M_readOne_221 : decode prog_9_method_62_code 221 = .ok (.getfield 168, 3) := by decide +kernel
theorem d_M_readOne_224 : decode prog_9_method_62_code 224 = .ok (.iconst 1, 1) := by decide +kernel
theorem d_M_readOne_225 : decode prog_9_method_62_code 225 = .ok (.iadd, 1) := by decide +kernel
theorem d_M_readOne_226 : decode prog_9_method_62_code 226 = .ok (.putfield 168, 3) := by decide +kernel
theorem d_M_readOne_229 : decode prog_9_method_62_code 229 = .ok (.return_, 1) := by decide +kernel
theorem d_M_faultOf_0 : decode prog_9_method_63_code 0 = .ok (.aload_n 0, 1) := by decide +kernel
theorem d_M_faultOf_1 : decode prog_9_method_63_code 1 = .ok (.iconst 0, 1) := by decide +kernel
theorem d_M_faultOf_2 : decode prog_9_method_63_code 2 = .ok (.putfield 156, 3) := by decide +kernel
theorem d_M_faultOf_5 : decode prog_9_method_63_code 5 = .ok (.aload_n 0, 1) := by decide +kernel
theorem d_M_faultOf_6 : decode prog_9_method_63_code 6 = .ok (.iconst 0, 1) := by decide +kernel
theorem d_M_faultOf_7 : decode prog_9_method_63_code 7 = .ok (.putfield 168, 3) := by decide +kernel
theorem d_M_faultOf_10 : decode prog_9_method_63_code 10 = .ok (.aload_n 0, 1) := by decide +kernel
theorem d_M_faultOf_11 : decode prog_9_method_63_code 11 = .ok (.iconst 0, 1) := by decide +kernel
theorem d_M_faultOf_12 : decode prog_9_method_63_code 12 = .ok (.putfield 162, 3) := by decide +kernel
theorem d_M_faultOf_15 : decode prog_9_method_63_code 15 = .ok (.aload_n 0, 1) := by decide +kernel
theorem d_M_faultOf_16 : decode prog_9_method_63_code 16 = .ok (.invokevirtual 174, 3) := by decide +kernel
theorem d_M_faultOf_19 : decode prog_9_method_63_code 19 = .ok (.aload_n 0, 1) := by decide +kernel
theorem d_M_faultOf_20 : decode prog_9_method_63_code 20 = .ok (.getfield 162, 3) := by decide +kernel
theorem d_M_faultOf_23 : decode prog_9_method_63_code 23 = .ok (.ifCond .ne 56, 3) := by decide +kernel
theorem d_M_faultOf_26 : decode prog_9_method_63_code 26 = .ok (.aload_n 0, 1) := by decide +kernel
theorem d_M_faultOf_27 : decode prog_9_method_63_code 27 = .ok (.getfield 156, 3) := by decide +kernel
theorem d_M_faultOf_30 : decode prog_9_method_63_code 30 = .ok (.aload_n 0, 1) := by decide +kernel
theorem d_M_faultOf_31 : decode prog_9_method_63_code 31 = .ok (.getfield 141, 3) := by decide +kernel
theorem d_M_faultOf_34 : decode prog_9_method_63_code 34 = .ok (.if_icmp .ge 45, 3) := by decide +kernel
theorem d_M_faultOf_37 : decode prog_9_method_63_code 37 = .ok (.aload_n 0, 1) := by decide +kernel
theorem d_M_faultOf_38 : decode prog_9_method_63_code 38 = .ok (.aload_n 0, 1) := by decide +kernel
theorem d_M_faultOf_39 : decode prog_9_method_63_code 39 = .ok (.invokevirtual 159, 3) := by decide +kernel
theorem d_M_faultOf_42 : decode prog_9_method_63_code 42 = .ok (.bipush 59, 2) := by decide +kernel
theorem d_M_faultOf_44 : decode prog_9_method_63_code 44 = .ok (.if_icmp .eq 7, 3) := by decide +kernel
theorem d_M_faultOf_47 : decode prog_9_method_63_code 47 = .ok (.iconst 1, 1) := by decide +kernel
theorem d_M_faultOf_48 : decode prog_9_method_63_code 48 = .ok (.goto 4, 3) := by decide +kernel
theorem d_M_faultOf_51 : decode prog_9_method_63_code 51 = .ok (.iconst 0, 1) := by decide +kernel
theorem d_M_faultOf_52 : decode prog_9_method_63_code 52 = .ok (.putfield 162, 3) := by decide +kernel
theorem d_M_faultOf_55 : decode prog_9_method_63_code 55 = .ok (.aload_n 0, 1) := by decide +kernel
theorem d_M_faultOf_56 : decode prog_9_method_63_code 56 = .ok (.getfield 162, 3) := by decide +kernel
theorem d_M_faultOf_59 : decode prog_9_method_63_code 59 = .ok (.ifCond .ne (-40), 3) := by decide +kernel
theorem d_M_faultOf_62 : decode prog_9_method_63_code 62 = .ok (.aload_n 0, 1) := by decide +kernel
theorem d_M_faultOf_63 : decode prog_9_method_63_code 63 = .ok (.dup, 1) := by decide +kernel
theorem d_M_faultOf_64 : decode prog_9_method_63_code 64 = .ok (.getfield 156, 3) := by decide +kernel
theorem d_M_faultOf_67 : decode prog_9_method_63_code 67 = .ok (.iconst 1, 1) := by decide +kernel
theorem d_M_faultOf_68 : decode prog_9_method_63_code 68 = .ok (.iadd, 1) := by decide +kernel
theorem d_M_faultOf_69 : decode prog_9_method_63_code 69 = .ok (.putfield 156, 3) := by decide +kernel
theorem d_M_faultOf_72 : decode prog_9_method_63_code 72 = .ok (.aload_n 0, 1) := by decide +kernel
theorem d_M_faultOf_73 : decode prog_9_method_63_code 73 = .ok (.invokevirtual 174, 3) := by decide +kernel
theorem d_M_faultOf_76 : decode prog_9_method_63_code 76 = .ok (.goto (-57), 3) := by decide +kernel
theorem d_M_faultOf_79 : decode prog_9_method_63_code 79 = .ok (.aload_n 0, 1) := by decide +kernel
theorem d_M_faultOf_80 : decode prog_9_method_63_code 80 = .ok (.getfield 162, 3) := by decide +kernel
theorem d_M_faultOf_83 : decode prog_9_method_63_code 83 = .ok (.ifCond .eq 10, 3) := by decide +kernel
theorem d_M_faultOf_86 : decode prog_9_method_63_code 86 = .ok (.aload_n 0, 1) := by decide +kernel
theorem d_M_faultOf_87 : decode prog_9_method_63_code 87 = .ok (.getfield 156, 3) := by decide +kernel
theorem d_M_faultOf_90 : decode prog_9_method_63_code 90 = .ok (.goto 5, 3) := by decide +kernel
theorem d_M_faultOf_93 : decode prog_9_method_63_code 93 = .ok (.bipush (-6), 2) := by decide +kernel
theorem d_M_faultOf_95 : decode prog_9_method_63_code 95 = .ok (.ireturn, 1) := by decide +kernel
theorem d_M_fault_0 : decode prog_9_method_66_code 0 = .ok (.aload_n 0, 1) := by decide +kernel
theorem d_M_fault_1 : decode prog_9_method_66_code 1 = .ok (.invokevirtual 179, 3) := by decide +kernel
theorem d_M_fault_4 : decode prog_9_method_66_code 4 = .ok (.ireturn, 1) := by decide +kernel
theorem d_M_carry_0 : decode prog_9_method_67_code 0 = .ok (.aload_n 0, 1) := by decide +kernel
theorem d_M_carry_1 : decode prog_9_method_67_code 1 = .ok (.getfield 38, 3) := by decide +kernel
theorem d_M_carry_4 : decode prog_9_method_67_code 4 = .ok (.iload_n 1, 1) := by decide +kernel
theorem d_M_carry_5 : decode prog_9_method_67_code 5 = .ok (.iconst 1, 1) := by decide +kernel
theorem d_M_carry_6 : decode prog_9_method_67_code 6 = .ok (.iadd, 1) := by decide +kernel
theorem d_M_carry_7 : decode prog_9_method_67_code 7 = .ok (.iaload, 1) := by decide +kernel
theorem d_M_carry_8 : decode prog_9_method_67_code 8 = .ok (.istore_n 2, 1) := by decide +kernel
theorem d_M_carry_9 : decode prog_9_method_67_code 9 = .ok (.aload_n 0, 1) := by decide +kernel
theorem d_M_carry_10 : decode prog_9_method_67_code 10 = .ok (.getfield 38, 3) := by decide +kernel
theorem d_M_carry_13 : decode prog_9_method_67_code 13 = .ok (.iload_n 1, 1) := by decide +kernel
theorem d_M_carry_14 : decode prog_9_method_67_code 14 = .ok (.iaload, 1) := by decide +kernel
theorem d_M_carry_15 : decode prog_9_method_67_code 15 = .ok (.lookupswitch 156 #[(43, 57), (45, 71), (99, 129), (111, 85), (118, 99), (120, 142)], 57) := by decide +kernel
theorem d_M_carry_72 : decode prog_9_method_67_code 72 = .ok (.aload_n 0, 1) := by decide +kernel
theorem d_M_carry_73 : decode prog_9_method_67_code 73 = .ok (.iload_n 2, 1) := by decide +kernel
theorem d_M_carry_74 : decode prog_9_method_67_code 74 = .ok (.invokevirtual 182, 3) := by decide +kernel
theorem d_M_carry_77 : decode prog_9_method_67_code 77 = .ok (.ifCond .lt 7, 3) := by decide +kernel
theorem d_M_carry_80 : decode prog_9_method_67_code 80 = .ok (.iconst 1, 1) := by decide +kernel
theorem d_M_carry_81 : decode prog_9_method_67_code 81 = .ok (.goto 4, 3) := by decide +kernel
theorem d_M_carry_84 : decode prog_9_method_67_code 84 = .ok (.iconst 0, 1) := by decide +kernel
theorem d_M_carry_85 : decode prog_9_method_67_code 85 = .ok (.ireturn, 1) := by decide +kernel
theorem d_M_carry_86 : decode prog_9_method_67_code 86 = .ok (.aload_n 0, 1) := by decide +kernel
theorem d_M_carry_87 : decode prog_9_method_67_code 87 = .ok (.iload_n 2, 1) := by decide +kernel
theorem d_M_carry_88 : decode prog_9_method_67_code 88 = .ok (.invokevirtual 185, 3) := by decide +kernel
theorem d_M_carry_91 : decode prog_9_method_67_code 91 = .ok (.ifCond .lt 7, 3) := by decide +kernel
theorem d_M_carry_94 : decode prog_9_method_67_code 94 = .ok (.iconst 1, 1) := by decide +kernel
theorem d_M_carry_95 : decode prog_9_method_67_code 95 = .ok (.goto 4, 3) := by decide +kernel
theorem d_M_carry_98 : decode prog_9_method_67_code 98 = .ok (.iconst 0, 1) := by decide +kernel
theorem d_M_carry_99 : decode prog_9_method_67_code 99 = .ok (.ireturn, 1) := by decide +kernel
theorem d_M_carry_100 : decode prog_9_method_67_code 100 = .ok (.aload_n 0, 1) := by decide +kernel
theorem d_M_carry_101 : decode prog_9_method_67_code 101 = .ok (.iload_n 2, 1) := by decide +kernel
theorem d_M_carry_102 : decode prog_9_method_67_code 102 = .ok (.invokevirtual 188, 3) := by decide +kernel
theorem d_M_carry_105 : decode prog_9_method_67_code 105 = .ok (.ifCond .lt 7, 3) := by decide +kernel
theorem d_M_carry_108 : decode prog_9_method_67_code 108 = .ok (.iconst 1, 1) := by decide +kernel
theorem d_M_carry_109 : decode prog_9_method_67_code 109 = .ok (.goto 4, 3) := by decide +kernel
theorem d_M_carry_112 : decode prog_9_method_67_code 112 = .ok (.iconst 0, 1) := by decide +kernel
theorem d_M_carry_113 : decode prog_9_method_67_code 113 = .ok (.ireturn, 1) := by decide +kernel
theorem d_M_carry_114 : decode prog_9_method_67_code 114 = .ok (.aload_n 0, 1) := by decide +kernel
theorem d_M_carry_115 : decode prog_9_method_67_code 115 = .ok (.iload_n 2, 1) := by decide +kernel
theorem d_M_carry_116 : decode prog_9_method_67_code 116 = .ok (.aload_n 0, 1) := by decide +kernel
theorem d_M_carry_117 : decode prog_9_method_67_code 117 = .ok (.getfield 38, 3) := by decide +kernel
theorem d_M_carry_120 : decode prog_9_method_67_code 120 = .ok (.iload_n 1, 1) := by decide +kernel
theorem d_M_carry_121 : decode prog_9_method_67_code 121 = .ok (.iconst 2, 1) := by decide +kernel
theorem d_M_carry_122 : decode prog_9_method_67_code 122 = .ok (.iadd, 1) := by decide +kernel
theorem d_M_carry_123 : decode prog_9_method_67_code 123 = .ok (.iaload, 1) := by decide +kernel
theorem d_M_carry_124 : decode prog_9_method_67_code 124 = .ok (.invokevirtual 191, 3) := by decide +kernel
theorem d_M_carry_127 : decode prog_9_method_67_code 127 = .ok (.istore_n 3, 1) := by decide +kernel
theorem d_M_carry_128 : decode prog_9_method_67_code 128 = .ok (.iload_n 3, 1) := by decide +kernel
theorem d_M_carry_129 : decode prog_9_method_67_code 129 = .ok (.ifCond .ge 9, 3) := by decide +kernel
theorem d_M_carry_132 : decode prog_9_method_67_code 132 = .ok (.iload_n 3, 1) := by decide +kernel
theorem d_M_carry_133 : decode prog_9_method_67_code 133 = .ok (.bipush (-6), 2) := by decide +kernel
theorem d_M_carry_135 : decode prog_9_method_67_code 135 = .ok (.if_icmp .ne 7, 3) := by decide +kernel
theorem d_M_carry_138 : decode prog_9_method_67_code 138 = .ok (.iconst 1, 1) := by decide +kernel
theorem d_M_carry_139 : decode prog_9_method_67_code 139 = .ok (.goto 4, 3) := by decide +kernel
theorem d_M_carry_142 : decode prog_9_method_67_code 142 = .ok (.iconst 0, 1) := by decide +kernel
theorem d_M_carry_143 : decode prog_9_method_67_code 143 = .ok (.ireturn, 1) := by decide +kernel
theorem d_M_carry_144 : decode prog_9_method_67_code 144 = .ok (.aload_n 0, 1) := by decide +kernel
theorem d_M_carry_145 : decode prog_9_method_67_code 145 = .ok (.invokevirtual 194, 3) := by decide +kernel
theorem d_M_carry_148 : decode prog_9_method_67_code 148 = .ok (.ifCond .lt 7, 3) := by decide +kernel
theorem d_M_carry_151 : decode prog_9_method_67_code 151 = .ok (.iconst 1, 1) := by decide +kernel
theorem d_M_carry_152 : decode prog_9_method_67_code 152 = .ok (.goto 4, 3) := by decide +kernel
theorem d_M_carry_155 : decode prog_9_method_67_code 155 = .ok (.iconst 0, 1) := by decide +kernel
theorem d_M_carry_156 : decode prog_9_method_67_code 156 = .ok (.ireturn, 1) := by decide +kernel
theorem d_M_carry_157 : decode prog_9_method_67_code 157 = .ok (.aload_n 0, 1) := by decide +kernel
theorem d_M_carry_158 : decode prog_9_method_67_code 158 = .ok (.iload_n 2, 1) := by decide +kernel
theorem d_M_carry_159 : decode prog_9_method_67_code 159 = .ok (.invokevirtual 197, 3) := by decide +kernel
theorem d_M_carry_162 : decode prog_9_method_67_code 162 = .ok (.ifCond .lt 7, 3) := by decide +kernel
theorem d_M_carry_165 : decode prog_9_method_67_code 165 = .ok (.iconst 1, 1) := by decide +kernel
theorem d_M_carry_166 : decode prog_9_method_67_code 166 = .ok (.goto 4, 3) := by decide +kernel
theorem d_M_carry_169 : decode prog_9_method_67_code 169 = .ok (.iconst 0, 1) := by decide +kernel
theorem d_M_carry_170 : decode prog_9_method_67_code 170 = .ok (.ireturn, 1) := by decide +kernel
theorem d_M_carry_171 : decode prog_9_method_67_code 171 = .ok (.aload_n 0, 1) := by decide +kernel
theorem d_M_carry_172 : decode prog_9_method_67_code 172 = .ok (.iload_n 2, 1) := by decide +kernel
theorem d_M_carry_173 : decode prog_9_method_67_code 173 = .ok (.invokevirtual 200, 3) := by decide +kernel
theorem d_M_carry_176 : decode prog_9_method_67_code 176 = .ok (.ifCond .lt 7, 3) := by decide +kernel
theorem d_M_carry_179 : decode prog_9_method_67_code 179 = .ok (.iconst 1, 1) := by decide +kernel
theorem d_M_carry_180 : decode prog_9_method_67_code 180 = .ok (.goto 4, 3) := by decide +kernel
theorem d_M_carry_183 : decode prog_9_method_67_code 183 = .ok (.iconst 0, 1) := by decide +kernel
theorem d_M_carry_184 : decode prog_9_method_67_code 184 = .ok (.ireturn, 1) := by decide +kernel
theorem d_M_carryOut_0 : decode prog_9_method_68_code 0 = .ok (.aload_n 0, 1) := by decide +kernel
theorem d_M_carryOut_1 : decode prog_9_method_68_code 1 = .ok (.invokevirtual 179, 3) := by decide +kernel
theorem d_M_carryOut_4 : decode prog_9_method_68_code 4 = .ok (.bipush (-6), 2) := by decide +kernel
theorem d_M_carryOut_6 : decode prog_9_method_68_code 6 = .ok (.if_icmp .eq 6, 3) := by decide +kernel
theorem d_M_carryOut_9 : decode prog_9_method_68_code 9 = .ok (.bipush (-3), 2) := by decide +kernel
theorem d_M_carryOut_11 : decode prog_9_method_68_code 11 = .ok (.ireturn, 1) := by decide +kernel
theorem d_M_carryOut_12 : decode prog_9_method_68_code 12 = .ok (.aload_n 0, 1) := by decide +kernel
theorem d_M_carryOut_13 : decode prog_9_method_68_code 13 = .ok (.invokevirtual 53, 3) := by decide +kernel
theorem d_M_carryOut_16 : decode prog_9_method_68_code 16 = .ok (.aload_n 0, 1) := by decide +kernel
theorem d_M_carryOut_17 : decode prog_9_method_68_code 17 = .ok (.iconst 1, 1) := by decide +kernel
theorem d_M_carryOut_18 : decode prog_9_method_68_code 18 = .ok (.putfield 41, 3) := by decide +kernel
theorem d_M_carryOut_21 : decode prog_9_method_68_code 21 = .ok (.iconst 0, 1) := by decide +kernel
theorem d_M_carryOut_22 : decode prog_9_method_68_code 22 = .ok (.istore_n 1, 1) := by decide +kernel
theorem d_M_carryOut_23 : decode prog_9_method_68_code 23 = .ok (.iload_n 1, 1) := by decide +kernel
theorem d_M_carryOut_24 : decode prog_9_method_68_code 24 = .ok (.aload_n 0, 1) := by decide +kernel
theorem d_M_carryOut_25 : decode prog_9_method_68_code 25 = .ok (.getfield 168, 3) := by decide +kernel
theorem d_M_carryOut_28 : decode prog_9_method_68_code 28 = .ok (.if_icmp .ge 19, 3) := by decide +kernel
theorem d_M_carryOut_31 : decode prog_9_method_68_code 31 = .ok (.aload_n 0, 1) := by decide +kernel
theorem d_M_carryOut_32 : decode prog_9_method_68_code 32 = .ok (.iconst 3, 1) := by decide +kernel
theorem d_M_carryOut_33 : decode prog_9_method_68_code 33 = .ok (.iload_n 1, 1) := by decide +kernel
theorem d_M_carryOut_34 : decode prog_9_method_68_code 34 = .ok (.imul, 1) := by decide +kernel
theorem d_M_carryOut_35 : decode prog_9_method_68_code 35 = .ok (.invokevirtual 203, 3) := by decide +kernel
theorem d_M_carryOut_38 : decode prog_9_method_68_code 38 = .ok (.ifCond .eq 9, 3) := by decide +kernel
theorem d_M_carryOut_41 : decode prog_9_method_68_code 41 = .ok (.iinc 1 1, 3) := by decide +kernel
theorem d_M_carryOut_44 : decode prog_9_method_68_code 44 = .ok (.goto (-21), 3) := by decide +kernel
theorem d_M_carryOut_47 : decode prog_9_method_68_code 47 = .ok (.aload_n 0, 1) := by decide +kernel
theorem d_M_carryOut_48 : decode prog_9_method_68_code 48 = .ok (.iconst 0, 1) := by decide +kernel
theorem d_M_carryOut_49 : decode prog_9_method_68_code 49 = .ok (.putfield 41, 3) := by decide +kernel
theorem d_M_carryOut_52 : decode prog_9_method_68_code 52 = .ok (.aload_n 0, 1) := by decide +kernel
theorem d_M_carryOut_53 : decode prog_9_method_68_code 53 = .ok (.iconst 0, 1) := by decide +kernel
theorem d_M_carryOut_54 : decode prog_9_method_68_code 54 = .ok (.putfield 141, 3) := by decide +kernel
theorem d_M_carryOut_57 : decode prog_9_method_68_code 57 = .ok (.iload_n 1, 1) := by decide +kernel
theorem d_M_carryOut_58 : decode prog_9_method_68_code 58 = .ok (.ireturn, 1) := by decide +kernel
theorem d_M_undo_0 : decode prog_9_method_69_code 0 = .ok (.aload_n 0, 1) := by decide +kernel
theorem d_M_undo_1 : decode prog_9_method_69_code 1 = .ok (.getfield 45, 3) := by decide +kernel
theorem d_M_undo_4 : decode prog_9_method_69_code 4 = .ok (.ifCond .ne 6, 3) := by decide +kernel
theorem d_M_undo_7 : decode prog_9_method_69_code 7 = .ok (.bipush (-5), 2) := by decide +kernel
theorem d_M_undo_9 : decode prog_9_method_69_code 9 = .ok (.ireturn, 1) := by decide +kernel
theorem d_M_undo_10 : decode prog_9_method_69_code 10 = .ok (.aload_n 0, 1) := by decide +kernel
theorem d_M_undo_11 : decode prog_9_method_69_code 11 = .ok (.dup, 1) := by decide +kernel
theorem d_M_undo_12 : decode prog_9_method_69_code 12 = .ok (.getfield 45, 3) := by decide +kernel
theorem d_M_undo_15 : decode prog_9_method_69_code 15 = .ok (.iconst 1, 1) := by decide +kernel
theorem d_M_undo_16 : decode prog_9_method_69_code 16 = .ok (.isub, 1) := by decide +kernel
theorem d_M_undo_17 : decode prog_9_method_69_code 17 = .ok (.putfield 45, 3) := by decide +kernel
theorem d_M_undo_20 : decode prog_9_method_69_code 20 = .ok (.iconst 0, 1) := by decide +kernel
theorem d_M_undo_21 : decode prog_9_method_69_code 21 = .ok (.istore_n 1, 1) := by decide +kernel
theorem d_M_undo_22 : decode prog_9_method_69_code 22 = .ok (.iload_n 1, 1) := by decide +kernel
theorem d_M_undo_23 : decode prog_9_method_69_code 23 = .ok (.sipush 760, 3) := by decide +kernel
theorem d_M_undo_26 : decode prog_9_method_69_code 26 = .ok (.if_icmp .ge 30, 3) := by decide +kernel
theorem d_M_undo_29 : decode prog_9_method_69_code 29 = .ok (.aload_n 0, 1) := by decide +kernel
theorem d_M_undo_30 : decode prog_9_method_69_code 30 = .ok (.getfield 7, 3) := by decide +kernel
theorem d_M_undo_33 : decode prog_9_method_69_code 33 = .ok (.iload_n 1, 1) := by decide +kernel
theorem d_M_undo_34 : decode prog_9_method_69_code 34 = .ok (.aload_n 0, 1) := by decide +kernel
theorem d_M_undo_35 : decode prog_9_method_69_code 35 = .ok (.getfield 16, 3) := by decide +kernel
theorem d_M_undo_38 : decode prog_9_method_69_code 38 = .ok (.aload_n 0, 1) := by decide +kernel
theorem d_M_undo_39 : decode prog_9_method_69_code 39 = .ok (.getfield 45, 3) := by decide +kernel
theorem d_M_undo_42 : decode prog_9_method_69_code 42 = .ok (.sipush 760, 3) := by decide +kernel
theorem d_M_undo_45 : decode prog_9_method_69_code 45 = .ok (.imul, 1) := by decide +kernel
theorem d_M_undo_46 : decode prog_9_method_69_code 46 = .ok (.iload_n 1, 1) := by decide +kernel
theorem d_M_undo_47 : decode prog_9_method_69_code 47 = .ok (.iadd, 1) := by decide +kernel
theorem d_M_undo_48 : decode prog_9_method_69_code 48 = .ok (.iaload, 1) := by decide +kernel
theorem d_M_undo_49 : decode prog_9_method_69_code 49 = .ok (.iastore, 1) := by decide +kernel
theorem d_M_undo_50 : decode prog_9_method_69_code 50 = .ok (.iinc 1 1, 3) := by decide +kernel
theorem d_M_undo_53 : decode prog_9_method_69_code 53 = .ok (.goto (-31), 3) := by decide +kernel
theorem d_M_undo_56 : decode prog_9_method_69_code 56 = .ok (.aload_n 0, 1) := by decide +kernel
theorem d_M_undo_57 : decode prog_9_method_69_code 57 = .ok (.getfield 45, 3) := by decide +kernel
theorem d_M_undo_60 : decode prog_9_method_69_code 60 = .ok (.ireturn, 1) := by decide +kernel
theorem d_M_save_0 : decode prog_9_method_70_code 0 = .ok (.iload_n 1, 1) := by decide +kernel
theorem d_M_save_1 : decode prog_9_method_70_code 1 = .ok (.iconst 0, 1) := by decide +kernel
theorem d_M_save_2 : decode prog_9_method_70_code 2 = .ok (.iconst 1, 1) := by decide +kernel
theorem d_M_save_3 : decode prog_9_method_70_code 3 = .ok (.invokestatic 49, 3) := by decide +kernel
theorem d_M_save_6 : decode prog_9_method_70_code 6 = .ok (.ifCond .ne 6, 3) := by decide +kernel
theorem d_M_save_9 : decode prog_9_method_70_code 9 = .ok (.bipush (-2), 2) := by decide +kernel
theorem d_M_save_11 : decode prog_9_method_70_code 11 = .ok (.ireturn, 1) := by decide +kernel
theorem d_M_save_12 : decode prog_9_method_70_code 12 = .ok (.iconst 0, 1) := by decide +kernel
theorem d_M_save_13 : decode prog_9_method_70_code 13 = .ok (.istore_n 2, 1) := by decide +kernel
theorem d_M_save_14 : decode prog_9_method_70_code 14 = .ok (.iload_n 2, 1) := by decide +kernel
theorem d_M_save_15 : decode prog_9_method_70_code 15 = .ok (.sipush 760, 3) := by decide +kernel
theorem d_M_save_18 : decode prog_9_method_70_code 18 = .ok (.if_icmp .ge 27, 3) := by decide +kernel
theorem d_M_save_21 : decode prog_9_method_70_code 21 = .ok (.aload_n 0, 1) := by decide +kernel
theorem d_M_save_22 : decode prog_9_method_70_code 22 = .ok (.getfield 19, 3) := by decide +kernel
theorem d_M_save_25 : decode prog_9_method_70_code 25 = .ok (.iload_n 1, 1) := by decide +kernel
theorem d_M_save_26 : decode prog_9_method_70_code 26 = .ok (.sipush 760, 3) := by decide +kernel
theorem d_M_save_29 : decode prog_9_method_70_code 29 = .ok (.imul, 1) := by decide +kernel
theorem d_M_save_30 : decode prog_9_method_70_code 30 = .ok (.iload_n 2, 1) := by decide +kernel
theorem d_M_save_31 : decode prog_9_method_70_code 31 = .ok (.iadd, 1) := by decide +kernel
theorem d_M_save_32 : decode prog_9_method_70_code 32 = .ok (.aload_n 0, 1) := by decide +kernel
theorem d_M_save_33 : decode prog_9_method_70_code 33 = .ok (.getfield 7, 3) := by decide +kernel
theorem d_M_save_36 : decode prog_9_method_70_code 36 = .ok (.iload_n 2, 1) := by decide +kernel
theorem d_M_save_37 : decode prog_9_method_70_code 37 = .ok (.iaload, 1) := by decide +kernel
theorem d_M_save_38 : decode prog_9_method_70_code 38 = .ok (.iastore, 1) := by decide +kernel
theorem d_M_save_39 : decode prog_9_method_70_code 39 = .ok (.iinc 2 1, 3) := by decide +kernel
theorem d_M_save_42 : decode prog_9_method_70_code 42 = .ok (.goto (-28), 3) := by decide +kernel
theorem d_M_save_45 : decode prog_9_method_70_code 45 = .ok (.aload_n 0, 1) := by decide +kernel
theorem d_M_save_46 : decode prog_9_method_70_code 46 = .ok (.getfield 22, 3) := by decide +kernel
theorem d_M_save_49 : decode prog_9_method_70_code 49 = .ok (.iload_n 1, 1) := by decide +kernel
theorem d_M_save_50 : decode prog_9_method_70_code 50 = .ok (.iconst 1, 1) := by decide +kernel
theorem d_M_save_51 : decode prog_9_method_70_code 51 = .ok (.bastore, 1) := by decide +kernel
theorem d_M_save_52 : decode prog_9_method_70_code 52 = .ok (.aload_n 0, 1) := by decide +kernel
theorem d_M_save_53 : decode prog_9_method_70_code 53 = .ok (.getfield 7, 3) := by decide +kernel
theorem d_M_save_56 : decode prog_9_method_70_code 56 = .ok (.bipush 6, 2) := by decide +kernel
theorem d_M_save_58 : decode prog_9_method_70_code 58 = .ok (.iaload, 1) := by decide +kernel
theorem d_M_save_59 : decode prog_9_method_70_code 59 = .ok (.ireturn, 1) := by decide +kernel
theorem d_M_restore_0 : decode prog_9_method_71_code 0 = .ok (.iload_n 1, 1) := by decide +kernel
theorem d_M_restore_1 : decode prog_9_method_71_code 1 = .ok (.iconst 0, 1) := by decide +kernel
theorem d_M_restore_2 : decode prog_9_method_71_code 2 = .ok (.iconst 1, 1) := by decide +kernel
theorem d_M_restore_3 : decode prog_9_method_71_code 3 = .ok (.invokestatic 49, 3) := by decide +kernel
theorem d_M_restore_6 : decode prog_9_method_71_code 6 = .ok (.ifCond .ne 6, 3) := by decide +kernel
theorem d_M_restore_9 : decode prog_9_method_71_code 9 = .ok (.bipush (-2), 2) := by decide +kernel
theorem d_M_restore_11 : decode prog_9_method_71_code 11 = .ok (.ireturn, 1) := by decide +kernel
theorem d_M_restore_12 : decode prog_9_method_71_code 12 = .ok (.aload_n 0, 1) := by decide +kernel
theorem d_M_restore_13 : decode prog_9_method_71_code 13 = .ok (.getfield 22, 3) := by decide +kernel
theorem d_M_restore_16 : decode prog_9_method_71_code 16 = .ok (.iload_n 1, 1) := by decide +kernel
theorem d_M_restore_17 : decode prog_9_method_71_code 17 = .ok (.baload, 1) := by decide +kernel
theorem d_M_restore_18 : decode prog_9_method_71_code 18 = .ok (.ifCond .ne 6, 3) := by decide +kernel
theorem d_M_restore_21 : decode prog_9_method_71_code 21 = .ok (.bipush (-5), 2) := by decide +kernel
theorem d_M_restore_23 : decode prog_9_method_71_code 23 = .ok (.ireturn, 1) := by decide +kernel
theorem d_M_restore_24 : decode prog_9_method_71_code 24 = .ok (.aload_n 0, 1) := by decide +kernel
theorem d_M_restore_25 : decode prog_9_method_71_code 25 = .ok (.invokevirtual 53, 3) := by decide +kernel
theorem d_M_restore_28 : decode prog_9_method_71_code 28 = .ok (.iconst 0, 1) := by decide +kernel
theorem d_M_restore_29 : decode prog_9_method_71_code 29 = .ok (.istore_n 2, 1) := by decide +kernel
theorem d_M_restore_30 : decode prog_9_method_71_code 30 = .ok (.iload_n 2, 1) := by decide +kernel
theorem d_M_restore_31 : decode prog_9_method_71_code 31 = .ok (.sipush 760, 3) := by decide +kernel
theorem d_M_restore_34 : decode prog_9_method_71_code 34 = .ok (.if_icmp .ge 27, 3) := by decide +kernel
theorem d_M_restore_37 : decode prog_9_method_71_code 37 = .ok (.aload_n 0, 1) := by decide +kernel
theorem d_M_restore_38 : decode prog_9_method_71_code 38 = .ok (.getfield 7, 3) := by decide +kernel
theorem d_M_restore_41 : decode prog_9_method_71_code 41 = .ok (.iload_n 2, 1) := by decide +kernel
theorem d_M_restore_42 : decode prog_9_method_71_code 42 = .ok (.aload_n 0, 1) := by decide +kernel
theorem d_M_restore_43 : decode prog_9_method_71_code 43 = .ok (.getfield 19, 3) := by decide +kernel
theorem d_M_restore_46 : decode prog_9_method_71_code 46 = .ok (.iload_n 1, 1) := by decide +kernel
theorem d_M_restore_47 : decode prog_9_method_71_code 47 = .ok (.sipush 760, 3) := by decide +kernel
theorem d_M_restore_50 : decode prog_9_method_71_code 50 = .ok (.imul, 1) := by decide +kernel
theorem d_M_restore_51 : decode prog_9_method_71_code 51 = .ok (.iload_n 2, 1) := by decide +kernel
theorem d_M_restore_52 : decode prog_9_method_71_code 52 = .ok (.iadd, 1) := by decide +kernel
theorem d_M_restore_53 : decode prog_9_method_71_code 53 = .ok (.iaload, 1) := by decide +kernel
theorem d_M_restore_54 : decode prog_9_method_71_code 54 = .ok (.iastore, 1) := by decide +kernel
theorem d_M_restore_55 : decode prog_9_method_71_code 55 = .ok (.iinc 2 1, 3) := by decide +kernel
theorem d_M_restore_58 : decode prog_9_method_71_code 58 = .ok (.goto (-28), 3) := by decide +kernel
theorem d_M_restore_61 : decode prog_9_method_71_code 61 = .ok (.aload_n 0, 1) := by decide +kernel
theorem d_M_restore_62 : decode prog_9_method_71_code 62 = .ok (.getfield 7, 3) := by decide +kernel
theorem d_M_restore_65 : decode prog_9_method_71_code 65 = .ok (.bipush 6, 2) := by decide +kernel
theorem d_M_restore_67 : decode prog_9_method_71_code 67 = .ok (.iaload, 1) := by decide +kernel
theorem d_M_restore_68 : decode prog_9_method_71_code 68 = .ok (.ireturn, 1) := by decide +kernel
theorem d_L_law_0 : decode code 0 = .ok (.new 7, 3) := by decide +kernel
theorem d_L_law_3 : decode code 3 = .ok (.dup, 1) := by decide +kernel
theorem d_L_law_4 : decode code 4 = .ok (.invokespecial 9, 3) := by decide +kernel
theorem d_L_law_7 : decode code 7 = .ok (.astore_n 1, 1) := by decide +kernel
theorem d_L_law_8 : decode code 8 = .ok (.new 10, 3) := by decide +kernel
theorem d_L_law_11 : decode code 11 = .ok (.dup, 1) := by decide +kernel
theorem d_L_law_12 : decode code 12 = .ok (.invokespecial 12, 3) := by decide +kernel
theorem d_L_law_15 : decode code 15 = .ok (.astore_n 2, 1) := by decide +kernel
theorem d_L_law_16 : decode code 16 = .ok (.iconst 0, 1) := by decide +kernel
theorem d_L_law_17 : decode code 17 = .ok (.istore_n 3, 1) := by decide +kernel
theorem d_L_law_18 : decode code 18 = .ok (.iload_n 3, 1) := by decide +kernel
theorem d_L_law_19 : decode code 19 = .ok (.aload_n 0, 1) := by decide +kernel
theorem d_L_law_20 : decode code 20 = .ok (.arraylength, 1) := by decide +kernel
theorem d_L_law_21 : decode code 21 = .ok (.iconst 4, 1) := by decide +kernel
theorem d_L_law_22 : decode code 22 = .ok (.isub, 1) := by decide +kernel
theorem d_L_law_23 : decode code 23 = .ok (.if_icmp .gt 1055, 3) := by decide +kernel
theorem d_L_law_26 : decode code 26 = .ok (.aload_n 0, 1) := by decide +kernel
theorem d_L_law_27 : decode code 27 = .ok (.iload_n 3, 1) := by decide +kernel
theorem d_L_law_28 : decode code 28 = .ok (.iaload, 1) := by decide +kernel
theorem d_L_law_29 : decode code 29 = .ok (.bipush 31, 2) := by decide +kernel
theorem d_L_law_31 : decode code 31 = .ok (.iand, 1) := by decide +kernel
theorem d_L_law_32 : decode code 32 = .ok (.tableswitch 1040 0 31 #[144, 177, 210, 243, 266, 289, 312, 355, 398, 441, 484, 507, 540, 553, 576, 599, 632, 665, 708, 731, 754, 777, 810, 833, 856, 889, 942, 955, 968, 981, 994, 1017], 144) := by decide +kernel
theorem d_L_law_176 : decode code 176 = .ok (.aload_n 1, 1) := by decide +kernel
theorem d_L_law_177 : decode code 177 = .ok (.aload_n 0, 1) := by decide +kernel
theorem d_L_law_178 : decode code 178 = .ok (.iload_n 3, 1) := by decide +kernel
theorem d_L_law_179 : decode code 179 = .ok (.iconst 1, 1) := by decide +kernel
theorem d_L_law_180 : decode code 180 = .ok (.iadd, 1) := by decide +kernel
theorem d_L_law_181 : decode code 181 = .ok (.iaload, 1) := by decide +kernel
theorem d_L_law_182 : decode code 182 = .ok (.aload_n 0, 1) := by decide +kernel
theorem d_L_law_183 : decode code 183 = .ok (.iload_n 3, 1) := by decide +kernel
theorem d_L_law_184 : decode code 184 = .ok (.iconst 2, 1) := by decide +kernel
theorem d_L_law_185 : decode code 185 = .ok (.iadd, 1) := by decide +kernel
theorem d_L_law_186 : decode code 186 = .ok (.iaload, 1) := by decide +kernel
theorem d_L_law_187 : decode code 187 = .ok (.invokevirtual 13, 3) := by decide +kernel
theorem d_L_law_190 : decode code 190 = .ok (.aload_n 2, 1) := by decide +kernel
theorem d_L_law_191 : decode code 191 = .ok (.aload_n 0, 1) := by decide +kernel
theorem d_L_law_192 : decode code 192 = .ok (.iload_n 3, 1) := by decide +kernel
theorem d_L_law_193 : decode code 193 = .ok (.iconst 1, 1) := by decide +kernel
theorem d_L_law_194 : decode code 194 = .ok (.iadd, 1) := by decide +kernel
theorem d_L_law_195 : decode code 195 = .ok (.iaload, 1) := by decide +kernel
theorem d_L_law_196 : decode code 196 = .ok (.aload_n 0, 1) := by decide +kernel
theorem d_L_law_197 : decode code 197 = .ok (.iload_n 3, 1) := by decide +kernel
theorem d_L_law_198 : decode code 198 = .ok (.iconst 2, 1) := by decide +kernel
theorem d_L_law_199 : decode code 199 = .ok (.iadd, 1) := by decide +kernel
theorem d_L_law_200 : decode code 200 = .ok (.iaload, 1) := by decide +kernel
theorem d_L_law_201 : decode code 201 = .ok (.invokevirtual 17, 3) := by decide +kernel
theorem d_L_law_204 : decode code 204 = .ok (.if_icmp .eq 868, 3) := by decide +kernel
theorem d_L_law_207 : decode code 207 = .ok (.iconst 0, 1) := by decide +kernel
theorem d_L_law_208 : decode code 208 = .ok (.ireturn, 1) := by decide +kernel
theorem d_L_law_209 : decode code 209 = .ok (.aload_n 1, 1) := by decide +kernel
theorem d_L_law_210 : decode code 210 = .ok (.aload_n 0, 1) := by decide +kernel
theorem d_L_law_211 : decode code 211 = .ok (.iload_n 3, 1) := by decide +kernel
theorem d_L_law_212 : decode code 212 = .ok (.iconst 1, 1) := by decide +kernel
theorem d_L_law_213 : decode code 213 = .ok (.iadd, 1) := by decide +kernel
theorem d_L_law_214 : decode code 214 = .ok (.iaload, 1) := by decide +kernel
theorem d_L_law_215 : decode code 215 = .ok (.aload_n 0, 1) := by decide +kernel
theorem d_L_law_216 : decode code 216 = .ok (.iload_n 3, 1) := by decide +kernel
theorem d_L_law_217 : decode code 217 = .ok (.iconst 2, 1) := by decide +kernel
theorem d_L_law_218 : decode code 218 = .ok (.iadd, 1) := by decide +kernel
theorem d_L_law_219 : decode code 219 = .ok (.iaload, 1) := by decide +kernel
theorem d_L_law_220 : decode code 220 = .ok (.invokevirtual 18, 3) := by decide +kernel
theorem d_L_law_223 : decode code 223 = .ok (.aload_n 2, 1) := by decide +kernel
theorem d_L_law_224 : decode code 224 = .ok (.aload_n 0, 1) := by decide +kernel
theorem d_L_law_225 : decode code 225 = .ok (.iload_n 3, 1) := by decide +kernel
theorem d_L_law_226 : decode code 226 = .ok (.iconst 1, 1) := by decide +kernel
theorem d_L_law_227 : decode code 227 = .ok (.iadd, 1) := by decide +kernel
theorem d_L_law_228 : decode code 228 = .ok (.iaload, 1) := by decide +kernel
theorem d_L_law_229 : decode code 229 = .ok (.aload_n 0, 1) := by decide +kernel
theorem d_L_law_230 : decode code 230 = .ok (.iload_n 3, 1) := by decide +kernel
theorem d_L_law_231 : decode code 231 = .ok (.iconst 2, 1) := by decide +kernel
theorem d_L_law_232 : decode code 232 = .ok (.iadd, 1) := by decide +kernel
theorem d_L_law_233 : decode code 233 = .ok (.iaload, 1) := by decide +kernel
theorem d_L_law_234 : decode code 234 = .ok (.invokevirtual 21, 3) := by decide +kernel
theorem d_L_law_237 : decode code 237 = .ok (.if_icmp .eq 835, 3) := by decide +kernel
theorem d_L_law_240 : decode code 240 = .ok (.iconst 0, 1) := by decide +kernel
theorem d_L_law_241 : decode code 241 = .ok (.ireturn, 1) := by decide +kernel
theorem d_L_law_242 : decode code 242 = .ok (.aload_n 1, 1) := by decide +kernel
theorem d_L_law_243 : decode code 243 = .ok (.aload_n 0, 1) := by decide +kernel
theorem d_L_law_244 : decode code 244 = .ok (.iload_n 3, 1) := by decide +kernel
theorem d_L_law_245 : decode code 245 = .ok (.iconst 1, 1) := by decide +kernel
theorem d_L_law_246 : decode code 246 = .ok (.iadd, 1) := by decide +kernel
theorem d_L_law_247 : decode code 247 = .ok (.iaload, 1) := by decide +kernel
theorem d_L_law_248 : decode code 248 = .ok (.aload_n 0, 1) := by decide +kernel
theorem d_L_law_249 : decode code 249 = .ok (.iload_n 3, 1) := by decide +kernel
theorem d_L_law_250 : decode code 250 = .ok (.iconst 2, 1) := by decide +kernel
theorem d_L_law_251 : decode code 251 = .ok (.iadd, 1) := by decide +kernel
theorem d_L_law_252 : decode code 252 = .ok (.iaload, 1) := by decide +kernel
theorem d_L_law_253 : decode code 253 = .ok (.invokevirtual 22, 3) := by decide +kernel
theorem d_L_law_256 : decode code 256 = .ok (.aload_n 2, 1) := by decide +kernel
theorem d_L_law_257 : decode code 257 = .ok (.aload_n 0, 1) := by decide +kernel
theorem d_L_law_258 : decode code 258 = .ok (.iload_n 3, 1) := by decide +kernel
theorem d_L_law_259 : decode code 259 = .ok (.iconst 1, 1) := by decide +kernel
theorem d_L_law_260 : decode code 260 = .ok (.iadd, 1) := by decide +kernel
theorem d_L_law_261 : decode code 261 = .ok (.iaload, 1) := by decide +kernel
theorem d_L_law_262 : decode code 262 = .ok (.aload_n 0, 1) := by decide +kernel
theorem d_L_law_263 : decode code 263 = .ok (.iload_n 3, 1) := by decide +kernel
theorem d_L_law_264 : decode code 264 = .ok (.iconst 2, 1) := by decide +kernel
theorem d_L_law_265 : decode code 265 = .ok (.iadd, 1) := by decide +kernel
theorem d_L_law_266 : decode code 266 = .ok (.iaload, 1) := by decide +kernel
theorem d_L_law_267 : decode code 267 = .ok (.invokevirtual 25, 3) := by decide +kernel
theorem d_L_law_270 : decode code 270 = .ok (.if_icmp .eq 802, 3) := by decide +kernel
theorem d_L_law_273 : decode code 273 = .ok (.iconst 0, 1) := by decide +kernel
theorem d_L_law_274 : decode code 274 = .ok (.ireturn, 1) := by decide +kernel
theorem d_L_law_275 : decode code 275 = .ok (.aload_n 1, 1) := by decide +kernel
theorem d_L_law_276 : decode code 276 = .ok (.aload_n 0, 1) := by decide +kernel
theorem d_L_law_277 : decode code 277 = .ok (.iload_n 3, 1) := by decide +kernel
theorem d_L_law_278 : decode code 278 = .ok (.iconst 1, 1) := by decide +kernel
theorem d_L_law_279 : decode code 279 = .ok (.iadd, 1) := by decide +kernel
theorem d_L_law_280 : decode code 280 = .ok (.iaload, 1) := by decide +kernel
theorem d_L_law_281 : decode code 281 = .ok (.invokevirtual 26, 3) := by decide +kernel
theorem d_L_law_284 : decode code 284 = .ok (.aload_n 2, 1) := by decide +kernel
theorem d_L_law_285 : decode code 285 = .ok (.aload_n 0, 1) := by decide +kernel
theorem d_L_law_286 : decode code 286 = .ok (.iload_n 3, 1) := by decide +kernel
theorem d_L_law_287 : decode code 287 = .ok (.iconst 1, 1) := by decide +kernel
theorem d_L_law_288 : decode code 288 = .ok (.iadd, 1) := by decide +kernel
theorem d_L_law_289 : decode code 289 = .ok (.iaload, 1) := by decide +kernel
theorem d_L_law_290 : decode code 290 = .ok (.invokevirtual 30, 3) := by decide +kernel
theorem d_L_law_293 : decode code 293 = .ok (.if_icmp .eq 779, 3) := by decide +kernel
theorem d_L_law_296 : decode code 296 = .ok (.iconst 0, 1) := by decide +kernel
theorem d_L_law_297 : decode code 297 = .ok (.ireturn, 1) := by decide +kernel
theorem d_L_law_298 : decode code 298 = .ok (.aload_n 1, 1) := by decide +kernel
theorem d_L_law_299 : decode code 299 = .ok (.aload_n 0, 1) := by decide +kernel
theorem d_L_law_300 : decode code 300 = .ok (.iload_n 3, 1) := by decide +kernel
theorem d_L_law_301 : decode code 301 = .ok (.iconst 1, 1) := by decide +kernel
theorem d_L_law_302 : decode code 302 = .ok (.iadd, 1) := by decide +kernel
theorem d_L_law_303 : decode code 303 = .ok (.iaload, 1) := by decide +kernel
theorem d_L_law_304 : decode code 304 = .ok (.invokevirtual 31, 3) := by decide +kernel
theorem d_L_law_307 : decode code 307 = .ok (.aload_n 2, 1) := by decide +kernel
theorem d_L_law_308 : decode code 308 = .ok (.aload_n 0, 1) := by decide +kernel
theorem d_L_law_309 : decode code 309 = .ok (.iload_n 3, 1) := by decide +kernel
theorem d_L_law_310 : decode code 310 = .ok (.iconst 1, 1) := by decide +kernel
theorem d_L_law_311 : decode code 311 = .ok (.iadd, 1) := by decide +kernel
theorem d_L_law_312 : decode code 312 = .ok (.iaload, 1) := by decide +kernel
theorem d_L_law_313 : decode code 313 = .ok (.invokevirtual 34, 3) := by decide +kernel
theorem d_L_law_316 : decode code 316 = .ok (.if_icmp .eq 756, 3) := by decide +kernel
theorem d_L_law_319 : decode code 319 = .ok (.iconst 0, 1) := by decide +kernel
theorem d_L_law_320 : decode code 320 = .ok (.ireturn, 1) := by decide +kernel
theorem d_L_law_321 : decode code 321 = .ok (.aload_n 1, 1) := by decide +kernel
theorem d_L_law_322 : decode code 322 = .ok (.aload_n 0, 1) := by decide +kernel
theorem d_L_law_323 : decode code 323 = .ok (.iload_n 3, 1) := by decide +kernel
theorem d_L_law_324 : decode code 324 = .ok (.iconst 1, 1) := by decide +kernel
theorem d_L_law_325 : decode code 325 = .ok (.iadd, 1) := by decide +kernel
theorem d_L_law_326 : decode code 326 = .ok (.iaload, 1) := by decide +kernel
theorem d_L_law_327 : decode code 327 = .ok (.invokevirtual 35, 3) := by decide +kernel
theorem d_L_law_330 : decode code 330 = .ok (.aload_n 2, 1) := by decide +kernel
theorem d_L_law_331 : decode code 331 = .ok (.aload_n 0, 1) := by decide +kernel
theorem d_L_law_332 : decode code 332 = .ok (.iload_n 3, 1) := by decide +kernel
theorem d_L_law_333 : decode code 333 = .ok (.iconst 1, 1) := by decide +kernel
theorem d_L_law_334 : decode code 334 = .ok (.iadd, 1) := by decide +kernel
theorem d_L_law_335 : decode code 335 = .ok (.iaload, 1) := by decide +kernel
theorem d_L_law_336 : decode code 336 = .ok (.invokevirtual 38, 3) := by decide +kernel
theorem d_L_law_339 : decode code 339 = .ok (.if_icmp .eq 733, 3) := by decide +kernel
theorem d_L_law_342 : decode code 342 = .ok (.iconst 0, 1) := by decide +kernel
theorem d_L_law_343 : decode code 343 = .ok (.ireturn, 1) := by decide +kernel
theorem d_L_law_344 : decode code 344 = .ok (.aload_n 1, 1) := by decide +kernel
theorem d_L_law_345 : decode code 345 = .ok (.aload_n 0, 1) := by decide +kernel
theorem d_L_law_346 : decode code 346 = .ok (.iload_n 3, 1) := by decide +kernel
theorem d_L_law_347 : decode code 347 = .ok (.iconst 1, 1) := by decide +kernel
theorem d_L_law_348 : decode code 348 = .ok (.iadd, 1) := by decide +kernel
theorem d_L_law_349 : decode code 349 = .ok (.iaload, 1) := by decide +kernel
theorem d_L_law_350 : decode code 350 = .ok (.aload_n 0, 1) := by decide +kernel
theorem d_L_law_351 : decode code 351 = .ok (.iload_n 3, 1) := by decide +kernel
theorem d_L_law_352 : decode code 352 = .ok (.iconst 2, 1) := by decide +kernel
theorem d_L_law_353 : decode code 353 = .ok (.iadd, 1) := by decide +kernel
theorem d_L_law_354 : decode code 354 = .ok (.iaload, 1) := by decide +kernel
theorem d_L_law_355 : decode code 355 = .ok (.aload_n 0, 1) := by decide +kernel
theorem d_L_law_356 : decode code 356 = .ok (.iload_n 3, 1) := by decide +kernel
theorem d_L_law_357 : decode code 357 = .ok (.iconst 3, 1) := by decide +kernel
theorem d_L_law_358 : decode code 358 = .ok (.iadd, 1) := by decide +kernel
theorem d_L_law_359 : decode code 359 = .ok (.iaload, 1) := by decide +kernel
theorem d_L_law_360 : decode code 360 = .ok (.invokevirtual 39, 3) := by decide +kernel
theorem d_L_law_363 : decode code 363 = .ok (.aload_n 2, 1) := by decide +kernel
theorem d_L_law_364 : decode code 364 = .ok (.aload_n 0, 1) := by decide +kernel
theorem d_L_law_365 : decode code 365 = .ok (.iload_n 3, 1) := by decide +kernel
theorem d_L_law_366 : decode code 366 = .ok (.iconst 1, 1) := by decide +kernel
theorem d_L_law_367 : decode code 367 = .ok (.iadd, 1) := by decide +kernel
theorem d_L_law_368 : decode code 368 = .ok (.iaload, 1) := by decide +kernel
theorem d_L_law_369 : decode code 369 = .ok (.aload_n 0, 1) := by decide +kernel
theorem d_L_law_370 : decode code 370 = .ok (.iload_n 3, 1) := by decide +kernel
theorem d_L_law_371 : decode code 371 = .ok (.iconst 2, 1) := by decide +kernel
theorem d_L_law_372 : decode code 372 = .ok (.iadd, 1) := by decide +kernel
theorem d_L_law_373 : decode code 373 = .ok (.iaload, 1) := by decide +kernel
theorem d_L_law_374 : decode code 374 = .ok (.aload_n 0, 1) := by decide +kernel
theorem d_L_law_375 : decode code 375 = .ok (.iload_n 3, 1) := by decide +kernel
theorem d_L_law_376 : decode code 376 = .ok (.iconst 3, 1) := by decide +kernel
theorem d_L_law_377 : decode code 377 = .ok (.iadd, 1) := by decide +kernel
theorem d_L_law_378 : decode code 378 = .ok (.iaload, 1) := by decide +kernel
theorem d_L_law_379 : decode code 379 = .ok (.invokevirtual 43, 3) := by decide +kernel
theorem d_L_law_382 : decode code 382 = .ok (.if_icmp .eq 690, 3) := by decide +kernel
theorem d_L_law_385 : decode code 385 = .ok (.iconst 0, 1) := by decide +kernel
theorem d_L_law_386 : decode code 386 = .ok (.ireturn, 1) := by decide +kernel
theorem d_L_law_387 : decode code 387 = .ok (.aload_n 1, 1) := by decide +kernel
theorem d_L_law_388 : decode code 388 = .ok (.aload_n 0, 1) := by decide +kernel
theorem d_L_law_389 : decode code 389 = .ok (.iload_n 3, 1) := by decide +kernel
theorem d_L_law_390 : decode code 390 = .ok (.iconst 1, 1) := by decide +kernel
theorem d_L_law_391 : decode code 391 = .ok (.iadd, 1) := by decide +kernel
theorem d_L_law_392 : decode code 392 = .ok (.iaload, 1) := by decide +kernel
theorem d_L_law_393 : decode code 393 = .ok (.aload_n 0, 1) := by decide +kernel
theorem d_L_law_394 : decode code 394 = .ok (.iload_n 3, 1) := by decide +kernel
theorem d_L_law_395 : decode code 395 = .ok (.iconst 2, 1) := by decide +kernel
theorem d_L_law_396 : decode code 396 = .ok (.iadd, 1) := by decide +kernel
theorem d_L_law_397 : decode code 397 = .ok (.iaload, 1) := by decide +kernel
theorem d_L_law_398 : decode code 398 = .ok (.aload_n 0, 1) := by decide +kernel
theorem d_L_law_399 : decode code 399 = .ok (.iload_n 3, 1) := by decide +kernel
theorem d_L_law_400 : decode code 400 = .ok (.iconst 3, 1) := by decide +kernel
theorem d_L_law_401 : decode code 401 = .ok (.iadd, 1) := by decide +kernel
theorem d_L_law_402 : decode code 402 = .ok (.iaload, 1) := by decide +kernel
theorem d_L_law_403 : decode code 403 = .ok (.invokevirtual 44, 3) := by decide +kernel
theorem d_L_law_406 : decode code 406 = .ok (.aload_n 2, 1) := by decide +kernel
theorem d_L_law_407 : decode code 407 = .ok (.aload_n 0, 1) := by decide +kernel
theorem d_L_law_408 : decode code 408 = .ok (.iload_n 3, 1) := by decide +kernel
theorem d_L_law_409 : decode code 409 = .ok (.iconst 1, 1) := by decide +kernel
theorem d_L_law_410 : decode code 410 = .ok (.iadd, 1) := by decide +kernel
theorem d_L_law_411 : decode code 411 = .ok (.iaload, 1) := by decide +kernel
theorem d_L_law_412 : decode code 412 = .ok (.aload_n 0, 1) := by decide +kernel
theorem d_L_law_413 : decode code 413 = .ok (.iload_n 3, 1) := by decide +kernel
theorem d_L_law_414 : decode code 414 = .ok (.iconst 2, 1) := by decide +kernel
theorem d_L_law_415 : decode code 415 = .ok (.iadd, 1) := by decide +kernel
theorem d_L_law_416 : decode code 416 = .ok (.iaload, 1) := by decide +kernel
theorem d_L_law_417 : decode code 417 = .ok (.aload_n 0, 1) := by decide +kernel
theorem d_L_law_418 : decode code 418 = .ok (.iload_n 3, 1) := by decide +kernel
theorem d_L_law_419 : decode code 419 = .ok (.iconst 3, 1) := by decide +kernel
theorem d_L_law_420 : decode code 420 = .ok (.iadd, 1) := by decide +kernel
theorem d_L_law_421 : decode code 421 = .ok (.iaload, 1) := by decide +kernel
theorem d_L_law_422 : decode code 422 = .ok (.invokevirtual 47, 3) := by decide +kernel
theorem d_L_law_425 : decode code 425 = .ok (.if_icmp .eq 647, 3) := by decide +kernel
theorem d_L_law_428 : decode code 428 = .ok (.iconst 0, 1) := by decide +kernel
theorem d_L_law_429 : decode code 429 = .ok (.ireturn, 1) := by decide +kernel
theorem d_L_law_430 : decode code 430 = .ok (.aload_n 1, 1) := by decide +kernel
theorem d_L_law_431 : decode code 431 = .ok (.aload_n 0, 1) := by decide +kernel
theorem d_L_law_432 : decode code 432 = .ok (.iload_n 3, 1) := by decide +kernel
theorem d_L_law_433 : decode code 433 = .ok (.iconst 1, 1) := by decide +kernel
theorem d_L_law_434 : decode code 434 = .ok (.iadd, 1) := by decide +kernel
theorem d_L_law_435 : decode code 435 = .ok (.iaload, 1) := by decide +kernel
theorem d_L_law_436 : decode code 436 = .ok (.aload_n 0, 1) := by decide +kernel
theorem d_L_law_437 : decode code 437 = .ok (.iload_n 3, 1) := by decide +kernel
theorem d_L_law_438 : decode code 438 = .ok (.iconst 2, 1) := by decide +kernel
theorem d_L_law_439 : decode code 439 = .ok (.iadd, 1) := by decide +kernel
theorem d_L_law_440 : decode code 440 = .ok (.iaload, 1) := by decide +kernel
theorem d_L_law_441 : decode code 441 = .ok (.aload_n 0, 1) := by decide +kernel
theorem d_L_law_442 : decode code 442 = .ok (.iload_n 3, 1) := by decide +kernel
theorem d_L_law_443 : decode code 443 = .ok (.iconst 3, 1) := by decide +kernel
theorem d_L_law_444 : decode code 444 = .ok (.iadd, 1) := by decide +kernel
theorem d_L_law_445 : decode code 445 = .ok (.iaload, 1) := by decide +kernel
theorem d_L_law_446 : decode code 446 = .ok (.invokevirtual 48, 3) := by decide +kernel
theorem d_L_law_449 : decode code 449 = .ok (.aload_n 2, 1) := by decide +kernel
theorem d_L_law_450 : decode code 450 = .ok (.aload_n 0, 1) := by decide +kernel
theorem d_L_law_451 : decode code 451 = .ok (.iload_n 3, 1) := by decide +kernel
theorem d_L_law_452 : decode code 452 = .ok (.iconst 1, 1) := by decide +kernel
theorem d_L_law_453 : decode code 453 = .ok (.iadd, 1) := by decide +kernel
theorem d_L_law_454 : decode code 454 = .ok (.iaload, 1) := by decide +kernel
theorem d_L_law_455 : decode code 455 = .ok (.aload_n 0, 1) := by decide +kernel
theorem d_L_law_456 : decode code 456 = .ok (.iload_n 3, 1) := by decide +kernel
theorem d_L_law_457 : decode code 457 = .ok (.iconst 2, 1) := by decide +kernel
theorem d_L_law_458 : decode code 458 = .ok (.iadd, 1) := by decide +kernel
theorem d_L_law_459 : decode code 459 = .ok (.iaload, 1) := by decide +kernel
theorem d_L_law_460 : decode code 460 = .ok (.aload_n 0, 1) := by decide +kernel
theorem d_L_law_461 : decode code 461 = .ok (.iload_n 3, 1) := by decide +kernel
theorem d_L_law_462 : decode code 462 = .ok (.iconst 3, 1) := by decide +kernel
theorem d_L_law_463 : decode code 463 = .ok (.iadd, 1) := by decide +kernel
theorem d_L_law_464 : decode code 464 = .ok (.iaload, 1) := by decide +kernel
theorem d_L_law_465 : decode code 465 = .ok (.invokevirtual 51, 3) := by decide +kernel
theorem d_L_law_468 : decode code 468 = .ok (.if_icmp .eq 604, 3) := by decide +kernel
theorem d_L_law_471 : decode code 471 = .ok (.iconst 0, 1) := by decide +kernel
theorem d_L_law_472 : decode code 472 = .ok (.ireturn, 1) := by decide +kernel
theorem d_L_law_473 : decode code 473 = .ok (.aload_n 1, 1) := by decide +kernel
theorem d_L_law_474 : decode code 474 = .ok (.aload_n 0, 1) := by decide +kernel
theorem d_L_law_475 : decode code 475 = .ok (.iload_n 3, 1) := by decide +kernel
theorem d_L_law_476 : decode code 476 = .ok (.iconst 1, 1) := by decide +kernel
theorem d_L_law_477 : decode code 477 = .ok (.iadd, 1) := by decide +kernel
theorem d_L_law_478 : decode code 478 = .ok (.iaload, 1) := by decide +kernel
theorem d_L_law_479 : decode code 479 = .ok (.aload_n 0, 1) := by decide +kernel
theorem d_L_law_480 : decode code 480 = .ok (.iload_n 3, 1) := by decide +kernel
theorem d_L_law_481 : decode code 481 = .ok (.iconst 2, 1) := by decide +kernel
theorem d_L_law_482 : decode code 482 = .ok (.iadd, 1) := by decide +kernel
theorem d_L_law_483 : decode code 483 = .ok (.iaload, 1) := by decide +kernel
theorem d_L_law_484 : decode code 484 = .ok (.aload_n 0, 1) := by decide +kernel
theorem d_L_law_485 : decode code 485 = .ok (.iload_n 3, 1) := by decide +kernel
theorem d_L_law_486 : decode code 486 = .ok (.iconst 3, 1) := by decide +kernel
theorem d_L_law_487 : decode code 487 = .ok (.iadd, 1) := by decide +kernel
theorem d_L_law_488 : decode code 488 = .ok (.iaload, 1) := by decide +kernel
theorem d_L_law_489 : decode code 489 = .ok (.invokevirtual 52, 3) := by decide +kernel
theorem d_L_law_492 : decode code 492 = .ok (.aload_n 2, 1) := by decide +kernel
theorem d_L_law_493 : decode code 493 = .ok (.aload_n 0, 1) := by decide +kernel
theorem d_L_law_494 : decode code 494 = .ok (.iload_n 3, 1) := by decide +kernel
theorem d_L_law_495 : decode code 495 = .ok (.iconst 1, 1) := by decide +kernel
theorem d_L_law_496 : decode code 496 = .ok (.iadd, 1) := by decide +kernel
theorem d_L_law_497 : decode code 497 = .ok (.iaload, 1) := by decide +kernel
theorem d_L_law_498 : decode code 498 = .ok (.aload_n 0, 1) := by decide +kernel
theorem d_L_law_499 : decode code 499 = .ok (.iload_n 3, 1) := by decide +kernel
theorem d_L_law_500 : decode code 500 = .ok (.iconst 2, 1) := by decide +kernel
theorem d_L_law_501 : decode code 501 = .ok (.iadd, 1) := by decide +kernel
theorem d_L_law_502 : decode code 502 = .ok (.iaload, 1) := by decide +kernel
theorem d_L_law_503 : decode code 503 = .ok (.aload_n 0, 1) := by decide +kernel
theorem d_L_law_504 : decode code 504 = .ok (.iload_n 3, 1) := by decide +kernel
theorem d_L_law_505 : decode code 505 = .ok (.iconst 3, 1) := by decide +kernel
theorem d_L_law_506 : decode code 506 = .ok (.iadd, 1) := by decide +kernel
theorem d_L_law_507 : decode code 507 = .ok (.iaload, 1) := by decide +kernel
theorem d_L_law_508 : decode code 508 = .ok (.invokevirtual 55, 3) := by decide +kernel
theorem d_L_law_511 : decode code 511 = .ok (.if_icmp .eq 561, 3) := by decide +kernel
theorem d_L_law_514 : decode code 514 = .ok (.iconst 0, 1) := by decide +kernel
theorem d_L_law_515 : decode code 515 = .ok (.ireturn, 1) := by decide +kernel
theorem d_L_law_516 : decode code 516 = .ok (.aload_n 1, 1) := by decide +kernel
theorem d_L_law_517 : decode code 517 = .ok (.aload_n 0, 1) := by decide +kernel
theorem d_L_law_518 : decode code 518 = .ok (.iload_n 3, 1) := by decide +kernel
theorem d_L_law_519 : decode code 519 = .ok (.iconst 1, 1) := by decide +kernel
theorem d_L_law_520 : decode code 520 = .ok (.iadd, 1) := by decide +kernel
theorem d_L_law_521 : decode code 521 = .ok (.iaload, 1) := by decide +kernel
theorem d_L_law_522 : decode code 522 = .ok (.invokevirtual 56, 3) := by decide +kernel
theorem d_L_law_525 : decode code 525 = .ok (.aload_n 2, 1) := by decide +kernel
theorem d_L_law_526 : decode code 526 = .ok (.aload_n 0, 1) := by decide +kernel
theorem d_L_law_527 : decode code 527 = .ok (.iload_n 3, 1) := by decide +kernel
theorem d_L_law_528 : decode code 528 = .ok (.iconst 1, 1) := by decide +kernel
theorem d_L_law_529 : decode code 529 = .ok (.iadd, 1) := by decide +kernel
theorem d_L_law_530 : decode code 530 = .ok (.iaload, 1) := by decide +kernel
theorem d_L_law_531 : decode code 531 = .ok (.invokevirtual 59, 3) := by decide +kernel
theorem d_L_law_534 : decode code 534 = .ok (.if_icmp .eq 538, 3) := by decide +kernel
theorem d_L_law_537 : decode code 537 = .ok (.iconst 0, 1) := by decide +kernel
theorem d_L_law_538 : decode code 538 = .ok (.ireturn, 1) := by decide +kernel
theorem d_L_law_539 : decode code 539 = .ok (.aload_n 1, 1) := by decide +kernel
theorem d_L_law_540 : decode code 540 = .ok (.aload_n 0, 1) := by decide +kernel
theorem d_L_law_541 : decode code 541 = .ok (.iload_n 3, 1) := by decide +kernel
theorem d_L_law_542 : decode code 542 = .ok (.iconst 1, 1) := by decide +kernel
theorem d_L_law_543 : decode code 543 = .ok (.iadd, 1) := by decide +kernel
theorem d_L_law_544 : decode code 544 = .ok (.iaload, 1) := by decide +kernel
theorem d_L_law_545 : decode code 545 = .ok (.aload_n 0, 1) := by decide +kernel
theorem d_L_law_546 : decode code 546 = .ok (.iload_n 3, 1) := by decide +kernel
theorem d_L_law_547 : decode code 547 = .ok (.iconst 2, 1) := by decide +kernel
theorem d_L_law_548 : decode code 548 = .ok (.iadd, 1) := by decide +kernel
theorem d_L_law_549 : decode code 549 = .ok (.iaload, 1) := by decide +kernel
theorem d_L_law_550 : decode code 550 = .ok (.invokevirtual 60, 3) := by decide +kernel
theorem d_L_law_553 : decode code 553 = .ok (.aload_n 2, 1) := by decide +kernel
theorem d_L_law_554 : decode code 554 = .ok (.aload_n 0, 1) := by decide +kernel
theorem d_L_law_555 : decode code 555 = .ok (.iload_n 3, 1) := by decide +kernel
theorem d_L_law_556 : decode code 556 = .ok (.iconst 1, 1) := by decide +kernel
theorem d_L_law_557 : decode code 557 = .ok (.iadd, 1) := by decide +kernel
theorem d_L_law_558 : decode code 558 = .ok (.iaload, 1) := by decide +kernel
theorem d_L_law_559 : decode code 559 = .ok (.aload_n 0, 1) := by decide +kernel
theorem d_L_law_560 : decode code 560 = .ok (.iload_n 3, 1) := by decide +kernel
theorem d_L_law_561 : decode code 561 = .ok (.iconst 2, 1) := by decide +kernel
theorem d_L_law_562 : decode code 562 = .ok (.iadd, 1) := by decide +kernel
theorem d_L_law_563 : decode code 563 = .ok (.iaload, 1) := by decide +kernel
theorem d_L_law_564 : decode code 564 = .ok (.invokevirtual 63, 3) := by decide +kernel
theorem d_L_law_567 : decode code 567 = .ok (.if_icmp .eq 505, 3) := by decide +kernel
theorem d_L_law_570 : decode code 570 = .ok (.iconst 0, 1) := by decide +kernel
theorem d_L_law_571 : decode code 571 = .ok (.ireturn, 1) := by decide +kernel
theorem d_L_law_572 : decode code 572 = .ok (.aload_n 1, 1) := by decide +kernel
theorem d_L_law_573 : decode code 573 = .ok (.invokevirtual 64, 3) := by decide +kernel
theorem d_L_law_576 : decode code 576 = .ok (.aload_n 2, 1) := by decide +kernel
theorem d_L_law_577 : decode code 577 = .ok (.invokevirtual 68, 3) := by decide +kernel
theorem d_L_law_580 : decode code 580 = .ok (.if_icmp .eq 492, 3) := by decide +kernel
theorem d_L_law_583 : decode code 583 = .ok (.iconst 0, 1) := by decide +kernel
theorem d_L_law_584 : decode code 584 = .ok (.ireturn, 1) := by decide +kernel
theorem d_L_law_585 : decode code 585 = .ok (.aload_n 1, 1) := by decide +kernel
theorem d_L_law_586 : decode code 586 = .ok (.aload_n 0, 1) := by decide +kernel
theorem d_L_law_587 : decode code 587 = .ok (.iload_n 3, 1) := by decide +kernel
theorem d_L_law_588 : decode code 588 = .ok (.iconst 1, 1) := by decide +kernel
theorem d_L_law_589 : decode code 589 = .ok (.iadd, 1) := by decide +kernel
theorem d_L_law_590 : decode code 590 = .ok (.iaload, 1) := by decide +kernel
theorem d_L_law_591 : decode code 591 = .ok (.invokevirtual 69, 3) := by decide +kernel
theorem d_L_law_594 : decode code 594 = .ok (.aload_n 2, 1) := by decide +kernel
theorem d_L_law_595 : decode code 595 = .ok (.aload_n 0, 1) := by decide +kernel
theorem d_L_law_596 : decode code 596 = .ok (.iload_n 3, 1) := by decide +kernel
theorem d_L_law_597 : decode code 597 = .ok (.iconst 1, 1) := by decide +kernel
theorem d_L_law_598 : decode code 598 = .ok (.iadd, 1) := by decide +kernel
theorem d_L_law_599 : decode code 599 = .ok (.iaload, 1) := by decide +kernel
theorem d_L_law_600 : decode code 600 = .ok (.invokevirtual 72, 3) := by decide +kernel
theorem d_L_law_603 : decode code 603 = .ok (.if_icmp .eq 469, 3) := by decide +kernel
theorem d_L_law_606 : decode code 606 = .ok (.iconst 0, 1) := by decide +kernel
theorem d_L_law_607 : decode code 607 = .ok (.ireturn, 1) := by decide +kernel
theorem d_L_law_608 : decode code 608 = .ok (.aload_n 1, 1) := by decide +kernel
theorem d_L_law_609 : decode code 609 = .ok (.aload_n 0, 1) := by decide +kernel
theorem d_L_law_610 : decode code 610 = .ok (.iload_n 3, 1) := by decide +kernel
theorem d_L_law_611 : decode code 611 = .ok (.iconst 1, 1) := by decide +kernel
theorem d_L_law_612 : decode code 612 = .ok (.iadd, 1) := by decide +kernel
theorem d_L_law_613 : decode code 613 = .ok (.iaload, 1) := by decide +kernel
theorem d_L_law_614 : decode code 614 = .ok (.invokevirtual 73, 3) := by decide +kernel
theorem d_L_law_617 : decode code 617 = .ok (.aload_n 2, 1) := by decide +kernel
theorem d_L_law_618 : decode code 618 = .ok (.aload_n 0, 1) := by decide +kernel
theorem d_L_law_619 : decode code 619 = .ok (.iload_n 3, 1) := by decide +kernel
theorem d_L_law_620 : decode code 620 = .ok (.iconst 1, 1) := by decide +kernel
theorem d_L_law_621 : decode code 621 = .ok (.iadd, 1) := by decide +kernel
theorem d_L_law_622 : decode code 622 = .ok (.iaload, 1) := by decide +kernel
theorem d_L_law_623 : decode code 623 = .ok (.invokevirtual 76, 3) := by decide +kernel
theorem d_L_law_626 : decode code 626 = .ok (.if_icmp .eq 446, 3) := by decide +kernel
theorem d_L_law_629 : decode code 629 = .ok (.iconst 0, 1) := by decide +kernel
theorem d_L_law_630 : decode code 630 = .ok (.ireturn, 1) := by decide +kernel
theorem d_L_law_631 : decode code 631 = .ok (.aload_n 1, 1) := by decide +kernel
theorem d_L_law_632 : decode code 632 = .ok (.aload_n 0, 1) := by decide +kernel
theorem d_L_law_633 : decode code 633 = .ok (.iload_n 3, 1) := by decide +kernel
theorem d_L_law_634 : decode code 634 = .ok (.iconst 1, 1) := by decide +kernel
theorem d_L_law_635 : decode code 635 = .ok (.iadd, 1) := by decide +kernel
theorem d_L_law_636 : decode code 636 = .ok (.iaload, 1) := by decide +kernel
theorem d_L_law_637 : decode code 637 = .ok (.aload_n 0, 1) := by decide +kernel
theorem d_L_law_638 : decode code 638 = .ok (.iload_n 3, 1) := by decide +kernel
theorem d_L_law_639 : decode code 639 = .ok (.iconst 2, 1) := by decide +kernel
theorem d_L_law_640 : decode code 640 = .ok (.iadd, 1) := by decide +kernel
theorem d_L_law_641 : decode code 641 = .ok (.iaload, 1) := by decide +kernel
theorem d_L_law_642 : decode code 642 = .ok (.invokevirtual 77, 3) := by decide +kernel
theorem d_L_law_645 : decode code 645 = .ok (.aload_n 2, 1) := by decide +kernel
theorem d_L_law_646 : decode code 646 = .ok (.aload_n 0, 1) := by decide +kernel
theorem d_L_law_647 : decode code 647 = .ok (.iload_n 3, 1) := by decide +kernel
theorem d_L_law_648 : decode code 648 = .ok (.iconst 1, 1) := by decide +kernel
theorem d_L_law_649 : decode code 649 = .ok (.iadd, 1) := by decide +kernel
theorem d_L_law_650 : decode code 650 = .ok (.iaload, 1) := by decide +kernel
theorem d_L_law_651 : decode code 651 = .ok (.aload_n 0, 1) := by decide +kernel
theorem d_L_law_652 : decode code 652 = .ok (.iload_n 3, 1) := by decide +kernel
theorem d_L_law_653 : decode code 653 = .ok (.iconst 2, 1) := by decide +kernel
theorem d_L_law_654 : decode code 654 = .ok (.iadd, 1) := by decide +kernel
theorem d_L_law_655 : decode code 655 = .ok (.iaload, 1) := by decide +kernel
theorem d_L_law_656 : decode code 656 = .ok (.invokevirtual 80, 3) := by decide +kernel
theorem d_L_law_659 : decode code 659 = .ok (.if_icmp .eq 413, 3) := by decide +kernel
theorem d_L_law_662 : decode code 662 = .ok (.iconst 0, 1) := by decide +kernel
theorem d_L_law_663 : decode code 663 = .ok (.ireturn, 1) := by decide +kernel
theorem d_L_law_664 : decode code 664 = .ok (.aload_n 1, 1) := by decide +kernel
theorem d_L_law_665 : decode code 665 = .ok (.aload_n 0, 1) := by decide +kernel
theorem d_L_law_666 : decode code 666 = .ok (.iload_n 3, 1) := by decide +kernel
theorem d_L_law_667 : decode code 667 = .ok (.iconst 1, 1) := by decide +kernel
theorem d_L_law_668 : decode code 668 = .ok (.iadd, 1) := by decide +kernel
theorem d_L_law_669 : decode code 669 = .ok (.iaload, 1) := by decide +kernel
theorem d_L_law_670 : decode code 670 = .ok (.aload_n 0, 1) := by decide +kernel
theorem d_L_law_671 : decode code 671 = .ok (.iload_n 3, 1) := by decide +kernel
theorem d_L_law_672 : decode code 672 = .ok (.iconst 2, 1) := by decide +kernel
theorem d_L_law_673 : decode code 673 = .ok (.iadd, 1) := by decide +kernel
theorem d_L_law_674 : decode code 674 = .ok (.iaload, 1) := by decide +kernel
theorem d_L_law_675 : decode code 675 = .ok (.invokevirtual 81, 3) := by decide +kernel
theorem d_L_law_678 : decode code 678 = .ok (.aload_n 2, 1) := by decide +kernel
theorem d_L_law_679 : decode code 679 = .ok (.aload_n 0, 1) := by decide +kernel
theorem d_L_law_680 : decode code 680 = .ok (.iload_n 3, 1) := by decide +kernel
theorem d_L_law_681 : decode code 681 = .ok (.iconst 1, 1) := by decide +kernel
theorem d_L_law_682 : decode code 682 = .ok (.iadd, 1) := by decide +kernel
theorem d_L_law_683 : decode code 683 = .ok (.iaload, 1) := by decide +kernel
theorem d_L_law_684 : decode code 684 = .ok (.aload_n 0, 1) := by decide +kernel
theorem d_L_law_685 : decode code 685 = .ok (.iload_n 3, 1) := by decide +kernel
theorem d_L_law_686 : decode code 686 = .ok (.iconst 2, 1) := by decide +kernel
theorem d_L_law_687 : decode code 687 = .ok (.iadd, 1) := by decide +kernel
theorem d_L_law_688 : decode code 688 = .ok (.iaload, 1) := by decide +kernel
theorem d_L_law_689 : decode code 689 = .ok (.invokevirtual 84, 3) := by decide +kernel
theorem d_L_law_692 : decode code 692 = .ok (.if_icmp .eq 380, 3) := by decide +kernel
theorem d_L_law_695 : decode code 695 = .ok (.iconst 0, 1) := by decide +kernel
theorem d_L_law_696 : decode code 696 = .ok (.ireturn, 1) := by decide +kernel
theorem d_L_law_697 : decode code 697 = .ok (.aload_n 1, 1) := by decide +kernel
theorem d_L_law_698 : decode code 698 = .ok (.aload_n 0, 1) := by decide +kernel
theorem d_L_law_699 : decode code 699 = .ok (.iload_n 3, 1) := by decide +kernel
theorem d_L_law_700 : decode code 700 = .ok (.iconst 1, 1) := by decide +kernel
theorem d_L_law_701 : decode code 701 = .ok (.iadd, 1) := by decide +kernel
theorem d_L_law_702 : decode code 702 = .ok (.iaload, 1) := by decide +kernel
theorem d_L_law_703 : decode code 703 = .ok (.aload_n 0, 1) := by decide +kernel
theorem d_L_law_704 : decode code 704 = .ok (.iload_n 3, 1) := by decide +kernel
theorem d_L_law_705 : decode code 705 = .ok (.iconst 2, 1) := by decide +kernel
theorem d_L_law_706 : decode code 706 = .ok (.iadd, 1) := by decide +kernel
theorem d_L_law_707 : decode code 707 = .ok (.iaload, 1) := by decide +kernel
theorem d_L_law_708 : decode code 708 = .ok (.aload_n 0, 1) := by decide +kernel
theorem d_L_law_709 : decode code 709 = .ok (.iload_n 3, 1) := by decide +kernel
theorem d_L_law_710 : decode code 710 = .ok (.iconst 3, 1) := by decide +kernel
theorem d_L_law_711 : decode code 711 = .ok (.iadd, 1) := by decide +kernel
theorem d_L_law_712 : decode code 712 = .ok (.iaload, 1) := by decide +kernel
theorem d_L_law_713 : decode code 713 = .ok (.invokevirtual 85, 3) := by decide +kernel
theorem d_L_law_716 : decode code 716 = .ok (.aload_n 2, 1) := by decide +kernel
theorem d_L_law_717 : decode code 717 = .ok (.aload_n 0, 1) := by decide +kernel
theorem d_L_law_718 : decode code 718 = .ok (.iload_n 3, 1) := by decide +kernel
theorem d_L_law_719 : decode code 719 = .ok (.iconst 1, 1) := by decide +kernel
theorem d_L_law_720 : decode code 720 = .ok (.iadd, 1) := by decide +kernel
theorem d_L_law_721 : decode code 721 = .ok (.iaload, 1) := by decide +kernel
theorem d_L_law_722 : decode code 722 = .ok (.aload_n 0, 1) := by decide +kernel
theorem d_L_law_723 : decode code 723 = .ok (.iload_n 3, 1) := by decide +kernel
theorem d_L_law_724 : decode code 724 = .ok (.iconst 2, 1) := by decide +kernel
theorem d_L_law_725 : decode code 725 = .ok (.iadd, 1) := by decide +kernel
theorem d_L_law_726 : decode code 726 = .ok (.iaload, 1) := by decide +kernel
theorem d_L_law_727 : decode code 727 = .ok (.aload_n 0, 1) := by decide +kernel
theorem d_L_law_728 : decode code 728 = .ok (.iload_n 3, 1) := by decide +kernel
theorem d_L_law_729 : decode code 729 = .ok (.iconst 3, 1) := by decide +kernel
theorem d_L_law_730 : decode code 730 = .ok (.iadd, 1) := by decide +kernel
theorem d_L_law_731 : decode code 731 = .ok (.iaload, 1) := by decide +kernel
theorem d_L_law_732 : decode code 732 = .ok (.invokevirtual 88, 3) := by decide +kernel
theorem d_L_law_735 : decode code 735 = .ok (.if_icmp .eq 337, 3) := by decide +kernel
theorem d_L_law_738 : decode code 738 = .ok (.iconst 0, 1) := by decide +kernel
theorem d_L_law_739 : decode code 739 = .ok (.ireturn, 1) := by decide +kernel
theorem d_L_law_740 : decode code 740 = .ok (.aload_n 1, 1) := by decide +kernel
theorem d_L_law_741 : decode code 741 = .ok (.aload_n 0, 1) := by decide +kernel
theorem d_L_law_742 : decode code 742 = .ok (.iload_n 3, 1) := by decide +kernel
theorem d_L_law_743 : decode code 743 = .ok (.iconst 1, 1) := by decide +kernel
theorem d_L_law_744 : decode code 744 = .ok (.iadd, 1) := by decide +kernel
theorem d_L_law_745 : decode code 745 = .ok (.iaload, 1) := by decide +kernel
theorem d_L_law_746 : decode code 746 = .ok (.invokevirtual 89, 3) := by decide +kernel
theorem d_L_law_749 : decode code 749 = .ok (.aload_n 2, 1) := by decide +kernel
theorem d_L_law_750 : decode code 750 = .ok (.aload_n 0, 1) := by decide +kernel
theorem d_L_law_751 : decode code 751 = .ok (.iload_n 3, 1) := by decide +kernel
theorem d_L_law_752 : decode code 752 = .ok (.iconst 1, 1) := by decide +kernel
theorem d_L_law_753 : decode code 753 = .ok (.iadd, 1) := by decide +kernel
theorem d_L_law_754 : decode code 754 = .ok (.iaload, 1) := by decide +kernel
theorem d_L_law_755 : decode code 755 = .ok (.invokevirtual 92, 3) := by decide +kernel
theorem d_L_law_758 : decode code 758 = .ok (.if_icmp .eq 314, 3) := by decide +kernel
theorem d_L_law_761 : decode code 761 = .ok (.iconst 0, 1) := by decide +kernel
theorem d_L_law_762 : decode code 762 = .ok (.ireturn, 1) := by decide +kernel
theorem d_L_law_763 : decode code 763 = .ok (.aload_n 1, 1) := by decide +kernel
theorem d_L_law_764 : decode code 764 = .ok (.aload_n 0, 1) := by decide +kernel
theorem d_L_law_765 : decode code 765 = .ok (.iload_n 3, 1) := by decide +kernel
theorem d_L_law_766 : decode code 766 = .ok (.iconst 1, 1) := by decide +kernel
theorem d_L_law_767 : decode code 767 = .ok (.iadd, 1) := by decide +kernel
theorem d_L_law_768 : decode code 768 = .ok (.iaload, 1) := by decide +kernel
theorem d_L_law_769 : decode code 769 = .ok (.invokevirtual 93, 3) := by decide +kernel
theorem d_L_law_772 : decode code 772 = .ok (.aload_n 2, 1) := by decide +kernel
theorem d_L_law_773 : decode code 773 = .ok (.aload_n 0, 1) := by decide +kernel
theorem d_L_law_774 : decode code 774 = .ok (.iload_n 3, 1) := by decide +kernel
theorem d_L_law_775 : decode code 775 = .ok (.iconst 1, 1) := by decide +kernel
theorem d_L_law_776 : decode code 776 = .ok (.iadd, 1) := by decide +kernel
theorem d_L_law_777 : decode code 777 = .ok (.iaload, 1) := by decide +kernel
theorem d_L_law_778 : decode code 778 = .ok (.invokevirtual 96, 3) := by decide +kernel
theorem d_L_law_781 : decode code 781 = .ok (.if_icmp .eq 291, 3) := by decide +kernel
theorem d_L_law_784 : decode code 784 = .ok (.iconst 0, 1) := by decide +kernel
theorem d_L_law_785 : decode code 785 = .ok (.ireturn, 1) := by decide +kernel
theorem d_L_law_786 : decode code 786 = .ok (.aload_n 1, 1) := by decide +kernel
theorem d_L_law_787 : decode code 787 = .ok (.aload_n 0, 1) := by decide +kernel
theorem d_L_law_788 : decode code 788 = .ok (.iload_n 3, 1) := by decide +kernel
theorem d_L_law_789 : decode code 789 = .ok (.iconst 1, 1) := by decide +kernel
theorem d_L_law_790 : decode code 790 = .ok (.iadd, 1) := by decide +kernel
theorem d_L_law_791 : decode code 791 = .ok (.iaload, 1) := by decide +kernel
theorem d_L_law_792 : decode code 792 = .ok (.invokevirtual 97, 3) := by decide +kernel
theorem d_L_law_795 : decode code 795 = .ok (.aload_n 2, 1) := by decide +kernel
theorem d_L_law_796 : decode code 796 = .ok (.aload_n 0, 1) := by decide +kernel
theorem d_L_law_797 : decode code 797 = .ok (.iload_n 3, 1) := by decide +kernel
theorem d_L_law_798 : decode code 798 = .ok (.iconst 1, 1) := by decide +kernel
theorem d_L_law_799 : decode code 799 = .ok (.iadd, 1) := by decide +kernel
theorem d_L_law_800 : decode code 800 = .ok (.iaload, 1) := by decide +kernel
theorem d_L_law_801 : decode code 801 = .ok (.invokevirtual 100, 3) := by decide +kernel
theorem d_L_law_804 : decode code 804 = .ok (.if_icmp .eq 268, 3) := by decide +kernel
theorem d_L_law_807 : decode code 807 = .ok (.iconst 0, 1) := by decide +kernel
theorem d_L_law_808 : decode code 808 = .ok (.ireturn, 1) := by decide +kernel
theorem d_L_law_809 : decode code 809 = .ok (.aload_n 1, 1) := by decide +kernel
theorem d_L_law_810 : decode code 810 = .ok (.aload_n 0, 1) := by decide +kernel
theorem d_L_law_811 : decode code 811 = .ok (.iload_n 3, 1) := by decide +kernel
theorem d_L_law_812 : decode code 812 = .ok (.iconst 1, 1) := by decide +kernel
theorem d_L_law_813 : decode code 813 = .ok (.iadd, 1) := by decide +kernel
theorem d_L_law_814 : decode code 814 = .ok (.iaload, 1) := by decide +kernel
theorem d_L_law_815 : decode code 815 = .ok (.aload_n 0, 1) := by decide +kernel
theorem d_L_law_816 : decode code 816 = .ok (.iload_n 3, 1) := by decide +kernel
theorem d_L_law_817 : decode code 817 = .ok (.iconst 2, 1) := by decide +kernel
theorem d_L_law_818 : decode code 818 = .ok (.iadd, 1) := by decide +kernel
theorem d_L_law_819 : decode code 819 = .ok (.iaload, 1) := by decide +kernel
theorem d_L_law_820 : decode code 820 = .ok (.invokevirtual 101, 3) := by decide +kernel
theorem d_L_law_823 : decode code 823 = .ok (.aload_n 2, 1) := by decide +kernel
theorem d_L_law_824 : decode code 824 = .ok (.aload_n 0, 1) := by decide +kernel
theorem d_L_law_825 : decode code 825 = .ok (.iload_n 3, 1) := by decide +kernel
theorem d_L_law_826 : decode code 826 = .ok (.iconst 1, 1) := by decide +kernel
theorem d_L_law_827 : decode code 827 = .ok (.iadd, 1) := by decide +kernel
theorem d_L_law_828 : decode code 828 = .ok (.iaload, 1) := by decide +kernel
theorem d_L_law_829 : decode code 829 = .ok (.aload_n 0, 1) := by decide +kernel
theorem d_L_law_830 : decode code 830 = .ok (.iload_n 3, 1) := by decide +kernel
theorem d_L_law_831 : decode code 831 = .ok (.iconst 2, 1) := by decide +kernel
theorem d_L_law_832 : decode code 832 = .ok (.iadd, 1) := by decide +kernel
theorem d_L_law_833 : decode code 833 = .ok (.iaload, 1) := by decide +kernel
theorem d_L_law_834 : decode code 834 = .ok (.invokevirtual 104, 3) := by decide +kernel
theorem d_L_law_837 : decode code 837 = .ok (.if_icmp .eq 235, 3) := by decide +kernel
theorem d_L_law_840 : decode code 840 = .ok (.iconst 0, 1) := by decide +kernel
theorem d_L_law_841 : decode code 841 = .ok (.ireturn, 1) := by decide +kernel
theorem d_L_law_842 : decode code 842 = .ok (.aload_n 1, 1) := by decide +kernel
theorem d_L_law_843 : decode code 843 = .ok (.aload_n 0, 1) := by decide +kernel
theorem d_L_law_844 : decode code 844 = .ok (.iload_n 3, 1) := by decide +kernel
theorem d_L_law_845 : decode code 845 = .ok (.iconst 1, 1) := by decide +kernel
theorem d_L_law_846 : decode code 846 = .ok (.iadd, 1) := by decide +kernel
theorem d_L_law_847 : decode code 847 = .ok (.iaload, 1) := by decide +kernel
theorem d_L_law_848 : decode code 848 = .ok (.invokevirtual 105, 3) := by decide +kernel
theorem d_L_law_851 : decode code 851 = .ok (.aload_n 2, 1) := by decide +kernel
theorem d_L_law_852 : decode code 852 = .ok (.aload_n 0, 1) := by decide +kernel
theorem d_L_law_853 : decode code 853 = .ok (.iload_n 3, 1) := by decide +kernel
theorem d_L_law_854 : decode code 854 = .ok (.iconst 1, 1) := by decide +kernel
theorem d_L_law_855 : decode code 855 = .ok (.iadd, 1) := by decide +kernel
theorem d_L_law_856 : decode code 856 = .ok (.iaload, 1) := by decide +kernel
theorem d_L_law_857 : decode code 857 = .ok (.invokevirtual 108, 3) := by decide +kernel
theorem d_L_law_860 : decode code 860 = .ok (.if_icmp .eq 212, 3) := by decide +kernel
theorem d_L_law_863 : decode code 863 = .ok (.iconst 0, 1) := by decide +kernel
theorem d_L_law_864 : decode code 864 = .ok (.ireturn, 1) := by decide +kernel
theorem d_L_law_865 : decode code 865 = .ok (.aload_n 1, 1) := by decide +kernel
theorem d_L_law_866 : decode code 866 = .ok (.aload_n 0, 1) := by decide +kernel
theorem d_L_law_867 : decode code 867 = .ok (.iload_n 3, 1) := by decide +kernel
theorem d_L_law_868 : decode code 868 = .ok (.iconst 1, 1) := by decide +kernel
theorem d_L_law_869 : decode code 869 = .ok (.iadd, 1) := by decide +kernel
theorem d_L_law_870 : decode code 870 = .ok (.iaload, 1) := by decide +kernel
theorem d_L_law_871 : decode code 871 = .ok (.invokevirtual 109, 3) := by decide +kernel
theorem d_L_law_874 : decode code 874 = .ok (.aload_n 2, 1) := by decide +kernel
theorem d_L_law_875 : decode code 875 = .ok (.aload_n 0, 1) := by decide +kernel
theorem d_L_law_876 : decode code 876 = .ok (.iload_n 3, 1) := by decide +kernel
theorem d_L_law_877 : decode code 877 = .ok (.iconst 1, 1) := by decide +kernel
theorem d_L_law_878 : decode code 878 = .ok (.iadd, 1) := by decide +kernel
theorem d_L_law_879 : decode code 879 = .ok (.iaload, 1) := by decide +kernel
theorem d_L_law_880 : decode code 880 = .ok (.invokevirtual 112, 3) := by decide +kernel
theorem d_L_law_883 : decode code 883 = .ok (.if_icmp .eq 189, 3) := by decide +kernel
theorem d_L_law_886 : decode code 886 = .ok (.iconst 0, 1) := by decide +kernel
theorem d_L_law_887 : decode code 887 = .ok (.ireturn, 1) := by decide +kernel
theorem d_L_law_888 : decode code 888 = .ok (.aload_n 1, 1) := by decide +kernel
theorem d_L_law_889 : decode code 889 = .ok (.aload_n 0, 1) := by decide +kernel
theorem d_L_law_890 : decode code 890 = .ok (.iload_n 3, 1) := by decide +kernel
theorem d_L_law_891 : decode code 891 = .ok (.iconst 1, 1) := by decide +kernel
theorem d_L_law_892 : decode code 892 = .ok (.iadd, 1) := by decide +kernel
theorem d_L_law_893 : decode code 893 = .ok (.iaload, 1) := by decide +kernel
theorem d_L_law_894 : decode code 894 = .ok (.aload_n 0, 1) := by decide +kernel
theorem d_L_law_895 : decode code 895 = .ok (.iload_n 3, 1) := by decide +kernel
theorem d_L_law_896 : decode code 896 = .ok (.iconst 2, 1) := by decide +kernel
theorem d_L_law_897 : decode code 897 = .ok (.iadd, 1) := by decide +kernel
theorem d_L_law_898 : decode code 898 = .ok (.iaload, 1) := by decide +kernel
theorem d_L_law_899 : decode code 899 = .ok (.invokevirtual 113, 3) := by decide +kernel
theorem d_L_law_902 : decode code 902 = .ok (.aload_n 2, 1) := by decide +kernel
theorem d_L_law_903 : decode code 903 = .ok (.aload_n 0, 1) := by decide +kernel
theorem d_L_law_904 : decode code 904 = .ok (.iload_n 3, 1) := by decide +kernel
theorem d_L_law_905 : decode code 905 = .ok (.iconst 1, 1) := by decide +kernel
theorem d_L_law_906 : decode code 906 = .ok (.iadd, 1) := by decide +kernel
theorem d_L_law_907 : decode code 907 = .ok (.iaload, 1) := by decide +kernel
theorem d_L_law_908 : decode code 908 = .ok (.aload_n 0, 1) := by decide +kernel
theorem d_L_law_909 : decode code 909 = .ok (.iload_n 3, 1) := by decide +kernel
theorem d_L_law_910 : decode code 910 = .ok (.iconst 2, 1) := by decide +kernel
theorem d_L_law_911 : decode code 911 = .ok (.iadd, 1) := by decide +kernel
theorem d_L_law_912 : decode code 912 = .ok (.iaload, 1) := by decide +kernel
theorem d_L_law_913 : decode code 913 = .ok (.invokevirtual 116, 3) := by decide +kernel
theorem d_L_law_916 : decode code 916 = .ok (.if_icmp .eq 156, 3) := by decide +kernel
theorem d_L_law_919 : decode code 919 = .ok (.iconst 0, 1) := by decide +kernel
theorem d_L_law_920 : decode code 920 = .ok (.ireturn, 1) := by decide +kernel
theorem d_L_law_921 : decode code 921 = .ok (.aload_n 1, 1) := by decide +kernel
theorem d_L_law_922 : decode code 922 = .ok (.aload_n 0, 1) := by decide +kernel
theorem d_L_law_923 : decode code 923 = .ok (.iload_n 3, 1) := by decide +kernel
theorem d_L_law_924 : decode code 924 = .ok (.iconst 1, 1) := by decide +kernel
theorem d_L_law_925 : decode code 925 = .ok (.iadd, 1) := by decide +kernel
theorem d_L_law_926 : decode code 926 = .ok (.iaload, 1) := by decide +kernel
theorem d_L_law_927 : decode code 927 = .ok (.i2l, 1) := by decide +kernel
theorem d_L_law_928 : decode code 928 = .ok (.bipush 32, 2) := by decide +kernel
theorem d_L_law_930 : decode code 930 = .ok (.lshl, 1) := by decide +kernel
theorem d_L_law_931 : decode code 931 = .ok (.aload_n 0, 1) := by decide +kernel
theorem d_L_law_932 : decode code 932 = .ok (.iload_n 3, 1) := by decide +kernel
theorem d_L_law_933 : decode code 933 = .ok (.iconst 2, 1) := by decide +kernel
theorem d_L_law_934 : decode code 934 = .ok (.iadd, 1) := by decide +kernel
theorem d_L_law_935 : decode code 935 = .ok (.iaload, 1) := by decide +kernel
theorem d_L_law_936 : decode code 936 = .ok (.i2l, 1) := by decide +kernel
theorem d_L_law_937 : decode code 937 = .ok (.ldc2_w 117, 3) := by decide +kernel
theorem d_L_law_940 : decode code 940 = .ok (.land, 1) := by decide +kernel
theorem d_L_law_941 : decode code 941 = .ok (.lor, 1) := by decide +kernel
theorem d_L_law_942 : decode code 942 = .ok (.invokevirtual 119, 3) := by decide +kernel
theorem d_L_law_945 : decode code 945 = .ok (.aload_n 2, 1) := by decide +kernel
theorem d_L_law_946 : decode code 946 = .ok (.aload_n 0, 1) := by decide +kernel
theorem d_L_law_947 : decode code 947 = .ok (.iload_n 3, 1) := by decide +kernel
theorem d_L_law_948 : decode code 948 = .ok (.iconst 1, 1) := by decide +kernel
theorem d_L_law_949 : decode code 949 = .ok (.iadd, 1) := by decide +kernel
theorem d_L_law_950 : decode code 950 = .ok (.iaload, 1) := by decide +kernel
theorem d_L_law_951 : decode code 951 = .ok (.i2l, 1) := by decide +kernel
theorem d_L_law_952 : decode code 952 = .ok (.bipush 32, 2) := by decide +kernel
theorem d_L_law_954 : decode code 954 = .ok (.lshl, 1) := by decide +kernel
theorem d_L_law_955 : decode code 955 = .ok (.aload_n 0, 1) := by decide +kernel
theorem d_L_law_956 : decode code 956 = .ok (.iload_n 3, 1) := by decide +kernel
theorem d_L_law_957 : decode code 957 = .ok (.iconst 2, 1) := by decide +kernel
theorem d_L_law_958 : decode code 958 = .ok (.iadd, 1) := by decide +kernel
theorem d_L_law_959 : decode code 959 = .ok (.iaload, 1) := by decide +kernel
theorem d_L_law_960 : decode code 960 = .ok (.i2l, 1) := by decide +kernel
theorem d_L_law_961 : decode code 961 = .ok (.ldc2_w 117, 3) := by decide +kernel
theorem d_L_law_964 : decode code 964 = .ok (.land, 1) := by decide +kernel
theorem d_L_law_965 : decode code 965 = .ok (.lor, 1) := by decide +kernel
theorem d_L_law_966 : decode code 966 = .ok (.invokevirtual 123, 3) := by decide +kernel
theorem d_L_law_969 : decode code 969 = .ok (.if_icmp .eq 103, 3) := by decide +kernel
theorem d_L_law_972 : decode code 972 = .ok (.iconst 0, 1) := by decide +kernel
theorem d_L_law_973 : decode code 973 = .ok (.ireturn, 1) := by decide +kernel
theorem d_L_law_974 : decode code 974 = .ok (.aload_n 1, 1) := by decide +kernel
theorem d_L_law_975 : decode code 975 = .ok (.invokevirtual 124, 3) := by decide +kernel
theorem d_L_law_978 : decode code 978 = .ok (.aload_n 2, 1) := by decide +kernel
theorem d_L_law_979 : decode code 979 = .ok (.invokevirtual 127, 3) := by decide +kernel
theorem d_L_law_982 : decode code 982 = .ok (.if_icmp .eq 90, 3) := by decide +kernel
theorem d_L_law_985 : decode code 985 = .ok (.iconst 0, 1) := by decide +kernel
theorem d_L_law_986 : decode code 986 = .ok (.ireturn, 1) := by decide +kernel
theorem d_L_law_987 : decode code 987 = .ok (.aload_n 1, 1) := by decide +kernel
theorem d_L_law_988 : decode code 988 = .ok (.invokevirtual 128, 3) := by decide +kernel
theorem d_L_law_991 : decode code 991 = .ok (.aload_n 2, 1) := by decide +kernel
theorem d_L_law_992 : decode code 992 = .ok (.invokevirtual 131, 3) := by decide +kernel
theorem d_L_law_995 : decode code 995 = .ok (.if_icmp .eq 77, 3) := by decide +kernel
theorem d_L_law_998 : decode code 998 = .ok (.iconst 0, 1) := by decide +kernel
theorem d_L_law_999 : decode code 999 = .ok (.ireturn, 1) := by decide +kernel
theorem d_L_law_1000 : decode code 1000 = .ok (.aload_n 1, 1) := by decide +kernel
theorem d_L_law_1001 : decode code 1001 = .ok (.invokevirtual 132, 3) := by decide +kernel
theorem d_L_law_1004 : decode code 1004 = .ok (.aload_n 2, 1) := by decide +kernel
theorem d_L_law_1005 : decode code 1005 = .ok (.invokevirtual 135, 3) := by decide +kernel
theorem d_L_law_1008 : decode code 1008 = .ok (.if_icmp .eq 64, 3) := by decide +kernel
theorem d_L_law_1011 : decode code 1011 = .ok (.iconst 0, 1) := by decide +kernel
theorem d_L_law_1012 : decode code 1012 = .ok (.ireturn, 1) := by decide +kernel
theorem d_L_law_1013 : decode code 1013 = .ok (.aload_n 1, 1) := by decide +kernel
theorem d_L_law_1014 : decode code 1014 = .ok (.invokevirtual 136, 3) := by decide +kernel
theorem d_L_law_1017 : decode code 1017 = .ok (.aload_n 2, 1) := by decide +kernel
theorem d_L_law_1018 : decode code 1018 = .ok (.invokevirtual 139, 3) := by decide +kernel
theorem d_L_law_1021 : decode code 1021 = .ok (.if_icmp .eq 51, 3) := by decide +kernel
theorem d_L_law_1024 : decode code 1024 = .ok (.iconst 0, 1) := by decide +kernel
theorem d_L_law_1025 : decode code 1025 = .ok (.ireturn, 1) := by decide +kernel
theorem d_L_law_1026 : decode code 1026 = .ok (.aload_n 1, 1) := by decide +kernel
theorem d_L_law_1027 : decode code 1027 = .ok (.aload_n 0, 1) := by decide +kernel
theorem d_L_law_1028 : decode code 1028 = .ok (.iload_n 3, 1) := by decide +kernel
theorem d_L_law_1029 : decode code 1029 = .ok (.iconst 1, 1) := by decide +kernel
theorem d_L_law_1030 : decode code 1030 = .ok (.iadd, 1) := by decide +kernel
theorem d_L_law_1031 : decode code 1031 = .ok (.iaload, 1) := by decide +kernel
theorem d_L_law_1032 : decode code 1032 = .ok (.invokevirtual 140, 3) := by decide +kernel
theorem d_L_law_1035 : decode code 1035 = .ok (.aload_n 2, 1) := by decide +kernel
theorem d_L_law_1036 : decode code 1036 = .ok (.aload_n 0, 1) := by decide +kernel
theorem d_L_law_1037 : decode code 1037 = .ok (.iload_n 3, 1) := by decide +kernel
theorem d_L_law_1038 : decode code 1038 = .ok (.iconst 1, 1) := by decide +kernel
theorem d_L_law_1039 : decode code 1039 = .ok (.iadd, 1) := by decide +kernel
theorem d_L_law_1040 : decode code 1040 = .ok (.iaload, 1) := by decide +kernel
theorem d_L_law_1041 : decode code 1041 = .ok (.invokevirtual 143, 3) := by decide +kernel
theorem d_L_law_1044 : decode code 1044 = .ok (.if_icmp .eq 28, 3) := by decide +kernel
theorem d_L_law_1047 : decode code 1047 = .ok (.iconst 0, 1) := by decide +kernel
theorem d_L_law_1048 : decode code 1048 = .ok (.ireturn, 1) := by decide +kernel
theorem d_L_law_1049 : decode code 1049 = .ok (.aload_n 1, 1) := by decide +kernel
theorem d_L_law_1050 : decode code 1050 = .ok (.aload_n 0, 1) := by decide +kernel
theorem d_L_law_1051 : decode code 1051 = .ok (.iload_n 3, 1) := by decide +kernel
theorem d_L_law_1052 : decode code 1052 = .ok (.iconst 1, 1) := by decide +kernel
theorem d_L_law_1053 : decode code 1053 = .ok (.iadd, 1) := by decide +kernel
theorem d_L_law_1054 : decode code 1054 = .ok (.iaload, 1) := by decide +kernel
theorem d_L_law_1055 : decode code 1055 = .ok (.invokevirtual 144, 3) := by decide +kernel
theorem d_L_law_1058 : decode code 1058 = .ok (.aload_n 2, 1) := by decide +kernel
theorem d_L_law_1059 : decode code 1059 = .ok (.aload_n 0, 1) := by decide +kernel
theorem d_L_law_1060 : decode code 1060 = .ok (.iload_n 3, 1) := by decide +kernel
theorem d_L_law_1061 : decode code 1061 = .ok (.iconst 1, 1) := by decide +kernel
theorem d_L_law_1062 : decode code 1062 = .ok (.iadd, 1) := by decide +kernel
theorem d_L_law_1063 : decode code 1063 = .ok (.iaload, 1) := by decide +kernel
theorem d_L_law_1064 : decode code 1064 = .ok (.invokevirtual 147, 3) := by decide +kernel
theorem d_L_law_1067 : decode code 1067 = .ok (.if_icmp .eq 5, 3) := by decide +kernel
theorem d_L_law_1070 : decode code 1070 = .ok (.iconst 0, 1) := by decide +kernel
theorem d_L_law_1071 : decode code 1071 = .ok (.ireturn, 1) := by decide +kernel
theorem d_L_law_1072 : decode code 1072 = .ok (.iinc 3 4, 3) := by decide +kernel
theorem d_L_law_1075 : decode code 1075 = .ok (.goto (-1057), 3) := by decide +kernel
theorem d_L_law_1078 : decode code 1078 = .ok (.iconst 1, 1) := by decide +kernel
theorem d_L_law_1079 : decode code 1079 = .ok (.ireturn, 1) := by decide +kernel
