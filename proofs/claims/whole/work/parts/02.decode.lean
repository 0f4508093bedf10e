theorem dX0_init_0 : decode cX0_init 0 = .ok (.aload_n 0, 1) := by decide +kernel
theorem dX0_init_1 : decode cX0_init 1 = .ok (.invokespecial 3, 3) := by decide +kernel
theorem dX0_init_4 : decode cX0_init 4 = .ok (.aload_n 0, 1) := by decide +kernel
theorem dX0_init_5 : decode cX0_init 5 = .ok (.bipush 20, 2) := by decide +kernel
theorem dX0_init_7 : decode cX0_init 7 = .ok (.newarray .int, 2) := by decide +kernel
theorem dX0_init_9 : decode cX0_init 9 = .ok (.putfield 11, 3) := by decide +kernel
theorem dX0_init_12 : decode cX0_init 12 = .ok (.return_, 1) := by decide +kernel
theorem dX0_forget_0 : decode cX0_forget 0 = .ok (.aload_n 0, 1) := by decide +kernel
theorem dX0_forget_1 : decode cX0_forget 1 = .ok (.iconst 0, 1) := by decide +kernel
theorem dX0_forget_2 : decode cX0_forget 2 = .ok (.putfield 15, 3) := by decide +kernel
theorem dX0_forget_5 : decode cX0_forget 5 = .ok (.return_, 1) := by decide +kernel
theorem dX0_ran_0 : decode cX0_ran 0 = .ok (.aload_n 0, 1) := by decide +kernel
theorem dX0_ran_1 : decode cX0_ran 1 = .ok (.getfield 15, 3) := by decide +kernel
theorem dX0_ran_4 : decode cX0_ran 4 = .ok (.ireturn, 1) := by decide +kernel
theorem dX0_isKept_0 : decode cX0_isKept 0 = .ok (.iload_n 1, 1) := by decide +kernel
theorem dX0_isKept_1 : decode cX0_isKept 1 = .ok (.ifCond .lt 21, 3) := by decide +kernel
theorem dX0_isKept_4 : decode cX0_isKept 4 = .ok (.iload_n 1, 1) := by decide +kernel
theorem dX0_isKept_5 : decode cX0_isKept 5 = .ok (.aload_n 0, 1) := by decide +kernel
theorem dX0_isKept_6 : decode cX0_isKept 6 = .ok (.getfield 15, 3) := by decide +kernel
theorem dX0_isKept_9 : decode cX0_isKept 9 = .ok (.if_icmp .ge 13, 3) := by decide +kernel
theorem dX0_isKept_12 : decode cX0_isKept 12 = .ok (.iload_n 1, 1) := by decide +kernel
theorem dX0_isKept_13 : decode cX0_isKept 13 = .ok (.bipush 20, 2) := by decide +kernel
theorem dX0_isKept_15 : decode cX0_isKept 15 = .ok (.if_icmp .ge 7, 3) := by decide +kernel
theorem dX0_isKept_18 : decode cX0_isKept 18 = .ok (.iconst 1, 1) := by decide +kernel
theorem dX0_isKept_19 : decode cX0_isKept 19 = .ok (.goto 4, 3) := by decide +kernel
theorem dX0_isKept_22 : decode cX0_isKept 22 = .ok (.iconst 0, 1) := by decide +kernel
theorem dX0_isKept_23 : decode cX0_isKept 23 = .ok (.ireturn, 1) := by decide +kernel
theorem dX0_bodyAt_0 : decode cX0_bodyAt 0 = .ok (.aload_n 0, 1) := by decide +kernel
theorem dX0_bodyAt_1 : decode cX0_bodyAt 1 = .ok (.iload_n 1, 1) := by decide +kernel
theorem dX0_bodyAt_2 : decode cX0_bodyAt 2 = .ok (.invokevirtual 19, 3) := by decide +kernel
theorem dX0_bodyAt_5 : decode cX0_bodyAt 5 = .ok (.ifCond .eq 12, 3) := by decide +kernel
theorem dX0_bodyAt_8 : decode cX0_bodyAt 8 = .ok (.aload_n 0, 1) := by decide +kernel
theorem dX0_bodyAt_9 : decode cX0_bodyAt 9 = .ok (.getfield 11, 3) := by decide +kernel
theorem dX0_bodyAt_12 : decode cX0_bodyAt 12 = .ok (.iload_n 1, 1) := by decide +kernel
theorem dX0_bodyAt_13 : decode cX0_bodyAt 13 = .ok (.iaload, 1) := by decide +kernel
theorem dX0_bodyAt_14 : decode cX0_bodyAt 14 = .ok (.goto 4, 3) := by decide +kernel
theorem dX0_bodyAt_17 : decode cX0_bodyAt 17 = .ok (.iconst 0, 1) := by decide +kernel
theorem dX0_bodyAt_18 : decode cX0_bodyAt 18 = .ok (.ireturn, 1) := by decide +kernel
theorem dX0_begin_0 : decode cX0_begin 0 = .ok (.aload_n 0, 1) := by decide +kernel
theorem dX0_begin_1 : decode cX0_begin 1 = .ok (.iload_n 1, 1) := by decide +kernel
theorem dX0_begin_2 : decode cX0_begin 2 = .ok (.putfield 23, 3) := by decide +kernel
theorem dX0_begin_5 : decode cX0_begin 5 = .ok (.aload_n 0, 1) := by decide +kernel
theorem dX0_begin_6 : decode cX0_begin 6 = .ok (.iload_n 2, 1) := by decide +kernel
theorem dX0_begin_7 : decode cX0_begin 7 = .ok (.putfield 26, 3) := by decide +kernel
theorem dX0_begin_10 : decode cX0_begin 10 = .ok (.aload_n 0, 1) := by decide +kernel
theorem dX0_begin_11 : decode cX0_begin 11 = .ok (.iload_n 3, 1) := by decide +kernel
theorem dX0_begin_12 : decode cX0_begin 12 = .ok (.putfield 29, 3) := by decide +kernel
theorem dX0_begin_15 : decode cX0_begin 15 = .ok (.aload_n 0, 1) := by decide +kernel
theorem dX0_begin_16 : decode cX0_begin 16 = .ok (.iload 4, 2) := by decide +kernel
theorem dX0_begin_18 : decode cX0_begin 18 = .ok (.iload 5, 2) := by decide +kernel
theorem dX0_begin_20 : decode cX0_begin 20 = .ok (.iconst 0, 1) := by decide +kernel
theorem dX0_begin_21 : decode cX0_begin 21 = .ok (.invokevirtual 32, 3) := by decide +kernel
theorem dX0_begin_24 : decode cX0_begin 24 = .ok (.ireturn, 1) := by decide +kernel
theorem dX0_own_0 : decode cX0_own 0 = .ok (.aload_n 0, 1) := by decide +kernel
theorem dX0_own_1 : decode cX0_own 1 = .ok (.aload_n 0, 1) := by decide +kernel
theorem dX0_own_2 : decode cX0_own 2 = .ok (.getfield 26, 3) := by decide +kernel
theorem dX0_own_5 : decode cX0_own 5 = .ok (.iload_n 1, 1) := by decide +kernel
theorem dX0_own_6 : decode cX0_own 6 = .ok (.invokestatic 36, 3) := by decide +kernel
theorem dX0_own_9 : decode cX0_own 9 = .ok (.iload_n 2, 1) := by decide +kernel
theorem dX0_own_10 : decode cX0_own 10 = .ok (.iload_n 3, 1) := by decide +kernel
theorem dX0_own_11 : decode cX0_own 11 = .ok (.iconst 1, 1) := by decide +kernel
theorem dX0_own_12 : decode cX0_own 12 = .ok (.iadd, 1) := by decide +kernel
theorem dX0_own_13 : decode cX0_own 13 = .ok (.invokevirtual 40, 3) := by decide +kernel
theorem dX0_own_16 : decode cX0_own 16 = .ok (.ireturn, 1) := by decide +kernel
theorem dX0_above_0 : decode cX0_above 0 = .ok (.iload_n 1, 1) := by decide +kernel
theorem dX0_above_1 : decode cX0_above 1 = .ok (.bipush 10, 2) := by decide +kernel
theorem dX0_above_3 : decode cX0_above 3 = .ok (.idiv, 1) := by decide +kernel
theorem dX0_above_4 : decode cX0_above 4 = .ok (.iconst 1, 1) := by decide +kernel
theorem dX0_above_5 : decode cX0_above 5 = .ok (.isub, 1) := by decide +kernel
theorem dX0_above_6 : decode cX0_above 6 = .ok (.istore 5, 2) := by decide +kernel
theorem dX0_above_8 : decode cX0_above 8 = .ok (.aload_n 0, 1) := by decide +kernel
theorem dX0_above_9 : decode cX0_above 9 = .ok (.iload 5, 2) := by decide +kernel
theorem dX0_above_11 : decode cX0_above 11 = .ok (.ifCond .lt 23, 3) := by decide +kernel
theorem dX0_above_14 : decode cX0_above 14 = .ok (.iload 5, 2) := by decide +kernel
theorem dX0_above_16 : decode cX0_above 16 = .ok (.bipush 7, 2) := by decide +kernel
theorem dX0_above_18 : decode cX0_above 18 = .ok (.if_icmp .ge 16, 3) := by decide +kernel
theorem dX0_above_21 : decode cX0_above 21 = .ok (.getstatic 43, 3) := by decide +kernel
theorem dX0_above_24 : decode cX0_above 24 = .ok (.iload 5, 2) := by decide +kernel
theorem dX0_above_26 : decode cX0_above 26 = .ok (.iaload, 1) := by decide +kernel
theorem dX0_above_27 : decode cX0_above 27 = .ok (.iload_n 2, 1) := by decide +kernel
theorem dX0_above_28 : decode cX0_above 28 = .ok (.invokestatic 36, 3) := by decide +kernel
theorem dX0_above_31 : decode cX0_above 31 = .ok (.goto 4, 3) := by decide +kernel
theorem dX0_above_34 : decode cX0_above 34 = .ok (.iconst 0, 1) := by decide +kernel
theorem dX0_above_35 : decode cX0_above 35 = .ok (.iload_n 3, 1) := by decide +kernel
theorem dX0_above_36 : decode cX0_above 36 = .ok (.iload 4, 2) := by decide +kernel
theorem dX0_above_38 : decode cX0_above 38 = .ok (.iconst 1, 1) := by decide +kernel
theorem dX0_above_39 : decode cX0_above 39 = .ok (.iadd, 1) := by decide +kernel
theorem dX0_above_40 : decode cX0_above 40 = .ok (.invokevirtual 40, 3) := by decide +kernel
theorem dX0_above_43 : decode cX0_above 43 = .ok (.ireturn, 1) := by decide +kernel
theorem dX0_bodyFrom_0 : decode cX0_bodyFrom 0 = .ok (.iload_n 0, 1) := by decide +kernel
theorem dX0_bodyFrom_1 : decode cX0_bodyFrom 1 = .ok (.istore_n 2, 1) := by decide +kernel
theorem dX0_bodyFrom_2 : decode cX0_bodyFrom 2 = .ok (.iconst 0, 1) := by decide +kernel
theorem dX0_bodyFrom_3 : decode cX0_bodyFrom 3 = .ok (.istore_n 3, 1) := by decide +kernel
theorem dX0_bodyFrom_4 : decode cX0_bodyFrom 4 = .ok (.iload_n 3, 1) := by decide +kernel
theorem dX0_bodyFrom_5 : decode cX0_bodyFrom 5 = .ok (.bipush 7, 2) := by decide +kernel
theorem dX0_bodyFrom_7 : decode cX0_bodyFrom 7 = .ok (.if_icmp .ge 53, 3) := by decide +kernel
theorem dX0_bodyFrom_10 : decode cX0_bodyFrom 10 = .ok (.iload_n 2, 1) := by decide +kernel
theorem dX0_bodyFrom_11 : decode cX0_bodyFrom 11 = .ok (.ifCond .lt 49, 3) := by decide +kernel
theorem dX0_bodyFrom_14 : decode cX0_bodyFrom 14 = .ok (.iload_n 2, 1) := by decide +kernel
theorem dX0_bodyFrom_15 : decode cX0_bodyFrom 15 = .ok (.bipush 7, 2) := by decide +kernel
theorem dX0_bodyFrom_17 : decode cX0_bodyFrom 17 = .ok (.if_icmp .ge 43, 3) := by decide +kernel
theorem dX0_bodyFrom_20 : decode cX0_bodyFrom 20 = .ok (.iload_n 1, 1) := by decide +kernel
theorem dX0_bodyFrom_21 : decode cX0_bodyFrom 21 = .ok (.ifCond .lt 39, 3) := by decide +kernel
theorem dX0_bodyFrom_24 : decode cX0_bodyFrom 24 = .ok (.iload_n 1, 1) := by decide +kernel
theorem dX0_bodyFrom_25 : decode cX0_bodyFrom 25 = .ok (.iconst 3, 1) := by decide +kernel
theorem dX0_bodyFrom_26 : decode cX0_bodyFrom 26 = .ok (.if_icmp .ge 34, 3) := by decide +kernel
theorem dX0_bodyFrom_29 : decode cX0_bodyFrom 29 = .ok (.getstatic 46, 3) := by decide +kernel
theorem dX0_bodyFrom_32 : decode cX0_bodyFrom 32 = .ok (.iload_n 2, 1) := by decide +kernel
theorem dX0_bodyFrom_33 : decode cX0_bodyFrom 33 = .ok (.iconst 3, 1) := by decide +kernel
theorem dX0_bodyFrom_34 : decode cX0_bodyFrom 34 = .ok (.imul, 1) := by decide +kernel
theorem dX0_bodyFrom_35 : decode cX0_bodyFrom 35 = .ok (.iload_n 1, 1) := by decide +kernel
theorem dX0_bodyFrom_36 : decode cX0_bodyFrom 36 = .ok (.iadd, 1) := by decide +kernel
theorem dX0_bodyFrom_37 : decode cX0_bodyFrom 37 = .ok (.iaload, 1) := by decide +kernel
theorem dX0_bodyFrom_38 : decode cX0_bodyFrom 38 = .ok (.istore 4, 2) := by decide +kernel
theorem dX0_bodyFrom_40 : decode cX0_bodyFrom 40 = .ok (.iload 4, 2) := by decide +kernel
theorem dX0_bodyFrom_42 : decode cX0_bodyFrom 42 = .ok (.ifCond .eq 6, 3) := by decide +kernel
theorem dX0_bodyFrom_45 : decode cX0_bodyFrom 45 = .ok (.iload 4, 2) := by decide +kernel
theorem dX0_bodyFrom_47 : decode cX0_bodyFrom 47 = .ok (.ireturn, 1) := by decide +kernel
theorem dX0_bodyFrom_48 : decode cX0_bodyFrom 48 = .ok (.getstatic 43, 3) := by decide +kernel
theorem dX0_bodyFrom_51 : decode cX0_bodyFrom 51 = .ok (.iload_n 2, 1) := by decide +kernel
theorem dX0_bodyFrom_52 : decode cX0_bodyFrom 52 = .ok (.iaload, 1) := by decide +kernel
theorem dX0_bodyFrom_53 : decode cX0_bodyFrom 53 = .ok (.istore_n 2, 1) := by decide +kernel
theorem dX0_bodyFrom_54 : decode cX0_bodyFrom 54 = .ok (.iinc 3 1, 3) := by decide +kernel
theorem dX0_bodyFrom_57 : decode cX0_bodyFrom 57 = .ok (.goto (-53), 3) := by decide +kernel
theorem dX0_bodyFrom_60 : decode cX0_bodyFrom 60 = .ok (.iconst 0, 1) := by decide +kernel
theorem dX0_bodyFrom_61 : decode cX0_bodyFrom 61 = .ok (.ireturn, 1) := by decide +kernel
theorem dX0_run_0 : decode cX0_run 0 = .ok (.iload_n 3, 1) := by decide +kernel
theorem dX0_run_1 : decode cX0_run 1 = .ok (.bipush 30, 2) := by decide +kernel
theorem dX0_run_3 : decode cX0_run 3 = .ok (.if_icmp .le 5, 3) := by decide +kernel
theorem dX0_run_6 : decode cX0_run 6 = .ok (.iconst 0, 1) := by decide +kernel
theorem dX0_run_7 : decode cX0_run 7 = .ok (.ireturn, 1) := by decide +kernel
theorem dX0_run_8 : decode cX0_run 8 = .ok (.aload_n 0, 1) := by decide +kernel
theorem dX0_run_9 : decode cX0_run 9 = .ok (.iload_n 1, 1) := by decide +kernel
theorem dX0_run_10 : decode cX0_run 10 = .ok (.invokevirtual 49, 3) := by decide +kernel
theorem dX0_run_13 : decode cX0_run 13 = .ok (.iload_n 1, 1) := by decide +kernel
theorem dX0_run_14 : decode cX0_run 14 = .ok (.lookupswitch 235 #[(10, 98), (11, 105), (12, 118), (20, 128), (30, 140), (40, 151), (50, 168), (51, 178), (60, 189), (70, 203), (71, 221)], 98) := by decide +kernel
theorem dX0_run_112 : decode cX0_run 112 = .ok (.iload_n 2, 1) := by decide +kernel
theorem dX0_run_113 : decode cX0_run 113 = .ok (.aload_n 0, 1) := by decide +kernel
theorem dX0_run_114 : decode cX0_run 114 = .ok (.getfield 23, 3) := by decide +kernel
theorem dX0_run_117 : decode cX0_run 117 = .ok (.iadd, 1) := by decide +kernel
theorem dX0_run_118 : decode cX0_run 118 = .ok (.ireturn, 1) := by decide +kernel
theorem dX0_run_119 : decode cX0_run 119 = .ok (.aload_n 0, 1) := by decide +kernel
theorem dX0_run_120 : decode cX0_run 120 = .ok (.iconst 0, 1) := by decide +kernel
theorem dX0_run_121 : decode cX0_run 121 = .ok (.iload_n 2, 1) := by decide +kernel
theorem dX0_run_122 : decode cX0_run 122 = .ok (.iload_n 3, 1) := by decide +kernel
theorem dX0_run_123 : decode cX0_run 123 = .ok (.invokevirtual 32, 3) := by decide +kernel
theorem dX0_run_126 : decode cX0_run 126 = .ok (.aload_n 0, 1) := by decide +kernel
theorem dX0_run_127 : decode cX0_run 127 = .ok (.getfield 29, 3) := by decide +kernel
theorem dX0_run_130 : decode cX0_run 130 = .ok (.isub, 1) := by decide +kernel
theorem dX0_run_131 : decode cX0_run 131 = .ok (.ireturn, 1) := by decide +kernel
theorem dX0_run_132 : decode cX0_run 132 = .ok (.aload_n 0, 1) := by decide +kernel
theorem dX0_run_133 : decode cX0_run 133 = .ok (.iconst 1, 1) := by decide +kernel
theorem dX0_run_134 : decode cX0_run 134 = .ok (.iload_n 2, 1) := by decide +kernel
theorem dX0_run_135 : decode cX0_run 135 = .ok (.iload_n 3, 1) := by decide +kernel
theorem dX0_run_136 : decode cX0_run 136 = .ok (.invokevirtual 32, 3) := by decide +kernel
theorem dX0_run_139 : decode cX0_run 139 = .ok (.iconst 2, 1) := by decide +kernel
theorem dX0_run_140 : decode cX0_run 140 = .ok (.imul, 1) := by decide +kernel
theorem dX0_run_141 : decode cX0_run 141 = .ok (.ireturn, 1) := by decide +kernel
theorem dX0_run_142 : decode cX0_run 142 = .ok (.aload_n 0, 1) := by decide +kernel
theorem dX0_run_143 : decode cX0_run 143 = .ok (.iload_n 1, 1) := by decide +kernel
theorem dX0_run_144 : decode cX0_run 144 = .ok (.iconst 1, 1) := by decide +kernel
theorem dX0_run_145 : decode cX0_run 145 = .ok (.iload_n 2, 1) := by decide +kernel
theorem dX0_run_146 : decode cX0_run 146 = .ok (.iload_n 3, 1) := by decide +kernel
theorem dX0_run_147 : decode cX0_run 147 = .ok (.invokevirtual 53, 3) := by decide +kernel
theorem dX0_run_150 : decode cX0_run 150 = .ok (.bipush 6, 2) := by decide +kernel
theorem dX0_run_152 : decode cX0_run 152 = .ok (.ixor, 1) := by decide +kernel
theorem dX0_run_153 : decode cX0_run 153 = .ok (.ireturn, 1) := by decide +kernel
theorem dX0_run_154 : decode cX0_run 154 = .ok (.aload_n 0, 1) := by decide +kernel
theorem dX0_run_155 : decode cX0_run 155 = .ok (.iload_n 1, 1) := by decide +kernel
theorem dX0_run_156 : decode cX0_run 156 = .ok (.iconst 0, 1) := by decide +kernel
theorem dX0_run_157 : decode cX0_run 157 = .ok (.iload_n 2, 1) := by decide +kernel
theorem dX0_run_158 : decode cX0_run 158 = .ok (.iconst 3, 1) := by decide +kernel
theorem dX0_run_159 : decode cX0_run 159 = .ok (.imul, 1) := by decide +kernel
theorem dX0_run_160 : decode cX0_run 160 = .ok (.iload_n 3, 1) := by decide +kernel
theorem dX0_run_161 : decode cX0_run 161 = .ok (.invokevirtual 53, 3) := by decide +kernel
theorem dX0_run_164 : decode cX0_run 164 = .ok (.ireturn, 1) := by decide +kernel
theorem dX0_run_165 : decode cX0_run 165 = .ok (.aload_n 0, 1) := by decide +kernel
theorem dX0_run_166 : decode cX0_run 166 = .ok (.iload_n 1, 1) := by decide +kernel
theorem dX0_run_167 : decode cX0_run 167 = .ok (.iconst 2, 1) := by decide +kernel
theorem dX0_run_168 : decode cX0_run 168 = .ok (.iload_n 2, 1) := by decide +kernel
theorem dX0_run_169 : decode cX0_run 169 = .ok (.iload_n 3, 1) := by decide +kernel
theorem dX0_run_170 : decode cX0_run 170 = .ok (.invokevirtual 53, 3) := by decide +kernel
theorem dX0_run_173 : decode cX0_run 173 = .ok (.aload_n 0, 1) := by decide +kernel
theorem dX0_run_174 : decode cX0_run 174 = .ok (.iconst 1, 1) := by decide +kernel
theorem dX0_run_175 : decode cX0_run 175 = .ok (.iconst 1, 1) := by decide +kernel
theorem dX0_run_176 : decode cX0_run 176 = .ok (.iload_n 3, 1) := by decide +kernel
theorem dX0_run_177 : decode cX0_run 177 = .ok (.invokevirtual 32, 3) := by decide +kernel
theorem dX0_run_180 : decode cX0_run 180 = .ok (.iadd, 1) := by decide +kernel
theorem dX0_run_181 : decode cX0_run 181 = .ok (.ireturn, 1) := by decide +kernel
theorem dX0_run_182 : decode cX0_run 182 = .ok (.aload_n 0, 1) := by decide +kernel
theorem dX0_run_183 : decode cX0_run 183 = .ok (.iload_n 1, 1) := by decide +kernel
theorem dX0_run_184 : decode cX0_run 184 = .ok (.iconst 0, 1) := by decide +kernel
theorem dX0_run_185 : decode cX0_run 185 = .ok (.iload_n 2, 1) := by decide +kernel
theorem dX0_run_186 : decode cX0_run 186 = .ok (.iload_n 3, 1) := by decide +kernel
theorem dX0_run_187 : decode cX0_run 187 = .ok (.invokevirtual 53, 3) := by decide +kernel
theorem dX0_run_190 : decode cX0_run 190 = .ok (.ineg, 1) := by decide +kernel
theorem dX0_run_191 : decode cX0_run 191 = .ok (.ireturn, 1) := by decide +kernel
theorem dX0_run_192 : decode cX0_run 192 = .ok (.aload_n 0, 1) := by decide +kernel
theorem dX0_run_193 : decode cX0_run 193 = .ok (.iload_n 1, 1) := by decide +kernel
theorem dX0_run_194 : decode cX0_run 194 = .ok (.iconst 1, 1) := by decide +kernel
theorem dX0_run_195 : decode cX0_run 195 = .ok (.iload_n 2, 1) := by decide +kernel
theorem dX0_run_196 : decode cX0_run 196 = .ok (.iconst 1, 1) := by decide +kernel
theorem dX0_run_197 : decode cX0_run 197 = .ok (.iadd, 1) := by decide +kernel
theorem dX0_run_198 : decode cX0_run 198 = .ok (.iload_n 3, 1) := by decide +kernel
theorem dX0_run_199 : decode cX0_run 199 = .ok (.invokevirtual 53, 3) := by decide +kernel
theorem dX0_run_202 : decode cX0_run 202 = .ok (.ireturn, 1) := by decide +kernel
theorem dX0_run_203 : decode cX0_run 203 = .ok (.aload_n 0, 1) := by decide +kernel
theorem dX0_run_204 : decode cX0_run 204 = .ok (.iload_n 1, 1) := by decide +kernel
theorem dX0_run_205 : decode cX0_run 205 = .ok (.iconst 2, 1) := by decide +kernel
theorem dX0_run_206 : decode cX0_run 206 = .ok (.iload_n 2, 1) := by decide +kernel
theorem dX0_run_207 : decode cX0_run 207 = .ok (.aload_n 0, 1) := by decide +kernel
theorem dX0_run_208 : decode cX0_run 208 = .ok (.getfield 23, 3) := by decide +kernel
theorem dX0_run_211 : decode cX0_run 211 = .ok (.isub, 1) := by decide +kernel
theorem dX0_run_212 : decode cX0_run 212 = .ok (.iload_n 3, 1) := by decide +kernel
theorem dX0_run_213 : decode cX0_run 213 = .ok (.invokevirtual 53, 3) := by decide +kernel
theorem dX0_run_216 : decode cX0_run 216 = .ok (.ireturn, 1) := by decide +kernel
theorem dX0_run_217 : decode cX0_run 217 = .ok (.aload_n 0, 1) := by decide +kernel
theorem dX0_run_218 : decode cX0_run 218 = .ok (.iload_n 1, 1) := by decide +kernel
theorem dX0_run_219 : decode cX0_run 219 = .ok (.iconst 1, 1) := by decide +kernel
theorem dX0_run_220 : decode cX0_run 220 = .ok (.iload_n 2, 1) := by decide +kernel
theorem dX0_run_221 : decode cX0_run 221 = .ok (.iload_n 3, 1) := by decide +kernel
theorem dX0_run_222 : decode cX0_run 222 = .ok (.invokevirtual 53, 3) := by decide +kernel
theorem dX0_run_225 : decode cX0_run 225 = .ok (.aload_n 0, 1) := by decide +kernel
theorem dX0_run_226 : decode cX0_run 226 = .ok (.iload_n 1, 1) := by decide +kernel
theorem dX0_run_227 : decode cX0_run 227 = .ok (.iconst 0, 1) := by decide +kernel
theorem dX0_run_228 : decode cX0_run 228 = .ok (.iconst 2, 1) := by decide +kernel
theorem dX0_run_229 : decode cX0_run 229 = .ok (.iload_n 3, 1) := by decide +kernel
theorem dX0_run_230 : decode cX0_run 230 = .ok (.invokevirtual 53, 3) := by decide +kernel
theorem dX0_run_233 : decode cX0_run 233 = .ok (.iadd, 1) := by decide +kernel
theorem dX0_run_234 : decode cX0_run 234 = .ok (.ireturn, 1) := by decide +kernel
theorem dX0_run_235 : decode cX0_run 235 = .ok (.aload_n 0, 1) := by decide +kernel
theorem dX0_run_236 : decode cX0_run 236 = .ok (.iload_n 1, 1) := by decide +kernel
theorem dX0_run_237 : decode cX0_run 237 = .ok (.iconst 0, 1) := by decide +kernel
theorem dX0_run_238 : decode cX0_run 238 = .ok (.iload_n 2, 1) := by decide +kernel
theorem dX0_run_239 : decode cX0_run 239 = .ok (.iload_n 3, 1) := by decide +kernel
theorem dX0_run_240 : decode cX0_run 240 = .ok (.invokevirtual 53, 3) := by decide +kernel
theorem dX0_run_243 : decode cX0_run 243 = .ok (.aload_n 0, 1) := by decide +kernel
theorem dX0_run_244 : decode cX0_run 244 = .ok (.getfield 29, 3) := by decide +kernel
theorem dX0_run_247 : decode cX0_run 247 = .ok (.ixor, 1) := by decide +kernel
theorem dX0_run_248 : decode cX0_run 248 = .ok (.ireturn, 1) := by decide +kernel
theorem dX0_run_249 : decode cX0_run 249 = .ok (.iconst 0, 1) := by decide +kernel
theorem dX0_run_250 : decode cX0_run 250 = .ok (.ireturn, 1) := by decide +kernel
theorem dX0_begun_0 : decode cX0_begun 0 = .ok (.aload_n 0, 1) := by decide +kernel
theorem dX0_begun_1 : decode cX0_begun 1 = .ok (.getfield 15, 3) := by decide +kernel
theorem dX0_begun_4 : decode cX0_begun 4 = .ok (.ifCond .lt 22, 3) := by decide +kernel
theorem dX0_begun_7 : decode cX0_begun 7 = .ok (.aload_n 0, 1) := by decide +kernel
theorem dX0_begun_8 : decode cX0_begun 8 = .ok (.getfield 15, 3) := by decide +kernel
theorem dX0_begun_11 : decode cX0_begun 11 = .ok (.bipush 20, 2) := by decide +kernel
theorem dX0_begun_13 : decode cX0_begun 13 = .ok (.if_icmp .ge 13, 3) := by decide +kernel
theorem dX0_begun_16 : decode cX0_begun 16 = .ok (.aload_n 0, 1) := by decide +kernel
theorem dX0_begun_17 : decode cX0_begun 17 = .ok (.getfield 11, 3) := by decide +kernel
theorem dX0_begun_20 : decode cX0_begun 20 = .ok (.aload_n 0, 1) := by decide +kernel
theorem dX0_begun_21 : decode cX0_begun 21 = .ok (.getfield 15, 3) := by decide +kernel
theorem dX0_begun_24 : decode cX0_begun 24 = .ok (.iload_n 1, 1) := by decide +kernel
theorem dX0_begun_25 : decode cX0_begun 25 = .ok (.iastore, 1) := by decide +kernel
theorem dX0_begun_26 : decode cX0_begun 26 = .ok (.aload_n 0, 1) := by decide +kernel
theorem dX0_begun_27 : decode cX0_begun 27 = .ok (.dup, 1) := by decide +kernel
theorem dX0_begun_28 : decode cX0_begun 28 = .ok (.getfield 15, 3) := by decide +kernel
theorem dX0_begun_31 : decode cX0_begun 31 = .ok (.iconst 1, 1) := by decide +kernel
theorem dX0_begun_32 : decode cX0_begun 32 = .ok (.iadd, 1) := by decide +kernel
theorem dX0_begun_33 : decode cX0_begun 33 = .ok (.putfield 15, 3) := by decide +kernel
theorem dX0_begun_36 : decode cX0_begun 36 = .ok (.return_, 1) := by decide +kernel
theorem dX1_init_0 : decode cX1_init 0 = .ok (.aload_n 0, 1) := by decide +kernel
theorem dX1_init_1 : decode cX1_init 1 = .ok (.invokespecial 3, 3) := by decide +kernel
theorem dX1_init_4 : decode cX1_init 4 = .ok (.aload_n 0, 1) := by decide +kernel
theorem dX1_init_5 : decode cX1_init 5 = .ok (.aload_n 1, 1) := by decide +kernel
theorem dX1_init_6 : decode cX1_init 6 = .ok (.putfield 9, 3) := by decide +kernel
theorem dX1_init_9 : decode cX1_init 9 = .ok (.aload_n 0, 1) := by decide +kernel
theorem dX1_init_10 : decode cX1_init 10 = .ok (.aload_n 2, 1) := by decide +kernel
theorem dX1_init_11 : decode cX1_init 11 = .ok (.putfield 15, 3) := by decide +kernel
theorem dX1_init_14 : decode cX1_init 14 = .ok (.aload_n 0, 1) := by decide +kernel
theorem dX1_init_15 : decode cX1_init 15 = .ok (.bipush 60, 2) := by decide +kernel
theorem dX1_init_17 : decode cX1_init 17 = .ok (.iload_n 3, 1) := by decide +kernel
theorem dX1_init_18 : decode cX1_init 18 = .ok (.invokestatic 18, 3) := by decide +kernel
theorem dX1_init_21 : decode cX1_init 21 = .ok (.putfield 24, 3) := by decide +kernel
theorem dX1_init_24 : decode cX1_init 24 = .ok (.aload_n 0, 1) := by decide +kernel
theorem dX1_init_25 : decode cX1_init 25 = .ok (.iconst 1, 1) := by decide +kernel
theorem dX1_init_26 : decode cX1_init 26 = .ok (.iload 4, 2) := by decide +kernel
theorem dX1_init_28 : decode cX1_init 28 = .ok (.invokestatic 28, 3) := by decide +kernel
theorem dX1_init_31 : decode cX1_init 31 = .ok (.putfield 31, 3) := by decide +kernel
theorem dX1_init_34 : decode cX1_init 34 = .ok (.return_, 1) := by decide +kernel
theorem dX1_grace_0 : decode cX1_grace 0 = .ok (.iconst 0, 1) := by decide +kernel
theorem dX1_grace_1 : decode cX1_grace 1 = .ok (.istore_n 2, 1) := by decide +kernel
theorem dX1_grace_2 : decode cX1_grace 2 = .ok (.iconst 0, 1) := by decide +kernel
theorem dX1_grace_3 : decode cX1_grace 3 = .ok (.istore_n 3, 1) := by decide +kernel
theorem dX1_grace_4 : decode cX1_grace 4 = .ok (.iconst 0, 1) := by decide +kernel
theorem dX1_grace_5 : decode cX1_grace 5 = .ok (.istore 4, 2) := by decide +kernel
theorem dX1_grace_7 : decode cX1_grace 7 = .ok (.iload 4, 2) := by decide +kernel
theorem dX1_grace_9 : decode cX1_grace 9 = .ok (.aload_n 0, 1) := by decide +kernel
theorem dX1_grace_10 : decode cX1_grace 10 = .ok (.getfield 9, 3) := by decide +kernel
theorem dX1_grace_13 : decode cX1_grace 13 = .ok (.arraylength, 1) := by decide +kernel
theorem dX1_grace_14 : decode cX1_grace 14 = .ok (.if_icmp .ge 159, 3) := by decide +kernel
theorem dX1_grace_17 : decode cX1_grace 17 = .ok (.iload 4, 2) := by decide +kernel
theorem dX1_grace_19 : decode cX1_grace 19 = .ok (.aload_n 0, 1) := by decide +kernel
theorem dX1_grace_20 : decode cX1_grace 20 = .ok (.getfield 15, 3) := by decide +kernel
theorem dX1_grace_23 : decode cX1_grace 23 = .ok (.arraylength, 1) := by decide +kernel
theorem dX1_grace_24 : decode cX1_grace 24 = .ok (.if_icmp .ge 149, 3) := by decide +kernel
theorem dX1_grace_27 : decode cX1_grace 27 = .ok (.aload_n 0, 1) := by decide +kernel
theorem dX1_grace_28 : decode cX1_grace 28 = .ok (.getfield 9, 3) := by decide +kernel
theorem dX1_grace_31 : decode cX1_grace 31 = .ok (.iload 4, 2) := by decide +kernel
theorem dX1_grace_33 : decode cX1_grace 33 = .ok (.iaload, 1) := by decide +kernel
theorem dX1_grace_34 : decode cX1_grace 34 = .ok (.tableswitch 102 18 22 #[34, 41, 53, 64, 83], 34) := by decide +kernel
theorem dX1_grace_68 : decode cX1_grace 68 = .ok (.iload_n 3, 1) := by decide +kernel
theorem dX1_grace_69 : decode cX1_grace 69 = .ok (.iconst 1, 1) := by decide +kernel
theorem dX1_grace_70 : decode cX1_grace 70 = .ok (.ixor, 1) := by decide +kernel
theorem dX1_grace_71 : decode cX1_grace 71 = .ok (.istore_n 3, 1) := by decide +kernel
theorem dX1_grace_72 : decode cX1_grace 72 = .ok (.goto 95, 3) := by decide +kernel
theorem dX1_grace_75 : decode cX1_grace 75 = .ok (.iload_n 3, 1) := by decide +kernel
theorem dX1_grace_76 : decode cX1_grace 76 = .ok (.iconst 1, 1) := by decide +kernel
theorem dX1_grace_77 : decode cX1_grace 77 = .ok (.ishr, 1) := by decide +kernel
theorem dX1_grace_78 : decode cX1_grace 78 = .ok (.iload_n 3, 1) := by decide +kernel
theorem dX1_grace_79 : decode cX1_grace 79 = .ok (.bipush (-2), 2) := by decide +kernel
theorem dX1_grace_81 : decode cX1_grace 81 = .ok (.ior, 1) := by decide +kernel
theorem dX1_grace_82 : decode cX1_grace 82 = .ok (.iand, 1) := by decide +kernel
theorem dX1_grace_83 : decode cX1_grace 83 = .ok (.istore_n 3, 1) := by decide +kernel
theorem dX1_grace_84 : decode cX1_grace 84 = .ok (.goto 83, 3) := by decide +kernel
theorem dX1_grace_87 : decode cX1_grace 87 = .ok (.iload_n 3, 1) := by decide +kernel
theorem dX1_grace_88 : decode cX1_grace 88 = .ok (.iconst 1, 1) := by decide +kernel
theorem dX1_grace_89 : decode cX1_grace 89 = .ok (.ishr, 1) := by decide +kernel
theorem dX1_grace_90 : decode cX1_grace 90 = .ok (.iload_n 3, 1) := by decide +kernel
theorem dX1_grace_91 : decode cX1_grace 91 = .ok (.iconst 1, 1) := by decide +kernel
theorem dX1_grace_92 : decode cX1_grace 92 = .ok (.iand, 1) := by decide +kernel
theorem dX1_grace_93 : decode cX1_grace 93 = .ok (.ior, 1) := by decide +kernel
theorem dX1_grace_94 : decode cX1_grace 94 = .ok (.istore_n 3, 1) := by decide +kernel
theorem dX1_grace_95 : decode cX1_grace 95 = .ok (.goto 72, 3) := by decide +kernel
theorem dX1_grace_98 : decode cX1_grace 98 = .ok (.iload_n 2, 1) := by decide +kernel
theorem dX1_grace_99 : decode cX1_grace 99 = .ok (.iload_n 3, 1) := by decide +kernel
theorem dX1_grace_100 : decode cX1_grace 100 = .ok (.iconst 1, 1) := by decide +kernel
theorem dX1_grace_101 : decode cX1_grace 101 = .ok (.iand, 1) := by decide +kernel
theorem dX1_grace_102 : decode cX1_grace 102 = .ok (.aload_n 0, 1) := by decide +kernel
theorem dX1_grace_103 : decode cX1_grace 103 = .ok (.getfield 15, 3) := by decide +kernel
theorem dX1_grace_106 : decode cX1_grace 106 = .ok (.iload 4, 2) := by decide +kernel
theorem dX1_grace_108 : decode cX1_grace 108 = .ok (.iaload, 1) := by decide +kernel
theorem dX1_grace_109 : decode cX1_grace 109 = .ok (.imul, 1) := by decide +kernel
theorem dX1_grace_110 : decode cX1_grace 110 = .ok (.iadd, 1) := by decide +kernel
theorem dX1_grace_111 : decode cX1_grace 111 = .ok (.istore_n 2, 1) := by decide +kernel
theorem dX1_grace_112 : decode cX1_grace 112 = .ok (.iconst 0, 1) := by decide +kernel
theorem dX1_grace_113 : decode cX1_grace 113 = .ok (.istore_n 3, 1) := by decide +kernel
theorem dX1_grace_114 : decode cX1_grace 114 = .ok (.goto 53, 3) := by decide +kernel
theorem dX1_grace_117 : decode cX1_grace 117 = .ok (.iload_n 2, 1) := by decide +kernel
theorem dX1_grace_118 : decode cX1_grace 118 = .ok (.iload_n 3, 1) := by decide +kernel
theorem dX1_grace_119 : decode cX1_grace 119 = .ok (.iconst 1, 1) := by decide +kernel
theorem dX1_grace_120 : decode cX1_grace 120 = .ok (.iand, 1) := by decide +kernel
theorem dX1_grace_121 : decode cX1_grace 121 = .ok (.aload_n 0, 1) := by decide +kernel
theorem dX1_grace_122 : decode cX1_grace 122 = .ok (.getfield 15, 3) := by decide +kernel
theorem dX1_grace_125 : decode cX1_grace 125 = .ok (.iload 4, 2) := by decide +kernel
theorem dX1_grace_127 : decode cX1_grace 127 = .ok (.iaload, 1) := by decide +kernel
theorem dX1_grace_128 : decode cX1_grace 128 = .ok (.imul, 1) := by decide +kernel
theorem dX1_grace_129 : decode cX1_grace 129 = .ok (.isub, 1) := by decide +kernel
theorem dX1_grace_130 : decode cX1_grace 130 = .ok (.istore_n 2, 1) := by decide +kernel
theorem dX1_grace_131 : decode cX1_grace 131 = .ok (.iconst 0, 1) := by decide +kernel
theorem dX1_grace_132 : decode cX1_grace 132 = .ok (.istore_n 3, 1) := by decide +kernel
theorem dX1_grace_133 : decode cX1_grace 133 = .ok (.goto 34, 3) := by decide +kernel
theorem dX1_grace_136 : decode cX1_grace 136 = .ok (.iload_n 3, 1) := by decide +kernel
theorem dX1_grace_137 : decode cX1_grace 137 = .ok (.iconst 1, 1) := by decide +kernel
theorem dX1_grace_138 : decode cX1_grace 138 = .ok (.ishl, 1) := by decide +kernel
theorem dX1_grace_139 : decode cX1_grace 139 = .ok (.aload_n 0, 1) := by decide +kernel
theorem dX1_grace_140 : decode cX1_grace 140 = .ok (.getfield 9, 3) := by decide +kernel
theorem dX1_grace_143 : decode cX1_grace 143 = .ok (.iload 4, 2) := by decide +kernel
theorem dX1_grace_145 : decode cX1_grace 145 = .ok (.iaload, 1) := by decide +kernel
theorem dX1_grace_146 : decode cX1_grace 146 = .ok (.aload_n 0, 1) := by decide +kernel
theorem dX1_grace_147 : decode cX1_grace 147 = .ok (.getfield 15, 3) := by decide +kernel
theorem dX1_grace_150 : decode cX1_grace 150 = .ok (.iload 4, 2) := by decide +kernel
theorem dX1_grace_152 : decode cX1_grace 152 = .ok (.iaload, 1) := by decide +kernel
theorem dX1_grace_153 : decode cX1_grace 153 = .ok (.aload_n 1, 1) := by decide +kernel
theorem dX1_grace_154 : decode cX1_grace 154 = .ok (.invokestatic 34, 3) := by decide +kernel
theorem dX1_grace_157 : decode cX1_grace 157 = .ok (.ifCond .eq 7, 3) := by decide +kernel
theorem dX1_grace_160 : decode cX1_grace 160 = .ok (.iconst 1, 1) := by decide +kernel
theorem dX1_grace_161 : decode cX1_grace 161 = .ok (.goto 4, 3) := by decide +kernel
theorem dX1_grace_164 : decode cX1_grace 164 = .ok (.iconst 0, 1) := by decide +kernel
theorem dX1_grace_165 : decode cX1_grace 165 = .ok (.ior, 1) := by decide +kernel
theorem dX1_grace_166 : decode cX1_grace 166 = .ok (.istore_n 3, 1) := by decide +kernel
theorem dX1_grace_167 : decode cX1_grace 167 = .ok (.iinc 4 1, 3) := by decide +kernel
theorem dX1_grace_170 : decode cX1_grace 170 = .ok (.goto (-163), 3) := by decide +kernel
theorem dX1_grace_173 : decode cX1_grace 173 = .ok (.iload_n 2, 1) := by decide +kernel
theorem dX1_grace_174 : decode cX1_grace 174 = .ok (.ireturn, 1) := by decide +kernel
theorem dX1_holds_0 : decode cX1_holds 0 = .ok (.iload_n 0, 1) := by decide +kernel
theorem dX1_holds_1 : decode cX1_holds 1 = .ok (.iconst 3, 1) := by decide +kernel
theorem dX1_holds_2 : decode cX1_holds 2 = .ok (.idiv, 1) := by decide +kernel
theorem dX1_holds_3 : decode cX1_holds 3 = .ok (.istore_n 3, 1) := by decide +kernel
theorem dX1_holds_4 : decode cX1_holds 4 = .ok (.iload_n 3, 1) := by decide +kernel
theorem dX1_holds_5 : decode cX1_holds 5 = .ok (.ifCond .lt 9, 3) := by decide +kernel
theorem dX1_holds_8 : decode cX1_holds 8 = .ok (.iload_n 3, 1) := by decide +kernel
theorem dX1_holds_9 : decode cX1_holds 9 = .ok (.aload_n 2, 1) := by decide +kernel
theorem dX1_holds_10 : decode cX1_holds 10 = .ok (.arraylength, 1) := by decide +kernel
theorem dX1_holds_11 : decode cX1_holds 11 = .ok (.if_icmp .lt 5, 3) := by decide +kernel
theorem dX1_holds_14 : decode cX1_holds 14 = .ok (.iconst 0, 1) := by decide +kernel
theorem dX1_holds_15 : decode cX1_holds 15 = .ok (.ireturn, 1) := by decide +kernel
theorem dX1_holds_16 : decode cX1_holds 16 = .ok (.iload_n 0, 1) := by decide +kernel
theorem dX1_holds_17 : decode cX1_holds 17 = .ok (.iconst 3, 1) := by decide +kernel
theorem dX1_holds_18 : decode cX1_holds 18 = .ok (.irem, 1) := by decide +kernel
theorem dX1_holds_19 : decode cX1_holds 19 = .ok (.lookupswitch 51 #[(0, 25), (1, 38)], 25) := by decide +kernel
theorem dX1_holds_44 : decode cX1_holds 44 = .ok (.aload_n 2, 1) := by decide +kernel
theorem dX1_holds_45 : decode cX1_holds 45 = .ok (.iload_n 3, 1) := by decide +kernel
theorem dX1_holds_46 : decode cX1_holds 46 = .ok (.iaload, 1) := by decide +kernel
theorem dX1_holds_47 : decode cX1_holds 47 = .ok (.iload_n 1, 1) := by decide +kernel
theorem dX1_holds_48 : decode cX1_holds 48 = .ok (.if_icmp .ge 7, 3) := by decide +kernel
theorem dX1_holds_51 : decode cX1_holds 51 = .ok (.iconst 1, 1) := by decide +kernel
theorem dX1_holds_52 : decode cX1_holds 52 = .ok (.goto 4, 3) := by decide +kernel
theorem dX1_holds_55 : decode cX1_holds 55 = .ok (.iconst 0, 1) := by decide +kernel
theorem dX1_holds_56 : decode cX1_holds 56 = .ok (.ireturn, 1) := by decide +kernel
theorem dX1_holds_57 : decode cX1_holds 57 = .ok (.aload_n 2, 1) := by decide +kernel
theorem dX1_holds_58 : decode cX1_holds 58 = .ok (.iload_n 3, 1) := by decide +kernel
theorem dX1_holds_59 : decode cX1_holds 59 = .ok (.iaload, 1) := by decide +kernel
theorem dX1_holds_60 : decode cX1_holds 60 = .ok (.iload_n 1, 1) := by decide +kernel
theorem dX1_holds_61 : decode cX1_holds 61 = .ok (.if_icmp .ne 7, 3) := by decide +kernel
theorem dX1_holds_64 : decode cX1_holds 64 = .ok (.iconst 1, 1) := by decide +kernel
theorem dX1_holds_65 : decode cX1_holds 65 = .ok (.goto 4, 3) := by decide +kernel
theorem dX1_holds_68 : decode cX1_holds 68 = .ok (.iconst 0, 1) := by decide +kernel
theorem dX1_holds_69 : decode cX1_holds 69 = .ok (.ireturn, 1) := by decide +kernel
theorem dX1_holds_70 : decode cX1_holds 70 = .ok (.aload_n 2, 1) := by decide +kernel
theorem dX1_holds_71 : decode cX1_holds 71 = .ok (.iload_n 3, 1) := by decide +kernel
theorem dX1_holds_72 : decode cX1_holds 72 = .ok (.iaload, 1) := by decide +kernel
theorem dX1_holds_73 : decode cX1_holds 73 = .ok (.iload_n 1, 1) := by decide +kernel
theorem dX1_holds_74 : decode cX1_holds 74 = .ok (.if_icmp .le 7, 3) := by decide +kernel
theorem dX1_holds_77 : decode cX1_holds 77 = .ok (.iconst 1, 1) := by decide +kernel
theorem dX1_holds_78 : decode cX1_holds 78 = .ok (.goto 4, 3) := by decide +kernel
theorem dX1_holds_81 : decode cX1_holds 81 = .ok (.iconst 0, 1) := by decide +kernel
theorem dX1_holds_82 : decode cX1_holds 82 = .ok (.ireturn, 1) := by decide +kernel
theorem dX2_init_0 : decode cX2_init 0 = .ok (.aload_n 0, 1) := by decide +kernel
theorem dX2_init_1 : decode cX2_init 1 = .ok (.invokespecial 1, 3) := by decide +kernel
theorem dX2_init_4 : decode cX2_init 4 = .ok (.aload_n 0, 1) := by decide +kernel
theorem dX2_init_5 : decode cX2_init 5 = .ok (.bipush 40, 2) := by decide +kernel
theorem dX2_init_7 : decode cX2_init 7 = .ok (.newarray .int, 2) := by decide +kernel
theorem dX2_init_9 : decode cX2_init 9 = .ok (.putfield 9, 3) := by decide +kernel
theorem dX2_init_12 : decode cX2_init 12 = .ok (.return_, 1) := by decide +kernel
theorem dX2_clear_0 : decode cX2_clear 0 = .ok (.aload_n 0, 1) := by decide +kernel
theorem dX2_clear_1 : decode cX2_clear 1 = .ok (.iconst 0, 1) := by decide +kernel
theorem dX2_clear_2 : decode cX2_clear 2 = .ok (.putfield 13, 3) := by decide +kernel
theorem dX2_clear_5 : decode cX2_clear 5 = .ok (.aload_n 0, 1) := by decide +kernel
theorem dX2_clear_6 : decode cX2_clear 6 = .ok (.getfield 13, 3) := by decide +kernel
theorem dX2_clear_9 : decode cX2_clear 9 = .ok (.ireturn, 1) := by decide +kernel
theorem dX2_add_0 : decode cX2_add 0 = .ok (.aload_n 0, 1) := by decide +kernel
theorem dX2_add_1 : decode cX2_add 1 = .ok (.getfield 13, 3) := by decide +kernel
theorem dX2_add_4 : decode cX2_add 4 = .ok (.ifCond .lt 77, 3) := by decide +kernel
theorem dX2_add_7 : decode cX2_add 7 = .ok (.aload_n 0, 1) := by decide +kernel
theorem dX2_add_8 : decode cX2_add 8 = .ok (.getfield 13, 3) := by decide +kernel
theorem dX2_add_11 : decode cX2_add 11 = .ok (.bipush 10, 2) := by decide +kernel
theorem dX2_add_13 : decode cX2_add 13 = .ok (.if_icmp .ge 68, 3) := by decide +kernel
theorem dX2_add_16 : decode cX2_add 16 = .ok (.aload_n 0, 1) := by decide +kernel
theorem dX2_add_17 : decode cX2_add 17 = .ok (.getfield 9, 3) := by decide +kernel
theorem dX2_add_20 : decode cX2_add 20 = .ok (.aload_n 0, 1) := by decide +kernel
theorem dX2_add_21 : decode cX2_add 21 = .ok (.getfield 13, 3) := by decide +kernel
theorem dX2_add_24 : decode cX2_add 24 = .ok (.iconst 4, 1) := by decide +kernel
theorem dX2_add_25 : decode cX2_add 25 = .ok (.imul, 1) := by decide +kernel
theorem dX2_add_26 : decode cX2_add 26 = .ok (.iload_n 1, 1) := by decide +kernel
theorem dX2_add_27 : decode cX2_add 27 = .ok (.iastore, 1) := by decide +kernel
theorem dX2_add_28 : decode cX2_add 28 = .ok (.aload_n 0, 1) := by decide +kernel
theorem dX2_add_29 : decode cX2_add 29 = .ok (.getfield 9, 3) := by decide +kernel
theorem dX2_add_32 : decode cX2_add 32 = .ok (.aload_n 0, 1) := by decide +kernel
theorem dX2_add_33 : decode cX2_add 33 = .ok (.getfield 13, 3) := by decide +kernel
theorem dX2_add_36 : decode cX2_add 36 = .ok (.iconst 4, 1) := by decide +kernel
theorem dX2_add_37 : decode cX2_add 37 = .ok (.imul, 1) := by decide +kernel
theorem dX2_add_38 : decode cX2_add 38 = .ok (.iconst 1, 1) := by decide +kernel
theorem dX2_add_39 : decode cX2_add 39 = .ok (.iadd, 1) := by decide +kernel
theorem dX2_add_40 : decode cX2_add 40 = .ok (.iload_n 2, 1) := by decide +kernel
theorem dX2_add_41 : decode cX2_add 41 = .ok (.iastore, 1) := by decide +kernel
theorem dX2_add_42 : decode cX2_add 42 = .ok (.aload_n 0, 1) := by decide +kernel
theorem dX2_add_43 : decode cX2_add 43 = .ok (.getfield 9, 3) := by decide +kernel
theorem dX2_add_46 : decode cX2_add 46 = .ok (.aload_n 0, 1) := by decide +kernel
theorem dX2_add_47 : decode cX2_add 47 = .ok (.getfield 13, 3) := by decide +kernel
theorem dX2_add_50 : decode cX2_add 50 = .ok (.iconst 4, 1) := by decide +kernel
theorem dX2_add_51 : decode cX2_add 51 = .ok (.imul, 1) := by decide +kernel
theorem dX2_add_52 : decode cX2_add 52 = .ok (.iconst 2, 1) := by decide +kernel
theorem dX2_add_53 : decode cX2_add 53 = .ok (.iadd, 1) := by decide +kernel
theorem dX2_add_54 : decode cX2_add 54 = .ok (.iload_n 3, 1) := by decide +kernel
theorem dX2_add_55 : decode cX2_add 55 = .ok (.iastore, 1) := by decide +kernel
theorem dX2_add_56 : decode cX2_add 56 = .ok (.aload_n 0, 1) := by decide +kernel
theorem dX2_add_57 : decode cX2_add 57 = .ok (.getfield 9, 3) := by decide +kernel
theorem dX2_add_60 : decode cX2_add 60 = .ok (.aload_n 0, 1) := by decide +kernel
theorem dX2_add_61 : decode cX2_add 61 = .ok (.getfield 13, 3) := by decide +kernel
theorem dX2_add_64 : decode cX2_add 64 = .ok (.iconst 4, 1) := by decide +kernel
theorem dX2_add_65 : decode cX2_add 65 = .ok (.imul, 1) := by decide +kernel
theorem dX2_add_66 : decode cX2_add 66 = .ok (.iconst 3, 1) := by decide +kernel
theorem dX2_add_67 : decode cX2_add 67 = .ok (.iadd, 1) := by decide +kernel
theorem dX2_add_68 : decode cX2_add 68 = .ok (.iload 4, 2) := by decide +kernel
theorem dX2_add_70 : decode cX2_add 70 = .ok (.iastore, 1) := by decide +kernel
theorem dX2_add_71 : decode cX2_add 71 = .ok (.aload_n 0, 1) := by decide +kernel
theorem dX2_add_72 : decode cX2_add 72 = .ok (.dup, 1) := by decide +kernel
theorem dX2_add_73 : decode cX2_add 73 = .ok (.getfield 13, 3) := by decide +kernel
theorem dX2_add_76 : decode cX2_add 76 = .ok (.iconst 1, 1) := by decide +kernel
theorem dX2_add_77 : decode cX2_add 77 = .ok (.iadd, 1) := by decide +kernel
theorem dX2_add_78 : decode cX2_add 78 = .ok (.putfield 13, 3) := by decide +kernel
theorem dX2_add_81 : decode cX2_add 81 = .ok (.aload_n 0, 1) := by decide +kernel
theorem dX2_add_82 : decode cX2_add 82 = .ok (.getfield 13, 3) := by decide +kernel
theorem dX2_add_85 : decode cX2_add 85 = .ok (.ireturn, 1) := by decide +kernel
theorem dX2_at_0 : decode cX2_at 0 = .ok (.iload_n 1, 1) := by decide +kernel
theorem dX2_at_1 : decode cX2_at 1 = .ok (.ifCond .lt 22, 3) := by decide +kernel
theorem dX2_at_4 : decode cX2_at 4 = .ok (.iload_n 1, 1) := by decide +kernel
theorem dX2_at_5 : decode cX2_at 5 = .ok (.bipush 10, 2) := by decide +kernel
theorem dX2_at_7 : decode cX2_at 7 = .ok (.if_icmp .ge 16, 3) := by decide +kernel
theorem dX2_at_10 : decode cX2_at 10 = .ok (.iload_n 2, 1) := by decide +kernel
theorem dX2_at_11 : decode cX2_at 11 = .ok (.ifCond .lt 12, 3) := by decide +kernel
theorem dX2_at_14 : decode cX2_at 14 = .ok (.iload_n 2, 1) := by decide +kernel
theorem dX2_at_15 : decode cX2_at 15 = .ok (.iconst 4, 1) := by decide +kernel
theorem dX2_at_16 : decode cX2_at 16 = .ok (.if_icmp .ge 7, 3) := by decide +kernel
theorem dX2_at_19 : decode cX2_at 19 = .ok (.iconst 1, 1) := by decide +kernel
theorem dX2_at_20 : decode cX2_at 20 = .ok (.goto 4, 3) := by decide +kernel
theorem dX2_at_23 : decode cX2_at 23 = .ok (.iconst 0, 1) := by decide +kernel
theorem dX2_at_24 : decode cX2_at 24 = .ok (.istore_n 3, 1) := by decide +kernel
theorem dX2_at_25 : decode cX2_at 25 = .ok (.iload_n 3, 1) := by decide +kernel
theorem dX2_at_26 : decode cX2_at 26 = .ok (.ifCond .eq 16, 3) := by decide +kernel
theorem dX2_at_29 : decode cX2_at 29 = .ok (.aload_n 0, 1) := by decide +kernel
theorem dX2_at_30 : decode cX2_at 30 = .ok (.getfield 9, 3) := by decide +kernel
theorem dX2_at_33 : decode cX2_at 33 = .ok (.iload_n 1, 1) := by decide +kernel
theorem dX2_at_34 : decode cX2_at 34 = .ok (.iconst 4, 1) := by decide +kernel
theorem dX2_at_35 : decode cX2_at 35 = .ok (.imul, 1) := by decide +kernel
theorem dX2_at_36 : decode cX2_at 36 = .ok (.iload_n 2, 1) := by decide +kernel
theorem dX2_at_37 : decode cX2_at 37 = .ok (.iadd, 1) := by decide +kernel
theorem dX2_at_38 : decode cX2_at 38 = .ok (.iaload, 1) := by decide +kernel
theorem dX2_at_39 : decode cX2_at 39 = .ok (.goto 4, 3) := by decide +kernel
theorem dX2_at_42 : decode cX2_at 42 = .ok (.iconst 0, 1) := by decide +kernel
theorem dX2_at_43 : decode cX2_at 43 = .ok (.ireturn, 1) := by decide +kernel
theorem dX2_become_0 : decode cX2_become 0 = .ok (.aload_n 1, 1) := by decide +kernel
theorem dX2_become_1 : decode cX2_become 1 = .ok (.getfield 9, 3) := by decide +kernel
theorem dX2_become_4 : decode cX2_become 4 = .ok (.iconst 0, 1) := by decide +kernel
theorem dX2_become_5 : decode cX2_become 5 = .ok (.aload_n 0, 1) := by decide +kernel
theorem dX2_become_6 : decode cX2_become 6 = .ok (.getfield 9, 3) := by decide +kernel
theorem dX2_become_9 : decode cX2_become 9 = .ok (.iconst 0, 1) := by decide +kernel
theorem dX2_become_10 : decode cX2_become 10 = .ok (.bipush 40, 2) := by decide +kernel
theorem dX2_become_12 : decode cX2_become 12 = .ok (.invokestatic 17, 3) := by decide +kernel
theorem dX2_become_15 : decode cX2_become 15 = .ok (.aload_n 0, 1) := by decide +kernel
theorem dX2_become_16 : decode cX2_become 16 = .ok (.aload_n 1, 1) := by decide +kernel
theorem dX2_become_17 : decode cX2_become 17 = .ok (.getfield 13, 3) := by decide +kernel
theorem dX2_become_20 : decode cX2_become 20 = .ok (.putfield 13, 3) := by decide +kernel
theorem dX2_become_23 : decode cX2_become 23 = .ok (.return_, 1) := by decide +kernel
theorem dX3_init_0 : decode cX3_init 0 = .ok (.aload_n 0, 1) := by decide +kernel
theorem dX3_init_1 : decode cX3_init 1 = .ok (.invokespecial 3, 3) := by decide +kernel
theorem dX3_init_4 : decode cX3_init 4 = .ok (.aload_n 0, 1) := by decide +kernel
theorem dX3_init_5 : decode cX3_init 5 = .ok (.iconst 5, 1) := by decide +kernel
theorem dX3_init_6 : decode cX3_init 6 = .ok (.newarray .int, 2) := by decide +kernel
theorem dX3_init_8 : decode cX3_init 8 = .ok (.putfield 9, 3) := by decide +kernel
theorem dX3_init_11 : decode cX3_init 11 = .ok (.aload_n 0, 1) := by decide +kernel
theorem dX3_init_12 : decode cX3_init 12 = .ok (.iconst 5, 1) := by decide +kernel
theorem dX3_init_13 : decode cX3_init 13 = .ok (.newarray .int, 2) := by decide +kernel
theorem dX3_init_15 : decode cX3_init 15 = .ok (.putfield 15, 3) := by decide +kernel
theorem dX3_init_18 : decode cX3_init 18 = .ok (.aload_n 0, 1) := by decide +kernel
theorem dX3_init_19 : decode cX3_init 19 = .ok (.iconst 5, 1) := by decide +kernel
theorem dX3_init_20 : decode cX3_init 20 = .ok (.newarray .int, 2) := by decide +kernel
theorem dX3_init_22 : decode cX3_init 22 = .ok (.putfield 18, 3) := by decide +kernel
theorem dX3_init_25 : decode cX3_init 25 = .ok (.aload_n 0, 1) := by decide +kernel
theorem dX3_init_26 : decode cX3_init 26 = .ok (.bipush 15, 2) := by decide +kernel
theorem dX3_init_28 : decode cX3_init 28 = .ok (.newarray .int, 2) := by decide +kernel
theorem dX3_init_30 : decode cX3_init 30 = .ok (.putfield 21, 3) := by decide +kernel
theorem dX3_init_33 : decode cX3_init 33 = .ok (.aload_n 0, 1) := by decide +kernel
theorem dX3_init_34 : decode cX3_init 34 = .ok (.bipush 20, 2) := by decide +kernel
theorem dX3_init_36 : decode cX3_init 36 = .ok (.newarray .int, 2) := by decide +kernel
theorem dX3_init_38 : decode cX3_init 38 = .ok (.putfield 24, 3) := by decide +kernel
theorem dX3_init_41 : decode cX3_init 41 = .ok (.aload_n 0, 1) := by decide +kernel
theorem dX3_init_42 : decode cX3_init 42 = .ok (.ldc 29, 2) := by decide +kernel
theorem dX3_init_44 : decode cX3_init 44 = .ok (.invokevirtual 31, 3) := by decide +kernel
theorem dX3_init_47 : decode cX3_init 47 = .ok (.newarray .int, 2) := by decide +kernel
theorem dX3_init_49 : decode cX3_init 49 = .ok (.putfield 37, 3) := by decide +kernel
theorem dX3_init_52 : decode cX3_init 52 = .ok (.aload_n 0, 1) := by decide +kernel
theorem dX3_init_53 : decode cX3_init 53 = .ok (.bipush 100, 2) := by decide +kernel
theorem dX3_init_55 : decode cX3_init 55 = .ok (.putfield 40, 3) := by decide +kernel
theorem dX3_init_58 : decode cX3_init 58 = .ok (.aload_n 0, 1) := by decide +kernel
theorem dX3_init_59 : decode cX3_init 59 = .ok (.aload_n 1, 1) := by decide +kernel
theorem dX3_init_60 : decode cX3_init 60 = .ok (.putfield 44, 3) := by decide +kernel
theorem dX3_init_63 : decode cX3_init 63 = .ok (.return_, 1) := by decide +kernel
theorem dX3_become_0 : decode cX3_become 0 = .ok (.aload_n 1, 1) := by decide +kernel
theorem dX3_become_1 : decode cX3_become 1 = .ok (.getfield 9, 3) := by decide +kernel
theorem dX3_become_4 : decode cX3_become 4 = .ok (.iconst 0, 1) := by decide +kernel
theorem dX3_become_5 : decode cX3_become 5 = .ok (.aload_n 0, 1) := by decide +kernel
theorem dX3_become_6 : decode cX3_become 6 = .ok (.getfield 9, 3) := by decide +kernel
theorem dX3_become_9 : decode cX3_become 9 = .ok (.iconst 0, 1) := by decide +kernel
theorem dX3_become_10 : decode cX3_become 10 = .ok (.iconst 5, 1) := by decide +kernel
theorem dX3_become_11 : decode cX3_become 11 = .ok (.invokestatic 48, 3) := by decide +kernel
theorem dX3_become_14 : decode cX3_become 14 = .ok (.aload_n 1, 1) := by decide +kernel
theorem dX3_become_15 : decode cX3_become 15 = .ok (.getfield 15, 3) := by decide +kernel
theorem dX3_become_18 : decode cX3_become 18 = .ok (.iconst 0, 1) := by decide +kernel
theorem dX3_become_19 : decode cX3_become 19 = .ok (.aload_n 0, 1) := by decide +kernel
theorem dX3_become_20 : decode cX3_become 20 = .ok (.getfield 15, 3) := by decide +kernel
theorem dX3_become_23 : decode cX3_become 23 = .ok (.iconst 0, 1) := by decide +kernel
theorem dX3_become_24 : decode cX3_become 24 = .ok (.iconst 5, 1) := by decide +kernel
theorem dX3_become_25 : decode cX3_become 25 = .ok (.invokestatic 48, 3) := by decide +kernel
theorem dX3_become_28 : decode cX3_become 28 = .ok (.aload_n 1, 1) := by decide +kernel
theorem dX3_become_29 : decode cX3_become 29 = .ok (.getfield 18, 3) := by decide +kernel
theorem dX3_become_32 : decode cX3_become 32 = .ok (.iconst 0, 1) := by decide +kernel
theorem dX3_become_33 : decode cX3_become 33 = .ok (.aload_n 0, 1) := by decide +kernel
theorem dX3_become_34 : decode cX3_become 34 = .ok (.getfield 18, 3) := by decide +kernel
theorem dX3_become_37 : decode cX3_become 37 = .ok (.iconst 0, 1) := by decide +kernel
theorem dX3_become_38 : decode cX3_become 38 = .ok (.iconst 5, 1) := by decide +kernel
theorem dX3_become_39 : decode cX3_become 39 = .ok (.invokestatic 48, 3) := by decide +kernel
theorem dX3_become_42 : decode cX3_become 42 = .ok (.aload_n 1, 1) := by decide +kernel
theorem dX3_become_43 : decode cX3_become 43 = .ok (.getfield 21, 3) := by decide +kernel
theorem dX3_become_46 : decode cX3_become 46 = .ok (.iconst 0, 1) := by decide +kernel
theorem dX3_become_47 : decode cX3_become 47 = .ok (.aload_n 0, 1) := by decide +kernel
theorem dX3_become_48 : decode cX3_become 48 = .ok (.getfield 21, 3) := by decide +kernel
theorem dX3_become_51 : decode cX3_become 51 = .ok (.iconst 0, 1) := by decide +kernel
theorem dX3_become_52 : decode cX3_become 52 = .ok (.bipush 15, 2) := by decide +kernel
theorem dX3_become_54 : decode cX3_become 54 = .ok (.invokestatic 48, 3) := by decide +kernel
theorem dX3_become_57 : decode cX3_become 57 = .ok (.aload_n 1, 1) := by decide +kernel
theorem dX3_become_58 : decode cX3_become 58 = .ok (.getfield 24, 3) := by decide +kernel
theorem dX3_become_61 : decode cX3_become 61 = .ok (.iconst 0, 1) := by decide +kernel
theorem dX3_become_62 : decode cX3_become 62 = .ok (.aload_n 0, 1) := by decide +kernel
theorem dX3_become_63 : decode cX3_become 63 = .ok (.getfield 24, 3) := by decide +kernel
theorem dX3_become_66 : decode cX3_become 66 = .ok (.iconst 0, 1) := by decide +kernel
theorem dX3_become_67 : decode cX3_become 67 = .ok (.bipush 20, 2) := by decide +kernel
theorem dX3_become_69 : decode cX3_become 69 = .ok (.invokestatic 48, 3) := by decide +kernel
theorem dX3_become_72 : decode cX3_become 72 = .ok (.aload_n 0, 1) := by decide +kernel
theorem dX3_become_73 : decode cX3_become 73 = .ok (.aload_n 1, 1) := by decide +kernel
theorem dX3_become_74 : decode cX3_become 74 = .ok (.getfield 54, 3) := by decide +kernel
theorem dX3_become_77 : decode cX3_become 77 = .ok (.putfield 54, 3) := by decide +kernel
theorem dX3_become_80 : decode cX3_become 80 = .ok (.aload_n 0, 1) := by decide +kernel
theorem dX3_become_81 : decode cX3_become 81 = .ok (.aload_n 1, 1) := by decide +kernel
theorem dX3_become_82 : decode cX3_become 82 = .ok (.getfield 40, 3) := by decide +kernel
theorem dX3_become_85 : decode cX3_become 85 = .ok (.putfield 40, 3) := by decide +kernel
theorem dX3_become_88 : decode cX3_become 88 = .ok (.aload_n 0, 1) := by decide +kernel
theorem dX3_become_89 : decode cX3_become 89 = .ok (.aload_n 1, 1) := by decide +kernel
theorem dX3_become_90 : decode cX3_become 90 = .ok (.getfield 57, 3) := by decide +kernel
theorem dX3_become_93 : decode cX3_become 93 = .ok (.putfield 57, 3) := by decide +kernel
theorem dX3_become_96 : decode cX3_become 96 = .ok (.aload_n 0, 1) := by decide +kernel
theorem dX3_become_97 : decode cX3_become 97 = .ok (.aload_n 1, 1) := by decide +kernel
theorem dX3_become_98 : decode cX3_become 98 = .ok (.getfield 44, 3) := by decide +kernel
theorem dX3_become_101 : decode cX3_become 101 = .ok (.putfield 44, 3) := by decide +kernel
theorem dX3_become_104 : decode cX3_become 104 = .ok (.return_, 1) := by decide +kernel
theorem dX3_has_0 : decode cX3_has 0 = .ok (.iload_n 1, 1) := by decide +kernel
theorem dX3_has_1 : decode cX3_has 1 = .ok (.ifCond .lt 20, 3) := by decide +kernel
theorem dX3_has_4 : decode cX3_has 4 = .ok (.iload_n 1, 1) := by decide +kernel
theorem dX3_has_5 : decode cX3_has 5 = .ok (.aload_n 0, 1) := by decide +kernel
theorem dX3_has_6 : decode cX3_has 6 = .ok (.getfield 54, 3) := by decide +kernel
theorem dX3_has_9 : decode cX3_has 9 = .ok (.if_icmp .ge 12, 3) := by decide +kernel
theorem dX3_has_12 : decode cX3_has 12 = .ok (.iload_n 1, 1) := by decide +kernel
theorem dX3_has_13 : decode cX3_has 13 = .ok (.iconst 5, 1) := by decide +kernel
theorem dX3_has_14 : decode cX3_has 14 = .ok (.if_icmp .ge 7, 3) := by decide +kernel
theorem dX3_has_17 : decode cX3_has 17 = .ok (.iconst 1, 1) := by decide +kernel
theorem dX3_has_18 : decode cX3_has 18 = .ok (.goto 4, 3) := by decide +kernel
theorem dX3_has_21 : decode cX3_has 21 = .ok (.iconst 0, 1) := by decide +kernel
theorem dX3_has_22 : decode cX3_has 22 = .ok (.ireturn, 1) := by decide +kernel
theorem dX3_hasLine_0 : decode cX3_hasLine 0 = .ok (.aload_n 0, 1) := by decide +kernel
theorem dX3_hasLine_1 : decode cX3_hasLine 1 = .ok (.iload_n 1, 1) := by decide +kernel
theorem dX3_hasLine_2 : decode cX3_hasLine 2 = .ok (.invokevirtual 60, 3) := by decide +kernel
theorem dX3_hasLine_5 : decode cX3_hasLine 5 = .ok (.ifCond .eq 16, 3) := by decide +kernel
theorem dX3_hasLine_8 : decode cX3_hasLine 8 = .ok (.iload_n 2, 1) := by decide +kernel
theorem dX3_hasLine_9 : decode cX3_hasLine 9 = .ok (.ifCond .lt 12, 3) := by decide +kernel
theorem dX3_hasLine_12 : decode cX3_hasLine 12 = .ok (.iload_n 2, 1) := by decide +kernel
theorem dX3_hasLine_13 : decode cX3_hasLine 13 = .ok (.iconst 3, 1) := by decide +kernel
theorem dX3_hasLine_14 : decode cX3_hasLine 14 = .ok (.if_icmp .ge 7, 3) := by decide +kernel
theorem dX3_hasLine_17 : decode cX3_hasLine 17 = .ok (.iconst 1, 1) := by decide +kernel
theorem dX3_hasLine_18 : decode cX3_hasLine 18 = .ok (.goto 4, 3) := by decide +kernel
theorem dX3_hasLine_21 : decode cX3_hasLine 21 = .ok (.iconst 0, 1) := by decide +kernel
theorem dX3_hasLine_22 : decode cX3_hasLine 22 = .ok (.ireturn, 1) := by decide +kernel
theorem dX3_admit_0 : decode cX3_admit 0 = .ok (.aload_n 0, 1) := by decide +kernel
theorem dX3_admit_1 : decode cX3_admit 1 = .ok (.getfield 54, 3) := by decide +kernel
theorem dX3_admit_4 : decode cX3_admit 4 = .ok (.iconst 5, 1) := by decide +kernel
theorem dX3_admit_5 : decode cX3_admit 5 = .ok (.if_icmp .lt 6, 3) := by decide +kernel
theorem dX3_admit_8 : decode cX3_admit 8 = .ok (.bipush (-4), 2) := by decide +kernel
theorem dX3_admit_10 : decode cX3_admit 10 = .ok (.ireturn, 1) := by decide +kernel
theorem dX3_admit_11 : decode cX3_admit 11 = .ok (.aload_n 0, 1) := by decide +kernel
theorem dX3_admit_12 : decode cX3_admit 12 = .ok (.getfield 54, 3) := by decide +kernel
theorem dX3_admit_15 : decode cX3_admit 15 = .ok (.istore 4, 2) := by decide +kernel
theorem dX3_admit_17 : decode cX3_admit 17 = .ok (.aload_n 0, 1) := by decide +kernel
theorem dX3_admit_18 : decode cX3_admit 18 = .ok (.dup, 1) := by decide +kernel
theorem dX3_admit_19 : decode cX3_admit 19 = .ok (.getfield 54, 3) := by decide +kernel
theorem dX3_admit_22 : decode cX3_admit 22 = .ok (.iconst 1, 1) := by decide +kernel
theorem dX3_admit_23 : decode cX3_admit 23 = .ok (.iadd, 1) := by decide +kernel
theorem dX3_admit_24 : decode cX3_admit 24 = .ok (.putfield 54, 3) := by decide +kernel
theorem dX3_admit_27 : decode cX3_admit 27 = .ok (.aload_n 0, 1) := by decide +kernel
theorem dX3_admit_28 : decode cX3_admit 28 = .ok (.getfield 9, 3) := by decide +kernel
theorem dX3_admit_31 : decode cX3_admit 31 = .ok (.iload 4, 2) := by decide +kernel
theorem dX3_admit_33 : decode cX3_admit 33 = .ok (.iload_n 1, 1) := by decide +kernel
theorem dX3_admit_34 : decode cX3_admit 34 = .ok (.iastore, 1) := by decide +kernel
theorem dX3_admit_35 : decode cX3_admit 35 = .ok (.aload_n 0, 1) := by decide +kernel
theorem dX3_admit_36 : decode cX3_admit 36 = .ok (.getfield 15, 3) := by decide +kernel
theorem dX3_admit_39 : decode cX3_admit 39 = .ok (.iload 4, 2) := by decide +kernel
theorem dX3_admit_41 : decode cX3_admit 41 = .ok (.iload_n 2, 1) := by decide +kernel
theorem dX3_admit_42 : decode cX3_admit 42 = .ok (.iastore, 1) := by decide +kernel
theorem dX3_admit_43 : decode cX3_admit 43 = .ok (.iconst 0, 1) := by decide +kernel
theorem dX3_admit_44 : decode cX3_admit 44 = .ok (.istore 5, 2) := by decide +kernel
theorem dX3_admit_46 : decode cX3_admit 46 = .ok (.iload 5, 2) := by decide +kernel
theorem dX3_admit_48 : decode cX3_admit 48 = .ok (.iconst 3, 1) := by decide +kernel
theorem dX3_admit_49 : decode cX3_admit 49 = .ok (.if_icmp .ge 18, 3) := by decide +kernel
theorem dX3_admit_52 : decode cX3_admit 52 = .ok (.aload_n 0, 1) := by decide +kernel
theorem dX3_admit_53 : decode cX3_admit 53 = .ok (.iload 4, 2) := by decide +kernel
theorem dX3_admit_55 : decode cX3_admit 55 = .ok (.iload 5, 2) := by decide +kernel
theorem dX3_admit_57 : decode cX3_admit 57 = .ok (.iload_n 3, 1) := by decide +kernel
theorem dX3_admit_58 : decode cX3_admit 58 = .ok (.invokevirtual 64, 3) := by decide +kernel
theorem dX3_admit_61 : decode cX3_admit 61 = .ok (.iinc 5 1, 3) := by decide +kernel
theorem dX3_admit_64 : decode cX3_admit 64 = .ok (.goto (-18), 3) := by decide +kernel
theorem dX3_admit_67 : decode cX3_admit 67 = .ok (.iload 4, 2) := by decide +kernel
theorem dX3_admit_69 : decode cX3_admit 69 = .ok (.ireturn, 1) := by decide +kernel
theorem dX3_kindOf_0 : decode cX3_kindOf 0 = .ok (.aload_n 0, 1) := by decide +kernel
theorem dX3_kindOf_1 : decode cX3_kindOf 1 = .ok (.iload_n 1, 1) := by decide +kernel
theorem dX3_kindOf_2 : decode cX3_kindOf 2 = .ok (.invokevirtual 60, 3) := by decide +kernel
theorem dX3_kindOf_5 : decode cX3_kindOf 5 = .ok (.ifCond .eq 12, 3) := by decide +kernel
theorem dX3_kindOf_8 : decode cX3_kindOf 8 = .ok (.aload_n 0, 1) := by decide +kernel
theorem dX3_kindOf_9 : decode cX3_kindOf 9 = .ok (.getfield 9, 3) := by decide +kernel
theorem dX3_kindOf_12 : decode cX3_kindOf 12 = .ok (.iload_n 1, 1) := by decide +kernel
theorem dX3_kindOf_13 : decode cX3_kindOf 13 = .ok (.iaload, 1) := by decide +kernel
theorem dX3_kindOf_14 : decode cX3_kindOf 14 = .ok (.goto 4, 3) := by decide +kernel
theorem dX3_kindOf_17 : decode cX3_kindOf 17 = .ok (.iconst 0, 1) := by decide +kernel
theorem dX3_kindOf_18 : decode cX3_kindOf 18 = .ok (.ireturn, 1) := by decide +kernel
theorem dX3_vOf_0 : decode cX3_vOf 0 = .ok (.aload_n 0, 1) := by decide +kernel
theorem dX3_vOf_1 : decode cX3_vOf 1 = .ok (.iload_n 1, 1) := by decide +kernel
theorem dX3_vOf_2 : decode cX3_vOf 2 = .ok (.invokevirtual 60, 3) := by decide +kernel
theorem dX3_vOf_5 : decode cX3_vOf 5 = .ok (.ifCond .eq 12, 3) := by decide +kernel
theorem dX3_vOf_8 : decode cX3_vOf 8 = .ok (.aload_n 0, 1) := by decide +kernel
theorem dX3_vOf_9 : decode cX3_vOf 9 = .ok (.getfield 15, 3) := by decide +kernel
theorem dX3_vOf_12 : decode cX3_vOf 12 = .ok (.iload_n 1, 1) := by decide +kernel
theorem dX3_vOf_13 : decode cX3_vOf 13 = .ok (.iaload, 1) := by decide +kernel
theorem dX3_vOf_14 : decode cX3_vOf 14 = .ok (.goto 4, 3) := by decide +kernel
theorem dX3_vOf_17 : decode cX3_vOf 17 = .ok (.iconst 0, 1) := by decide +kernel
theorem dX3_vOf_18 : decode cX3_vOf 18 = .ok (.ireturn, 1) := by decide +kernel
theorem dX3_putV_0 : decode cX3_putV 0 = .ok (.aload_n 0, 1) := by decide +kernel
theorem dX3_putV_1 : decode cX3_putV 1 = .ok (.iload_n 1, 1) := by decide +kernel
theorem dX3_putV_2 : decode cX3_putV 2 = .ok (.invokevirtual 60, 3) := by decide +kernel
theorem dX3_putV_5 : decode cX3_putV 5 = .ok (.ifCond .eq 10, 3) := by decide +kernel
theorem dX3_putV_8 : decode cX3_putV 8 = .ok (.aload_n 0, 1) := by decide +kernel
theorem dX3_putV_9 : decode cX3_putV 9 = .ok (.getfield 15, 3) := by decide +kernel
theorem dX3_putV_12 : decode cX3_putV 12 = .ok (.iload_n 1, 1) := by decide +kernel
theorem dX3_putV_13 : decode cX3_putV 13 = .ok (.iload_n 2, 1) := by decide +kernel
theorem dX3_putV_14 : decode cX3_putV 14 = .ok (.iastore, 1) := by decide +kernel
theorem dX3_putV_15 : decode cX3_putV 15 = .ok (.return_, 1) := by decide +kernel
theorem dX3_shookOf_0 : decode cX3_shookOf 0 = .ok (.aload_n 0, 1) := by decide +kernel
theorem dX3_shookOf_1 : decode cX3_shookOf 1 = .ok (.iload_n 1, 1) := by decide +kernel
theorem dX3_shookOf_2 : decode cX3_shookOf 2 = .ok (.invokevirtual 60, 3) := by decide +kernel
theorem dX3_shookOf_5 : decode cX3_shookOf 5 = .ok (.ifCond .eq 12, 3) := by decide +kernel
theorem dX3_shookOf_8 : decode cX3_shookOf 8 = .ok (.aload_n 0, 1) := by decide +kernel
theorem dX3_shookOf_9 : decode cX3_shookOf 9 = .ok (.getfield 18, 3) := by decide +kernel
theorem dX3_shookOf_12 : decode cX3_shookOf 12 = .ok (.iload_n 1, 1) := by decide +kernel
theorem dX3_shookOf_13 : decode cX3_shookOf 13 = .ok (.iaload, 1) := by decide +kernel
theorem dX3_shookOf_14 : decode cX3_shookOf 14 = .ok (.goto 4, 3) := by decide +kernel
theorem dX3_shookOf_17 : decode cX3_shookOf 17 = .ok (.iconst 0, 1) := by decide +kernel
theorem dX3_shookOf_18 : decode cX3_shookOf 18 = .ok (.ireturn, 1) := by decide +kernel
theorem dX3_lengthOf_0 : decode cX3_lengthOf 0 = .ok (.aload_n 0, 1) := by decide +kernel
theorem dX3_lengthOf_1 : decode cX3_lengthOf 1 = .ok (.iload_n 1, 1) := by decide +kernel
theorem dX3_lengthOf_2 : decode cX3_lengthOf 2 = .ok (.iload_n 2, 1) := by decide +kernel
theorem dX3_lengthOf_3 : decode cX3_lengthOf 3 = .ok (.invokevirtual 68, 3) := by decide +kernel
theorem dX3_lengthOf_6 : decode cX3_lengthOf 6 = .ok (.ifCond .eq 16, 3) := by decide +kernel
theorem dX3_lengthOf_9 : decode cX3_lengthOf 9 = .ok (.aload_n 0, 1) := by decide +kernel
theorem dX3_lengthOf_10 : decode cX3_lengthOf 10 = .ok (.getfield 21, 3) := by decide +kernel
theorem dX3_lengthOf_13 : decode cX3_lengthOf 13 = .ok (.iload_n 1, 1) := by decide +kernel
theorem dX3_lengthOf_14 : decode cX3_lengthOf 14 = .ok (.iconst 3, 1) := by decide +kernel
theorem dX3_lengthOf_15 : decode cX3_lengthOf 15 = .ok (.imul, 1) := by decide +kernel
theorem dX3_lengthOf_16 : decode cX3_lengthOf 16 = .ok (.iload_n 2, 1) := by decide +kernel
theorem dX3_lengthOf_17 : decode cX3_lengthOf 17 = .ok (.iadd, 1) := by decide +kernel
theorem dX3_lengthOf_18 : decode cX3_lengthOf 18 = .ok (.iaload, 1) := by decide +kernel
theorem dX3_lengthOf_19 : decode cX3_lengthOf 19 = .ok (.goto 4, 3) := by decide +kernel
theorem dX3_lengthOf_22 : decode cX3_lengthOf 22 = .ok (.iconst 0, 1) := by decide +kernel
theorem dX3_lengthOf_23 : decode cX3_lengthOf 23 = .ok (.ireturn, 1) := by decide +kernel
theorem dX3_putLength_0 : decode cX3_putLength 0 = .ok (.aload_n 0, 1) := by decide +kernel
theorem dX3_putLength_1 : decode cX3_putLength 1 = .ok (.iload_n 1, 1) := by decide +kernel
theorem dX3_putLength_2 : decode cX3_putLength 2 = .ok (.iload_n 2, 1) := by decide +kernel
theorem dX3_putLength_3 : decode cX3_putLength 3 = .ok (.invokevirtual 68, 3) := by decide +kernel
theorem dX3_putLength_6 : decode cX3_putLength 6 = .ok (.ifCond .eq 14, 3) := by decide +kernel
theorem dX3_putLength_9 : decode cX3_putLength 9 = .ok (.aload_n 0, 1) := by decide +kernel
theorem dX3_putLength_10 : decode cX3_putLength 10 = .ok (.getfield 21, 3) := by decide +kernel
theorem dX3_putLength_13 : decode cX3_putLength 13 = .ok (.iload_n 1, 1) := by decide +kernel
theorem dX3_putLength_14 : decode cX3_putLength 14 = .ok (.iconst 3, 1) := by decide +kernel
theorem dX3_putLength_15 : decode cX3_putLength 15 = .ok (.imul, 1) := by decide +kernel
theorem dX3_putLength_16 : decode cX3_putLength 16 = .ok (.iload_n 2, 1) := by decide +kernel
theorem dX3_putLength_17 : decode cX3_putLength 17 = .ok (.iadd, 1) := by decide +kernel
theorem dX3_putLength_18 : decode cX3_putLength 18 = .ok (.iload_n 3, 1) := by decide +kernel
theorem dX3_putLength_19 : decode cX3_putLength 19 = .ok (.iastore, 1) := by decide +kernel
theorem dX3_putLength_20 : decode cX3_putLength 20 = .ok (.return_, 1) := by decide +kernel
theorem dX3_hasPart_0 : decode cX3_hasPart 0 = .ok (.aload_n 0, 1) := by decide +kernel
theorem dX3_hasPart_1 : decode cX3_hasPart 1 = .ok (.iload_n 1, 1) := by decide +kernel
theorem dX3_hasPart_2 : decode cX3_hasPart 2 = .ok (.invokevirtual 60, 3) := by decide +kernel
theorem dX3_hasPart_5 : decode cX3_hasPart 5 = .ok (.ifCond .eq 16, 3) := by decide +kernel
theorem dX3_hasPart_8 : decode cX3_hasPart 8 = .ok (.iload_n 2, 1) := by decide +kernel
theorem dX3_hasPart_9 : decode cX3_hasPart 9 = .ok (.ifCond .lt 12, 3) := by decide +kernel
theorem dX3_hasPart_12 : decode cX3_hasPart 12 = .ok (.iload_n 2, 1) := by decide +kernel
theorem dX3_hasPart_13 : decode cX3_hasPart 13 = .ok (.iconst 4, 1) := by decide +kernel
theorem dX3_hasPart_14 : decode cX3_hasPart 14 = .ok (.if_icmp .ge 7, 3) := by decide +kernel
theorem dX3_hasPart_17 : decode cX3_hasPart 17 = .ok (.iconst 1, 1) := by decide +kernel
theorem dX3_hasPart_18 : decode cX3_hasPart 18 = .ok (.goto 4, 3) := by decide +kernel
theorem dX3_hasPart_21 : decode cX3_hasPart 21 = .ok (.iconst 0, 1) := by decide +kernel
theorem dX3_hasPart_22 : decode cX3_hasPart 22 = .ok (.ireturn, 1) := by decide +kernel
theorem dX3_partOf_0 : decode cX3_partOf 0 = .ok (.aload_n 0, 1) := by decide +kernel
theorem dX3_partOf_1 : decode cX3_partOf 1 = .ok (.iload_n 1, 1) := by decide +kernel
theorem dX3_partOf_2 : decode cX3_partOf 2 = .ok (.iload_n 2, 1) := by decide +kernel
theorem dX3_partOf_3 : decode cX3_partOf 3 = .ok (.invokevirtual 72, 3) := by decide +kernel
theorem dX3_partOf_6 : decode cX3_partOf 6 = .ok (.ifCond .eq 16, 3) := by decide +kernel
theorem dX3_partOf_9 : decode cX3_partOf 9 = .ok (.aload_n 0, 1) := by decide +kernel
theorem dX3_partOf_10 : decode cX3_partOf 10 = .ok (.getfield 24, 3) := by decide +kernel
theorem dX3_partOf_13 : decode cX3_partOf 13 = .ok (.iload_n 1, 1) := by decide +kernel
theorem dX3_partOf_14 : decode cX3_partOf 14 = .ok (.iconst 4, 1) := by decide +kernel
theorem dX3_partOf_15 : decode cX3_partOf 15 = .ok (.imul, 1) := by decide +kernel
theorem dX3_partOf_16 : decode cX3_partOf 16 = .ok (.iload_n 2, 1) := by decide +kernel
theorem dX3_partOf_17 : decode cX3_partOf 17 = .ok (.iadd, 1) := by decide +kernel
theorem dX3_partOf_18 : decode cX3_partOf 18 = .ok (.iaload, 1) := by decide +kernel
theorem dX3_partOf_19 : decode cX3_partOf 19 = .ok (.goto 4, 3) := by decide +kernel
theorem dX3_partOf_22 : decode cX3_partOf 22 = .ok (.iconst 0, 1) := by decide +kernel
theorem dX3_partOf_23 : decode cX3_partOf 23 = .ok (.ireturn, 1) := by decide +kernel
theorem dX3_putPart_0 : decode cX3_putPart 0 = .ok (.aload_n 0, 1) := by decide +kernel
theorem dX3_putPart_1 : decode cX3_putPart 1 = .ok (.iload_n 1, 1) := by decide +kernel
theorem dX3_putPart_2 : decode cX3_putPart 2 = .ok (.iload_n 2, 1) := by decide +kernel
theorem dX3_putPart_3 : decode cX3_putPart 3 = .ok (.invokevirtual 72, 3) := by decide +kernel
theorem dX3_putPart_6 : decode cX3_putPart 6 = .ok (.ifCond .eq 14, 3) := by decide +kernel
theorem dX3_putPart_9 : decode cX3_putPart 9 = .ok (.aload_n 0, 1) := by decide +kernel
theorem dX3_putPart_10 : decode cX3_putPart 10 = .ok (.getfield 24, 3) := by decide +kernel
theorem dX3_putPart_13 : decode cX3_putPart 13 = .ok (.iload_n 1, 1) := by decide +kernel
theorem dX3_putPart_14 : decode cX3_putPart 14 = .ok (.iconst 4, 1) := by decide +kernel
theorem dX3_putPart_15 : decode cX3_putPart 15 = .ok (.imul, 1) := by decide +kernel
theorem dX3_putPart_16 : decode cX3_putPart 16 = .ok (.iload_n 2, 1) := by decide +kernel
theorem dX3_putPart_17 : decode cX3_putPart 17 = .ok (.iadd, 1) := by decide +kernel
theorem dX3_putPart_18 : decode cX3_putPart 18 = .ok (.iload_n 3, 1) := by decide +kernel
theorem dX3_putPart_19 : decode cX3_putPart 19 = .ok (.iastore, 1) := by decide +kernel
theorem dX3_putPart_20 : decode cX3_putPart 20 = .ok (.return_, 1) := by decide +kernel
theorem dX3_graceOf_0 : decode cX3_graceOf 0 = .ok (.aload_n 0, 1) := by decide +kernel
theorem dX3_graceOf_1 : decode cX3_graceOf 1 = .ok (.getfield 37, 3) := by decide +kernel
theorem dX3_graceOf_4 : decode cX3_graceOf 4 = .ok (.iconst 0, 1) := by decide +kernel
theorem dX3_graceOf_5 : decode cX3_graceOf 5 = .ok (.iload_n 1, 1) := by decide +kernel
theorem dX3_graceOf_6 : decode cX3_graceOf 6 = .ok (.iastore, 1) := by decide +kernel
theorem dX3_graceOf_7 : decode cX3_graceOf 7 = .ok (.aload_n 0, 1) := by decide +kernel
theorem dX3_graceOf_8 : decode cX3_graceOf 8 = .ok (.getfield 37, 3) := by decide +kernel
theorem dX3_graceOf_11 : decode cX3_graceOf 11 = .ok (.iconst 1, 1) := by decide +kernel
theorem dX3_graceOf_12 : decode cX3_graceOf 12 = .ok (.iload_n 2, 1) := by decide +kernel
theorem dX3_graceOf_13 : decode cX3_graceOf 13 = .ok (.iastore, 1) := by decide +kernel
theorem dX3_graceOf_14 : decode cX3_graceOf 14 = .ok (.aload_n 0, 1) := by decide +kernel
theorem dX3_graceOf_15 : decode cX3_graceOf 15 = .ok (.getfield 37, 3) := by decide +kernel
theorem dX3_graceOf_18 : decode cX3_graceOf 18 = .ok (.iconst 2, 1) := by decide +kernel
theorem dX3_graceOf_19 : decode cX3_graceOf 19 = .ok (.aload_n 0, 1) := by decide +kernel
theorem dX3_graceOf_20 : decode cX3_graceOf 20 = .ok (.iload_n 1, 1) := by decide +kernel
theorem dX3_graceOf_21 : decode cX3_graceOf 21 = .ok (.invokevirtual 75, 3) := by decide +kernel
theorem dX3_graceOf_24 : decode cX3_graceOf 24 = .ok (.iastore, 1) := by decide +kernel
theorem dX3_graceOf_25 : decode cX3_graceOf 25 = .ok (.aload_n 0, 1) := by decide +kernel
theorem dX3_graceOf_26 : decode cX3_graceOf 26 = .ok (.getfield 37, 3) := by decide +kernel
theorem dX3_graceOf_29 : decode cX3_graceOf 29 = .ok (.iconst 3, 1) := by decide +kernel
theorem dX3_graceOf_30 : decode cX3_graceOf 30 = .ok (.aload_n 0, 1) := by decide +kernel
theorem dX3_graceOf_31 : decode cX3_graceOf 31 = .ok (.iload_n 1, 1) := by decide +kernel
theorem dX3_graceOf_32 : decode cX3_graceOf 32 = .ok (.invokevirtual 79, 3) := by decide +kernel
theorem dX3_graceOf_35 : decode cX3_graceOf 35 = .ok (.iastore, 1) := by decide +kernel
theorem dX3_graceOf_36 : decode cX3_graceOf 36 = .ok (.aload_n 0, 1) := by decide +kernel
theorem dX3_graceOf_37 : decode cX3_graceOf 37 = .ok (.getfield 37, 3) := by decide +kernel
theorem dX3_graceOf_40 : decode cX3_graceOf 40 = .ok (.iconst 4, 1) := by decide +kernel
theorem dX3_graceOf_41 : decode cX3_graceOf 41 = .ok (.aload_n 0, 1) := by decide +kernel
theorem dX3_graceOf_42 : decode cX3_graceOf 42 = .ok (.iload_n 1, 1) := by decide +kernel
theorem dX3_graceOf_43 : decode cX3_graceOf 43 = .ok (.iload_n 2, 1) := by decide +kernel
theorem dX3_graceOf_44 : decode cX3_graceOf 44 = .ok (.invokevirtual 82, 3) := by decide +kernel
theorem dX3_graceOf_47 : decode cX3_graceOf 47 = .ok (.iastore, 1) := by decide +kernel
theorem dX3_graceOf_48 : decode cX3_graceOf 48 = .ok (.aload_n 0, 1) := by decide +kernel
theorem dX3_graceOf_49 : decode cX3_graceOf 49 = .ok (.getfield 37, 3) := by decide +kernel
theorem dX3_graceOf_52 : decode cX3_graceOf 52 = .ok (.iconst 5, 1) := by decide +kernel
theorem dX3_graceOf_53 : decode cX3_graceOf 53 = .ok (.aload_n 0, 1) := by decide +kernel
theorem dX3_graceOf_54 : decode cX3_graceOf 54 = .ok (.getfield 57, 3) := by decide +kernel
theorem dX3_graceOf_57 : decode cX3_graceOf 57 = .ok (.bipush 10, 2) := by decide +kernel
theorem dX3_graceOf_59 : decode cX3_graceOf 59 = .ok (.irem, 1) := by decide +kernel
theorem dX3_graceOf_60 : decode cX3_graceOf 60 = .ok (.iastore, 1) := by decide +kernel
theorem dX3_graceOf_61 : decode cX3_graceOf 61 = .ok (.aload_n 0, 1) := by decide +kernel
theorem dX3_graceOf_62 : decode cX3_graceOf 62 = .ok (.getfield 44, 3) := by decide +kernel
theorem dX3_graceOf_65 : decode cX3_graceOf 65 = .ok (.aload_n 0, 1) := by decide +kernel
theorem dX3_graceOf_66 : decode cX3_graceOf 66 = .ok (.getfield 37, 3) := by decide +kernel
theorem dX3_graceOf_69 : decode cX3_graceOf 69 = .ok (.invokevirtual 86, 3) := by decide +kernel
theorem dX3_graceOf_72 : decode cX3_graceOf 72 = .ok (.ireturn, 1) := by decide +kernel
theorem dX3_worthOf_0 : decode cX3_worthOf 0 = .ok (.aload_n 0, 1) := by decide +kernel
theorem dX3_worthOf_1 : decode cX3_worthOf 1 = .ok (.iload_n 1, 1) := by decide +kernel
theorem dX3_worthOf_2 : decode cX3_worthOf 2 = .ok (.iload_n 2, 1) := by decide +kernel
theorem dX3_worthOf_3 : decode cX3_worthOf 3 = .ok (.invokevirtual 82, 3) := by decide +kernel
theorem dX3_worthOf_6 : decode cX3_worthOf 6 = .ok (.istore_n 3, 1) := by decide +kernel
theorem dX3_worthOf_7 : decode cX3_worthOf 7 = .ok (.iload_n 3, 1) := by decide +kernel
theorem dX3_worthOf_8 : decode cX3_worthOf 8 = .ok (.ifCond .ne 7, 3) := by decide +kernel
theorem dX3_worthOf_11 : decode cX3_worthOf 11 = .ok (.iconst 0, 1) := by decide +kernel
theorem dX3_worthOf_12 : decode cX3_worthOf 12 = .ok (.goto 15, 3) := by decide +kernel
theorem dX3_worthOf_15 : decode cX3_worthOf 15 = .ok (.iconst 0, 1) := by decide +kernel
theorem dX3_worthOf_16 : decode cX3_worthOf 16 = .ok (.iload_n 3, 1) := by decide +kernel
theorem dX3_worthOf_17 : decode cX3_worthOf 17 = .ok (.aload_n 0, 1) := by decide +kernel
theorem dX3_worthOf_18 : decode cX3_worthOf 18 = .ok (.iload_n 1, 1) := by decide +kernel
theorem dX3_worthOf_19 : decode cX3_worthOf 19 = .ok (.iload_n 2, 1) := by decide +kernel
theorem dX3_worthOf_20 : decode cX3_worthOf 20 = .ok (.invokevirtual 90, 3) := by decide +kernel
theorem dX3_worthOf_23 : decode cX3_worthOf 23 = .ok (.iadd, 1) := by decide +kernel
theorem dX3_worthOf_24 : decode cX3_worthOf 24 = .ok (.invokestatic 93, 3) := by decide +kernel
theorem dX3_worthOf_27 : decode cX3_worthOf 27 = .ok (.ireturn, 1) := by decide +kernel
theorem dX3_fortuneOf_0 : decode cX3_fortuneOf 0 = .ok (.aload_n 0, 1) := by decide +kernel
theorem dX3_fortuneOf_1 : decode cX3_fortuneOf 1 = .ok (.iload_n 1, 1) := by decide +kernel
theorem dX3_fortuneOf_2 : decode cX3_fortuneOf 2 = .ok (.invokevirtual 75, 3) := by decide +kernel
theorem dX3_fortuneOf_5 : decode cX3_fortuneOf 5 = .ok (.istore_n 2, 1) := by decide +kernel
theorem dX3_fortuneOf_6 : decode cX3_fortuneOf 6 = .ok (.iload_n 2, 1) := by decide +kernel
theorem dX3_fortuneOf_7 : decode cX3_fortuneOf 7 = .ok (.iconst 4, 1) := by decide +kernel
theorem dX3_fortuneOf_8 : decode cX3_fortuneOf 8 = .ok (.if_icmp .ne 5, 3) := by decide +kernel
theorem dX3_fortuneOf_11 : decode cX3_fortuneOf 11 = .ok (.iconst 0, 1) := by decide +kernel
theorem dX3_fortuneOf_12 : decode cX3_fortuneOf 12 = .ok (.ireturn, 1) := by decide +kernel
theorem dX3_fortuneOf_13 : decode cX3_fortuneOf 13 = .ok (.iload_n 2, 1) := by decide +kernel
theorem dX3_fortuneOf_14 : decode cX3_fortuneOf 14 = .ok (.iconst 1, 1) := by decide +kernel
theorem dX3_fortuneOf_15 : decode cX3_fortuneOf 15 = .ok (.if_icmp .ne 11, 3) := by decide +kernel
theorem dX3_fortuneOf_18 : decode cX3_fortuneOf 18 = .ok (.aload_n 0, 1) := by decide +kernel
theorem dX3_fortuneOf_19 : decode cX3_fortuneOf 19 = .ok (.iload_n 1, 1) := by decide +kernel
theorem dX3_fortuneOf_20 : decode cX3_fortuneOf 20 = .ok (.invokevirtual 79, 3) := by decide +kernel
theorem dX3_fortuneOf_23 : decode cX3_fortuneOf 23 = .ok (.goto 4, 3) := by decide +kernel
theorem dX3_fortuneOf_26 : decode cX3_fortuneOf 26 = .ok (.iconst 0, 1) := by decide +kernel
theorem dX3_fortuneOf_27 : decode cX3_fortuneOf 27 = .ok (.istore_n 3, 1) := by decide +kernel
theorem dX3_fortuneOf_28 : decode cX3_fortuneOf 28 = .ok (.iconst 0, 1) := by decide +kernel
theorem dX3_fortuneOf_29 : decode cX3_fortuneOf 29 = .ok (.istore 4, 2) := by decide +kernel
theorem dX3_fortuneOf_31 : decode cX3_fortuneOf 31 = .ok (.iload 4, 2) := by decide +kernel
theorem dX3_fortuneOf_33 : decode cX3_fortuneOf 33 = .ok (.iconst 3, 1) := by decide +kernel
theorem dX3_fortuneOf_34 : decode cX3_fortuneOf 34 = .ok (.if_icmp .ge 19, 3) := by decide +kernel
theorem dX3_fortuneOf_37 : decode cX3_fortuneOf 37 = .ok (.iload_n 3, 1) := by decide +kernel
theorem dX3_fortuneOf_38 : decode cX3_fortuneOf 38 = .ok (.aload_n 0, 1) := by decide +kernel
theorem dX3_fortuneOf_39 : decode cX3_fortuneOf 39 = .ok (.iload_n 1, 1) := by decide +kernel
theorem dX3_fortuneOf_40 : decode cX3_fortuneOf 40 = .ok (.iload 4, 2) := by decide +kernel
theorem dX3_fortuneOf_42 : decode cX3_fortuneOf 42 = .ok (.invokevirtual 98, 3) := by decide +kernel
theorem dX3_fortuneOf_45 : decode cX3_fortuneOf 45 = .ok (.iadd, 1) := by decide +kernel
theorem dX3_fortuneOf_46 : decode cX3_fortuneOf 46 = .ok (.istore_n 3, 1) := by decide +kernel
theorem dX3_fortuneOf_47 : decode cX3_fortuneOf 47 = .ok (.iinc 4 1, 3) := by decide +kernel
theorem dX3_fortuneOf_50 : decode cX3_fortuneOf 50 = .ok (.goto (-19), 3) := by decide +kernel
theorem dX3_fortuneOf_53 : decode cX3_fortuneOf 53 = .ok (.iload_n 3, 1) := by decide +kernel
theorem dX3_fortuneOf_54 : decode cX3_fortuneOf 54 = .ok (.ireturn, 1) := by decide +kernel
theorem dX3_fortuneOfAll_0 : decode cX3_fortuneOfAll 0 = .ok (.iconst 0, 1) := by decide +kernel
theorem dX3_fortuneOfAll_1 : decode cX3_fortuneOfAll 1 = .ok (.istore_n 1, 1) := by decide +kernel
theorem dX3_fortuneOfAll_2 : decode cX3_fortuneOfAll 2 = .ok (.iconst 0, 1) := by decide +kernel
theorem dX3_fortuneOfAll_3 : decode cX3_fortuneOfAll 3 = .ok (.istore_n 2, 1) := by decide +kernel
theorem dX3_fortuneOfAll_4 : decode cX3_fortuneOfAll 4 = .ok (.iload_n 2, 1) := by decide +kernel
theorem dX3_fortuneOfAll_5 : decode cX3_fortuneOfAll 5 = .ok (.aload_n 0, 1) := by decide +kernel
theorem dX3_fortuneOfAll_6 : decode cX3_fortuneOfAll 6 = .ok (.getfield 54, 3) := by decide +kernel
theorem dX3_fortuneOfAll_9 : decode cX3_fortuneOfAll 9 = .ok (.if_icmp .ge 17, 3) := by decide +kernel
theorem dX3_fortuneOfAll_12 : decode cX3_fortuneOfAll 12 = .ok (.iload_n 1, 1) := by decide +kernel
theorem dX3_fortuneOfAll_13 : decode cX3_fortuneOfAll 13 = .ok (.aload_n 0, 1) := by decide +kernel
theorem dX3_fortuneOfAll_14 : decode cX3_fortuneOfAll 14 = .ok (.iload_n 2, 1) := by decide +kernel
theorem dX3_fortuneOfAll_15 : decode cX3_fortuneOfAll 15 = .ok (.invokevirtual 101, 3) := by decide +kernel
theorem dX3_fortuneOfAll_18 : decode cX3_fortuneOfAll 18 = .ok (.iadd, 1) := by decide +kernel
theorem dX3_fortuneOfAll_19 : decode cX3_fortuneOfAll 19 = .ok (.istore_n 1, 1) := by decide +kernel
theorem dX3_fortuneOfAll_20 : decode cX3_fortuneOfAll 20 = .ok (.iinc 2 1, 3) := by decide +kernel
theorem dX3_fortuneOfAll_23 : decode cX3_fortuneOfAll 23 = .ok (.goto (-19), 3) := by decide +kernel
theorem dX3_fortuneOfAll_26 : decode cX3_fortuneOfAll 26 = .ok (.iload_n 1, 1) := by decide +kernel
theorem dX3_fortuneOfAll_27 : decode cX3_fortuneOfAll 27 = .ok (.ireturn, 1) := by decide +kernel
theorem dX3_lengthOfAll_0 : decode cX3_lengthOfAll 0 = .ok (.iconst 0, 1) := by decide +kernel
theorem dX3_lengthOfAll_1 : decode cX3_lengthOfAll 1 = .ok (.istore_n 1, 1) := by decide +kernel
theorem dX3_lengthOfAll_2 : decode cX3_lengthOfAll 2 = .ok (.iconst 0, 1) := by decide +kernel
theorem dX3_lengthOfAll_3 : decode cX3_lengthOfAll 3 = .ok (.istore_n 2, 1) := by decide +kernel
theorem dX3_lengthOfAll_4 : decode cX3_lengthOfAll 4 = .ok (.iload_n 2, 1) := by decide +kernel
theorem dX3_lengthOfAll_5 : decode cX3_lengthOfAll 5 = .ok (.aload_n 0, 1) := by decide +kernel
theorem dX3_lengthOfAll_6 : decode cX3_lengthOfAll 6 = .ok (.getfield 54, 3) := by decide +kernel
theorem dX3_lengthOfAll_9 : decode cX3_lengthOfAll 9 = .ok (.if_icmp .ge 31, 3) := by decide +kernel
theorem dX3_lengthOfAll_12 : decode cX3_lengthOfAll 12 = .ok (.iconst 0, 1) := by decide +kernel
theorem dX3_lengthOfAll_13 : decode cX3_lengthOfAll 13 = .ok (.istore_n 3, 1) := by decide +kernel
theorem dX3_lengthOfAll_14 : decode cX3_lengthOfAll 14 = .ok (.iload_n 3, 1) := by decide +kernel
theorem dX3_lengthOfAll_15 : decode cX3_lengthOfAll 15 = .ok (.iconst 3, 1) := by decide +kernel
theorem dX3_lengthOfAll_16 : decode cX3_lengthOfAll 16 = .ok (.if_icmp .ge 18, 3) := by decide +kernel
theorem dX3_lengthOfAll_19 : decode cX3_lengthOfAll 19 = .ok (.iload_n 1, 1) := by decide +kernel
theorem dX3_lengthOfAll_20 : decode cX3_lengthOfAll 20 = .ok (.aload_n 0, 1) := by decide +kernel
theorem dX3_lengthOfAll_21 : decode cX3_lengthOfAll 21 = .ok (.iload_n 2, 1) := by decide +kernel
theorem dX3_lengthOfAll_22 : decode cX3_lengthOfAll 22 = .ok (.iload_n 3, 1) := by decide +kernel
theorem dX3_lengthOfAll_23 : decode cX3_lengthOfAll 23 = .ok (.invokevirtual 82, 3) := by decide +kernel
theorem dX3_lengthOfAll_26 : decode cX3_lengthOfAll 26 = .ok (.iadd, 1) := by decide +kernel
theorem dX3_lengthOfAll_27 : decode cX3_lengthOfAll 27 = .ok (.istore_n 1, 1) := by decide +kernel
theorem dX3_lengthOfAll_28 : decode cX3_lengthOfAll 28 = .ok (.iinc 3 1, 3) := by decide +kernel
theorem dX3_lengthOfAll_31 : decode cX3_lengthOfAll 31 = .ok (.goto (-17), 3) := by decide +kernel
theorem dX3_lengthOfAll_34 : decode cX3_lengthOfAll 34 = .ok (.iinc 2 1, 3) := by decide +kernel
theorem dX3_lengthOfAll_37 : decode cX3_lengthOfAll 37 = .ok (.goto (-33), 3) := by decide +kernel
theorem dX3_lengthOfAll_40 : decode cX3_lengthOfAll 40 = .ok (.iload_n 1, 1) := by decide +kernel
theorem dX3_lengthOfAll_41 : decode cX3_lengthOfAll 41 = .ok (.ireturn, 1) := by decide +kernel
theorem dX3_fadesOn_0 : decode cX3_fadesOn 0 = .ok (.aload_n 0, 1) := by decide +kernel
theorem dX3_fadesOn_1 : decode cX3_fadesOn 1 = .ok (.iload_n 1, 1) := by decide +kernel
theorem dX3_fadesOn_2 : decode cX3_fadesOn 2 = .ok (.invokevirtual 75, 3) := by decide +kernel
theorem dX3_fadesOn_5 : decode cX3_fadesOn 5 = .ok (.tableswitch 78 1 6 #[39, 41, 49, 53, 55, 65], 39) := by decide +kernel
theorem dX3_fadesOn_44 : decode cX3_fadesOn 44 = .ok (.iconst 2, 1) := by decide +kernel
theorem dX3_fadesOn_45 : decode cX3_fadesOn 45 = .ok (.ireturn, 1) := by decide +kernel
theorem dX3_fadesOn_46 : decode cX3_fadesOn 46 = .ok (.aload_n 0, 1) := by decide +kernel
theorem dX3_fadesOn_47 : decode cX3_fadesOn 47 = .ok (.iload_n 1, 1) := by decide +kernel
theorem dX3_fadesOn_48 : decode cX3_fadesOn 48 = .ok (.invokevirtual 79, 3) := by decide +kernel
theorem dX3_fadesOn_51 : decode cX3_fadesOn 51 = .ok (.iconst 2, 1) := by decide +kernel
theorem dX3_fadesOn_52 : decode cX3_fadesOn 52 = .ok (.irem, 1) := by decide +kernel
theorem dX3_fadesOn_53 : decode cX3_fadesOn 53 = .ok (.ireturn, 1) := by decide +kernel
theorem dX3_fadesOn_54 : decode cX3_fadesOn 54 = .ok (.iload_n 2, 1) := by decide +kernel
theorem dX3_fadesOn_55 : decode cX3_fadesOn 55 = .ok (.iconst 2, 1) := by decide +kernel
theorem dX3_fadesOn_56 : decode cX3_fadesOn 56 = .ok (.irem, 1) := by decide +kernel
theorem dX3_fadesOn_57 : decode cX3_fadesOn 57 = .ok (.ireturn, 1) := by decide +kernel
theorem dX3_fadesOn_58 : decode cX3_fadesOn 58 = .ok (.iconst 1, 1) := by decide +kernel
theorem dX3_fadesOn_59 : decode cX3_fadesOn 59 = .ok (.ireturn, 1) := by decide +kernel
theorem dX3_fadesOn_60 : decode cX3_fadesOn 60 = .ok (.aload_n 0, 1) := by decide +kernel
theorem dX3_fadesOn_61 : decode cX3_fadesOn 61 = .ok (.iload_n 1, 1) := by decide +kernel
theorem dX3_fadesOn_62 : decode cX3_fadesOn 62 = .ok (.invokevirtual 79, 3) := by decide +kernel
theorem dX3_fadesOn_65 : decode cX3_fadesOn 65 = .ok (.iconst 2, 1) := by decide +kernel
theorem dX3_fadesOn_66 : decode cX3_fadesOn 66 = .ok (.irem, 1) := by decide +kernel
theorem dX3_fadesOn_67 : decode cX3_fadesOn 67 = .ok (.iconst 1, 1) := by decide +kernel
theorem dX3_fadesOn_68 : decode cX3_fadesOn 68 = .ok (.iadd, 1) := by decide +kernel
theorem dX3_fadesOn_69 : decode cX3_fadesOn 69 = .ok (.ireturn, 1) := by decide +kernel
theorem dX3_fadesOn_70 : decode cX3_fadesOn 70 = .ok (.iload_n 2, 1) := by decide +kernel
theorem dX3_fadesOn_71 : decode cX3_fadesOn 71 = .ok (.iconst 2, 1) := by decide +kernel
theorem dX3_fadesOn_72 : decode cX3_fadesOn 72 = .ok (.irem, 1) := by decide +kernel
theorem dX3_fadesOn_73 : decode cX3_fadesOn 73 = .ok (.aload_n 0, 1) := by decide +kernel
theorem dX3_fadesOn_74 : decode cX3_fadesOn 74 = .ok (.iload_n 1, 1) := by decide +kernel
theorem dX3_fadesOn_75 : decode cX3_fadesOn 75 = .ok (.iload_n 2, 1) := by decide +kernel
theorem dX3_fadesOn_76 : decode cX3_fadesOn 76 = .ok (.iconst 4, 1) := by decide +kernel
theorem dX3_fadesOn_77 : decode cX3_fadesOn 77 = .ok (.irem, 1) := by decide +kernel
theorem dX3_fadesOn_78 : decode cX3_fadesOn 78 = .ok (.invokevirtual 104, 3) := by decide +kernel
theorem dX3_fadesOn_81 : decode cX3_fadesOn 81 = .ok (.iadd, 1) := by decide +kernel
theorem dX3_fadesOn_82 : decode cX3_fadesOn 82 = .ok (.ireturn, 1) := by decide +kernel
theorem dX3_fadesOn_83 : decode cX3_fadesOn 83 = .ok (.iconst 1, 1) := by decide +kernel
theorem dX3_fadesOn_84 : decode cX3_fadesOn 84 = .ok (.ireturn, 1) := by decide +kernel
theorem dX3_fadesOver_0 : decode cX3_fadesOver 0 = .ok (.iconst 0, 1) := by decide +kernel
theorem dX3_fadesOver_1 : decode cX3_fadesOver 1 = .ok (.istore_n 3, 1) := by decide +kernel
theorem dX3_fadesOver_2 : decode cX3_fadesOver 2 = .ok (.iconst 0, 1) := by decide +kernel
theorem dX3_fadesOver_3 : decode cX3_fadesOver 3 = .ok (.istore 4, 2) := by decide +kernel
theorem dX3_fadesOver_5 : decode cX3_fadesOver 5 = .ok (.iload 4, 2) := by decide +kernel
theorem dX3_fadesOver_7 : decode cX3_fadesOver 7 = .ok (.iload_n 2, 1) := by decide +kernel
theorem dX3_fadesOver_8 : decode cX3_fadesOver 8 = .ok (.if_icmp .ge 24, 3) := by decide +kernel
theorem dX3_fadesOver_11 : decode cX3_fadesOver 11 = .ok (.iload_n 3, 1) := by decide +kernel
theorem dX3_fadesOver_12 : decode cX3_fadesOver 12 = .ok (.aload_n 0, 1) := by decide +kernel
theorem dX3_fadesOver_13 : decode cX3_fadesOver 13 = .ok (.iload_n 1, 1) := by decide +kernel
theorem dX3_fadesOver_14 : decode cX3_fadesOver 14 = .ok (.aload_n 0, 1) := by decide +kernel
theorem dX3_fadesOver_15 : decode cX3_fadesOver 15 = .ok (.getfield 57, 3) := by decide +kernel
theorem dX3_fadesOver_18 : decode cX3_fadesOver 18 = .ok (.iload 4, 2) := by decide +kernel
theorem dX3_fadesOver_20 : decode cX3_fadesOver 20 = .ok (.iadd, 1) := by decide +kernel
theorem dX3_fadesOver_21 : decode cX3_fadesOver 21 = .ok (.invokevirtual 107, 3) := by decide +kernel
theorem dX3_fadesOver_24 : decode cX3_fadesOver 24 = .ok (.iadd, 1) := by decide +kernel
theorem dX3_fadesOver_25 : decode cX3_fadesOver 25 = .ok (.istore_n 3, 1) := by decide +kernel
theorem dX3_fadesOver_26 : decode cX3_fadesOver 26 = .ok (.iinc 4 1, 3) := by decide +kernel
theorem dX3_fadesOver_29 : decode cX3_fadesOver 29 = .ok (.goto (-24), 3) := by decide +kernel
theorem dX3_fadesOver_32 : decode cX3_fadesOver 32 = .ok (.iload_n 3, 1) := by decide +kernel
theorem dX3_fadesOver_33 : decode cX3_fadesOver 33 = .ok (.ireturn, 1) := by decide +kernel
theorem dX3_lengthBehind_0 : decode cX3_lengthBehind 0 = .ok (.iconst 0, 1) := by decide +kernel
theorem dX3_lengthBehind_1 : decode cX3_lengthBehind 1 = .ok (.aload_n 0, 1) := by decide +kernel
theorem dX3_lengthBehind_2 : decode cX3_lengthBehind 2 = .ok (.iload_n 1, 1) := by decide +kernel
theorem dX3_lengthBehind_3 : decode cX3_lengthBehind 3 = .ok (.iload_n 2, 1) := by decide +kernel
theorem dX3_lengthBehind_4 : decode cX3_lengthBehind 4 = .ok (.invokevirtual 82, 3) := by decide +kernel
theorem dX3_lengthBehind_7 : decode cX3_lengthBehind 7 = .ok (.aload_n 0, 1) := by decide +kernel
theorem dX3_lengthBehind_8 : decode cX3_lengthBehind 8 = .ok (.iload_n 1, 1) := by decide +kernel
theorem dX3_lengthBehind_9 : decode cX3_lengthBehind 9 = .ok (.iload_n 3, 1) := by decide +kernel
theorem dX3_lengthBehind_10 : decode cX3_lengthBehind 10 = .ok (.invokevirtual 110, 3) := by decide +kernel
theorem dX3_lengthBehind_13 : decode cX3_lengthBehind 13 = .ok (.isub, 1) := by decide +kernel
theorem dX3_lengthBehind_14 : decode cX3_lengthBehind 14 = .ok (.invokestatic 93, 3) := by decide +kernel
theorem dX3_lengthBehind_17 : decode cX3_lengthBehind 17 = .ok (.ireturn, 1) := by decide +kernel
theorem dX3_goDays_0 : decode cX3_goDays 0 = .ok (.iconst 0, 1) := by decide +kernel
theorem dX3_goDays_1 : decode cX3_goDays 1 = .ok (.istore_n 2, 1) := by decide +kernel
theorem dX3_goDays_2 : decode cX3_goDays 2 = .ok (.iload_n 2, 1) := by decide +kernel
theorem dX3_goDays_3 : decode cX3_goDays 3 = .ok (.aload_n 0, 1) := by decide +kernel
theorem dX3_goDays_4 : decode cX3_goDays 4 = .ok (.getfield 54, 3) := by decide +kernel
theorem dX3_goDays_7 : decode cX3_goDays 7 = .ok (.if_icmp .ge 51, 3) := by decide +kernel
theorem dX3_goDays_10 : decode cX3_goDays 10 = .ok (.aload_n 0, 1) := by decide +kernel
theorem dX3_goDays_11 : decode cX3_goDays 11 = .ok (.iload_n 2, 1) := by decide +kernel
theorem dX3_goDays_12 : decode cX3_goDays 12 = .ok (.iload_n 1, 1) := by decide +kernel
theorem dX3_goDays_13 : decode cX3_goDays 13 = .ok (.invokevirtual 110, 3) := by decide +kernel
theorem dX3_goDays_16 : decode cX3_goDays 16 = .ok (.istore_n 3, 1) := by decide +kernel
theorem dX3_goDays_17 : decode cX3_goDays 17 = .ok (.iconst 0, 1) := by decide +kernel
theorem dX3_goDays_18 : decode cX3_goDays 18 = .ok (.istore 4, 2) := by decide +kernel
theorem dX3_goDays_20 : decode cX3_goDays 20 = .ok (.iload 4, 2) := by decide +kernel
theorem dX3_goDays_22 : decode cX3_goDays 22 = .ok (.iconst 3, 1) := by decide +kernel
theorem dX3_goDays_23 : decode cX3_goDays 23 = .ok (.if_icmp .ge 29, 3) := by decide +kernel
theorem dX3_goDays_26 : decode cX3_goDays 26 = .ok (.aload_n 0, 1) := by decide +kernel
theorem dX3_goDays_27 : decode cX3_goDays 27 = .ok (.iload_n 2, 1) := by decide +kernel
theorem dX3_goDays_28 : decode cX3_goDays 28 = .ok (.iload 4, 2) := by decide +kernel
theorem dX3_goDays_30 : decode cX3_goDays 30 = .ok (.iconst 0, 1) := by decide +kernel
theorem dX3_goDays_31 : decode cX3_goDays 31 = .ok (.aload_n 0, 1) := by decide +kernel
theorem dX3_goDays_32 : decode cX3_goDays 32 = .ok (.iload_n 2, 1) := by decide +kernel
theorem dX3_goDays_33 : decode cX3_goDays 33 = .ok (.iload 4, 2) := by decide +kernel
theorem dX3_goDays_35 : decode cX3_goDays 35 = .ok (.invokevirtual 82, 3) := by decide +kernel
theorem dX3_goDays_38 : decode cX3_goDays 38 = .ok (.iload_n 3, 1) := by decide +kernel
theorem dX3_goDays_39 : decode cX3_goDays 39 = .ok (.isub, 1) := by decide +kernel
theorem dX3_goDays_40 : decode cX3_goDays 40 = .ok (.invokestatic 93, 3) := by decide +kernel
theorem dX3_goDays_43 : decode cX3_goDays 43 = .ok (.invokevirtual 64, 3) := by decide +kernel
theorem dX3_goDays_46 : decode cX3_goDays 46 = .ok (.iinc 4 1, 3) := by decide +kernel
theorem dX3_goDays_49 : decode cX3_goDays 49 = .ok (.goto (-29), 3) := by decide +kernel
theorem dX3_goDays_52 : decode cX3_goDays 52 = .ok (.iinc 2 1, 3) := by decide +kernel
theorem dX3_goDays_55 : decode cX3_goDays 55 = .ok (.goto (-53), 3) := by decide +kernel
theorem dX3_goDays_58 : decode cX3_goDays 58 = .ok (.aload_n 0, 1) := by decide +kernel
theorem dX3_goDays_59 : decode cX3_goDays 59 = .ok (.dup, 1) := by decide +kernel
theorem dX3_goDays_60 : decode cX3_goDays 60 = .ok (.getfield 57, 3) := by decide +kernel
theorem dX3_goDays_63 : decode cX3_goDays 63 = .ok (.iload_n 1, 1) := by decide +kernel
theorem dX3_goDays_64 : decode cX3_goDays 64 = .ok (.iadd, 1) := by decide +kernel
theorem dX3_goDays_65 : decode cX3_goDays 65 = .ok (.putfield 57, 3) := by decide +kernel
theorem dX3_goDays_68 : decode cX3_goDays 68 = .ok (.return_, 1) := by decide +kernel
theorem dX3_drawOn_0 : decode cX3_drawOn 0 = .ok (.aload_n 0, 1) := by decide +kernel
theorem dX3_drawOn_1 : decode cX3_drawOn 1 = .ok (.iload_n 1, 1) := by decide +kernel
theorem dX3_drawOn_2 : decode cX3_drawOn 2 = .ok (.iload_n 2, 1) := by decide +kernel
theorem dX3_drawOn_3 : decode cX3_drawOn 3 = .ok (.invokevirtual 82, 3) := by decide +kernel
theorem dX3_drawOn_6 : decode cX3_drawOn 6 = .ok (.istore 4, 2) := by decide +kernel
theorem dX3_drawOn_8 : decode cX3_drawOn 8 = .ok (.iload_n 3, 1) := by decide +kernel
theorem dX3_drawOn_9 : decode cX3_drawOn 9 = .ok (.aload_n 0, 1) := by decide +kernel
theorem dX3_drawOn_10 : decode cX3_drawOn 10 = .ok (.getfield 40, 3) := by decide +kernel
theorem dX3_drawOn_13 : decode cX3_drawOn 13 = .ok (.invokestatic 113, 3) := by decide +kernel
theorem dX3_drawOn_16 : decode cX3_drawOn 16 = .ok (.iconst 0, 1) := by decide +kernel
theorem dX3_drawOn_17 : decode cX3_drawOn 17 = .ok (.aload_n 0, 1) := by decide +kernel
theorem dX3_drawOn_18 : decode cX3_drawOn 18 = .ok (.getfield 44, 3) := by decide +kernel
theorem dX3_drawOn_21 : decode cX3_drawOn 21 = .ok (.getfield 116, 3) := by decide +kernel
theorem dX3_drawOn_24 : decode cX3_drawOn 24 = .ok (.iload 4, 2) := by decide +kernel
theorem dX3_drawOn_26 : decode cX3_drawOn 26 = .ok (.isub, 1) := by decide +kernel
theorem dX3_drawOn_27 : decode cX3_drawOn 27 = .ok (.invokestatic 93, 3) := by decide +kernel
theorem dX3_drawOn_30 : decode cX3_drawOn 30 = .ok (.invokestatic 113, 3) := by decide +kernel
theorem dX3_drawOn_33 : decode cX3_drawOn 33 = .ok (.istore 5, 2) := by decide +kernel
theorem dX3_drawOn_35 : decode cX3_drawOn 35 = .ok (.aload_n 0, 1) := by decide +kernel
theorem dX3_drawOn_36 : decode cX3_drawOn 36 = .ok (.iload_n 1, 1) := by decide +kernel
theorem dX3_drawOn_37 : decode cX3_drawOn 37 = .ok (.iload_n 2, 1) := by decide +kernel
theorem dX3_drawOn_38 : decode cX3_drawOn 38 = .ok (.iload 4, 2) := by decide +kernel
theorem dX3_drawOn_40 : decode cX3_drawOn 40 = .ok (.iload 5, 2) := by decide +kernel
theorem dX3_drawOn_42 : decode cX3_drawOn 42 = .ok (.iadd, 1) := by decide +kernel
theorem dX3_drawOn_43 : decode cX3_drawOn 43 = .ok (.invokevirtual 64, 3) := by decide +kernel
theorem dX3_drawOn_46 : decode cX3_drawOn 46 = .ok (.aload_n 0, 1) := by decide +kernel
theorem dX3_drawOn_47 : decode cX3_drawOn 47 = .ok (.dup, 1) := by decide +kernel
theorem dX3_drawOn_48 : decode cX3_drawOn 48 = .ok (.getfield 40, 3) := by decide +kernel
theorem dX3_drawOn_51 : decode cX3_drawOn 51 = .ok (.iload 5, 2) := by decide +kernel
theorem dX3_drawOn_53 : decode cX3_drawOn 53 = .ok (.isub, 1) := by decide +kernel
theorem dX3_drawOn_54 : decode cX3_drawOn 54 = .ok (.putfield 40, 3) := by decide +kernel
theorem dX3_drawOn_57 : decode cX3_drawOn 57 = .ok (.iload 5, 2) := by decide +kernel
theorem dX3_drawOn_59 : decode cX3_drawOn 59 = .ok (.ireturn, 1) := by decide +kernel
theorem dX3_shakeHands_0 : decode cX3_shakeHands 0 = .ok (.aload_n 0, 1) := by decide +kernel
theorem dX3_shakeHands_1 : decode cX3_shakeHands 1 = .ok (.iload_n 1, 1) := by decide +kernel
theorem dX3_shakeHands_2 : decode cX3_shakeHands 2 = .ok (.invokevirtual 60, 3) := by decide +kernel
theorem dX3_shakeHands_5 : decode cX3_shakeHands 5 = .ok (.ifCond .eq 11, 3) := by decide +kernel
theorem dX3_shakeHands_8 : decode cX3_shakeHands 8 = .ok (.aload_n 0, 1) := by decide +kernel
theorem dX3_shakeHands_9 : decode cX3_shakeHands 9 = .ok (.iload_n 2, 1) := by decide +kernel
theorem dX3_shakeHands_10 : decode cX3_shakeHands 10 = .ok (.invokevirtual 60, 3) := by decide +kernel
theorem dX3_shakeHands_13 : decode cX3_shakeHands 13 = .ok (.ifCond .ne 5, 3) := by decide +kernel
theorem dX3_shakeHands_16 : decode cX3_shakeHands 16 = .ok (.iconst 0, 1) := by decide +kernel
theorem dX3_shakeHands_17 : decode cX3_shakeHands 17 = .ok (.ireturn, 1) := by decide +kernel
theorem dX3_shakeHands_18 : decode cX3_shakeHands 18 = .ok (.aload_n 0, 1) := by decide +kernel
theorem dX3_shakeHands_19 : decode cX3_shakeHands 19 = .ok (.getfield 18, 3) := by decide +kernel
theorem dX3_shakeHands_22 : decode cX3_shakeHands 22 = .ok (.iload_n 1, 1) := by decide +kernel
theorem dX3_shakeHands_23 : decode cX3_shakeHands 23 = .ok (.sipush 9999, 3) := by decide +kernel
theorem dX3_shakeHands_26 : decode cX3_shakeHands 26 = .ok (.aload_n 0, 1) := by decide +kernel
theorem dX3_shakeHands_27 : decode cX3_shakeHands 27 = .ok (.getfield 18, 3) := by decide +kernel
theorem dX3_shakeHands_30 : decode cX3_shakeHands 30 = .ok (.iload_n 1, 1) := by decide +kernel
theorem dX3_shakeHands_31 : decode cX3_shakeHands 31 = .ok (.iaload, 1) := by decide +kernel
theorem dX3_shakeHands_32 : decode cX3_shakeHands 32 = .ok (.iconst 1, 1) := by decide +kernel
theorem dX3_shakeHands_33 : decode cX3_shakeHands 33 = .ok (.iadd, 1) := by decide +kernel
theorem dX3_shakeHands_34 : decode cX3_shakeHands 34 = .ok (.invokestatic 113, 3) := by decide +kernel
theorem dX3_shakeHands_37 : decode cX3_shakeHands 37 = .ok (.iastore, 1) := by decide +kernel
theorem dX3_shakeHands_38 : decode cX3_shakeHands 38 = .ok (.aload_n 0, 1) := by decide +kernel
theorem dX3_shakeHands_39 : decode cX3_shakeHands 39 = .ok (.getfield 18, 3) := by decide +kernel
theorem dX3_shakeHands_42 : decode cX3_shakeHands 42 = .ok (.iload_n 2, 1) := by decide +kernel
theorem dX3_shakeHands_43 : decode cX3_shakeHands 43 = .ok (.sipush 9999, 3) := by decide +kernel
theorem dX3_shakeHands_46 : decode cX3_shakeHands 46 = .ok (.aload_n 0, 1) := by decide +kernel
theorem dX3_shakeHands_47 : decode cX3_shakeHands 47 = .ok (.getfield 18, 3) := by decide +kernel
theorem dX3_shakeHands_50 : decode cX3_shakeHands 50 = .ok (.iload_n 2, 1) := by decide +kernel
theorem dX3_shakeHands_51 : decode cX3_shakeHands 51 = .ok (.iaload, 1) := by decide +kernel
theorem dX3_shakeHands_52 : decode cX3_shakeHands 52 = .ok (.iconst 1, 1) := by decide +kernel
theorem dX3_shakeHands_53 : decode cX3_shakeHands 53 = .ok (.iadd, 1) := by decide +kernel
theorem dX3_shakeHands_54 : decode cX3_shakeHands 54 = .ok (.invokestatic 113, 3) := by decide +kernel
theorem dX3_shakeHands_57 : decode cX3_shakeHands 57 = .ok (.iastore, 1) := by decide +kernel
theorem dX3_shakeHands_58 : decode cX3_shakeHands 58 = .ok (.aload_n 0, 1) := by decide +kernel
theorem dX3_shakeHands_59 : decode cX3_shakeHands 59 = .ok (.iload_n 1, 1) := by decide +kernel
theorem dX3_shakeHands_60 : decode cX3_shakeHands 60 = .ok (.invokevirtual 119, 3) := by decide +kernel
theorem dX3_shakeHands_63 : decode cX3_shakeHands 63 = .ok (.ifCond .ne 11, 3) := by decide +kernel
theorem dX3_shakeHands_66 : decode cX3_shakeHands 66 = .ok (.aload_n 0, 1) := by decide +kernel
theorem dX3_shakeHands_67 : decode cX3_shakeHands 67 = .ok (.iload_n 2, 1) := by decide +kernel
theorem dX3_shakeHands_68 : decode cX3_shakeHands 68 = .ok (.invokevirtual 119, 3) := by decide +kernel
theorem dX3_shakeHands_71 : decode cX3_shakeHands 71 = .ok (.ifCond .eq 5, 3) := by decide +kernel
theorem dX3_shakeHands_74 : decode cX3_shakeHands 74 = .ok (.iconst 0, 1) := by decide +kernel
theorem dX3_shakeHands_75 : decode cX3_shakeHands 75 = .ok (.ireturn, 1) := by decide +kernel
theorem dX3_shakeHands_76 : decode cX3_shakeHands 76 = .ok (.iconst 0, 1) := by decide +kernel
theorem dX3_shakeHands_77 : decode cX3_shakeHands 77 = .ok (.istore_n 3, 1) := by decide +kernel
theorem dX3_shakeHands_78 : decode cX3_shakeHands 78 = .ok (.iconst 0, 1) := by decide +kernel
theorem dX3_shakeHands_79 : decode cX3_shakeHands 79 = .ok (.istore 4, 2) := by decide +kernel
theorem dX3_shakeHands_81 : decode cX3_shakeHands 81 = .ok (.iload 4, 2) := by decide +kernel
theorem dX3_shakeHands_83 : decode cX3_shakeHands 83 = .ok (.iconst 3, 1) := by decide +kernel
theorem dX3_shakeHands_84 : decode cX3_shakeHands 84 = .ok (.if_icmp .ge 20, 3) := by decide +kernel
theorem dX3_shakeHands_87 : decode cX3_shakeHands 87 = .ok (.iload_n 3, 1) := by decide +kernel
theorem dX3_shakeHands_88 : decode cX3_shakeHands 88 = .ok (.aload_n 0, 1) := by decide +kernel
theorem dX3_shakeHands_89 : decode cX3_shakeHands 89 = .ok (.iload_n 1, 1) := by decide +kernel
theorem dX3_shakeHands_90 : decode cX3_shakeHands 90 = .ok (.iload_n 2, 1) := by decide +kernel
theorem dX3_shakeHands_91 : decode cX3_shakeHands 91 = .ok (.iload 4, 2) := by decide +kernel
theorem dX3_shakeHands_93 : decode cX3_shakeHands 93 = .ok (.invokevirtual 122, 3) := by decide +kernel
theorem dX3_shakeHands_96 : decode cX3_shakeHands 96 = .ok (.iadd, 1) := by decide +kernel
theorem dX3_shakeHands_97 : decode cX3_shakeHands 97 = .ok (.istore_n 3, 1) := by decide +kernel
theorem dX3_shakeHands_98 : decode cX3_shakeHands 98 = .ok (.iinc 4 1, 3) := by decide +kernel
theorem dX3_shakeHands_101 : decode cX3_shakeHands 101 = .ok (.goto (-20), 3) := by decide +kernel
theorem dX3_shakeHands_104 : decode cX3_shakeHands 104 = .ok (.iload_n 3, 1) := by decide +kernel
theorem dX3_shakeHands_105 : decode cX3_shakeHands 105 = .ok (.ireturn, 1) := by decide +kernel
theorem dX3_wearsGloves_0 : decode cX3_wearsGloves 0 = .ok (.aload_n 0, 1) := by decide +kernel
theorem dX3_wearsGloves_1 : decode cX3_wearsGloves 1 = .ok (.iload_n 1, 1) := by decide +kernel
theorem dX3_wearsGloves_2 : decode cX3_wearsGloves 2 = .ok (.invokevirtual 75, 3) := by decide +kernel
theorem dX3_wearsGloves_5 : decode cX3_wearsGloves 5 = .ok (.istore_n 2, 1) := by decide +kernel
theorem dX3_wearsGloves_6 : decode cX3_wearsGloves 6 = .ok (.iload_n 2, 1) := by decide +kernel
theorem dX3_wearsGloves_7 : decode cX3_wearsGloves 7 = .ok (.iconst 3, 1) := by decide +kernel
theorem dX3_wearsGloves_8 : decode cX3_wearsGloves 8 = .ok (.if_icmp .eq 9, 3) := by decide +kernel
theorem dX3_wearsGloves_11 : decode cX3_wearsGloves 11 = .ok (.iload_n 2, 1) := by decide +kernel
theorem dX3_wearsGloves_12 : decode cX3_wearsGloves 12 = .ok (.bipush 6, 2) := by decide +kernel
theorem dX3_wearsGloves_14 : decode cX3_wearsGloves 14 = .ok (.if_icmp .ne 7, 3) := by decide +kernel
theorem dX3_wearsGloves_17 : decode cX3_wearsGloves 17 = .ok (.iconst 1, 1) := by decide +kernel
theorem dX3_wearsGloves_18 : decode cX3_wearsGloves 18 = .ok (.goto 4, 3) := by decide +kernel
theorem dX3_wearsGloves_21 : decode cX3_wearsGloves 21 = .ok (.iconst 0, 1) := by decide +kernel
theorem dX3_wearsGloves_22 : decode cX3_wearsGloves 22 = .ok (.ireturn, 1) := by decide +kernel
theorem dX3_printLine_0 : decode cX3_printLine 0 = .ok (.aload_n 0, 1) := by decide +kernel
theorem dX3_printLine_1 : decode cX3_printLine 1 = .ok (.iload_n 1, 1) := by decide +kernel
theorem dX3_printLine_2 : decode cX3_printLine 2 = .ok (.iload_n 3, 1) := by decide +kernel
theorem dX3_printLine_3 : decode cX3_printLine 3 = .ok (.invokevirtual 82, 3) := by decide +kernel
theorem dX3_printLine_6 : decode cX3_printLine 6 = .ok (.aload_n 0, 1) := by decide +kernel
theorem dX3_printLine_7 : decode cX3_printLine 7 = .ok (.iload_n 2, 1) := by decide +kernel
theorem dX3_printLine_8 : decode cX3_printLine 8 = .ok (.iload_n 3, 1) := by decide +kernel
theorem dX3_printLine_9 : decode cX3_printLine 9 = .ok (.invokevirtual 82, 3) := by decide +kernel
theorem dX3_printLine_12 : decode cX3_printLine 12 = .ok (.isub, 1) := by decide +kernel
theorem dX3_printLine_13 : decode cX3_printLine 13 = .ok (.istore 4, 2) := by decide +kernel
theorem dX3_printLine_15 : decode cX3_printLine 15 = .ok (.iload 4, 2) := by decide +kernel
theorem dX3_printLine_17 : decode cX3_printLine 17 = .ok (.ifCond .ge 7, 3) := by decide +kernel
theorem dX3_printLine_20 : decode cX3_printLine 20 = .ok (.iload_n 1, 1) := by decide +kernel
theorem dX3_printLine_21 : decode cX3_printLine 21 = .ok (.goto 4, 3) := by decide +kernel
theorem dX3_printLine_24 : decode cX3_printLine 24 = .ok (.iload_n 2, 1) := by decide +kernel
theorem dX3_printLine_25 : decode cX3_printLine 25 = .ok (.istore 5, 2) := by decide +kernel
theorem dX3_printLine_27 : decode cX3_printLine 27 = .ok (.aload_n 0, 1) := by decide +kernel
theorem dX3_printLine_28 : decode cX3_printLine 28 = .ok (.getfield 44, 3) := by decide +kernel
theorem dX3_printLine_31 : decode cX3_printLine 31 = .ok (.getfield 126, 3) := by decide +kernel
theorem dX3_printLine_34 : decode cX3_printLine 34 = .ok (.istore 6, 2) := by decide +kernel
theorem dX3_printLine_36 : decode cX3_printLine 36 = .ok (.iload 6, 2) := by decide +kernel
theorem dX3_printLine_38 : decode cX3_printLine 38 = .ok (.ifCond .le 14, 3) := by decide +kernel
theorem dX3_printLine_41 : decode cX3_printLine 41 = .ok (.iload 4, 2) := by decide +kernel
theorem dX3_printLine_43 : decode cX3_printLine 43 = .ok (.invokestatic 129, 3) := by decide +kernel
theorem dX3_printLine_46 : decode cX3_printLine 46 = .ok (.iload 6, 2) := by decide +kernel
theorem dX3_printLine_48 : decode cX3_printLine 48 = .ok (.idiv, 1) := by decide +kernel
theorem dX3_printLine_49 : decode cX3_printLine 49 = .ok (.goto 4, 3) := by decide +kernel
theorem dX3_printLine_52 : decode cX3_printLine 52 = .ok (.iconst 0, 1) := by decide +kernel
theorem dX3_printLine_53 : decode cX3_printLine 53 = .ok (.istore 7, 2) := by decide +kernel
theorem dX3_printLine_55 : decode cX3_printLine 55 = .ok (.aload_n 0, 1) := by decide +kernel
theorem dX3_printLine_56 : decode cX3_printLine 56 = .ok (.iload 5, 2) := by decide +kernel
theorem dX3_printLine_58 : decode cX3_printLine 58 = .ok (.iload_n 3, 1) := by decide +kernel
theorem dX3_printLine_59 : decode cX3_printLine 59 = .ok (.aload_n 0, 1) := by decide +kernel
theorem dX3_printLine_60 : decode cX3_printLine 60 = .ok (.iload 5, 2) := by decide +kernel
theorem dX3_printLine_62 : decode cX3_printLine 62 = .ok (.iload_n 3, 1) := by decide +kernel
theorem dX3_printLine_63 : decode cX3_printLine 63 = .ok (.invokevirtual 82, 3) := by decide +kernel
theorem dX3_printLine_66 : decode cX3_printLine 66 = .ok (.iload 7, 2) := by decide +kernel
theorem dX3_printLine_68 : decode cX3_printLine 68 = .ok (.iadd, 1) := by decide +kernel
theorem dX3_printLine_69 : decode cX3_printLine 69 = .ok (.invokevirtual 64, 3) := by decide +kernel
theorem dX3_printLine_72 : decode cX3_printLine 72 = .ok (.iload 7, 2) := by decide +kernel
theorem dX3_printLine_74 : decode cX3_printLine 74 = .ok (.ireturn, 1) := by decide +kernel
theorem dX4_init_0 : decode cX4_init 0 = .ok (.aload_n 0, 1) := by decide +kernel
theorem dX4_init_1 : decode cX4_init 1 = .ok (.invokespecial 3, 3) := by decide +kernel
theorem dX4_init_4 : decode cX4_init 4 = .ok (.aload_n 0, 1) := by decide +kernel
theorem dX4_init_5 : decode cX4_init 5 = .ok (.bipush 60, 2) := by decide +kernel
theorem dX4_init_7 : decode cX4_init 7 = .ok (.newarray .long, 2) := by decide +kernel
theorem dX4_init_9 : decode cX4_init 9 = .ok (.putfield 9, 3) := by decide +kernel
theorem dX4_init_12 : decode cX4_init 12 = .ok (.aload_n 0, 1) := by decide +kernel
theorem dX4_init_13 : decode cX4_init 13 = .ok (.iconst (-1), 1) := by decide +kernel
theorem dX4_init_14 : decode cX4_init 14 = .ok (.putfield 15, 3) := by decide +kernel
theorem dX4_init_17 : decode cX4_init 17 = .ok (.return_, 1) := by decide +kernel
theorem dX4_become_0 : decode cX4_become 0 = .ok (.aload_n 0, 1) := by decide +kernel
theorem dX4_become_1 : decode cX4_become 1 = .ok (.iload_n 1, 1) := by decide +kernel
theorem dX4_become_2 : decode cX4_become 2 = .ok (.putfield 15, 3) := by decide +kernel
theorem dX4_become_5 : decode cX4_become 5 = .ok (.aload_n 0, 1) := by decide +kernel
theorem dX4_become_6 : decode cX4_become 6 = .ok (.iconst 0, 1) := by decide +kernel
theorem dX4_become_7 : decode cX4_become 7 = .ok (.iload_n 2, 1) := by decide +kernel
theorem dX4_become_8 : decode cX4_become 8 = .ok (.bipush 60, 2) := by decide +kernel
theorem dX4_become_10 : decode cX4_become 10 = .ok (.invokestatic 19, 3) := by decide +kernel
theorem dX4_become_13 : decode cX4_become 13 = .ok (.invokestatic 25, 3) := by decide +kernel
theorem dX4_become_16 : decode cX4_become 16 = .ok (.putfield 28, 3) := by decide +kernel
theorem dX4_become_19 : decode cX4_become 19 = .ok (.aload_n 0, 1) := by decide +kernel
theorem dX4_become_20 : decode cX4_become 20 = .ok (.getfield 9, 3) := by decide +kernel
theorem dX4_become_23 : decode cX4_become 23 = .ok (.lconst 0, 1) := by decide +kernel
theorem dX4_become_24 : decode cX4_become 24 = .ok (.invokestatic 31, 3) := by decide +kernel
theorem dX4_become_27 : decode cX4_become 27 = .ok (.return_, 1) := by decide +kernel
theorem dX4_holdsNothing_0 : decode cX4_holdsNothing 0 = .ok (.aload_n 0, 1) := by decide +kernel
theorem dX4_holdsNothing_1 : decode cX4_holdsNothing 1 = .ok (.getfield 15, 3) := by decide +kernel
theorem dX4_holdsNothing_4 : decode cX4_holdsNothing 4 = .ok (.iconst (-1), 1) := by decide +kernel
theorem dX4_holdsNothing_5 : decode cX4_holdsNothing 5 = .ok (.if_icmp .ne 7, 3) := by decide +kernel
theorem dX4_holdsNothing_8 : decode cX4_holdsNothing 8 = .ok (.iconst 1, 1) := by decide +kernel
theorem dX4_holdsNothing_9 : decode cX4_holdsNothing 9 = .ok (.goto 4, 3) := by decide +kernel
theorem dX4_holdsNothing_12 : decode cX4_holdsNothing 12 = .ok (.iconst 0, 1) := by decide +kernel
theorem dX4_holdsNothing_13 : decode cX4_holdsNothing 13 = .ok (.ireturn, 1) := by decide +kernel
theorem dX4_hasPlace_0 : decode cX4_hasPlace 0 = .ok (.iload_n 1, 1) := by decide +kernel
theorem dX4_hasPlace_1 : decode cX4_hasPlace 1 = .ok (.ifCond .lt 21, 3) := by decide +kernel
theorem dX4_hasPlace_4 : decode cX4_hasPlace 4 = .ok (.iload_n 1, 1) := by decide +kernel
theorem dX4_hasPlace_5 : decode cX4_hasPlace 5 = .ok (.aload_n 0, 1) := by decide +kernel
theorem dX4_hasPlace_6 : decode cX4_hasPlace 6 = .ok (.getfield 28, 3) := by decide +kernel
theorem dX4_hasPlace_9 : decode cX4_hasPlace 9 = .ok (.if_icmp .ge 13, 3) := by decide +kernel
theorem dX4_hasPlace_12 : decode cX4_hasPlace 12 = .ok (.iload_n 1, 1) := by decide +kernel
theorem dX4_hasPlace_13 : decode cX4_hasPlace 13 = .ok (.bipush 60, 2) := by decide +kernel
theorem dX4_hasPlace_15 : decode cX4_hasPlace 15 = .ok (.if_icmp .ge 7, 3) := by decide +kernel
theorem dX4_hasPlace_18 : decode cX4_hasPlace 18 = .ok (.iconst 1, 1) := by decide +kernel
theorem dX4_hasPlace_19 : decode cX4_hasPlace 19 = .ok (.goto 4, 3) := by decide +kernel
theorem dX4_hasPlace_22 : decode cX4_hasPlace 22 = .ok (.iconst 0, 1) := by decide +kernel
theorem dX4_hasPlace_23 : decode cX4_hasPlace 23 = .ok (.ireturn, 1) := by decide +kernel
theorem dX4_hasSpan_0 : decode cX4_hasSpan 0 = .ok (.iload_n 1, 1) := by decide +kernel
theorem dX4_hasSpan_1 : decode cX4_hasSpan 1 = .ok (.ifCond .lt 21, 3) := by decide +kernel
theorem dX4_hasSpan_4 : decode cX4_hasSpan 4 = .ok (.iload_n 2, 1) := by decide +kernel
theorem dX4_hasSpan_5 : decode cX4_hasSpan 5 = .ok (.ifCond .lt 17, 3) := by decide +kernel
theorem dX4_hasSpan_8 : decode cX4_hasSpan 8 = .ok (.iload_n 1, 1) := by decide +kernel
theorem dX4_hasSpan_9 : decode cX4_hasSpan 9 = .ok (.aload_n 0, 1) := by decide +kernel
theorem dX4_hasSpan_10 : decode cX4_hasSpan 10 = .ok (.getfield 28, 3) := by decide +kernel
theorem dX4_hasSpan_13 : decode cX4_hasSpan 13 = .ok (.iload_n 2, 1) := by decide +kernel
theorem dX4_hasSpan_14 : decode cX4_hasSpan 14 = .ok (.isub, 1) := by decide +kernel
theorem dX4_hasSpan_15 : decode cX4_hasSpan 15 = .ok (.if_icmp .gt 7, 3) := by decide +kernel
theorem dX4_hasSpan_18 : decode cX4_hasSpan 18 = .ok (.iconst 1, 1) := by decide +kernel
theorem dX4_hasSpan_19 : decode cX4_hasSpan 19 = .ok (.goto 4, 3) := by decide +kernel
theorem dX4_hasSpan_22 : decode cX4_hasSpan 22 = .ok (.iconst 0, 1) := by decide +kernel
theorem dX4_hasSpan_23 : decode cX4_hasSpan 23 = .ok (.ireturn, 1) := by decide +kernel
theorem dX4_at_0 : decode cX4_at 0 = .ok (.aload_n 0, 1) := by decide +kernel
theorem dX4_at_1 : decode cX4_at 1 = .ok (.iload_n 1, 1) := by decide +kernel
theorem dX4_at_2 : decode cX4_at 2 = .ok (.invokevirtual 37, 3) := by decide +kernel
theorem dX4_at_5 : decode cX4_at 5 = .ok (.ifCond .eq 12, 3) := by decide +kernel
theorem dX4_at_8 : decode cX4_at 8 = .ok (.aload_n 0, 1) := by decide +kernel
theorem dX4_at_9 : decode cX4_at 9 = .ok (.getfield 9, 3) := by decide +kernel
theorem dX4_at_12 : decode cX4_at 12 = .ok (.iload_n 1, 1) := by decide +kernel
theorem dX4_at_13 : decode cX4_at 13 = .ok (.laload, 1) := by decide +kernel
theorem dX4_at_14 : decode cX4_at 14 = .ok (.goto 4, 3) := by decide +kernel
theorem dX4_at_17 : decode cX4_at 17 = .ok (.lconst 0, 1) := by decide +kernel
theorem dX4_at_18 : decode cX4_at 18 = .ok (.lreturn, 1) := by decide +kernel
theorem dX4_put_0 : decode cX4_put 0 = .ok (.aload_n 0, 1) := by decide +kernel
theorem dX4_put_1 : decode cX4_put 1 = .ok (.iload_n 1, 1) := by decide +kernel
theorem dX4_put_2 : decode cX4_put 2 = .ok (.invokevirtual 37, 3) := by decide +kernel
theorem dX4_put_5 : decode cX4_put 5 = .ok (.ifCond .eq 14, 3) := by decide +kernel
theorem dX4_put_8 : decode cX4_put 8 = .ok (.aload_n 0, 1) := by decide +kernel
theorem dX4_put_9 : decode cX4_put 9 = .ok (.getfield 9, 3) := by decide +kernel
theorem dX4_put_12 : decode cX4_put 12 = .ok (.iload_n 1, 1) := by decide +kernel
theorem dX4_put_13 : decode cX4_put 13 = .ok (.aload_n 0, 1) := by decide +kernel
theorem dX4_put_14 : decode cX4_put 14 = .ok (.lload_n 2, 1) := by decide +kernel
theorem dX4_put_15 : decode cX4_put 15 = .ok (.invokevirtual 41, 3) := by decide +kernel
theorem dX4_put_18 : decode cX4_put 18 = .ok (.lastore, 1) := by decide +kernel
theorem dX4_put_19 : decode cX4_put 19 = .ok (.return_, 1) := by decide +kernel
theorem dX4_cut_0 : decode cX4_cut 0 = .ok (.aload_n 0, 1) := by decide +kernel
theorem dX4_cut_1 : decode cX4_cut 1 = .ok (.getfield 15, 3) := by decide +kernel
theorem dX4_cut_4 : decode cX4_cut 4 = .ok (.tableswitch 62 0 4 #[36, 41, 46, 62, 50], 36) := by decide +kernel
theorem dX4_cut_40 : decode cX4_cut 40 = .ok (.lload_n 1, 1) := by decide +kernel
theorem dX4_cut_41 : decode cX4_cut 41 = .ok (.l2i, 1) := by decide +kernel
theorem dX4_cut_42 : decode cX4_cut 42 = .ok (.i2b, 1) := by decide +kernel
theorem dX4_cut_43 : decode cX4_cut 43 = .ok (.i2l, 1) := by decide +kernel
theorem dX4_cut_44 : decode cX4_cut 44 = .ok (.lreturn, 1) := by decide +kernel
theorem dX4_cut_45 : decode cX4_cut 45 = .ok (.lload_n 1, 1) := by decide +kernel
theorem dX4_cut_46 : decode cX4_cut 46 = .ok (.l2i, 1) := by decide +kernel
theorem dX4_cut_47 : decode cX4_cut 47 = .ok (.i2s, 1) := by decide +kernel
theorem dX4_cut_48 : decode cX4_cut 48 = .ok (.i2l, 1) := by decide +kernel
theorem dX4_cut_49 : decode cX4_cut 49 = .ok (.lreturn, 1) := by decide +kernel
theorem dX4_cut_50 : decode cX4_cut 50 = .ok (.lload_n 1, 1) := by decide +kernel
theorem dX4_cut_51 : decode cX4_cut 51 = .ok (.l2i, 1) := by decide +kernel
theorem dX4_cut_52 : decode cX4_cut 52 = .ok (.i2l, 1) := by decide +kernel
theorem dX4_cut_53 : decode cX4_cut 53 = .ok (.lreturn, 1) := by decide +kernel
theorem dX4_cut_54 : decode cX4_cut 54 = .ok (.lload_n 1, 1) := by decide +kernel
theorem dX4_cut_55 : decode cX4_cut 55 = .ok (.lconst 0, 1) := by decide +kernel
theorem dX4_cut_56 : decode cX4_cut 56 = .ok (.lcmp, 1) := by decide +kernel
theorem dX4_cut_57 : decode cX4_cut 57 = .ok (.ifCond .eq 7, 3) := by decide +kernel
theorem dX4_cut_60 : decode cX4_cut 60 = .ok (.lconst 1, 1) := by decide +kernel
theorem dX4_cut_61 : decode cX4_cut 61 = .ok (.goto 4, 3) := by decide +kernel
theorem dX4_cut_64 : decode cX4_cut 64 = .ok (.lconst 0, 1) := by decide +kernel
theorem dX4_cut_65 : decode cX4_cut 65 = .ok (.lreturn, 1) := by decide +kernel
theorem dX4_cut_66 : decode cX4_cut 66 = .ok (.lload_n 1, 1) := by decide +kernel
theorem dX4_cut_67 : decode cX4_cut 67 = .ok (.lreturn, 1) := by decide +kernel
theorem dX5_init_0 : decode cX5_init 0 = .ok (.aload_n 0, 1) := by decide +kernel
theorem dX5_init_1 : decode cX5_init 1 = .ok (.invokespecial 1, 3) := by decide +kernel
theorem dX5_init_4 : decode cX5_init 4 = .ok (.aload_n 0, 1) := by decide +kernel
theorem dX5_init_5 : decode cX5_init 5 = .ok (.bipush 100, 2) := by decide +kernel
theorem dX5_init_7 : decode cX5_init 7 = .ok (.newarray .byte, 2) := by decide +kernel
theorem dX5_init_9 : decode cX5_init 9 = .ok (.putfield 9, 3) := by decide +kernel
theorem dX5_init_12 : decode cX5_init 12 = .ok (.aload_n 0, 1) := by decide +kernel
theorem dX5_init_13 : decode cX5_init 13 = .ok (.bipush 100, 2) := by decide +kernel
theorem dX5_init_15 : decode cX5_init 15 = .ok (.newarray .int, 2) := by decide +kernel
theorem dX5_init_17 : decode cX5_init 17 = .ok (.putfield 13, 3) := by decide +kernel
theorem dX5_init_20 : decode cX5_init 20 = .ok (.aload_n 0, 1) := by decide +kernel
theorem dX5_init_21 : decode cX5_init 21 = .ok (.bipush 100, 2) := by decide +kernel
theorem dX5_init_23 : decode cX5_init 23 = .ok (.newarray .int, 2) := by decide +kernel
theorem dX5_init_25 : decode cX5_init 25 = .ok (.putfield 17, 3) := by decide +kernel
theorem dX5_init_28 : decode cX5_init 28 = .ok (.return_, 1) := by decide +kernel
theorem dX5_isFull_0 : decode cX5_isFull 0 = .ok (.aload_n 0, 1) := by decide +kernel
theorem dX5_isFull_1 : decode cX5_isFull 1 = .ok (.getfield 20, 3) := by decide +kernel
theorem dX5_isFull_4 : decode cX5_isFull 4 = .ok (.aload_n 0, 1) := by decide +kernel
theorem dX5_isFull_5 : decode cX5_isFull 5 = .ok (.getfield 9, 3) := by decide +kernel
theorem dX5_isFull_8 : decode cX5_isFull 8 = .ok (.arraylength, 1) := by decide +kernel
theorem dX5_isFull_9 : decode cX5_isFull 9 = .ok (.if_icmp .lt 7, 3) := by decide +kernel
theorem dX5_isFull_12 : decode cX5_isFull 12 = .ok (.iconst 1, 1) := by decide +kernel
theorem dX5_isFull_13 : decode cX5_isFull 13 = .ok (.goto 4, 3) := by decide +kernel
theorem dX5_isFull_16 : decode cX5_isFull 16 = .ok (.iconst 0, 1) := by decide +kernel
theorem dX5_isFull_17 : decode cX5_isFull 17 = .ok (.ireturn, 1) := by decide +kernel
theorem dX5_size_0 : decode cX5_size 0 = .ok (.aload_n 0, 1) := by decide +kernel
theorem dX5_size_1 : decode cX5_size 1 = .ok (.getfield 20, 3) := by decide +kernel
theorem dX5_size_4 : decode cX5_size 4 = .ok (.ireturn, 1) := by decide +kernel
theorem dX5_place_0 : decode cX5_place 0 = .ok (.aload_n 0, 1) := by decide +kernel
theorem dX5_place_1 : decode cX5_place 1 = .ok (.getfield 24, 3) := by decide +kernel
theorem dX5_place_4 : decode cX5_place 4 = .ok (.ireturn, 1) := by decide +kernel
theorem dX5_clear_0 : decode cX5_clear 0 = .ok (.aload_n 0, 1) := by decide +kernel
theorem dX5_clear_1 : decode cX5_clear 1 = .ok (.iconst 0, 1) := by decide +kernel
theorem dX5_clear_2 : decode cX5_clear 2 = .ok (.putfield 20, 3) := by decide +kernel
theorem dX5_clear_5 : decode cX5_clear 5 = .ok (.return_, 1) := by decide +kernel
theorem dX5_add_0 : decode cX5_add 0 = .ok (.aload_n 0, 1) := by decide +kernel
theorem dX5_add_1 : decode cX5_add 1 = .ok (.getfield 20, 3) := by decide +kernel
theorem dX5_add_4 : decode cX5_add 4 = .ok (.aload_n 0, 1) := by decide +kernel
theorem dX5_add_5 : decode cX5_add 5 = .ok (.getfield 9, 3) := by decide +kernel
theorem dX5_add_8 : decode cX5_add 8 = .ok (.arraylength, 1) := by decide +kernel
theorem dX5_add_9 : decode cX5_add 9 = .ok (.if_icmp .ge 24, 3) := by decide +kernel
theorem dX5_add_12 : decode cX5_add 12 = .ok (.aload_n 0, 1) := by decide +kernel
theorem dX5_add_13 : decode cX5_add 13 = .ok (.getfield 9, 3) := by decide +kernel
theorem dX5_add_16 : decode cX5_add 16 = .ok (.aload_n 0, 1) := by decide +kernel
theorem dX5_add_17 : decode cX5_add 17 = .ok (.getfield 20, 3) := by decide +kernel
theorem dX5_add_20 : decode cX5_add 20 = .ok (.iload_n 1, 1) := by decide +kernel
theorem dX5_add_21 : decode cX5_add 21 = .ok (.i2b, 1) := by decide +kernel
theorem dX5_add_22 : decode cX5_add 22 = .ok (.bastore, 1) := by decide +kernel
theorem dX5_add_23 : decode cX5_add 23 = .ok (.aload_n 0, 1) := by decide +kernel
theorem dX5_add_24 : decode cX5_add 24 = .ok (.dup, 1) := by decide +kernel
theorem dX5_add_25 : decode cX5_add 25 = .ok (.getfield 20, 3) := by decide +kernel
theorem dX5_add_28 : decode cX5_add 28 = .ok (.iconst 1, 1) := by decide +kernel
theorem dX5_add_29 : decode cX5_add 29 = .ok (.iadd, 1) := by decide +kernel
theorem dX5_add_30 : decode cX5_add 30 = .ok (.putfield 20, 3) := by decide +kernel
theorem dX5_add_33 : decode cX5_add 33 = .ok (.aload_n 0, 1) := by decide +kernel
theorem dX5_add_34 : decode cX5_add 34 = .ok (.getfield 20, 3) := by decide +kernel
theorem dX5_add_37 : decode cX5_add 37 = .ok (.ireturn, 1) := by decide +kernel
theorem dX5_isBooth_0 : decode cX5_isBooth 0 = .ok (.aload_n 0, 1) := by decide +kernel
theorem dX5_isBooth_1 : decode cX5_isBooth 1 = .ok (.iconst 0, 1) := by decide +kernel
theorem dX5_isBooth_2 : decode cX5_isBooth 2 = .ok (.putfield 24, 3) := by decide +kernel
theorem dX5_isBooth_5 : decode cX5_isBooth 5 = .ok (.aload_n 0, 1) := by decide +kernel
theorem dX5_isBooth_6 : decode cX5_isBooth 6 = .ok (.iconst 0, 1) := by decide +kernel
theorem dX5_isBooth_7 : decode cX5_isBooth 7 = .ok (.putfield 27, 3) := by decide +kernel
theorem dX5_isBooth_10 : decode cX5_isBooth 10 = .ok (.aload_n 0, 1) := by decide +kernel
theorem dX5_isBooth_11 : decode cX5_isBooth 11 = .ok (.bipush 20, 2) := by decide +kernel
theorem dX5_isBooth_13 : decode cX5_isBooth 13 = .ok (.putfield 32, 3) := by decide +kernel
theorem dX5_isBooth_16 : decode cX5_isBooth 16 = .ok (.aload_n 0, 1) := by decide +kernel
theorem dX5_isBooth_17 : decode cX5_isBooth 17 = .ok (.iconst 4, 1) := by decide +kernel
theorem dX5_isBooth_18 : decode cX5_isBooth 18 = .ok (.putfield 35, 3) := by decide +kernel
theorem dX5_isBooth_21 : decode cX5_isBooth 21 = .ok (.iconst 1, 1) := by decide +kernel
theorem dX5_isBooth_22 : decode cX5_isBooth 22 = .ok (.istore_n 1, 1) := by decide +kernel
theorem dX5_isBooth_23 : decode cX5_isBooth 23 = .ok (.iload_n 1, 1) := by decide +kernel
theorem dX5_isBooth_24 : decode cX5_isBooth 24 = .ok (.bipush 10, 2) := by decide +kernel
theorem dX5_isBooth_26 : decode cX5_isBooth 26 = .ok (.if_icmp .gt 48, 3) := by decide +kernel
theorem dX5_isBooth_29 : decode cX5_isBooth 29 = .ok (.aload_n 0, 1) := by decide +kernel
theorem dX5_isBooth_30 : decode cX5_isBooth 30 = .ok (.invokevirtual 38, 3) := by decide +kernel
theorem dX5_isBooth_33 : decode cX5_isBooth 33 = .ok (.ifCond .ne 5, 3) := by decide +kernel
theorem dX5_isBooth_36 : decode cX5_isBooth 36 = .ok (.iconst 0, 1) := by decide +kernel
theorem dX5_isBooth_37 : decode cX5_isBooth 37 = .ok (.ireturn, 1) := by decide +kernel
theorem dX5_isBooth_38 : decode cX5_isBooth 38 = .ok (.aload_n 0, 1) := by decide +kernel
theorem dX5_isBooth_39 : decode cX5_isBooth 39 = .ok (.getfield 24, 3) := by decide +kernel
theorem dX5_isBooth_42 : decode cX5_isBooth 42 = .ok (.aload_n 0, 1) := by decide +kernel
theorem dX5_isBooth_43 : decode cX5_isBooth 43 = .ok (.getfield 20, 3) := by decide +kernel
theorem dX5_isBooth_46 : decode cX5_isBooth 46 = .ok (.if_icmp .lt 5, 3) := by decide +kernel
theorem dX5_isBooth_49 : decode cX5_isBooth 49 = .ok (.iconst 1, 1) := by decide +kernel
theorem dX5_isBooth_50 : decode cX5_isBooth 50 = .ok (.ireturn, 1) := by decide +kernel
theorem dX5_isBooth_51 : decode cX5_isBooth 51 = .ok (.iload_n 1, 1) := by decide +kernel
theorem dX5_isBooth_52 : decode cX5_isBooth 52 = .ok (.bipush 10, 2) := by decide +kernel
theorem dX5_isBooth_54 : decode cX5_isBooth 54 = .ok (.if_icmp .eq 12, 3) := by decide +kernel
theorem dX5_isBooth_57 : decode cX5_isBooth 57 = .ok (.aload_n 0, 1) := by decide +kernel
theorem dX5_isBooth_58 : decode cX5_isBooth 58 = .ok (.bipush 59, 2) := by decide +kernel
theorem dX5_isBooth_60 : decode cX5_isBooth 60 = .ok (.invokevirtual 42, 3) := by decide +kernel
theorem dX5_isBooth_63 : decode cX5_isBooth 63 = .ok (.ifCond .ne 5, 3) := by decide +kernel
theorem dX5_isBooth_66 : decode cX5_isBooth 66 = .ok (.iconst 0, 1) := by decide +kernel
theorem dX5_isBooth_67 : decode cX5_isBooth 67 = .ok (.ireturn, 1) := by decide +kernel
theorem dX5_isBooth_68 : decode cX5_isBooth 68 = .ok (.iinc 1 1, 3) := by decide +kernel
theorem dX5_isBooth_71 : decode cX5_isBooth 71 = .ok (.goto (-48), 3) := by decide +kernel
theorem dX5_isBooth_74 : decode cX5_isBooth 74 = .ok (.iconst 0, 1) := by decide +kernel
theorem dX5_isBooth_75 : decode cX5_isBooth 75 = .ok (.ireturn, 1) := by decide +kernel
theorem dX5_lastBooth_0 : decode cX5_lastBooth 0 = .ok (.new 30, 3) := by decide +kernel
theorem dX5_lastBooth_3 : decode cX5_lastBooth 3 = .ok (.dup, 1) := by decide +kernel
theorem dX5_lastBooth_4 : decode cX5_lastBooth 4 = .ok (.aload_n 0, 1) := by decide +kernel
theorem dX5_lastBooth_5 : decode cX5_lastBooth 5 = .ok (.getfield 13, 3) := by decide +kernel
theorem dX5_lastBooth_8 : decode cX5_lastBooth 8 = .ok (.aload_n 0, 1) := by decide +kernel
theorem dX5_lastBooth_9 : decode cX5_lastBooth 9 = .ok (.getfield 27, 3) := by decide +kernel
theorem dX5_lastBooth_12 : decode cX5_lastBooth 12 = .ok (.invokestatic 46, 3) := by decide +kernel
theorem dX5_lastBooth_15 : decode cX5_lastBooth 15 = .ok (.aload_n 0, 1) := by decide +kernel
theorem dX5_lastBooth_16 : decode cX5_lastBooth 16 = .ok (.getfield 17, 3) := by decide +kernel
theorem dX5_lastBooth_19 : decode cX5_lastBooth 19 = .ok (.aload_n 0, 1) := by decide +kernel
theorem dX5_lastBooth_20 : decode cX5_lastBooth 20 = .ok (.getfield 27, 3) := by decide +kernel
theorem dX5_lastBooth_23 : decode cX5_lastBooth 23 = .ok (.invokestatic 46, 3) := by decide +kernel
theorem dX5_lastBooth_26 : decode cX5_lastBooth 26 = .ok (.aload_n 0, 1) := by decide +kernel
theorem dX5_lastBooth_27 : decode cX5_lastBooth 27 = .ok (.getfield 32, 3) := by decide +kernel
theorem dX5_lastBooth_30 : decode cX5_lastBooth 30 = .ok (.aload_n 0, 1) := by decide +kernel
theorem dX5_lastBooth_31 : decode cX5_lastBooth 31 = .ok (.getfield 35, 3) := by decide +kernel
theorem dX5_lastBooth_34 : decode cX5_lastBooth 34 = .ok (.invokespecial 52, 3) := by decide +kernel
theorem dX5_lastBooth_37 : decode cX5_lastBooth 37 = .ok (.areturn, 1) := by decide +kernel
theorem dX5_isClause_0 : decode cX5_isClause 0 = .ok (.aload_n 0, 1) := by decide +kernel
theorem dX5_isClause_1 : decode cX5_isClause 1 = .ok (.bipush 114, 2) := by decide +kernel
theorem dX5_isClause_3 : decode cX5_isClause 3 = .ok (.invokevirtual 42, 3) := by decide +kernel
theorem dX5_isClause_6 : decode cX5_isClause 6 = .ok (.ifCond .eq 37, 3) := by decide +kernel
theorem dX5_isClause_9 : decode cX5_isClause 9 = .ok (.aload_n 0, 1) := by decide +kernel
theorem dX5_isClause_10 : decode cX5_isClause 10 = .ok (.aload_n 0, 1) := by decide +kernel
theorem dX5_isClause_11 : decode cX5_isClause 11 = .ok (.ldc 55, 2) := by decide +kernel
theorem dX5_isClause_13 : decode cX5_isClause 13 = .ok (.invokevirtual 57, 3) := by decide +kernel
theorem dX5_isClause_16 : decode cX5_isClause 16 = .ok (.ifCond .eq 10, 3) := by decide +kernel
theorem dX5_isClause_19 : decode cX5_isClause 19 = .ok (.aload_n 0, 1) := by decide +kernel
theorem dX5_isClause_20 : decode cX5_isClause 20 = .ok (.invokevirtual 61, 3) := by decide +kernel
theorem dX5_isClause_23 : decode cX5_isClause 23 = .ok (.goto 4, 3) := by decide +kernel
theorem dX5_isClause_26 : decode cX5_isClause 26 = .ok (.iconst (-1), 1) := by decide +kernel
theorem dX5_isClause_27 : decode cX5_isClause 27 = .ok (.putfield 32, 3) := by decide +kernel
theorem dX5_isClause_30 : decode cX5_isClause 30 = .ok (.aload_n 0, 1) := by decide +kernel
theorem dX5_isClause_31 : decode cX5_isClause 31 = .ok (.getfield 32, 3) := by decide +kernel
theorem dX5_isClause_34 : decode cX5_isClause 34 = .ok (.ifCond .lt 7, 3) := by decide +kernel
theorem dX5_isClause_37 : decode cX5_isClause 37 = .ok (.iconst 1, 1) := by decide +kernel
theorem dX5_isClause_38 : decode cX5_isClause 38 = .ok (.goto 4, 3) := by decide +kernel
theorem dX5_isClause_41 : decode cX5_isClause 41 = .ok (.iconst 0, 1) := by decide +kernel
theorem dX5_isClause_42 : decode cX5_isClause 42 = .ok (.ireturn, 1) := by decide +kernel
theorem dX5_isClause_43 : decode cX5_isClause 43 = .ok (.aload_n 0, 1) := by decide +kernel
theorem dX5_isClause_44 : decode cX5_isClause 44 = .ok (.bipush 112, 2) := by decide +kernel
theorem dX5_isClause_46 : decode cX5_isClause 46 = .ok (.invokevirtual 42, 3) := by decide +kernel
theorem dX5_isClause_49 : decode cX5_isClause 49 = .ok (.ifCond .eq 37, 3) := by decide +kernel
theorem dX5_isClause_52 : decode cX5_isClause 52 = .ok (.aload_n 0, 1) := by decide +kernel
theorem dX5_isClause_53 : decode cX5_isClause 53 = .ok (.aload_n 0, 1) := by decide +kernel
theorem dX5_isClause_54 : decode cX5_isClause 54 = .ok (.ldc 65, 2) := by decide +kernel
theorem dX5_isClause_56 : decode cX5_isClause 56 = .ok (.invokevirtual 57, 3) := by decide +kernel
theorem dX5_isClause_59 : decode cX5_isClause 59 = .ok (.ifCond .eq 10, 3) := by decide +kernel
theorem dX5_isClause_62 : decode cX5_isClause 62 = .ok (.aload_n 0, 1) := by decide +kernel
theorem dX5_isClause_63 : decode cX5_isClause 63 = .ok (.invokevirtual 61, 3) := by decide +kernel
theorem dX5_isClause_66 : decode cX5_isClause 66 = .ok (.goto 4, 3) := by decide +kernel
theorem dX5_isClause_69 : decode cX5_isClause 69 = .ok (.iconst (-1), 1) := by decide +kernel
theorem dX5_isClause_70 : decode cX5_isClause 70 = .ok (.putfield 35, 3) := by decide +kernel
theorem dX5_isClause_73 : decode cX5_isClause 73 = .ok (.aload_n 0, 1) := by decide +kernel
theorem dX5_isClause_74 : decode cX5_isClause 74 = .ok (.getfield 35, 3) := by decide +kernel
theorem dX5_isClause_77 : decode cX5_isClause 77 = .ok (.ifCond .lt 7, 3) := by decide +kernel
theorem dX5_isClause_80 : decode cX5_isClause 80 = .ok (.iconst 1, 1) := by decide +kernel
theorem dX5_isClause_81 : decode cX5_isClause 81 = .ok (.goto 4, 3) := by decide +kernel
theorem dX5_isClause_84 : decode cX5_isClause 84 = .ok (.iconst 0, 1) := by decide +kernel
theorem dX5_isClause_85 : decode cX5_isClause 85 = .ok (.ireturn, 1) := by decide +kernel
theorem dX5_isClause_86 : decode cX5_isClause 86 = .ok (.aload_n 0, 1) := by decide +kernel
theorem dX5_isClause_87 : decode cX5_isClause 87 = .ok (.ldc 67, 2) := by decide +kernel
theorem dX5_isClause_89 : decode cX5_isClause 89 = .ok (.invokevirtual 57, 3) := by decide +kernel
theorem dX5_isClause_92 : decode cX5_isClause 92 = .ok (.ifCond .ne 5, 3) := by decide +kernel
theorem dX5_isClause_95 : decode cX5_isClause 95 = .ok (.iconst 0, 1) := by decide +kernel
theorem dX5_isClause_96 : decode cX5_isClause 96 = .ok (.ireturn, 1) := by decide +kernel
theorem dX5_isClause_97 : decode cX5_isClause 97 = .ok (.aload_n 0, 1) := by decide +kernel
theorem dX5_isClause_98 : decode cX5_isClause 98 = .ok (.bipush 101, 2) := by decide +kernel
theorem dX5_isClause_100 : decode cX5_isClause 100 = .ok (.invokevirtual 42, 3) := by decide +kernel
theorem dX5_isClause_103 : decode cX5_isClause 103 = .ok (.istore_n 1, 1) := by decide +kernel
theorem dX5_isClause_104 : decode cX5_isClause 104 = .ok (.aload_n 0, 1) := by decide +kernel
theorem dX5_isClause_105 : decode cX5_isClause 105 = .ok (.iload_n 1, 1) := by decide +kernel
theorem dX5_isClause_106 : decode cX5_isClause 106 = .ok (.ifCond .eq 8, 3) := by decide +kernel
theorem dX5_isClause_109 : decode cX5_isClause 109 = .ok (.ldc 69, 2) := by decide +kernel
theorem dX5_isClause_111 : decode cX5_isClause 111 = .ok (.goto 5, 3) := by decide +kernel
theorem dX5_isClause_114 : decode cX5_isClause 114 = .ok (.ldc 71, 2) := by decide +kernel
theorem dX5_isClause_116 : decode cX5_isClause 116 = .ok (.invokevirtual 57, 3) := by decide +kernel
theorem dX5_isClause_119 : decode cX5_isClause 119 = .ok (.ifCond .ne 5, 3) := by decide +kernel
theorem dX5_isClause_122 : decode cX5_isClause 122 = .ok (.iconst 0, 1) := by decide +kernel
theorem dX5_isClause_123 : decode cX5_isClause 123 = .ok (.ireturn, 1) := by decide +kernel
theorem dX5_isClause_124 : decode cX5_isClause 124 = .ok (.aload_n 0, 1) := by decide +kernel
theorem dX5_isClause_125 : decode cX5_isClause 125 = .ok (.invokevirtual 61, 3) := by decide +kernel
theorem dX5_isClause_128 : decode cX5_isClause 128 = .ok (.istore_n 2, 1) := by decide +kernel
theorem dX5_isClause_129 : decode cX5_isClause 129 = .ok (.iload_n 2, 1) := by decide +kernel
theorem dX5_isClause_130 : decode cX5_isClause 130 = .ok (.ifCond .lt 43, 3) := by decide +kernel
theorem dX5_isClause_133 : decode cX5_isClause 133 = .ok (.aload_n 0, 1) := by decide +kernel
theorem dX5_isClause_134 : decode cX5_isClause 134 = .ok (.bipush 32, 2) := by decide +kernel
theorem dX5_isClause_136 : decode cX5_isClause 136 = .ok (.invokevirtual 42, 3) := by decide +kernel
theorem dX5_isClause_139 : decode cX5_isClause 139 = .ok (.ifCond .eq 34, 3) := by decide +kernel
theorem dX5_isClause_142 : decode cX5_isClause 142 = .ok (.aload_n 0, 1) := by decide +kernel
theorem dX5_isClause_143 : decode cX5_isClause 143 = .ok (.iconst 0, 1) := by decide +kernel
theorem dX5_isClause_144 : decode cX5_isClause 144 = .ok (.invokevirtual 73, 3) := by decide +kernel
theorem dX5_isClause_147 : decode cX5_isClause 147 = .ok (.ifCond .eq 26, 3) := by decide +kernel
theorem dX5_isClause_150 : decode cX5_isClause 150 = .ok (.aload_n 0, 1) := by decide +kernel
theorem dX5_isClause_151 : decode cX5_isClause 151 = .ok (.iload_n 1, 1) := by decide +kernel
theorem dX5_isClause_152 : decode cX5_isClause 152 = .ok (.ifCond .eq 8, 3) := by decide +kernel
theorem dX5_isClause_155 : decode cX5_isClause 155 = .ok (.bipush 21, 2) := by decide +kernel
theorem dX5_isClause_157 : decode cX5_isClause 157 = .ok (.goto 5, 3) := by decide +kernel
theorem dX5_isClause_160 : decode cX5_isClause 160 = .ok (.bipush 22, 2) := by decide +kernel
theorem dX5_isClause_162 : decode cX5_isClause 162 = .ok (.iload_n 2, 1) := by decide +kernel
theorem dX5_isClause_163 : decode cX5_isClause 163 = .ok (.invokevirtual 77, 3) := by decide +kernel
theorem dX5_isClause_166 : decode cX5_isClause 166 = .ok (.ifCond .eq 7, 3) := by decide +kernel
theorem dX5_isClause_169 : decode cX5_isClause 169 = .ok (.iconst 1, 1) := by decide +kernel
theorem dX5_isClause_170 : decode cX5_isClause 170 = .ok (.goto 4, 3) := by decide +kernel
theorem dX5_isClause_173 : decode cX5_isClause 173 = .ok (.iconst 0, 1) := by decide +kernel
theorem dX5_isClause_174 : decode cX5_isClause 174 = .ok (.ireturn, 1) := by decide +kernel
theorem dX5_isEither_0 : decode cX5_isEither 0 = .ok (.aload_n 0, 1) := by decide +kernel
theorem dX5_isEither_1 : decode cX5_isEither 1 = .ok (.iload_n 1, 1) := by decide +kernel
theorem dX5_isEither_2 : decode cX5_isEither 2 = .ok (.invokevirtual 81, 3) := by decide +kernel
theorem dX5_isEither_5 : decode cX5_isEither 5 = .ok (.ifCond .ne 5, 3) := by decide +kernel
theorem dX5_isEither_8 : decode cX5_isEither 8 = .ok (.iconst 0, 1) := by decide +kernel
theorem dX5_isEither_9 : decode cX5_isEither 9 = .ok (.ireturn, 1) := by decide +kernel
theorem dX5_isEither_10 : decode cX5_isEither 10 = .ok (.iconst 0, 1) := by decide +kernel
theorem dX5_isEither_11 : decode cX5_isEither 11 = .ok (.istore_n 2, 1) := by decide +kernel
theorem dX5_isEither_12 : decode cX5_isEither 12 = .ok (.iload_n 2, 1) := by decide +kernel
theorem dX5_isEither_13 : decode cX5_isEither 13 = .ok (.bipush 100, 2) := by decide +kernel
theorem dX5_isEither_15 : decode cX5_isEither 15 = .ok (.if_icmp .ge 38, 3) := by decide +kernel
theorem dX5_isEither_18 : decode cX5_isEither 18 = .ok (.aload_n 0, 1) := by decide +kernel
theorem dX5_isEither_19 : decode cX5_isEither 19 = .ok (.bipush 124, 2) := by decide +kernel
theorem dX5_isEither_21 : decode cX5_isEither 21 = .ok (.invokevirtual 42, 3) := by decide +kernel
theorem dX5_isEither_24 : decode cX5_isEither 24 = .ok (.ifCond .eq 29, 3) := by decide +kernel
theorem dX5_isEither_27 : decode cX5_isEither 27 = .ok (.aload_n 0, 1) := by decide +kernel
theorem dX5_isEither_28 : decode cX5_isEither 28 = .ok (.iload_n 1, 1) := by decide +kernel
theorem dX5_isEither_29 : decode cX5_isEither 29 = .ok (.invokevirtual 81, 3) := by decide +kernel
theorem dX5_isEither_32 : decode cX5_isEither 32 = .ok (.ifCond .eq 13, 3) := by decide +kernel
theorem dX5_isEither_35 : decode cX5_isEither 35 = .ok (.aload_n 0, 1) := by decide +kernel
theorem dX5_isEither_36 : decode cX5_isEither 36 = .ok (.bipush 20, 2) := by decide +kernel
theorem dX5_isEither_38 : decode cX5_isEither 38 = .ok (.iconst 0, 1) := by decide +kernel
theorem dX5_isEither_39 : decode cX5_isEither 39 = .ok (.invokevirtual 77, 3) := by decide +kernel
theorem dX5_isEither_42 : decode cX5_isEither 42 = .ok (.ifCond .ne 5, 3) := by decide +kernel
theorem dX5_isEither_45 : decode cX5_isEither 45 = .ok (.iconst 0, 1) := by decide +kernel
theorem dX5_isEither_46 : decode cX5_isEither 46 = .ok (.ireturn, 1) := by decide +kernel
theorem dX5_isEither_47 : decode cX5_isEither 47 = .ok (.iinc 2 1, 3) := by decide +kernel
theorem dX5_isEither_50 : decode cX5_isEither 50 = .ok (.goto (-38), 3) := by decide +kernel
theorem dX5_isEither_53 : decode cX5_isEither 53 = .ok (.iconst 1, 1) := by decide +kernel
theorem dX5_isEither_54 : decode cX5_isEither 54 = .ok (.ireturn, 1) := by decide +kernel
theorem dX5_isBoth_0 : decode cX5_isBoth 0 = .ok (.aload_n 0, 1) := by decide +kernel
theorem dX5_isBoth_1 : decode cX5_isBoth 1 = .ok (.iload_n 1, 1) := by decide +kernel
theorem dX5_isBoth_2 : decode cX5_isBoth 2 = .ok (.invokevirtual 84, 3) := by decide +kernel
theorem dX5_isBoth_5 : decode cX5_isBoth 5 = .ok (.ifCond .ne 5, 3) := by decide +kernel
theorem dX5_isBoth_8 : decode cX5_isBoth 8 = .ok (.iconst 0, 1) := by decide +kernel
theorem dX5_isBoth_9 : decode cX5_isBoth 9 = .ok (.ireturn, 1) := by decide +kernel
theorem dX5_isBoth_10 : decode cX5_isBoth 10 = .ok (.iconst 0, 1) := by decide +kernel
theorem dX5_isBoth_11 : decode cX5_isBoth 11 = .ok (.istore_n 2, 1) := by decide +kernel
theorem dX5_isBoth_12 : decode cX5_isBoth 12 = .ok (.iload_n 2, 1) := by decide +kernel
theorem dX5_isBoth_13 : decode cX5_isBoth 13 = .ok (.bipush 100, 2) := by decide +kernel
theorem dX5_isBoth_15 : decode cX5_isBoth 15 = .ok (.if_icmp .ge 38, 3) := by decide +kernel
theorem dX5_isBoth_18 : decode cX5_isBoth 18 = .ok (.aload_n 0, 1) := by decide +kernel
theorem dX5_isBoth_19 : decode cX5_isBoth 19 = .ok (.bipush 38, 2) := by decide +kernel
theorem dX5_isBoth_21 : decode cX5_isBoth 21 = .ok (.invokevirtual 42, 3) := by decide +kernel
theorem dX5_isBoth_24 : decode cX5_isBoth 24 = .ok (.ifCond .eq 29, 3) := by decide +kernel
theorem dX5_isBoth_27 : decode cX5_isBoth 27 = .ok (.aload_n 0, 1) := by decide +kernel
theorem dX5_isBoth_28 : decode cX5_isBoth 28 = .ok (.iload_n 1, 1) := by decide +kernel
theorem dX5_isBoth_29 : decode cX5_isBoth 29 = .ok (.invokevirtual 84, 3) := by decide +kernel
theorem dX5_isBoth_32 : decode cX5_isBoth 32 = .ok (.ifCond .eq 13, 3) := by decide +kernel
theorem dX5_isBoth_35 : decode cX5_isBoth 35 = .ok (.aload_n 0, 1) := by decide +kernel
theorem dX5_isBoth_36 : decode cX5_isBoth 36 = .ok (.bipush 19, 2) := by decide +kernel
theorem dX5_isBoth_38 : decode cX5_isBoth 38 = .ok (.iconst 0, 1) := by decide +kernel
theorem dX5_isBoth_39 : decode cX5_isBoth 39 = .ok (.invokevirtual 77, 3) := by decide +kernel
theorem dX5_isBoth_42 : decode cX5_isBoth 42 = .ok (.ifCond .ne 5, 3) := by decide +kernel
theorem dX5_isBoth_45 : decode cX5_isBoth 45 = .ok (.iconst 0, 1) := by decide +kernel
theorem dX5_isBoth_46 : decode cX5_isBoth 46 = .ok (.ireturn, 1) := by decide +kernel
theorem dX5_isBoth_47 : decode cX5_isBoth 47 = .ok (.iinc 2 1, 3) := by decide +kernel
theorem dX5_isBoth_50 : decode cX5_isBoth 50 = .ok (.goto (-38), 3) := by decide +kernel
theorem dX5_isBoth_53 : decode cX5_isBoth 53 = .ok (.iconst 1, 1) := by decide +kernel
theorem dX5_isBoth_54 : decode cX5_isBoth 54 = .ok (.ireturn, 1) := by decide +kernel
theorem dX5_isOne_0 : decode cX5_isOne 0 = .ok (.iload_n 1, 1) := by decide +kernel
theorem dX5_isOne_1 : decode cX5_isOne 1 = .ok (.iconst 4, 1) := by decide +kernel
theorem dX5_isOne_2 : decode cX5_isOne 2 = .ok (.if_icmp .ge 38, 3) := by decide +kernel
theorem dX5_isOne_5 : decode cX5_isOne 5 = .ok (.aload_n 0, 1) := by decide +kernel
theorem dX5_isOne_6 : decode cX5_isOne 6 = .ok (.bipush 33, 2) := by decide +kernel
theorem dX5_isOne_8 : decode cX5_isOne 8 = .ok (.invokevirtual 42, 3) := by decide +kernel
theorem dX5_isOne_11 : decode cX5_isOne 11 = .ok (.ifCond .eq 29, 3) := by decide +kernel
theorem dX5_isOne_14 : decode cX5_isOne 14 = .ok (.aload_n 0, 1) := by decide +kernel
theorem dX5_isOne_15 : decode cX5_isOne 15 = .ok (.iload_n 1, 1) := by decide +kernel
theorem dX5_isOne_16 : decode cX5_isOne 16 = .ok (.iconst 1, 1) := by decide +kernel
theorem dX5_isOne_17 : decode cX5_isOne 17 = .ok (.iadd, 1) := by decide +kernel
theorem dX5_isOne_18 : decode cX5_isOne 18 = .ok (.invokevirtual 84, 3) := by decide +kernel
theorem dX5_isOne_21 : decode cX5_isOne 21 = .ok (.ifCond .eq 17, 3) := by decide +kernel
theorem dX5_isOne_24 : decode cX5_isOne 24 = .ok (.aload_n 0, 1) := by decide +kernel
theorem dX5_isOne_25 : decode cX5_isOne 25 = .ok (.bipush 18, 2) := by decide +kernel
theorem dX5_isOne_27 : decode cX5_isOne 27 = .ok (.iconst 0, 1) := by decide +kernel
theorem dX5_isOne_28 : decode cX5_isOne 28 = .ok (.invokevirtual 77, 3) := by decide +kernel
theorem dX5_isOne_31 : decode cX5_isOne 31 = .ok (.ifCond .eq 7, 3) := by decide +kernel
theorem dX5_isOne_34 : decode cX5_isOne 34 = .ok (.iconst 1, 1) := by decide +kernel
theorem dX5_isOne_35 : decode cX5_isOne 35 = .ok (.goto 4, 3) := by decide +kernel
theorem dX5_isOne_38 : decode cX5_isOne 38 = .ok (.iconst 0, 1) := by decide +kernel
theorem dX5_isOne_39 : decode cX5_isOne 39 = .ok (.ireturn, 1) := by decide +kernel
theorem dX5_isOne_40 : decode cX5_isOne 40 = .ok (.iload_n 1, 1) := by decide +kernel
theorem dX5_isOne_41 : decode cX5_isOne 41 = .ok (.iconst 4, 1) := by decide +kernel
theorem dX5_isOne_42 : decode cX5_isOne 42 = .ok (.if_icmp .ge 37, 3) := by decide +kernel
theorem dX5_isOne_45 : decode cX5_isOne 45 = .ok (.aload_n 0, 1) := by decide +kernel
theorem dX5_isOne_46 : decode cX5_isOne 46 = .ok (.bipush 40, 2) := by decide +kernel
theorem dX5_isOne_48 : decode cX5_isOne 48 = .ok (.invokevirtual 42, 3) := by decide +kernel
theorem dX5_isOne_51 : decode cX5_isOne 51 = .ok (.ifCond .eq 28, 3) := by decide +kernel
theorem dX5_isOne_54 : decode cX5_isOne 54 = .ok (.aload_n 0, 1) := by decide +kernel
theorem dX5_isOne_55 : decode cX5_isOne 55 = .ok (.iload_n 1, 1) := by decide +kernel
theorem dX5_isOne_56 : decode cX5_isOne 56 = .ok (.iconst 1, 1) := by decide +kernel
theorem dX5_isOne_57 : decode cX5_isOne 57 = .ok (.iadd, 1) := by decide +kernel
theorem dX5_isOne_58 : decode cX5_isOne 58 = .ok (.invokevirtual 73, 3) := by decide +kernel
theorem dX5_isOne_61 : decode cX5_isOne 61 = .ok (.ifCond .eq 16, 3) := by decide +kernel
theorem dX5_isOne_64 : decode cX5_isOne 64 = .ok (.aload_n 0, 1) := by decide +kernel
theorem dX5_isOne_65 : decode cX5_isOne 65 = .ok (.bipush 41, 2) := by decide +kernel
theorem dX5_isOne_67 : decode cX5_isOne 67 = .ok (.invokevirtual 42, 3) := by decide +kernel
theorem dX5_isOne_70 : decode cX5_isOne 70 = .ok (.ifCond .eq 7, 3) := by decide +kernel
theorem dX5_isOne_73 : decode cX5_isOne 73 = .ok (.iconst 1, 1) := by decide +kernel
theorem dX5_isOne_74 : decode cX5_isOne 74 = .ok (.goto 4, 3) := by decide +kernel
theorem dX5_isOne_77 : decode cX5_isOne 77 = .ok (.iconst 0, 1) := by decide +kernel
theorem dX5_isOne_78 : decode cX5_isOne 78 = .ok (.ireturn, 1) := by decide +kernel
theorem dX5_isOne_79 : decode cX5_isOne 79 = .ok (.aload_n 0, 1) := by decide +kernel
theorem dX5_isOne_80 : decode cX5_isOne 80 = .ok (.invokevirtual 87, 3) := by decide +kernel
theorem dX5_isOne_83 : decode cX5_isOne 83 = .ok (.ireturn, 1) := by decide +kernel
theorem dX5_isTest_0 : decode cX5_isTest 0 = .ok (.aload_n 0, 1) := by decide +kernel
theorem dX5_isTest_1 : decode cX5_isTest 1 = .ok (.ldc 90, 2) := by decide +kernel
theorem dX5_isTest_3 : decode cX5_isTest 3 = .ok (.invokevirtual 92, 3) := by decide +kernel
theorem dX5_isTest_6 : decode cX5_isTest 6 = .ok (.istore_n 1, 1) := by decide +kernel
theorem dX5_isTest_7 : decode cX5_isTest 7 = .ok (.iload_n 1, 1) := by decide +kernel
theorem dX5_isTest_8 : decode cX5_isTest 8 = .ok (.ifCond .ge 5, 3) := by decide +kernel
theorem dX5_isTest_11 : decode cX5_isTest 11 = .ok (.iconst 0, 1) := by decide +kernel
theorem dX5_isTest_12 : decode cX5_isTest 12 = .ok (.ireturn, 1) := by decide +kernel
theorem dX5_isTest_13 : decode cX5_isTest 13 = .ok (.aload_n 0, 1) := by decide +kernel
theorem dX5_isTest_14 : decode cX5_isTest 14 = .ok (.ldc 96, 2) := by decide +kernel
theorem dX5_isTest_16 : decode cX5_isTest 16 = .ok (.invokevirtual 92, 3) := by decide +kernel
theorem dX5_isTest_19 : decode cX5_isTest 19 = .ok (.istore_n 2, 1) := by decide +kernel
theorem dX5_isTest_20 : decode cX5_isTest 20 = .ok (.iload_n 2, 1) := by decide +kernel
theorem dX5_isTest_21 : decode cX5_isTest 21 = .ok (.ifCond .ge 5, 3) := by decide +kernel
theorem dX5_isTest_24 : decode cX5_isTest 24 = .ok (.iconst 0, 1) := by decide +kernel
theorem dX5_isTest_25 : decode cX5_isTest 25 = .ok (.ireturn, 1) := by decide +kernel
theorem dX5_isTest_26 : decode cX5_isTest 26 = .ok (.aload_n 0, 1) := by decide +kernel
theorem dX5_isTest_27 : decode cX5_isTest 27 = .ok (.invokevirtual 61, 3) := by decide +kernel
theorem dX5_isTest_30 : decode cX5_isTest 30 = .ok (.istore_n 3, 1) := by decide +kernel
theorem dX5_isTest_31 : decode cX5_isTest 31 = .ok (.iload_n 3, 1) := by decide +kernel
theorem dX5_isTest_32 : decode cX5_isTest 32 = .ok (.ifCond .lt 20, 3) := by decide +kernel
theorem dX5_isTest_35 : decode cX5_isTest 35 = .ok (.aload_n 0, 1) := by decide +kernel
theorem dX5_isTest_36 : decode cX5_isTest 36 = .ok (.iconst 3, 1) := by decide +kernel
theorem dX5_isTest_37 : decode cX5_isTest 37 = .ok (.iload_n 1, 1) := by decide +kernel
theorem dX5_isTest_38 : decode cX5_isTest 38 = .ok (.imul, 1) := by decide +kernel
theorem dX5_isTest_39 : decode cX5_isTest 39 = .ok (.iload_n 2, 1) := by decide +kernel
theorem dX5_isTest_40 : decode cX5_isTest 40 = .ok (.iadd, 1) := by decide +kernel
theorem dX5_isTest_41 : decode cX5_isTest 41 = .ok (.iload_n 3, 1) := by decide +kernel
theorem dX5_isTest_42 : decode cX5_isTest 42 = .ok (.invokevirtual 77, 3) := by decide +kernel
theorem dX5_isTest_45 : decode cX5_isTest 45 = .ok (.ifCond .eq 7, 3) := by decide +kernel
theorem dX5_isTest_48 : decode cX5_isTest 48 = .ok (.iconst 1, 1) := by decide +kernel
theorem dX5_isTest_49 : decode cX5_isTest 49 = .ok (.goto 4, 3) := by decide +kernel
theorem dX5_isTest_52 : decode cX5_isTest 52 = .ok (.iconst 0, 1) := by decide +kernel
theorem dX5_isTest_53 : decode cX5_isTest 53 = .ok (.ireturn, 1) := by decide +kernel
theorem dX5_emit_0 : decode cX5_emit 0 = .ok (.aload_n 0, 1) := by decide +kernel
theorem dX5_emit_1 : decode cX5_emit 1 = .ok (.getfield 27, 3) := by decide +kernel
theorem dX5_emit_4 : decode cX5_emit 4 = .ok (.aload_n 0, 1) := by decide +kernel
theorem dX5_emit_5 : decode cX5_emit 5 = .ok (.getfield 13, 3) := by decide +kernel
theorem dX5_emit_8 : decode cX5_emit 8 = .ok (.arraylength, 1) := by decide +kernel
theorem dX5_emit_9 : decode cX5_emit 9 = .ok (.if_icmp .ge 15, 3) := by decide +kernel
theorem dX5_emit_12 : decode cX5_emit 12 = .ok (.aload_n 0, 1) := by decide +kernel
theorem dX5_emit_13 : decode cX5_emit 13 = .ok (.getfield 27, 3) := by decide +kernel
theorem dX5_emit_16 : decode cX5_emit 16 = .ok (.aload_n 0, 1) := by decide +kernel
theorem dX5_emit_17 : decode cX5_emit 17 = .ok (.getfield 17, 3) := by decide +kernel
theorem dX5_emit_20 : decode cX5_emit 20 = .ok (.arraylength, 1) := by decide +kernel
theorem dX5_emit_21 : decode cX5_emit 21 = .ok (.if_icmp .lt 5, 3) := by decide +kernel
theorem dX5_emit_24 : decode cX5_emit 24 = .ok (.iconst 0, 1) := by decide +kernel
theorem dX5_emit_25 : decode cX5_emit 25 = .ok (.ireturn, 1) := by decide +kernel
theorem dX5_emit_26 : decode cX5_emit 26 = .ok (.aload_n 0, 1) := by decide +kernel
theorem dX5_emit_27 : decode cX5_emit 27 = .ok (.getfield 13, 3) := by decide +kernel
theorem dX5_emit_30 : decode cX5_emit 30 = .ok (.aload_n 0, 1) := by decide +kernel
theorem dX5_emit_31 : decode cX5_emit 31 = .ok (.getfield 27, 3) := by decide +kernel
theorem dX5_emit_34 : decode cX5_emit 34 = .ok (.iload_n 1, 1) := by decide +kernel
theorem dX5_emit_35 : decode cX5_emit 35 = .ok (.iastore, 1) := by decide +kernel
theorem dX5_emit_36 : decode cX5_emit 36 = .ok (.aload_n 0, 1) := by decide +kernel
theorem dX5_emit_37 : decode cX5_emit 37 = .ok (.getfield 17, 3) := by decide +kernel
theorem dX5_emit_40 : decode cX5_emit 40 = .ok (.aload_n 0, 1) := by decide +kernel
theorem dX5_emit_41 : decode cX5_emit 41 = .ok (.getfield 27, 3) := by decide +kernel
theorem dX5_emit_44 : decode cX5_emit 44 = .ok (.iload_n 2, 1) := by decide +kernel
theorem dX5_emit_45 : decode cX5_emit 45 = .ok (.iastore, 1) := by decide +kernel
theorem dX5_emit_46 : decode cX5_emit 46 = .ok (.aload_n 0, 1) := by decide +kernel
theorem dX5_emit_47 : decode cX5_emit 47 = .ok (.dup, 1) := by decide +kernel
theorem dX5_emit_48 : decode cX5_emit 48 = .ok (.getfield 27, 3) := by decide +kernel
theorem dX5_emit_51 : decode cX5_emit 51 = .ok (.iconst 1, 1) := by decide +kernel
theorem dX5_emit_52 : decode cX5_emit 52 = .ok (.iadd, 1) := by decide +kernel
theorem dX5_emit_53 : decode cX5_emit 53 = .ok (.putfield 27, 3) := by decide +kernel
theorem dX5_emit_56 : decode cX5_emit 56 = .ok (.iconst 1, 1) := by decide +kernel
theorem dX5_emit_57 : decode cX5_emit 57 = .ok (.ireturn, 1) := by decide +kernel
theorem dX5_take_0 : decode cX5_take 0 = .ok (.aload_n 0, 1) := by decide +kernel
theorem dX5_take_1 : decode cX5_take 1 = .ok (.getfield 24, 3) := by decide +kernel
theorem dX5_take_4 : decode cX5_take 4 = .ok (.ifCond .lt 39, 3) := by decide +kernel
theorem dX5_take_7 : decode cX5_take 7 = .ok (.aload_n 0, 1) := by decide +kernel
theorem dX5_take_8 : decode cX5_take 8 = .ok (.getfield 24, 3) := by decide +kernel
theorem dX5_take_11 : decode cX5_take 11 = .ok (.aload_n 0, 1) := by decide +kernel
theorem dX5_take_12 : decode cX5_take 12 = .ok (.getfield 20, 3) := by decide +kernel
theorem dX5_take_15 : decode cX5_take 15 = .ok (.if_icmp .ge 28, 3) := by decide +kernel
theorem dX5_take_18 : decode cX5_take 18 = .ok (.aload_n 0, 1) := by decide +kernel
theorem dX5_take_19 : decode cX5_take 19 = .ok (.getfield 24, 3) := by decide +kernel
theorem dX5_take_22 : decode cX5_take 22 = .ok (.aload_n 0, 1) := by decide +kernel
theorem dX5_take_23 : decode cX5_take 23 = .ok (.getfield 9, 3) := by decide +kernel
theorem dX5_take_26 : decode cX5_take 26 = .ok (.arraylength, 1) := by decide +kernel
theorem dX5_take_27 : decode cX5_take 27 = .ok (.if_icmp .ge 16, 3) := by decide +kernel
theorem dX5_take_30 : decode cX5_take 30 = .ok (.aload_n 0, 1) := by decide +kernel
theorem dX5_take_31 : decode cX5_take 31 = .ok (.getfield 9, 3) := by decide +kernel
theorem dX5_take_34 : decode cX5_take 34 = .ok (.aload_n 0, 1) := by decide +kernel
theorem dX5_take_35 : decode cX5_take 35 = .ok (.getfield 24, 3) := by decide +kernel
theorem dX5_take_38 : decode cX5_take 38 = .ok (.baload, 1) := by decide +kernel
theorem dX5_take_39 : decode cX5_take 39 = .ok (.iload_n 1, 1) := by decide +kernel
theorem dX5_take_40 : decode cX5_take 40 = .ok (.if_icmp .eq 5, 3) := by decide +kernel
theorem dX5_take_43 : decode cX5_take 43 = .ok (.iconst 0, 1) := by decide +kernel
theorem dX5_take_44 : decode cX5_take 44 = .ok (.ireturn, 1) := by decide +kernel
theorem dX5_take_45 : decode cX5_take 45 = .ok (.aload_n 0, 1) := by decide +kernel
theorem dX5_take_46 : decode cX5_take 46 = .ok (.dup, 1) := by decide +kernel
theorem dX5_take_47 : decode cX5_take 47 = .ok (.getfield 24, 3) := by decide +kernel
theorem dX5_take_50 : decode cX5_take 50 = .ok (.iconst 1, 1) := by decide +kernel
theorem dX5_take_51 : decode cX5_take 51 = .ok (.iadd, 1) := by decide +kernel
theorem dX5_take_52 : decode cX5_take 52 = .ok (.putfield 24, 3) := by decide +kernel
theorem dX5_take_55 : decode cX5_take 55 = .ok (.iconst 1, 1) := by decide +kernel
theorem dX5_take_56 : decode cX5_take 56 = .ok (.ireturn, 1) := by decide +kernel
theorem dX5_takeAll_0 : decode cX5_takeAll 0 = .ok (.iconst 0, 1) := by decide +kernel
theorem dX5_takeAll_1 : decode cX5_takeAll 1 = .ok (.istore_n 2, 1) := by decide +kernel
theorem dX5_takeAll_2 : decode cX5_takeAll 2 = .ok (.iload_n 2, 1) := by decide +kernel
theorem dX5_takeAll_3 : decode cX5_takeAll 3 = .ok (.aload_n 1, 1) := by decide +kernel
theorem dX5_takeAll_4 : decode cX5_takeAll 4 = .ok (.invokevirtual 98, 3) := by decide +kernel
theorem dX5_takeAll_7 : decode cX5_takeAll 7 = .ok (.if_icmp .ge 23, 3) := by decide +kernel
theorem dX5_takeAll_10 : decode cX5_takeAll 10 = .ok (.aload_n 0, 1) := by decide +kernel
theorem dX5_takeAll_11 : decode cX5_takeAll 11 = .ok (.aload_n 1, 1) := by decide +kernel
theorem dX5_takeAll_12 : decode cX5_takeAll 12 = .ok (.iload_n 2, 1) := by decide +kernel
theorem dX5_takeAll_13 : decode cX5_takeAll 13 = .ok (.invokevirtual 103, 3) := by decide +kernel
theorem dX5_takeAll_16 : decode cX5_takeAll 16 = .ok (.invokevirtual 42, 3) := by decide +kernel
theorem dX5_takeAll_19 : decode cX5_takeAll 19 = .ok (.ifCond .ne 5, 3) := by decide +kernel
theorem dX5_takeAll_22 : decode cX5_takeAll 22 = .ok (.iconst 0, 1) := by decide +kernel
theorem dX5_takeAll_23 : decode cX5_takeAll 23 = .ok (.ireturn, 1) := by decide +kernel
theorem dX5_takeAll_24 : decode cX5_takeAll 24 = .ok (.iinc 2 1, 3) := by decide +kernel
theorem dX5_takeAll_27 : decode cX5_takeAll 27 = .ok (.goto (-25), 3) := by decide +kernel
theorem dX5_takeAll_30 : decode cX5_takeAll 30 = .ok (.iconst 1, 1) := by decide +kernel
theorem dX5_takeAll_31 : decode cX5_takeAll 31 = .ok (.ireturn, 1) := by decide +kernel
theorem dX5_takeOneOf_0 : decode cX5_takeOneOf 0 = .ok (.aload_n 0, 1) := by decide +kernel
theorem dX5_takeOneOf_1 : decode cX5_takeOneOf 1 = .ok (.getfield 24, 3) := by decide +kernel
theorem dX5_takeOneOf_4 : decode cX5_takeOneOf 4 = .ok (.ifCond .lt 26, 3) := by decide +kernel
theorem dX5_takeOneOf_7 : decode cX5_takeOneOf 7 = .ok (.aload_n 0, 1) := by decide +kernel
theorem dX5_takeOneOf_8 : decode cX5_takeOneOf 8 = .ok (.getfield 24, 3) := by decide +kernel
theorem dX5_takeOneOf_11 : decode cX5_takeOneOf 11 = .ok (.aload_n 0, 1) := by decide +kernel
theorem dX5_takeOneOf_12 : decode cX5_takeOneOf 12 = .ok (.getfield 20, 3) := by decide +kernel
theorem dX5_takeOneOf_15 : decode cX5_takeOneOf 15 = .ok (.if_icmp .ge 15, 3) := by decide +kernel
theorem dX5_takeOneOf_18 : decode cX5_takeOneOf 18 = .ok (.aload_n 0, 1) := by decide +kernel
theorem dX5_takeOneOf_19 : decode cX5_takeOneOf 19 = .ok (.getfield 24, 3) := by decide +kernel
theorem dX5_takeOneOf_22 : decode cX5_takeOneOf 22 = .ok (.aload_n 0, 1) := by decide +kernel
theorem dX5_takeOneOf_23 : decode cX5_takeOneOf 23 = .ok (.getfield 9, 3) := by decide +kernel
theorem dX5_takeOneOf_26 : decode cX5_takeOneOf 26 = .ok (.arraylength, 1) := by decide +kernel
theorem dX5_takeOneOf_27 : decode cX5_takeOneOf 27 = .ok (.if_icmp .lt 5, 3) := by decide +kernel
theorem dX5_takeOneOf_30 : decode cX5_takeOneOf 30 = .ok (.iconst (-1), 1) := by decide +kernel
theorem dX5_takeOneOf_31 : decode cX5_takeOneOf 31 = .ok (.ireturn, 1) := by decide +kernel
theorem dX5_takeOneOf_32 : decode cX5_takeOneOf 32 = .ok (.aload_n 1, 1) := by decide +kernel
theorem dX5_takeOneOf_33 : decode cX5_takeOneOf 33 = .ok (.aload_n 0, 1) := by decide +kernel
theorem dX5_takeOneOf_34 : decode cX5_takeOneOf 34 = .ok (.getfield 9, 3) := by decide +kernel
theorem dX5_takeOneOf_37 : decode cX5_takeOneOf 37 = .ok (.aload_n 0, 1) := by decide +kernel
theorem dX5_takeOneOf_38 : decode cX5_takeOneOf 38 = .ok (.getfield 24, 3) := by decide +kernel
theorem dX5_takeOneOf_41 : decode cX5_takeOneOf 41 = .ok (.baload, 1) := by decide +kernel
theorem dX5_takeOneOf_42 : decode cX5_takeOneOf 42 = .ok (.i2c, 1) := by decide +kernel
theorem dX5_takeOneOf_43 : decode cX5_takeOneOf 43 = .ok (.invokevirtual 107, 3) := by decide +kernel
theorem dX5_takeOneOf_46 : decode cX5_takeOneOf 46 = .ok (.istore_n 2, 1) := by decide +kernel
theorem dX5_takeOneOf_47 : decode cX5_takeOneOf 47 = .ok (.iload_n 2, 1) := by decide +kernel
theorem dX5_takeOneOf_48 : decode cX5_takeOneOf 48 = .ok (.ifCond .lt 13, 3) := by decide +kernel
theorem dX5_takeOneOf_51 : decode cX5_takeOneOf 51 = .ok (.aload_n 0, 1) := by decide +kernel
theorem dX5_takeOneOf_52 : decode cX5_takeOneOf 52 = .ok (.dup, 1) := by decide +kernel
theorem dX5_takeOneOf_53 : decode cX5_takeOneOf 53 = .ok (.getfield 24, 3) := by decide +kernel
theorem dX5_takeOneOf_56 : decode cX5_takeOneOf 56 = .ok (.iconst 1, 1) := by decide +kernel
theorem dX5_takeOneOf_57 : decode cX5_takeOneOf 57 = .ok (.iadd, 1) := by decide +kernel
theorem dX5_takeOneOf_58 : decode cX5_takeOneOf 58 = .ok (.putfield 24, 3) := by decide +kernel
theorem dX5_takeOneOf_61 : decode cX5_takeOneOf 61 = .ok (.iload_n 2, 1) := by decide +kernel
theorem dX5_takeOneOf_62 : decode cX5_takeOneOf 62 = .ok (.ireturn, 1) := by decide +kernel
theorem dX5_takeNumber_0 : decode cX5_takeNumber 0 = .ok (.iconst (-1), 1) := by decide +kernel
theorem dX5_takeNumber_1 : decode cX5_takeNumber 1 = .ok (.istore_n 1, 1) := by decide +kernel
theorem dX5_takeNumber_2 : decode cX5_takeNumber 2 = .ok (.iconst 0, 1) := by decide +kernel
theorem dX5_takeNumber_3 : decode cX5_takeNumber 3 = .ok (.istore_n 2, 1) := by decide +kernel
theorem dX5_takeNumber_4 : decode cX5_takeNumber 4 = .ok (.iload_n 2, 1) := by decide +kernel
theorem dX5_takeNumber_5 : decode cX5_takeNumber 5 = .ok (.iconst 2, 1) := by decide +kernel
theorem dX5_takeNumber_6 : decode cX5_takeNumber 6 = .ok (.if_icmp .ge 86, 3) := by decide +kernel
theorem dX5_takeNumber_9 : decode cX5_takeNumber 9 = .ok (.aload_n 0, 1) := by decide +kernel
theorem dX5_takeNumber_10 : decode cX5_takeNumber 10 = .ok (.getfield 24, 3) := by decide +kernel
theorem dX5_takeNumber_13 : decode cX5_takeNumber 13 = .ok (.ifCond .lt 79, 3) := by decide +kernel
theorem dX5_takeNumber_16 : decode cX5_takeNumber 16 = .ok (.aload_n 0, 1) := by decide +kernel
theorem dX5_takeNumber_17 : decode cX5_takeNumber 17 = .ok (.getfield 24, 3) := by decide +kernel
theorem dX5_takeNumber_20 : decode cX5_takeNumber 20 = .ok (.aload_n 0, 1) := by decide +kernel
theorem dX5_takeNumber_21 : decode cX5_takeNumber 21 = .ok (.getfield 20, 3) := by decide +kernel
theorem dX5_takeNumber_24 : decode cX5_takeNumber 24 = .ok (.if_icmp .ge 68, 3) := by decide +kernel
theorem dX5_takeNumber_27 : decode cX5_takeNumber 27 = .ok (.aload_n 0, 1) := by decide +kernel
theorem dX5_takeNumber_28 : decode cX5_takeNumber 28 = .ok (.getfield 24, 3) := by decide +kernel
theorem dX5_takeNumber_31 : decode cX5_takeNumber 31 = .ok (.aload_n 0, 1) := by decide +kernel
theorem dX5_takeNumber_32 : decode cX5_takeNumber 32 = .ok (.getfield 9, 3) := by decide +kernel
theorem dX5_takeNumber_35 : decode cX5_takeNumber 35 = .ok (.arraylength, 1) := by decide +kernel
theorem dX5_takeNumber_36 : decode cX5_takeNumber 36 = .ok (.if_icmp .ge 56, 3) := by decide +kernel
theorem dX5_takeNumber_39 : decode cX5_takeNumber 39 = .ok (.aload_n 0, 1) := by decide +kernel
theorem dX5_takeNumber_40 : decode cX5_takeNumber 40 = .ok (.getfield 9, 3) := by decide +kernel
theorem dX5_takeNumber_43 : decode cX5_takeNumber 43 = .ok (.aload_n 0, 1) := by decide +kernel
theorem dX5_takeNumber_44 : decode cX5_takeNumber 44 = .ok (.getfield 24, 3) := by decide +kernel
theorem dX5_takeNumber_47 : decode cX5_takeNumber 47 = .ok (.baload, 1) := by decide +kernel
theorem dX5_takeNumber_48 : decode cX5_takeNumber 48 = .ok (.bipush 48, 2) := by decide +kernel
theorem dX5_takeNumber_50 : decode cX5_takeNumber 50 = .ok (.isub, 1) := by decide +kernel
theorem dX5_takeNumber_51 : decode cX5_takeNumber 51 = .ok (.istore_n 3, 1) := by decide +kernel
theorem dX5_takeNumber_52 : decode cX5_takeNumber 52 = .ok (.iload_n 3, 1) := by decide +kernel
theorem dX5_takeNumber_53 : decode cX5_takeNumber 53 = .ok (.ifCond .lt 39, 3) := by decide +kernel
theorem dX5_takeNumber_56 : decode cX5_takeNumber 56 = .ok (.iload_n 3, 1) := by decide +kernel
theorem dX5_takeNumber_57 : decode cX5_takeNumber 57 = .ok (.bipush 9, 2) := by decide +kernel
theorem dX5_takeNumber_59 : decode cX5_takeNumber 59 = .ok (.if_icmp .le 6, 3) := by decide +kernel
theorem dX5_takeNumber_62 : decode cX5_takeNumber 62 = .ok (.goto 30, 3) := by decide +kernel
theorem dX5_takeNumber_65 : decode cX5_takeNumber 65 = .ok (.iconst 0, 1) := by decide +kernel
theorem dX5_takeNumber_66 : decode cX5_takeNumber 66 = .ok (.iload_n 1, 1) := by decide +kernel
theorem dX5_takeNumber_67 : decode cX5_takeNumber 67 = .ok (.invokestatic 111, 3) := by decide +kernel
theorem dX5_takeNumber_70 : decode cX5_takeNumber 70 = .ok (.bipush 10, 2) := by decide +kernel
theorem dX5_takeNumber_72 : decode cX5_takeNumber 72 = .ok (.imul, 1) := by decide +kernel
theorem dX5_takeNumber_73 : decode cX5_takeNumber 73 = .ok (.iload_n 3, 1) := by decide +kernel
theorem dX5_takeNumber_74 : decode cX5_takeNumber 74 = .ok (.iadd, 1) := by decide +kernel
theorem dX5_takeNumber_75 : decode cX5_takeNumber 75 = .ok (.istore_n 1, 1) := by decide +kernel
theorem dX5_takeNumber_76 : decode cX5_takeNumber 76 = .ok (.aload_n 0, 1) := by decide +kernel
theorem dX5_takeNumber_77 : decode cX5_takeNumber 77 = .ok (.dup, 1) := by decide +kernel
theorem dX5_takeNumber_78 : decode cX5_takeNumber 78 = .ok (.getfield 24, 3) := by decide +kernel
theorem dX5_takeNumber_81 : decode cX5_takeNumber 81 = .ok (.iconst 1, 1) := by decide +kernel
theorem dX5_takeNumber_82 : decode cX5_takeNumber 82 = .ok (.iadd, 1) := by decide +kernel
theorem dX5_takeNumber_83 : decode cX5_takeNumber 83 = .ok (.putfield 24, 3) := by decide +kernel
theorem dX5_takeNumber_86 : decode cX5_takeNumber 86 = .ok (.iinc 2 1, 3) := by decide +kernel
theorem dX5_takeNumber_89 : decode cX5_takeNumber 89 = .ok (.goto (-85), 3) := by decide +kernel
theorem dX5_takeNumber_92 : decode cX5_takeNumber 92 = .ok (.iload_n 1, 1) := by decide +kernel
theorem dX5_takeNumber_93 : decode cX5_takeNumber 93 = .ok (.ireturn, 1) := by decide +kernel
theorem dX6_init_0 : decode cX6_init 0 = .ok (.aload_n 0, 1) := by decide +kernel
theorem dX6_init_1 : decode cX6_init 1 = .ok (.invokespecial 3, 3) := by decide +kernel
theorem dX6_init_4 : decode cX6_init 4 = .ok (.aload_n 0, 1) := by decide +kernel
theorem dX6_init_5 : decode cX6_init 5 = .ok (.new 9, 3) := by decide +kernel
theorem dX6_init_8 : decode cX6_init 8 = .ok (.dup, 1) := by decide +kernel
theorem dX6_init_9 : decode cX6_init 9 = .ok (.invokespecial 11, 3) := by decide +kernel
theorem dX6_init_12 : decode cX6_init 12 = .ok (.putfield 12, 3) := by decide +kernel
theorem dX6_init_15 : decode cX6_init 15 = .ok (.aload_n 0, 1) := by decide +kernel
theorem dX6_init_16 : decode cX6_init 16 = .ok (.new 9, 3) := by decide +kernel
theorem dX6_init_19 : decode cX6_init 19 = .ok (.dup, 1) := by decide +kernel
theorem dX6_init_20 : decode cX6_init 20 = .ok (.invokespecial 11, 3) := by decide +kernel
theorem dX6_init_23 : decode cX6_init 23 = .ok (.putfield 18, 3) := by decide +kernel
theorem dX6_init_26 : decode cX6_init 26 = .ok (.aload_n 0, 1) := by decide +kernel
theorem dX6_init_27 : decode cX6_init 27 = .ok (.new 9, 3) := by decide +kernel
theorem dX6_init_30 : decode cX6_init 30 = .ok (.dup, 1) := by decide +kernel
theorem dX6_init_31 : decode cX6_init 31 = .ok (.invokespecial 11, 3) := by decide +kernel
theorem dX6_init_34 : decode cX6_init 34 = .ok (.putfield 21, 3) := by decide +kernel
theorem dX6_init_37 : decode cX6_init 37 = .ok (.aload_n 0, 1) := by decide +kernel
theorem dX6_init_38 : decode cX6_init 38 = .ok (.new 9, 3) := by decide +kernel
theorem dX6_init_41 : decode cX6_init 41 = .ok (.dup, 1) := by decide +kernel
theorem dX6_init_42 : decode cX6_init 42 = .ok (.invokespecial 11, 3) := by decide +kernel
theorem dX6_init_45 : decode cX6_init 45 = .ok (.putfield 24, 3) := by decide +kernel
theorem dX6_init_48 : decode cX6_init 48 = .ok (.aload_n 0, 1) := by decide +kernel
theorem dX6_init_49 : decode cX6_init 49 = .ok (.new 9, 3) := by decide +kernel
theorem dX6_init_52 : decode cX6_init 52 = .ok (.dup, 1) := by decide +kernel
theorem dX6_init_53 : decode cX6_init 53 = .ok (.invokespecial 11, 3) := by decide +kernel
theorem dX6_init_56 : decode cX6_init 56 = .ok (.putfield 27, 3) := by decide +kernel
theorem dX6_init_59 : decode cX6_init 59 = .ok (.aload_n 0, 1) := by decide +kernel
theorem dX6_init_60 : decode cX6_init 60 = .ok (.new 9, 3) := by decide +kernel
theorem dX6_init_63 : decode cX6_init 63 = .ok (.dup, 1) := by decide +kernel
theorem dX6_init_64 : decode cX6_init 64 = .ok (.invokespecial 11, 3) := by decide +kernel
theorem dX6_init_67 : decode cX6_init 67 = .ok (.putfield 30, 3) := by decide +kernel
theorem dX6_init_70 : decode cX6_init 70 = .ok (.aload_n 0, 1) := by decide +kernel
theorem dX6_init_71 : decode cX6_init 71 = .ok (.iconst 3, 1) := by decide +kernel
theorem dX6_init_72 : decode cX6_init 72 = .ok (.newarray .int, 2) := by decide +kernel
theorem dX6_init_74 : decode cX6_init 74 = .ok (.putfield 33, 3) := by decide +kernel
theorem dX6_init_77 : decode cX6_init 77 = .ok (.aload_n 0, 1) := by decide +kernel
theorem dX6_init_78 : decode cX6_init 78 = .ok (.new 37, 3) := by decide +kernel
theorem dX6_init_81 : decode cX6_init 81 = .ok (.dup, 1) := by decide +kernel
theorem dX6_init_82 : decode cX6_init 82 = .ok (.invokespecial 39, 3) := by decide +kernel
theorem dX6_init_85 : decode cX6_init 85 = .ok (.putfield 40, 3) := by decide +kernel
theorem dX6_init_88 : decode cX6_init 88 = .ok (.aload_n 0, 1) := by decide +kernel
theorem dX6_init_89 : decode cX6_init 89 = .ok (.new 44, 3) := by decide +kernel
theorem dX6_init_92 : decode cX6_init 92 = .ok (.dup, 1) := by decide +kernel
theorem dX6_init_93 : decode cX6_init 93 = .ok (.invokespecial 46, 3) := by decide +kernel
theorem dX6_init_96 : decode cX6_init 96 = .ok (.putfield 47, 3) := by decide +kernel
theorem dX6_init_99 : decode cX6_init 99 = .ok (.aload_n 0, 1) := by decide +kernel
theorem dX6_init_100 : decode cX6_init 100 = .ok (.bipush 6, 2) := by decide +kernel
theorem dX6_init_102 : decode cX6_init 102 = .ok (.anewarray 51, 3) := by decide +kernel
theorem dX6_init_105 : decode cX6_init 105 = .ok (.putfield 53, 3) := by decide +kernel
theorem dX6_init_108 : decode cX6_init 108 = .ok (.new 57, 3) := by decide +kernel
theorem dX6_init_111 : decode cX6_init 111 = .ok (.dup, 1) := by decide +kernel
theorem dX6_init_112 : decode cX6_init 112 = .ok (.iconst 0, 1) := by decide +kernel
theorem dX6_init_113 : decode cX6_init 113 = .ok (.newarray .int, 2) := by decide +kernel
theorem dX6_init_115 : decode cX6_init 115 = .ok (.iconst 0, 1) := by decide +kernel
theorem dX6_init_116 : decode cX6_init 116 = .ok (.newarray .int, 2) := by decide +kernel
theorem dX6_init_118 : decode cX6_init 118 = .ok (.bipush 20, 2) := by decide +kernel
theorem dX6_init_120 : decode cX6_init 120 = .ok (.iconst 4, 1) := by decide +kernel
theorem dX6_init_121 : decode cX6_init 121 = .ok (.invokespecial 59, 3) := by decide +kernel
theorem dX6_init_124 : decode cX6_init 124 = .ok (.astore_n 1, 1) := by decide +kernel
theorem dX6_init_125 : decode cX6_init 125 = .ok (.aload_n 0, 1) := by decide +kernel
theorem dX6_init_126 : decode cX6_init 126 = .ok (.new 62, 3) := by decide +kernel
theorem dX6_init_129 : decode cX6_init 129 = .ok (.dup, 1) := by decide +kernel
theorem dX6_init_130 : decode cX6_init 130 = .ok (.aload_n 1, 1) := by decide +kernel
theorem dX6_init_131 : decode cX6_init 131 = .ok (.invokespecial 64, 3) := by decide +kernel
theorem dX6_init_134 : decode cX6_init 134 = .ok (.putfield 67, 3) := by decide +kernel
theorem dX6_init_137 : decode cX6_init 137 = .ok (.aload_n 0, 1) := by decide +kernel
theorem dX6_init_138 : decode cX6_init 138 = .ok (.new 62, 3) := by decide +kernel
theorem dX6_init_141 : decode cX6_init 141 = .ok (.dup, 1) := by decide +kernel
theorem dX6_init_142 : decode cX6_init 142 = .ok (.aload_n 1, 1) := by decide +kernel
theorem dX6_init_143 : decode cX6_init 143 = .ok (.invokespecial 64, 3) := by decide +kernel
theorem dX6_init_146 : decode cX6_init 146 = .ok (.putfield 71, 3) := by decide +kernel
theorem dX6_init_149 : decode cX6_init 149 = .ok (.aload_n 0, 1) := by decide +kernel
theorem dX6_init_150 : decode cX6_init 150 = .ok (.iconst 4, 1) := by decide +kernel
theorem dX6_init_151 : decode cX6_init 151 = .ok (.anewarray 62, 3) := by decide +kernel
theorem dX6_init_154 : decode cX6_init 154 = .ok (.putfield 74, 3) := by decide +kernel
theorem dX6_init_157 : decode cX6_init 157 = .ok (.iconst 0, 1) := by decide +kernel
theorem dX6_init_158 : decode cX6_init 158 = .ok (.istore_n 2, 1) := by decide +kernel
theorem dX6_init_159 : decode cX6_init 159 = .ok (.iload_n 2, 1) := by decide +kernel
theorem dX6_init_160 : decode cX6_init 160 = .ok (.aload_n 0, 1) := by decide +kernel
theorem dX6_init_161 : decode cX6_init 161 = .ok (.getfield 74, 3) := by decide +kernel
theorem dX6_init_164 : decode cX6_init 164 = .ok (.arraylength, 1) := by decide +kernel
theorem dX6_init_165 : decode cX6_init 165 = .ok (.if_icmp .ge 23, 3) := by decide +kernel
theorem dX6_init_168 : decode cX6_init 168 = .ok (.aload_n 0, 1) := by decide +kernel
theorem dX6_init_169 : decode cX6_init 169 = .ok (.getfield 74, 3) := by decide +kernel
theorem dX6_init_172 : decode cX6_init 172 = .ok (.iload_n 2, 1) := by decide +kernel
theorem dX6_init_173 : decode cX6_init 173 = .ok (.new 62, 3) := by decide +kernel
theorem dX6_init_176 : decode cX6_init 176 = .ok (.dup, 1) := by decide +kernel
theorem dX6_init_177 : decode cX6_init 177 = .ok (.aload_n 1, 1) := by decide +kernel
theorem dX6_init_178 : decode cX6_init 178 = .ok (.invokespecial 64, 3) := by decide +kernel
theorem dX6_init_181 : decode cX6_init 181 = .ok (.aastore, 1) := by decide +kernel
theorem dX6_init_182 : decode cX6_init 182 = .ok (.iinc 2 1, 3) := by decide +kernel
theorem dX6_init_185 : decode cX6_init 185 = .ok (.goto (-26), 3) := by decide +kernel
theorem dX6_init_188 : decode cX6_init 188 = .ok (.iconst 0, 1) := by decide +kernel
theorem dX6_init_189 : decode cX6_init 189 = .ok (.istore_n 2, 1) := by decide +kernel
theorem dX6_init_190 : decode cX6_init 190 = .ok (.iload_n 2, 1) := by decide +kernel
theorem dX6_init_191 : decode cX6_init 191 = .ok (.aload_n 0, 1) := by decide +kernel
theorem dX6_init_192 : decode cX6_init 192 = .ok (.getfield 53, 3) := by decide +kernel
theorem dX6_init_195 : decode cX6_init 195 = .ok (.arraylength, 1) := by decide +kernel
theorem dX6_init_196 : decode cX6_init 196 = .ok (.if_icmp .ge 22, 3) := by decide +kernel
theorem dX6_init_199 : decode cX6_init 199 = .ok (.aload_n 0, 1) := by decide +kernel
theorem dX6_init_200 : decode cX6_init 200 = .ok (.getfield 53, 3) := by decide +kernel
theorem dX6_init_203 : decode cX6_init 203 = .ok (.iload_n 2, 1) := by decide +kernel
theorem dX6_init_204 : decode cX6_init 204 = .ok (.new 51, 3) := by decide +kernel
theorem dX6_init_207 : decode cX6_init 207 = .ok (.dup, 1) := by decide +kernel
theorem dX6_init_208 : decode cX6_init 208 = .ok (.invokespecial 78, 3) := by decide +kernel
theorem dX6_init_211 : decode cX6_init 211 = .ok (.aastore, 1) := by decide +kernel
theorem dX6_init_212 : decode cX6_init 212 = .ok (.iinc 2 1, 3) := by decide +kernel
theorem dX6_init_215 : decode cX6_init 215 = .ok (.goto (-25), 3) := by decide +kernel
theorem dX6_init_218 : decode cX6_init 218 = .ok (.return_, 1) := by decide +kernel
theorem dX6_hand_0 : decode cX6_hand 0 = .ok (.iload_n 1, 1) := by decide +kernel
theorem dX6_hand_1 : decode cX6_hand 1 = .ok (.iconst 0, 1) := by decide +kernel
theorem dX6_hand_2 : decode cX6_hand 2 = .ok (.bipush 6, 2) := by decide +kernel
theorem dX6_hand_4 : decode cX6_hand 4 = .ok (.invokestatic 79, 3) := by decide +kernel
theorem dX6_hand_7 : decode cX6_hand 7 = .ok (.ifCond .ne 5, 3) := by decide +kernel
theorem dX6_hand_10 : decode cX6_hand 10 = .ok (.iconst (-1), 1) := by decide +kernel
theorem dX6_hand_11 : decode cX6_hand 11 = .ok (.ireturn, 1) := by decide +kernel
theorem dX6_hand_12 : decode cX6_hand 12 = .ok (.iload_n 2, 1) := by decide +kernel
theorem dX6_hand_13 : decode cX6_hand 13 = .ok (.iconst 0, 1) := by decide +kernel
theorem dX6_hand_14 : decode cX6_hand 14 = .ok (.bipush 9, 2) := by decide +kernel
theorem dX6_hand_16 : decode cX6_hand 16 = .ok (.invokestatic 79, 3) := by decide +kernel
theorem dX6_hand_19 : decode cX6_hand 19 = .ok (.ifCond .eq 13, 3) := by decide +kernel
theorem dX6_hand_22 : decode cX6_hand 22 = .ok (.iload_n 3, 1) := by decide +kernel
theorem dX6_hand_23 : decode cX6_hand 23 = .ok (.iconst 0, 1) := by decide +kernel
theorem dX6_hand_24 : decode cX6_hand 24 = .ok (.bipush 60, 2) := by decide +kernel
theorem dX6_hand_26 : decode cX6_hand 26 = .ok (.invokestatic 79, 3) := by decide +kernel
theorem dX6_hand_29 : decode cX6_hand 29 = .ok (.ifCond .ne 6, 3) := by decide +kernel
theorem dX6_hand_32 : decode cX6_hand 32 = .ok (.bipush (-2), 2) := by decide +kernel
theorem dX6_hand_34 : decode cX6_hand 34 = .ok (.ireturn, 1) := by decide +kernel
theorem dX6_hand_35 : decode cX6_hand 35 = .ok (.aload_n 0, 1) := by decide +kernel
theorem dX6_hand_36 : decode cX6_hand 36 = .ok (.getfield 67, 3) := by decide +kernel
theorem dX6_hand_39 : decode cX6_hand 39 = .ok (.getfield 83, 3) := by decide +kernel
theorem dX6_hand_42 : decode cX6_hand 42 = .ok (.iconst 5, 1) := by decide +kernel
theorem dX6_hand_43 : decode cX6_hand 43 = .ok (.if_icmp .lt 6, 3) := by decide +kernel
theorem dX6_hand_46 : decode cX6_hand 46 = .ok (.bipush (-4), 2) := by decide +kernel
theorem dX6_hand_48 : decode cX6_hand 48 = .ok (.ireturn, 1) := by decide +kernel
theorem dX6_hand_49 : decode cX6_hand 49 = .ok (.aload_n 0, 1) := by decide +kernel
theorem dX6_hand_50 : decode cX6_hand 50 = .ok (.getfield 67, 3) := by decide +kernel
theorem dX6_hand_53 : decode cX6_hand 53 = .ok (.iload_n 1, 1) := by decide +kernel
theorem dX6_hand_54 : decode cX6_hand 54 = .ok (.iload_n 2, 1) := by decide +kernel
theorem dX6_hand_55 : decode cX6_hand 55 = .ok (.iload_n 3, 1) := by decide +kernel
theorem dX6_hand_56 : decode cX6_hand 56 = .ok (.invokevirtual 87, 3) := by decide +kernel
theorem dX6_hand_59 : decode cX6_hand 59 = .ok (.ireturn, 1) := by decide +kernel
theorem dX6_of_0 : decode cX6_of 0 = .ok (.aload_n 0, 1) := by decide +kernel
theorem dX6_of_1 : decode cX6_of 1 = .ok (.getfield 67, 3) := by decide +kernel
theorem dX6_of_4 : decode cX6_of 4 = .ok (.iload_n 1, 1) := by decide +kernel
theorem dX6_of_5 : decode cX6_of 5 = .ok (.invokevirtual 91, 3) := by decide +kernel
theorem dX6_of_8 : decode cX6_of 8 = .ok (.ifCond .ne 7, 3) := by decide +kernel
theorem dX6_of_11 : decode cX6_of 11 = .ok (.sipush (-1001), 3) := by decide +kernel
theorem dX6_of_14 : decode cX6_of 14 = .ok (.ireturn, 1) := by decide +kernel
theorem dX6_of_15 : decode cX6_of 15 = .ok (.iload_n 2, 1) := by decide +kernel
theorem dX6_of_16 : decode cX6_of 16 = .ok (.tableswitch 88 0 4 #[36, 45, 54, 63, 72], 36) := by decide +kernel
theorem dX6_of_52 : decode cX6_of 52 = .ok (.aload_n 0, 1) := by decide +kernel
theorem dX6_of_53 : decode cX6_of 53 = .ok (.getfield 67, 3) := by decide +kernel
theorem dX6_of_56 : decode cX6_of 56 = .ok (.iload_n 1, 1) := by decide +kernel
theorem dX6_of_57 : decode cX6_of 57 = .ok (.invokevirtual 95, 3) := by decide +kernel
theorem dX6_of_60 : decode cX6_of 60 = .ok (.ireturn, 1) := by decide +kernel
theorem dX6_of_61 : decode cX6_of 61 = .ok (.aload_n 0, 1) := by decide +kernel
theorem dX6_of_62 : decode cX6_of 62 = .ok (.getfield 67, 3) := by decide +kernel
theorem dX6_of_65 : decode cX6_of 65 = .ok (.iload_n 1, 1) := by decide +kernel
theorem dX6_of_66 : decode cX6_of 66 = .ok (.invokevirtual 99, 3) := by decide +kernel
theorem dX6_of_69 : decode cX6_of 69 = .ok (.ireturn, 1) := by decide +kernel
theorem dX6_of_70 : decode cX6_of 70 = .ok (.aload_n 0, 1) := by decide +kernel
theorem dX6_of_71 : decode cX6_of 71 = .ok (.getfield 67, 3) := by decide +kernel
theorem dX6_of_74 : decode cX6_of 74 = .ok (.iload_n 1, 1) := by decide +kernel
theorem dX6_of_75 : decode cX6_of 75 = .ok (.invokevirtual 102, 3) := by decide +kernel
theorem dX6_of_78 : decode cX6_of 78 = .ok (.ireturn, 1) := by decide +kernel
theorem dX6_of_79 : decode cX6_of 79 = .ok (.aload_n 0, 1) := by decide +kernel
theorem dX6_of_80 : decode cX6_of 80 = .ok (.getfield 67, 3) := by decide +kernel
theorem dX6_of_83 : decode cX6_of 83 = .ok (.iload_n 1, 1) := by decide +kernel
theorem dX6_of_84 : decode cX6_of 84 = .ok (.invokevirtual 105, 3) := by decide +kernel
theorem dX6_of_87 : decode cX6_of 87 = .ok (.ireturn, 1) := by decide +kernel
theorem dX6_of_88 : decode cX6_of 88 = .ok (.aload_n 0, 1) := by decide +kernel
theorem dX6_of_89 : decode cX6_of 89 = .ok (.getfield 67, 3) := by decide +kernel
theorem dX6_of_92 : decode cX6_of 92 = .ok (.iload_n 1, 1) := by decide +kernel
theorem dX6_of_93 : decode cX6_of 93 = .ok (.aload_n 0, 1) := by decide +kernel
theorem dX6_of_94 : decode cX6_of 94 = .ok (.getfield 67, 3) := by decide +kernel
theorem dX6_of_97 : decode cX6_of 97 = .ok (.getfield 108, 3) := by decide +kernel
theorem dX6_of_100 : decode cX6_of 100 = .ok (.invokevirtual 111, 3) := by decide +kernel
theorem dX6_of_103 : decode cX6_of 103 = .ok (.ireturn, 1) := by decide +kernel
theorem dX6_of_104 : decode cX6_of 104 = .ok (.aload_n 0, 1) := by decide +kernel
theorem dX6_of_105 : decode cX6_of 105 = .ok (.iload_n 1, 1) := by decide +kernel
theorem dX6_of_106 : decode cX6_of 106 = .ok (.iload_n 2, 1) := by decide +kernel
theorem dX6_of_107 : decode cX6_of 107 = .ok (.bipush 10, 2) := by decide +kernel
theorem dX6_of_109 : decode cX6_of 109 = .ok (.idiv, 1) := by decide +kernel
theorem dX6_of_110 : decode cX6_of 110 = .ok (.iload_n 2, 1) := by decide +kernel
theorem dX6_of_111 : decode cX6_of 111 = .ok (.bipush 10, 2) := by decide +kernel
theorem dX6_of_113 : decode cX6_of 113 = .ok (.irem, 1) := by decide +kernel
theorem dX6_of_114 : decode cX6_of 114 = .ok (.invokevirtual 115, 3) := by decide +kernel
theorem dX6_of_117 : decode cX6_of 117 = .ok (.ireturn, 1) := by decide +kernel
theorem dX6_ofLine_0 : decode cX6_ofLine 0 = .ok (.aload_n 0, 1) := by decide +kernel
theorem dX6_ofLine_1 : decode cX6_ofLine 1 = .ok (.getfield 67, 3) := by decide +kernel
theorem dX6_ofLine_4 : decode cX6_ofLine 4 = .ok (.iload_n 1, 1) := by decide +kernel
theorem dX6_ofLine_5 : decode cX6_ofLine 5 = .ok (.iload_n 3, 1) := by decide +kernel
theorem dX6_ofLine_6 : decode cX6_ofLine 6 = .ok (.invokevirtual 118, 3) := by decide +kernel
theorem dX6_ofLine_9 : decode cX6_ofLine 9 = .ok (.ifCond .ne 7, 3) := by decide +kernel
theorem dX6_ofLine_12 : decode cX6_ofLine 12 = .ok (.sipush (-1001), 3) := by decide +kernel
theorem dX6_ofLine_15 : decode cX6_ofLine 15 = .ok (.ireturn, 1) := by decide +kernel
theorem dX6_ofLine_16 : decode cX6_ofLine 16 = .ok (.iload_n 2, 1) := by decide +kernel
theorem dX6_ofLine_17 : decode cX6_ofLine 17 = .ok (.tableswitch 57 1 3 #[27, 37, 47], 27) := by decide +kernel
theorem dX6_ofLine_44 : decode cX6_ofLine 44 = .ok (.aload_n 0, 1) := by decide +kernel
theorem dX6_ofLine_45 : decode cX6_ofLine 45 = .ok (.getfield 67, 3) := by decide +kernel
theorem dX6_ofLine_48 : decode cX6_ofLine 48 = .ok (.iload_n 1, 1) := by decide +kernel
theorem dX6_ofLine_49 : decode cX6_ofLine 49 = .ok (.iload_n 3, 1) := by decide +kernel
theorem dX6_ofLine_50 : decode cX6_ofLine 50 = .ok (.invokevirtual 122, 3) := by decide +kernel
theorem dX6_ofLine_53 : decode cX6_ofLine 53 = .ok (.ireturn, 1) := by decide +kernel
theorem dX6_ofLine_54 : decode cX6_ofLine 54 = .ok (.aload_n 0, 1) := by decide +kernel
theorem dX6_ofLine_55 : decode cX6_ofLine 55 = .ok (.getfield 67, 3) := by decide +kernel
theorem dX6_ofLine_58 : decode cX6_ofLine 58 = .ok (.iload_n 1, 1) := by decide +kernel
theorem dX6_ofLine_59 : decode cX6_ofLine 59 = .ok (.iload_n 3, 1) := by decide +kernel
theorem dX6_ofLine_60 : decode cX6_ofLine 60 = .ok (.invokevirtual 125, 3) := by decide +kernel
theorem dX6_ofLine_63 : decode cX6_ofLine 63 = .ok (.ireturn, 1) := by decide +kernel
theorem dX6_ofLine_64 : decode cX6_ofLine 64 = .ok (.aload_n 0, 1) := by decide +kernel
theorem dX6_ofLine_65 : decode cX6_ofLine 65 = .ok (.getfield 67, 3) := by decide +kernel
theorem dX6_ofLine_68 : decode cX6_ofLine 68 = .ok (.iload_n 1, 1) := by decide +kernel
theorem dX6_ofLine_69 : decode cX6_ofLine 69 = .ok (.iload_n 3, 1) := by decide +kernel
theorem dX6_ofLine_70 : decode cX6_ofLine 70 = .ok (.invokevirtual 128, 3) := by decide +kernel
theorem dX6_ofLine_73 : decode cX6_ofLine 73 = .ok (.ireturn, 1) := by decide +kernel
theorem dX6_ofLine_74 : decode cX6_ofLine 74 = .ok (.sipush (-1001), 3) := by decide +kernel
theorem dX6_ofLine_77 : decode cX6_ofLine 77 = .ok (.ireturn, 1) := by decide +kernel
theorem dX6_set_0 : decode cX6_set 0 = .ok (.aload_n 0, 1) := by decide +kernel
theorem dX6_set_1 : decode cX6_set 1 = .ok (.getfield 67, 3) := by decide +kernel
theorem dX6_set_4 : decode cX6_set 4 = .ok (.iload_n 1, 1) := by decide +kernel
theorem dX6_set_5 : decode cX6_set 5 = .ok (.iload_n 2, 1) := by decide +kernel
theorem dX6_set_6 : decode cX6_set 6 = .ok (.invokevirtual 118, 3) := by decide +kernel
theorem dX6_set_9 : decode cX6_set 9 = .ok (.ifCond .ne 5, 3) := by decide +kernel
theorem dX6_set_12 : decode cX6_set 12 = .ok (.iconst (-1), 1) := by decide +kernel
theorem dX6_set_13 : decode cX6_set 13 = .ok (.ireturn, 1) := by decide +kernel
theorem dX6_set_14 : decode cX6_set 14 = .ok (.iload_n 3, 1) := by decide +kernel
theorem dX6_set_15 : decode cX6_set 15 = .ok (.iconst 0, 1) := by decide +kernel
theorem dX6_set_16 : decode cX6_set 16 = .ok (.bipush 60, 2) := by decide +kernel
theorem dX6_set_18 : decode cX6_set 18 = .ok (.invokestatic 79, 3) := by decide +kernel
theorem dX6_set_21 : decode cX6_set 21 = .ok (.ifCond .ne 6, 3) := by decide +kernel
theorem dX6_set_24 : decode cX6_set 24 = .ok (.bipush (-2), 2) := by decide +kernel
theorem dX6_set_26 : decode cX6_set 26 = .ok (.ireturn, 1) := by decide +kernel
theorem dX6_set_27 : decode cX6_set 27 = .ok (.aload_n 0, 1) := by decide +kernel
theorem dX6_set_28 : decode cX6_set 28 = .ok (.getfield 67, 3) := by decide +kernel
theorem dX6_set_31 : decode cX6_set 31 = .ok (.iload_n 1, 1) := by decide +kernel
theorem dX6_set_32 : decode cX6_set 32 = .ok (.iload_n 2, 1) := by decide +kernel
theorem dX6_set_33 : decode cX6_set 33 = .ok (.invokevirtual 122, 3) := by decide +kernel
theorem dX6_set_36 : decode cX6_set 36 = .ok (.istore 4, 2) := by decide +kernel
theorem dX6_set_38 : decode cX6_set 38 = .ok (.aload_n 0, 1) := by decide +kernel
theorem dX6_set_39 : decode cX6_set 39 = .ok (.getfield 67, 3) := by decide +kernel
theorem dX6_set_42 : decode cX6_set 42 = .ok (.iload_n 1, 1) := by decide +kernel
theorem dX6_set_43 : decode cX6_set 43 = .ok (.iload_n 2, 1) := by decide +kernel
theorem dX6_set_44 : decode cX6_set 44 = .ok (.iload_n 3, 1) := by decide +kernel
theorem dX6_set_45 : decode cX6_set 45 = .ok (.invokevirtual 131, 3) := by decide +kernel
theorem dX6_set_48 : decode cX6_set 48 = .ok (.iload 4, 2) := by decide +kernel
theorem dX6_set_50 : decode cX6_set 50 = .ok (.ireturn, 1) := by decide +kernel
theorem dX6_row_0 : decode cX6_row 0 = .ok (.aload_n 0, 1) := by decide +kernel
theorem dX6_row_1 : decode cX6_row 1 = .ok (.getfield 67, 3) := by decide +kernel
theorem dX6_row_4 : decode cX6_row 4 = .ok (.iload_n 1, 1) := by decide +kernel
theorem dX6_row_5 : decode cX6_row 5 = .ok (.invokevirtual 91, 3) := by decide +kernel
theorem dX6_row_8 : decode cX6_row 8 = .ok (.ifCond .eq 12, 3) := by decide +kernel
theorem dX6_row_11 : decode cX6_row 11 = .ok (.iload_n 2, 1) := by decide +kernel
theorem dX6_row_12 : decode cX6_row 12 = .ok (.iconst 0, 1) := by decide +kernel
theorem dX6_row_13 : decode cX6_row 13 = .ok (.iconst 3, 1) := by decide +kernel
theorem dX6_row_14 : decode cX6_row 14 = .ok (.invokestatic 79, 3) := by decide +kernel
theorem dX6_row_17 : decode cX6_row 17 = .ok (.ifCond .ne 5, 3) := by decide +kernel
theorem dX6_row_20 : decode cX6_row 20 = .ok (.iconst (-1), 1) := by decide +kernel
theorem dX6_row_21 : decode cX6_row 21 = .ok (.ireturn, 1) := by decide +kernel
theorem dX6_row_22 : decode cX6_row 22 = .ok (.iload_n 3, 1) := by decide +kernel
theorem dX6_row_23 : decode cX6_row 23 = .ok (.iconst 0, 1) := by decide +kernel
theorem dX6_row_24 : decode cX6_row 24 = .ok (.bipush 9, 2) := by decide +kernel
theorem dX6_row_26 : decode cX6_row 26 = .ok (.invokestatic 79, 3) := by decide +kernel
theorem dX6_row_29 : decode cX6_row 29 = .ok (.ifCond .ne 6, 3) := by decide +kernel
theorem dX6_row_32 : decode cX6_row 32 = .ok (.bipush (-2), 2) := by decide +kernel
theorem dX6_row_34 : decode cX6_row 34 = .ok (.ireturn, 1) := by decide +kernel
theorem dX6_row_35 : decode cX6_row 35 = .ok (.aload_n 0, 1) := by decide +kernel
theorem dX6_row_36 : decode cX6_row 36 = .ok (.getfield 67, 3) := by decide +kernel
theorem dX6_row_39 : decode cX6_row 39 = .ok (.iload_n 1, 1) := by decide +kernel
theorem dX6_row_40 : decode cX6_row 40 = .ok (.invokevirtual 95, 3) := by decide +kernel
theorem dX6_row_43 : decode cX6_row 43 = .ok (.bipush 6, 2) := by decide +kernel
theorem dX6_row_45 : decode cX6_row 45 = .ok (.if_icmp .eq 6, 3) := by decide +kernel
theorem dX6_row_48 : decode cX6_row 48 = .ok (.bipush (-3), 2) := by decide +kernel
theorem dX6_row_50 : decode cX6_row 50 = .ok (.ireturn, 1) := by decide +kernel
theorem dX6_row_51 : decode cX6_row 51 = .ok (.aload_n 0, 1) := by decide +kernel
theorem dX6_row_52 : decode cX6_row 52 = .ok (.getfield 67, 3) := by decide +kernel
theorem dX6_row_55 : decode cX6_row 55 = .ok (.iload_n 1, 1) := by decide +kernel
theorem dX6_row_56 : decode cX6_row 56 = .ok (.iload_n 2, 1) := by decide +kernel
theorem dX6_row_57 : decode cX6_row 57 = .ok (.invokevirtual 135, 3) := by decide +kernel
theorem dX6_row_60 : decode cX6_row 60 = .ok (.istore 4, 2) := by decide +kernel
theorem dX6_row_62 : decode cX6_row 62 = .ok (.aload_n 0, 1) := by decide +kernel
theorem dX6_row_63 : decode cX6_row 63 = .ok (.getfield 67, 3) := by decide +kernel
theorem dX6_row_66 : decode cX6_row 66 = .ok (.iload_n 1, 1) := by decide +kernel
theorem dX6_row_67 : decode cX6_row 67 = .ok (.iload_n 2, 1) := by decide +kernel
theorem dX6_row_68 : decode cX6_row 68 = .ok (.iload_n 3, 1) := by decide +kernel
theorem dX6_row_69 : decode cX6_row 69 = .ok (.invokevirtual 138, 3) := by decide +kernel
theorem dX6_row_72 : decode cX6_row 72 = .ok (.iload 4, 2) := by decide +kernel
theorem dX6_row_74 : decode cX6_row 74 = .ok (.ireturn, 1) := by decide +kernel
theorem dX6_ink_0 : decode cX6_ink 0 = .ok (.iload_n 1, 1) := by decide +kernel
theorem dX6_ink_1 : decode cX6_ink 1 = .ok (.iconst 0, 1) := by decide +kernel
theorem dX6_ink_2 : decode cX6_ink 2 = .ok (.sipush 999, 3) := by decide +kernel
theorem dX6_ink_5 : decode cX6_ink 5 = .ok (.invokestatic 79, 3) := by decide +kernel
theorem dX6_ink_8 : decode cX6_ink 8 = .ok (.ifCond .ne 6, 3) := by decide +kernel
theorem dX6_ink_11 : decode cX6_ink 11 = .ok (.bipush (-2), 2) := by decide +kernel
theorem dX6_ink_13 : decode cX6_ink 13 = .ok (.ireturn, 1) := by decide +kernel
theorem dX6_ink_14 : decode cX6_ink 14 = .ok (.aload_n 0, 1) := by decide +kernel
theorem dX6_ink_15 : decode cX6_ink 15 = .ok (.getfield 67, 3) := by decide +kernel
theorem dX6_ink_18 : decode cX6_ink 18 = .ok (.getfield 141, 3) := by decide +kernel
theorem dX6_ink_21 : decode cX6_ink 21 = .ok (.istore_n 2, 1) := by decide +kernel
theorem dX6_ink_22 : decode cX6_ink 22 = .ok (.aload_n 0, 1) := by decide +kernel
theorem dX6_ink_23 : decode cX6_ink 23 = .ok (.getfield 67, 3) := by decide +kernel
theorem dX6_ink_26 : decode cX6_ink 26 = .ok (.iload_n 1, 1) := by decide +kernel
theorem dX6_ink_27 : decode cX6_ink 27 = .ok (.putfield 141, 3) := by decide +kernel
theorem dX6_ink_30 : decode cX6_ink 30 = .ok (.iload_n 2, 1) := by decide +kernel
theorem dX6_ink_31 : decode cX6_ink 31 = .ok (.ireturn, 1) := by decide +kernel
theorem dX6_draw_0 : decode cX6_draw 0 = .ok (.aload_n 0, 1) := by decide +kernel
theorem dX6_draw_1 : decode cX6_draw 1 = .ok (.getfield 67, 3) := by decide +kernel
theorem dX6_draw_4 : decode cX6_draw 4 = .ok (.iload_n 1, 1) := by decide +kernel
theorem dX6_draw_5 : decode cX6_draw 5 = .ok (.iload_n 2, 1) := by decide +kernel
theorem dX6_draw_6 : decode cX6_draw 6 = .ok (.invokevirtual 118, 3) := by decide +kernel
theorem dX6_draw_9 : decode cX6_draw 9 = .ok (.ifCond .ne 5, 3) := by decide +kernel
theorem dX6_draw_12 : decode cX6_draw 12 = .ok (.iconst (-1), 1) := by decide +kernel
theorem dX6_draw_13 : decode cX6_draw 13 = .ok (.ireturn, 1) := by decide +kernel
theorem dX6_draw_14 : decode cX6_draw 14 = .ok (.iload_n 3, 1) := by decide +kernel
theorem dX6_draw_15 : decode cX6_draw 15 = .ok (.iconst 0, 1) := by decide +kernel
theorem dX6_draw_16 : decode cX6_draw 16 = .ok (.bipush 60, 2) := by decide +kernel
theorem dX6_draw_18 : decode cX6_draw 18 = .ok (.invokestatic 79, 3) := by decide +kernel
theorem dX6_draw_21 : decode cX6_draw 21 = .ok (.ifCond .ne 6, 3) := by decide +kernel
theorem dX6_draw_24 : decode cX6_draw 24 = .ok (.bipush (-2), 2) := by decide +kernel
theorem dX6_draw_26 : decode cX6_draw 26 = .ok (.ireturn, 1) := by decide +kernel
theorem dX6_draw_27 : decode cX6_draw 27 = .ok (.aload_n 0, 1) := by decide +kernel
theorem dX6_draw_28 : decode cX6_draw 28 = .ok (.getfield 67, 3) := by decide +kernel
theorem dX6_draw_31 : decode cX6_draw 31 = .ok (.iload_n 1, 1) := by decide +kernel
theorem dX6_draw_32 : decode cX6_draw 32 = .ok (.iload_n 2, 1) := by decide +kernel
theorem dX6_draw_33 : decode cX6_draw 33 = .ok (.iload_n 3, 1) := by decide +kernel
theorem dX6_draw_34 : decode cX6_draw 34 = .ok (.invokevirtual 144, 3) := by decide +kernel
theorem dX6_draw_37 : decode cX6_draw 37 = .ok (.ireturn, 1) := by decide +kernel
theorem dX6_shake_0 : decode cX6_shake 0 = .ok (.aload_n 0, 1) := by decide +kernel
theorem dX6_shake_1 : decode cX6_shake 1 = .ok (.getfield 67, 3) := by decide +kernel
theorem dX6_shake_4 : decode cX6_shake 4 = .ok (.iload_n 1, 1) := by decide +kernel
theorem dX6_shake_5 : decode cX6_shake 5 = .ok (.invokevirtual 91, 3) := by decide +kernel
theorem dX6_shake_8 : decode cX6_shake 8 = .ok (.ifCond .eq 14, 3) := by decide +kernel
theorem dX6_shake_11 : decode cX6_shake 11 = .ok (.aload_n 0, 1) := by decide +kernel
theorem dX6_shake_12 : decode cX6_shake 12 = .ok (.getfield 67, 3) := by decide +kernel
theorem dX6_shake_15 : decode cX6_shake 15 = .ok (.iload_n 2, 1) := by decide +kernel
theorem dX6_shake_16 : decode cX6_shake 16 = .ok (.invokevirtual 91, 3) := by decide +kernel
theorem dX6_shake_19 : decode cX6_shake 19 = .ok (.ifCond .ne 5, 3) := by decide +kernel
theorem dX6_shake_22 : decode cX6_shake 22 = .ok (.iconst (-1), 1) := by decide +kernel
theorem dX6_shake_23 : decode cX6_shake 23 = .ok (.ireturn, 1) := by decide +kernel
theorem dX6_shake_24 : decode cX6_shake 24 = .ok (.iload_n 1, 1) := by decide +kernel
theorem dX6_shake_25 : decode cX6_shake 25 = .ok (.iload_n 2, 1) := by decide +kernel
theorem dX6_shake_26 : decode cX6_shake 26 = .ok (.if_icmp .ne 6, 3) := by decide +kernel
theorem dX6_shake_29 : decode cX6_shake 29 = .ok (.bipush (-2), 2) := by decide +kernel
theorem dX6_shake_31 : decode cX6_shake 31 = .ok (.ireturn, 1) := by decide +kernel
theorem dX6_shake_32 : decode cX6_shake 32 = .ok (.aload_n 0, 1) := by decide +kernel
theorem dX6_shake_33 : decode cX6_shake 33 = .ok (.getfield 67, 3) := by decide +kernel
theorem dX6_shake_36 : decode cX6_shake 36 = .ok (.iload_n 1, 1) := by decide +kernel
theorem dX6_shake_37 : decode cX6_shake 37 = .ok (.iload_n 2, 1) := by decide +kernel
theorem dX6_shake_38 : decode cX6_shake 38 = .ok (.invokevirtual 147, 3) := by decide +kernel
theorem dX6_shake_41 : decode cX6_shake 41 = .ok (.ireturn, 1) := by decide +kernel
theorem dX6_feed_0 : decode cX6_feed 0 = .ok (.iload_n 1, 1) := by decide +kernel
theorem dX6_feed_1 : decode cX6_feed 1 = .ok (.iconst 0, 1) := by decide +kernel
theorem dX6_feed_2 : decode cX6_feed 2 = .ok (.bipush 127, 2) := by decide +kernel
theorem dX6_feed_4 : decode cX6_feed 4 = .ok (.invokestatic 79, 3) := by decide +kernel
theorem dX6_feed_7 : decode cX6_feed 7 = .ok (.ifCond .ne 6, 3) := by decide +kernel
theorem dX6_feed_10 : decode cX6_feed 10 = .ok (.bipush (-2), 2) := by decide +kernel
theorem dX6_feed_12 : decode cX6_feed 12 = .ok (.ireturn, 1) := by decide +kernel
theorem dX6_feed_13 : decode cX6_feed 13 = .ok (.aload_n 0, 1) := by decide +kernel
theorem dX6_feed_14 : decode cX6_feed 14 = .ok (.getfield 40, 3) := by decide +kernel
theorem dX6_feed_17 : decode cX6_feed 17 = .ok (.invokevirtual 150, 3) := by decide +kernel
theorem dX6_feed_20 : decode cX6_feed 20 = .ok (.ifCond .eq 6, 3) := by decide +kernel
theorem dX6_feed_23 : decode cX6_feed 23 = .ok (.bipush (-4), 2) := by decide +kernel
theorem dX6_feed_25 : decode cX6_feed 25 = .ok (.ireturn, 1) := by decide +kernel
theorem dX6_feed_26 : decode cX6_feed 26 = .ok (.aload_n 0, 1) := by decide +kernel
theorem dX6_feed_27 : decode cX6_feed 27 = .ok (.getfield 40, 3) := by decide +kernel
theorem dX6_feed_30 : decode cX6_feed 30 = .ok (.iload_n 1, 1) := by decide +kernel
theorem dX6_feed_31 : decode cX6_feed 31 = .ok (.invokevirtual 154, 3) := by decide +kernel
theorem dX6_feed_34 : decode cX6_feed 34 = .ok (.ireturn, 1) := by decide +kernel
theorem dX6_booth_0 : decode cX6_booth 0 = .ok (.aload_n 0, 1) := by decide +kernel
theorem dX6_booth_1 : decode cX6_booth 1 = .ok (.getfield 157, 3) := by decide +kernel
theorem dX6_booth_4 : decode cX6_booth 4 = .ok (.bipush 6, 2) := by decide +kernel
theorem dX6_booth_6 : decode cX6_booth 6 = .ok (.if_icmp .lt 6, 3) := by decide +kernel
theorem dX6_booth_9 : decode cX6_booth 9 = .ok (.bipush (-4), 2) := by decide +kernel
theorem dX6_booth_11 : decode cX6_booth 11 = .ok (.ireturn, 1) := by decide +kernel
theorem dX6_booth_12 : decode cX6_booth 12 = .ok (.aload_n 0, 1) := by decide +kernel
theorem dX6_booth_13 : decode cX6_booth 13 = .ok (.getfield 157, 3) := by decide +kernel
theorem dX6_booth_16 : decode cX6_booth 16 = .ok (.istore_n 1, 1) := by decide +kernel
theorem dX6_booth_17 : decode cX6_booth 17 = .ok (.aload_n 0, 1) := by decide +kernel
theorem dX6_booth_18 : decode cX6_booth 18 = .ok (.getfield 40, 3) := by decide +kernel
theorem dX6_booth_21 : decode cX6_booth 21 = .ok (.invokevirtual 160, 3) := by decide +kernel
theorem dX6_booth_24 : decode cX6_booth 24 = .ok (.ifCond .eq 30, 3) := by decide +kernel
theorem dX6_booth_27 : decode cX6_booth 27 = .ok (.aload_n 0, 1) := by decide +kernel
theorem dX6_booth_28 : decode cX6_booth 28 = .ok (.getfield 67, 3) := by decide +kernel
theorem dX6_booth_31 : decode cX6_booth 31 = .ok (.aload_n 0, 1) := by decide +kernel
theorem dX6_booth_32 : decode cX6_booth 32 = .ok (.getfield 40, 3) := by decide +kernel
theorem dX6_booth_35 : decode cX6_booth 35 = .ok (.invokevirtual 163, 3) := by decide +kernel
theorem dX6_booth_38 : decode cX6_booth 38 = .ok (.putfield 167, 3) := by decide +kernel
theorem dX6_booth_41 : decode cX6_booth 41 = .ok (.aload_n 0, 1) := by decide +kernel
theorem dX6_booth_42 : decode cX6_booth 42 = .ok (.dup, 1) := by decide +kernel
theorem dX6_booth_43 : decode cX6_booth 43 = .ok (.getfield 157, 3) := by decide +kernel
theorem dX6_booth_46 : decode cX6_booth 46 = .ok (.iconst 1, 1) := by decide +kernel
theorem dX6_booth_47 : decode cX6_booth 47 = .ok (.iadd, 1) := by decide +kernel
theorem dX6_booth_48 : decode cX6_booth 48 = .ok (.putfield 157, 3) := by decide +kernel
theorem dX6_booth_51 : decode cX6_booth 51 = .ok (.goto 14, 3) := by decide +kernel
theorem dX6_booth_54 : decode cX6_booth 54 = .ok (.bipush (-10), 2) := by decide +kernel
theorem dX6_booth_56 : decode cX6_booth 56 = .ok (.aload_n 0, 1) := by decide +kernel
theorem dX6_booth_57 : decode cX6_booth 57 = .ok (.getfield 40, 3) := by decide +kernel
theorem dX6_booth_60 : decode cX6_booth 60 = .ok (.invokevirtual 171, 3) := by decide +kernel
theorem dX6_booth_63 : decode cX6_booth 63 = .ok (.isub, 1) := by decide +kernel
theorem dX6_booth_64 : decode cX6_booth 64 = .ok (.istore_n 1, 1) := by decide +kernel
theorem dX6_booth_65 : decode cX6_booth 65 = .ok (.aload_n 0, 1) := by decide +kernel
theorem dX6_booth_66 : decode cX6_booth 66 = .ok (.getfield 40, 3) := by decide +kernel
theorem dX6_booth_69 : decode cX6_booth 69 = .ok (.invokevirtual 175, 3) := by decide +kernel
theorem dX6_booth_72 : decode cX6_booth 72 = .ok (.iload_n 1, 1) := by decide +kernel
theorem dX6_booth_73 : decode cX6_booth 73 = .ok (.ireturn, 1) := by decide +kernel
theorem dX6_told_0 : decode cX6_told 0 = .ok (.iload_n 1, 1) := by decide +kernel
theorem dX6_told_1 : decode cX6_told 1 = .ok (.tableswitch 93 0 5 #[39, 47, 58, 69, 77, 85], 39) := by decide +kernel
theorem dX6_told_40 : decode cX6_told 40 = .ok (.aload_n 0, 1) := by decide +kernel
theorem dX6_told_41 : decode cX6_told 41 = .ok (.getfield 67, 3) := by decide +kernel
theorem dX6_told_44 : decode cX6_told 44 = .ok (.getfield 108, 3) := by decide +kernel
theorem dX6_told_47 : decode cX6_told 47 = .ok (.ireturn, 1) := by decide +kernel
theorem dX6_told_48 : decode cX6_told 48 = .ok (.aload_n 0, 1) := by decide +kernel
theorem dX6_told_49 : decode cX6_told 49 = .ok (.getfield 67, 3) := by decide +kernel
theorem dX6_told_52 : decode cX6_told 52 = .ok (.getfield 167, 3) := by decide +kernel
theorem dX6_told_55 : decode cX6_told 55 = .ok (.getfield 178, 3) := by decide +kernel
theorem dX6_told_58 : decode cX6_told 58 = .ok (.ireturn, 1) := by decide +kernel
theorem dX6_told_59 : decode cX6_told 59 = .ok (.aload_n 0, 1) := by decide +kernel
theorem dX6_told_60 : decode cX6_told 60 = .ok (.getfield 67, 3) := by decide +kernel
theorem dX6_told_63 : decode cX6_told 63 = .ok (.getfield 167, 3) := by decide +kernel
theorem dX6_told_66 : decode cX6_told 66 = .ok (.getfield 181, 3) := by decide +kernel
theorem dX6_told_69 : decode cX6_told 69 = .ok (.ireturn, 1) := by decide +kernel
theorem dX6_told_70 : decode cX6_told 70 = .ok (.aload_n 0, 1) := by decide +kernel
theorem dX6_told_71 : decode cX6_told 71 = .ok (.getfield 67, 3) := by decide +kernel
theorem dX6_told_74 : decode cX6_told 74 = .ok (.getfield 141, 3) := by decide +kernel
theorem dX6_told_77 : decode cX6_told 77 = .ok (.ireturn, 1) := by decide +kernel
theorem dX6_told_78 : decode cX6_told 78 = .ok (.aload_n 0, 1) := by decide +kernel
theorem dX6_told_79 : decode cX6_told 79 = .ok (.getfield 67, 3) := by decide +kernel
theorem dX6_told_82 : decode cX6_told 82 = .ok (.invokevirtual 184, 3) := by decide +kernel
theorem dX6_told_85 : decode cX6_told 85 = .ok (.ireturn, 1) := by decide +kernel
theorem dX6_told_86 : decode cX6_told 86 = .ok (.aload_n 0, 1) := by decide +kernel
theorem dX6_told_87 : decode cX6_told 87 = .ok (.getfield 67, 3) := by decide +kernel
theorem dX6_told_90 : decode cX6_told 90 = .ok (.invokevirtual 187, 3) := by decide +kernel
theorem dX6_told_93 : decode cX6_told 93 = .ok (.ireturn, 1) := by decide +kernel
theorem dX6_told_94 : decode cX6_told 94 = .ok (.iconst (-1), 1) := by decide +kernel
theorem dX6_told_95 : decode cX6_told 95 = .ok (.ireturn, 1) := by decide +kernel
theorem dX6_pass_0 : decode cX6_pass 0 = .ok (.iload_n 1, 1) := by decide +kernel
theorem dX6_pass_1 : decode cX6_pass 1 = .ok (.iconst 0, 1) := by decide +kernel
theorem dX6_pass_2 : decode cX6_pass 2 = .ok (.bipush 60, 2) := by decide +kernel
theorem dX6_pass_4 : decode cX6_pass 4 = .ok (.invokestatic 79, 3) := by decide +kernel
theorem dX6_pass_7 : decode cX6_pass 7 = .ok (.ifCond .ne 6, 3) := by decide +kernel
theorem dX6_pass_10 : decode cX6_pass 10 = .ok (.bipush (-2), 2) := by decide +kernel
theorem dX6_pass_12 : decode cX6_pass 12 = .ok (.ireturn, 1) := by decide +kernel
theorem dX6_pass_13 : decode cX6_pass 13 = .ok (.aload_n 0, 1) := by decide +kernel
theorem dX6_pass_14 : decode cX6_pass 14 = .ok (.getfield 67, 3) := by decide +kernel
theorem dX6_pass_17 : decode cX6_pass 17 = .ok (.getfield 108, 3) := by decide +kernel
theorem dX6_pass_20 : decode cX6_pass 20 = .ok (.iload_n 1, 1) := by decide +kernel
theorem dX6_pass_21 : decode cX6_pass 21 = .ok (.iadd, 1) := by decide +kernel
theorem dX6_pass_22 : decode cX6_pass 22 = .ok (.sipush 9999, 3) := by decide +kernel
theorem dX6_pass_25 : decode cX6_pass 25 = .ok (.if_icmp .le 6, 3) := by decide +kernel
theorem dX6_pass_28 : decode cX6_pass 28 = .ok (.bipush (-3), 2) := by decide +kernel
theorem dX6_pass_30 : decode cX6_pass 30 = .ok (.ireturn, 1) := by decide +kernel
theorem dX6_pass_31 : decode cX6_pass 31 = .ok (.aload_n 0, 1) := by decide +kernel
theorem dX6_pass_32 : decode cX6_pass 32 = .ok (.getfield 67, 3) := by decide +kernel
theorem dX6_pass_35 : decode cX6_pass 35 = .ok (.iload_n 1, 1) := by decide +kernel
theorem dX6_pass_36 : decode cX6_pass 36 = .ok (.invokevirtual 190, 3) := by decide +kernel
theorem dX6_pass_39 : decode cX6_pass 39 = .ok (.aload_n 0, 1) := by decide +kernel
theorem dX6_pass_40 : decode cX6_pass 40 = .ok (.getfield 67, 3) := by decide +kernel
theorem dX6_pass_43 : decode cX6_pass 43 = .ok (.getfield 108, 3) := by decide +kernel
theorem dX6_pass_46 : decode cX6_pass 46 = .ok (.ireturn, 1) := by decide +kernel
theorem dX6_on_0 : decode cX6_on 0 = .ok (.iload_n 2, 1) := by decide +kernel
theorem dX6_on_1 : decode cX6_on 1 = .ok (.ifCond .ne 7, 3) := by decide +kernel
theorem dX6_on_4 : decode cX6_on 4 = .ok (.iconst 1, 1) := by decide +kernel
theorem dX6_on_5 : decode cX6_on 5 = .ok (.goto 4, 3) := by decide +kernel
theorem dX6_on_8 : decode cX6_on 8 = .ok (.iconst 0, 1) := by decide +kernel
theorem dX6_on_9 : decode cX6_on 9 = .ok (.istore_n 3, 1) := by decide +kernel
theorem dX6_on_10 : decode cX6_on 10 = .ok (.iload_n 2, 1) := by decide +kernel
theorem dX6_on_11 : decode cX6_on 11 = .ok (.bipush 10, 2) := by decide +kernel
theorem dX6_on_13 : decode cX6_on 13 = .ok (.if_icmp .lt 21, 3) := by decide +kernel
theorem dX6_on_16 : decode cX6_on 16 = .ok (.aload_n 0, 1) := by decide +kernel
theorem dX6_on_17 : decode cX6_on 17 = .ok (.getfield 67, 3) := by decide +kernel
theorem dX6_on_20 : decode cX6_on 20 = .ok (.iload_n 2, 1) := by decide +kernel
theorem dX6_on_21 : decode cX6_on 21 = .ok (.bipush 10, 2) := by decide +kernel
theorem dX6_on_23 : decode cX6_on 23 = .ok (.isub, 1) := by decide +kernel
theorem dX6_on_24 : decode cX6_on 24 = .ok (.invokevirtual 91, 3) := by decide +kernel
theorem dX6_on_27 : decode cX6_on 27 = .ok (.ifCond .eq 7, 3) := by decide +kernel
theorem dX6_on_30 : decode cX6_on 30 = .ok (.iconst 1, 1) := by decide +kernel
theorem dX6_on_31 : decode cX6_on 31 = .ok (.goto 4, 3) := by decide +kernel
theorem dX6_on_34 : decode cX6_on 34 = .ok (.iconst 0, 1) := by decide +kernel
theorem dX6_on_35 : decode cX6_on 35 = .ok (.istore 4, 2) := by decide +kernel
theorem dX6_on_37 : decode cX6_on 37 = .ok (.iload_n 2, 1) := by decide +kernel
theorem dX6_on_38 : decode cX6_on 38 = .ok (.bipush 20, 2) := by decide +kernel
theorem dX6_on_40 : decode cX6_on 40 = .ok (.if_icmp .lt 23, 3) := by decide +kernel
theorem dX6_on_43 : decode cX6_on 43 = .ok (.aload_n 0, 1) := by decide +kernel
theorem dX6_on_44 : decode cX6_on 44 = .ok (.getfield 67, 3) := by decide +kernel
theorem dX6_on_47 : decode cX6_on 47 = .ok (.iload_n 2, 1) := by decide +kernel
theorem dX6_on_48 : decode cX6_on 48 = .ok (.bipush 20, 2) := by decide +kernel
theorem dX6_on_50 : decode cX6_on 50 = .ok (.isub, 1) := by decide +kernel
theorem dX6_on_51 : decode cX6_on 51 = .ok (.iconst 3, 1) := by decide +kernel
theorem dX6_on_52 : decode cX6_on 52 = .ok (.idiv, 1) := by decide +kernel
theorem dX6_on_53 : decode cX6_on 53 = .ok (.invokevirtual 91, 3) := by decide +kernel
theorem dX6_on_56 : decode cX6_on 56 = .ok (.ifCond .eq 7, 3) := by decide +kernel
theorem dX6_on_59 : decode cX6_on 59 = .ok (.iconst 1, 1) := by decide +kernel
theorem dX6_on_60 : decode cX6_on 60 = .ok (.goto 4, 3) := by decide +kernel
theorem dX6_on_63 : decode cX6_on 63 = .ok (.iconst 0, 1) := by decide +kernel
theorem dX6_on_64 : decode cX6_on 64 = .ok (.istore 5, 2) := by decide +kernel
theorem dX6_on_66 : decode cX6_on 66 = .ok (.iload_n 3, 1) := by decide +kernel
theorem dX6_on_67 : decode cX6_on 67 = .ok (.ifCond .ne 15, 3) := by decide +kernel
theorem dX6_on_70 : decode cX6_on 70 = .ok (.iload 4, 2) := by decide +kernel
theorem dX6_on_72 : decode cX6_on 72 = .ok (.ifCond .ne 10, 3) := by decide +kernel
theorem dX6_on_75 : decode cX6_on 75 = .ok (.iload 5, 2) := by decide +kernel
theorem dX6_on_77 : decode cX6_on 77 = .ok (.ifCond .ne 5, 3) := by decide +kernel
theorem dX6_on_80 : decode cX6_on 80 = .ok (.iconst (-1), 1) := by decide +kernel
theorem dX6_on_81 : decode cX6_on 81 = .ok (.ireturn, 1) := by decide +kernel
theorem dX6_on_82 : decode cX6_on 82 = .ok (.iload_n 1, 1) := by decide +kernel
theorem dX6_on_83 : decode cX6_on 83 = .ok (.iconst 0, 1) := by decide +kernel
theorem dX6_on_84 : decode cX6_on 84 = .ok (.bipush 60, 2) := by decide +kernel
theorem dX6_on_86 : decode cX6_on 86 = .ok (.invokestatic 79, 3) := by decide +kernel
theorem dX6_on_89 : decode cX6_on 89 = .ok (.ifCond .ne 6, 3) := by decide +kernel
theorem dX6_on_92 : decode cX6_on 92 = .ok (.bipush (-2), 2) := by decide +kernel
theorem dX6_on_94 : decode cX6_on 94 = .ok (.ireturn, 1) := by decide +kernel
theorem dX6_on_95 : decode cX6_on 95 = .ok (.aload_n 0, 1) := by decide +kernel
theorem dX6_on_96 : decode cX6_on 96 = .ok (.getfield 74, 3) := by decide +kernel
theorem dX6_on_99 : decode cX6_on 99 = .ok (.iconst 0, 1) := by decide +kernel
theorem dX6_on_100 : decode cX6_on 100 = .ok (.aaload, 1) := by decide +kernel
theorem dX6_on_101 : decode cX6_on 101 = .ok (.astore 6, 2) := by decide +kernel
theorem dX6_on_103 : decode cX6_on 103 = .ok (.aload 6, 2) := by decide +kernel
theorem dX6_on_105 : decode cX6_on 105 = .ok (.aload_n 0, 1) := by decide +kernel
theorem dX6_on_106 : decode cX6_on 106 = .ok (.getfield 67, 3) := by decide +kernel
theorem dX6_on_109 : decode cX6_on 109 = .ok (.invokevirtual 194, 3) := by decide +kernel
theorem dX6_on_112 : decode cX6_on 112 = .ok (.aload 6, 2) := by decide +kernel
theorem dX6_on_114 : decode cX6_on 114 = .ok (.iload_n 1, 1) := by decide +kernel
theorem dX6_on_115 : decode cX6_on 115 = .ok (.invokevirtual 190, 3) := by decide +kernel
theorem dX6_on_118 : decode cX6_on 118 = .ok (.iload_n 3, 1) := by decide +kernel
theorem dX6_on_119 : decode cX6_on 119 = .ok (.ifCond .eq 9, 3) := by decide +kernel
theorem dX6_on_122 : decode cX6_on 122 = .ok (.aload 6, 2) := by decide +kernel
theorem dX6_on_124 : decode cX6_on 124 = .ok (.invokevirtual 184, 3) := by decide +kernel
theorem dX6_on_127 : decode cX6_on 127 = .ok (.ireturn, 1) := by decide +kernel
theorem dX6_on_128 : decode cX6_on 128 = .ok (.iload 4, 2) := by decide +kernel
theorem dX6_on_130 : decode cX6_on 130 = .ok (.ifCond .eq 15, 3) := by decide +kernel
theorem dX6_on_133 : decode cX6_on 133 = .ok (.aload 6, 2) := by decide +kernel
theorem dX6_on_135 : decode cX6_on 135 = .ok (.iload_n 2, 1) := by decide +kernel
theorem dX6_on_136 : decode cX6_on 136 = .ok (.bipush 10, 2) := by decide +kernel
theorem dX6_on_138 : decode cX6_on 138 = .ok (.isub, 1) := by decide +kernel
theorem dX6_on_139 : decode cX6_on 139 = .ok (.invokevirtual 105, 3) := by decide +kernel
theorem dX6_on_142 : decode cX6_on 142 = .ok (.goto 20, 3) := by decide +kernel
theorem dX6_on_145 : decode cX6_on 145 = .ok (.aload 6, 2) := by decide +kernel
theorem dX6_on_147 : decode cX6_on 147 = .ok (.iload_n 2, 1) := by decide +kernel
theorem dX6_on_148 : decode cX6_on 148 = .ok (.bipush 20, 2) := by decide +kernel
theorem dX6_on_150 : decode cX6_on 150 = .ok (.isub, 1) := by decide +kernel
theorem dX6_on_151 : decode cX6_on 151 = .ok (.iconst 3, 1) := by decide +kernel
theorem dX6_on_152 : decode cX6_on 152 = .ok (.idiv, 1) := by decide +kernel
theorem dX6_on_153 : decode cX6_on 153 = .ok (.iload_n 2, 1) := by decide +kernel
theorem dX6_on_154 : decode cX6_on 154 = .ok (.bipush 20, 2) := by decide +kernel
theorem dX6_on_156 : decode cX6_on 156 = .ok (.isub, 1) := by decide +kernel
theorem dX6_on_157 : decode cX6_on 157 = .ok (.iconst 3, 1) := by decide +kernel
theorem dX6_on_158 : decode cX6_on 158 = .ok (.irem, 1) := by decide +kernel
theorem dX6_on_159 : decode cX6_on 159 = .ok (.invokevirtual 122, 3) := by decide +kernel
theorem dX6_on_162 : decode cX6_on 162 = .ok (.ireturn, 1) := by decide +kernel
theorem dX6_lasts_0 : decode cX6_lasts 0 = .ok (.aload_n 0, 1) := by decide +kernel
theorem dX6_lasts_1 : decode cX6_lasts 1 = .ok (.getfield 67, 3) := by decide +kernel
theorem dX6_lasts_4 : decode cX6_lasts 4 = .ok (.iload_n 1, 1) := by decide +kernel
theorem dX6_lasts_5 : decode cX6_lasts 5 = .ok (.invokevirtual 91, 3) := by decide +kernel
theorem dX6_lasts_8 : decode cX6_lasts 8 = .ok (.ifCond .ne 5, 3) := by decide +kernel
theorem dX6_lasts_11 : decode cX6_lasts 11 = .ok (.iconst (-1), 1) := by decide +kernel
theorem dX6_lasts_12 : decode cX6_lasts 12 = .ok (.ireturn, 1) := by decide +kernel
theorem dX6_lasts_13 : decode cX6_lasts 13 = .ok (.iload_n 2, 1) := by decide +kernel
theorem dX6_lasts_14 : decode cX6_lasts 14 = .ok (.iconst 0, 1) := by decide +kernel
theorem dX6_lasts_15 : decode cX6_lasts 15 = .ok (.sipush 999, 3) := by decide +kernel
theorem dX6_lasts_18 : decode cX6_lasts 18 = .ok (.invokestatic 79, 3) := by decide +kernel
theorem dX6_lasts_21 : decode cX6_lasts 21 = .ok (.ifCond .ne 6, 3) := by decide +kernel
theorem dX6_lasts_24 : decode cX6_lasts 24 = .ok (.bipush (-2), 2) := by decide +kernel
theorem dX6_lasts_26 : decode cX6_lasts 26 = .ok (.ireturn, 1) := by decide +kernel
theorem dX6_lasts_27 : decode cX6_lasts 27 = .ok (.aload_n 0, 1) := by decide +kernel
theorem dX6_lasts_28 : decode cX6_lasts 28 = .ok (.getfield 74, 3) := by decide +kernel
theorem dX6_lasts_31 : decode cX6_lasts 31 = .ok (.iconst 0, 1) := by decide +kernel
theorem dX6_lasts_32 : decode cX6_lasts 32 = .ok (.aaload, 1) := by decide +kernel
theorem dX6_lasts_33 : decode cX6_lasts 33 = .ok (.astore_n 3, 1) := by decide +kernel
theorem dX6_lasts_34 : decode cX6_lasts 34 = .ok (.aload_n 3, 1) := by decide +kernel
theorem dX6_lasts_35 : decode cX6_lasts 35 = .ok (.aload_n 0, 1) := by decide +kernel
theorem dX6_lasts_36 : decode cX6_lasts 36 = .ok (.getfield 67, 3) := by decide +kernel
theorem dX6_lasts_39 : decode cX6_lasts 39 = .ok (.invokevirtual 194, 3) := by decide +kernel
theorem dX6_lasts_42 : decode cX6_lasts 42 = .ok (.iconst 0, 1) := by decide +kernel
theorem dX6_lasts_43 : decode cX6_lasts 43 = .ok (.istore 4, 2) := by decide +kernel
theorem dX6_lasts_45 : decode cX6_lasts 45 = .ok (.iload 4, 2) := by decide +kernel
theorem dX6_lasts_47 : decode cX6_lasts 47 = .ok (.bipush 60, 2) := by decide +kernel
theorem dX6_lasts_49 : decode cX6_lasts 49 = .ok (.if_icmp .gt 26, 3) := by decide +kernel
theorem dX6_lasts_52 : decode cX6_lasts 52 = .ok (.aload_n 3, 1) := by decide +kernel
theorem dX6_lasts_53 : decode cX6_lasts 53 = .ok (.iload_n 1, 1) := by decide +kernel
theorem dX6_lasts_54 : decode cX6_lasts 54 = .ok (.invokevirtual 105, 3) := by decide +kernel
theorem dX6_lasts_57 : decode cX6_lasts 57 = .ok (.iload_n 2, 1) := by decide +kernel
theorem dX6_lasts_58 : decode cX6_lasts 58 = .ok (.if_icmp .ge 6, 3) := by decide +kernel
theorem dX6_lasts_61 : decode cX6_lasts 61 = .ok (.iload 4, 2) := by decide +kernel
theorem dX6_lasts_63 : decode cX6_lasts 63 = .ok (.ireturn, 1) := by decide +kernel
theorem dX6_lasts_64 : decode cX6_lasts 64 = .ok (.aload_n 3, 1) := by decide +kernel
theorem dX6_lasts_65 : decode cX6_lasts 65 = .ok (.iconst 1, 1) := by decide +kernel
theorem dX6_lasts_66 : decode cX6_lasts 66 = .ok (.invokevirtual 190, 3) := by decide +kernel
theorem dX6_lasts_69 : decode cX6_lasts 69 = .ok (.iinc 4 1, 3) := by decide +kernel
theorem dX6_lasts_72 : decode cX6_lasts 72 = .ok (.goto (-27), 3) := by decide +kernel
theorem dX6_lasts_75 : decode cX6_lasts 75 = .ok (.bipush (-5), 2) := by decide +kernel
theorem dX6_lasts_77 : decode cX6_lasts 77 = .ok (.ireturn, 1) := by decide +kernel
theorem dX6_pen_0 : decode cX6_pen 0 = .ok (.aload_n 0, 1) := by decide +kernel
theorem dX6_pen_1 : decode cX6_pen 1 = .ok (.getfield 67, 3) := by decide +kernel
theorem dX6_pen_4 : decode cX6_pen 4 = .ok (.iload_n 1, 1) := by decide +kernel
theorem dX6_pen_5 : decode cX6_pen 5 = .ok (.invokevirtual 91, 3) := by decide +kernel
theorem dX6_pen_8 : decode cX6_pen 8 = .ok (.ifCond .ne 5, 3) := by decide +kernel
theorem dX6_pen_11 : decode cX6_pen 11 = .ok (.iconst (-1), 1) := by decide +kernel
theorem dX6_pen_12 : decode cX6_pen 12 = .ok (.ireturn, 1) := by decide +kernel
theorem dX6_pen_13 : decode cX6_pen 13 = .ok (.iload_n 2, 1) := by decide +kernel
theorem dX6_pen_14 : decode cX6_pen 14 = .ok (.iconst 1, 1) := by decide +kernel
theorem dX6_pen_15 : decode cX6_pen 15 = .ok (.bipush 9, 2) := by decide +kernel
theorem dX6_pen_17 : decode cX6_pen 17 = .ok (.invokestatic 79, 3) := by decide +kernel
theorem dX6_pen_20 : decode cX6_pen 20 = .ok (.ifCond .ne 6, 3) := by decide +kernel
theorem dX6_pen_23 : decode cX6_pen 23 = .ok (.bipush (-2), 2) := by decide +kernel
theorem dX6_pen_25 : decode cX6_pen 25 = .ok (.ireturn, 1) := by decide +kernel
theorem dX6_pen_26 : decode cX6_pen 26 = .ok (.iconst 0, 1) := by decide +kernel
theorem dX6_pen_27 : decode cX6_pen 27 = .ok (.istore_n 3, 1) := by decide +kernel
theorem dX6_pen_28 : decode cX6_pen 28 = .ok (.iconst (-1), 1) := by decide +kernel
theorem dX6_pen_29 : decode cX6_pen 29 = .ok (.istore 4, 2) := by decide +kernel
theorem dX6_pen_31 : decode cX6_pen 31 = .ok (.iconst 0, 1) := by decide +kernel
theorem dX6_pen_32 : decode cX6_pen 32 = .ok (.istore 5, 2) := by decide +kernel
theorem dX6_pen_34 : decode cX6_pen 34 = .ok (.iload 5, 2) := by decide +kernel
theorem dX6_pen_36 : decode cX6_pen 36 = .ok (.iconst 3, 1) := by decide +kernel
theorem dX6_pen_37 : decode cX6_pen 37 = .ok (.if_icmp .ge 58, 3) := by decide +kernel
theorem dX6_pen_40 : decode cX6_pen 40 = .ok (.aload_n 0, 1) := by decide +kernel
theorem dX6_pen_41 : decode cX6_pen 41 = .ok (.getfield 74, 3) := by decide +kernel
theorem dX6_pen_44 : decode cX6_pen 44 = .ok (.iconst 0, 1) := by decide +kernel
theorem dX6_pen_45 : decode cX6_pen 45 = .ok (.aaload, 1) := by decide +kernel
theorem dX6_pen_46 : decode cX6_pen 46 = .ok (.astore 6, 2) := by decide +kernel
theorem dX6_pen_48 : decode cX6_pen 48 = .ok (.aload 6, 2) := by decide +kernel
theorem dX6_pen_50 : decode cX6_pen 50 = .ok (.aload_n 0, 1) := by decide +kernel
theorem dX6_pen_51 : decode cX6_pen 51 = .ok (.getfield 67, 3) := by decide +kernel
theorem dX6_pen_54 : decode cX6_pen 54 = .ok (.invokevirtual 194, 3) := by decide +kernel
theorem dX6_pen_57 : decode cX6_pen 57 = .ok (.aload 6, 2) := by decide +kernel
theorem dX6_pen_59 : decode cX6_pen 59 = .ok (.iload_n 1, 1) := by decide +kernel
theorem dX6_pen_60 : decode cX6_pen 60 = .ok (.iload 5, 2) := by decide +kernel
theorem dX6_pen_62 : decode cX6_pen 62 = .ok (.iload_n 2, 1) := by decide +kernel
theorem dX6_pen_63 : decode cX6_pen 63 = .ok (.invokevirtual 144, 3) := by decide +kernel
theorem dX6_pen_66 : decode cX6_pen 66 = .ok (.pop, 1) := by decide +kernel
theorem dX6_pen_67 : decode cX6_pen 67 = .ok (.aload 6, 2) := by decide +kernel
theorem dX6_pen_69 : decode cX6_pen 69 = .ok (.iload_n 1, 1) := by decide +kernel
theorem dX6_pen_70 : decode cX6_pen 70 = .ok (.invokevirtual 105, 3) := by decide +kernel
theorem dX6_pen_73 : decode cX6_pen 73 = .ok (.istore 7, 2) := by decide +kernel
theorem dX6_pen_75 : decode cX6_pen 75 = .ok (.iload 7, 2) := by decide +kernel
theorem dX6_pen_77 : decode cX6_pen 77 = .ok (.iload 4, 2) := by decide +kernel
theorem dX6_pen_79 : decode cX6_pen 79 = .ok (.if_icmp .le 10, 3) := by decide +kernel
theorem dX6_pen_82 : decode cX6_pen 82 = .ok (.iload 7, 2) := by decide +kernel
theorem dX6_pen_84 : decode cX6_pen 84 = .ok (.istore 4, 2) := by decide +kernel
theorem dX6_pen_86 : decode cX6_pen 86 = .ok (.iload 5, 2) := by decide +kernel
theorem dX6_pen_88 : decode cX6_pen 88 = .ok (.istore_n 3, 1) := by decide +kernel
theorem dX6_pen_89 : decode cX6_pen 89 = .ok (.iinc 5 1, 3) := by decide +kernel
theorem dX6_pen_92 : decode cX6_pen 92 = .ok (.goto (-58), 3) := by decide +kernel
theorem dX6_pen_95 : decode cX6_pen 95 = .ok (.iload_n 3, 1) := by decide +kernel
theorem dX6_pen_96 : decode cX6_pen 96 = .ok (.ireturn, 1) := by decide +kernel
theorem dX6_share_0 : decode cX6_share 0 = .ok (.aload_n 0, 1) := by decide +kernel
theorem dX6_share_1 : decode cX6_share 1 = .ok (.getfield 67, 3) := by decide +kernel
theorem dX6_share_4 : decode cX6_share 4 = .ok (.iload_n 1, 1) := by decide +kernel
theorem dX6_share_5 : decode cX6_share 5 = .ok (.invokevirtual 91, 3) := by decide +kernel
theorem dX6_share_8 : decode cX6_share 8 = .ok (.ifCond .eq 12, 3) := by decide +kernel
theorem dX6_share_11 : decode cX6_share 11 = .ok (.iload_n 3, 1) := by decide +kernel
theorem dX6_share_12 : decode cX6_share 12 = .ok (.iconst (-1), 1) := by decide +kernel
theorem dX6_share_13 : decode cX6_share 13 = .ok (.iconst 2, 1) := by decide +kernel
theorem dX6_share_14 : decode cX6_share 14 = .ok (.invokestatic 79, 3) := by decide +kernel
theorem dX6_share_17 : decode cX6_share 17 = .ok (.ifCond .ne 5, 3) := by decide +kernel
theorem dX6_share_20 : decode cX6_share 20 = .ok (.iconst (-1), 1) := by decide +kernel
theorem dX6_share_21 : decode cX6_share 21 = .ok (.ireturn, 1) := by decide +kernel
theorem dX6_share_22 : decode cX6_share 22 = .ok (.iload_n 2, 1) := by decide +kernel
theorem dX6_share_23 : decode cX6_share 23 = .ok (.iconst 0, 1) := by decide +kernel
theorem dX6_share_24 : decode cX6_share 24 = .ok (.bipush 12, 2) := by decide +kernel
theorem dX6_share_26 : decode cX6_share 26 = .ok (.invokestatic 79, 3) := by decide +kernel
theorem dX6_share_29 : decode cX6_share 29 = .ok (.ifCond .ne 6, 3) := by decide +kernel
theorem dX6_share_32 : decode cX6_share 32 = .ok (.bipush (-2), 2) := by decide +kernel
theorem dX6_share_34 : decode cX6_share 34 = .ok (.ireturn, 1) := by decide +kernel
theorem dX6_share_35 : decode cX6_share 35 = .ok (.iconst (-1), 1) := by decide +kernel
theorem dX6_share_36 : decode cX6_share 36 = .ok (.istore 4, 2) := by decide +kernel
theorem dX6_share_38 : decode cX6_share 38 = .ok (.iconst 0, 1) := by decide +kernel
theorem dX6_share_39 : decode cX6_share 39 = .ok (.istore 5, 2) := by decide +kernel
theorem dX6_share_41 : decode cX6_share 41 = .ok (.iload_n 2, 1) := by decide +kernel
theorem dX6_share_42 : decode cX6_share 42 = .ok (.istore 6, 2) := by decide +kernel
theorem dX6_share_44 : decode cX6_share 44 = .ok (.iload 6, 2) := by decide +kernel
theorem dX6_share_46 : decode cX6_share 46 = .ok (.ifCond .lt 86, 3) := by decide +kernel
theorem dX6_share_49 : decode cX6_share 49 = .ok (.iload_n 2, 1) := by decide +kernel
theorem dX6_share_50 : decode cX6_share 50 = .ok (.iload 6, 2) := by decide +kernel
theorem dX6_share_52 : decode cX6_share 52 = .ok (.isub, 1) := by decide +kernel
theorem dX6_share_53 : decode cX6_share 53 = .ok (.istore 7, 2) := by decide +kernel
theorem dX6_share_55 : decode cX6_share 55 = .ok (.iload 7, 2) := by decide +kernel
theorem dX6_share_57 : decode cX6_share 57 = .ok (.ifCond .lt 69, 3) := by decide +kernel
theorem dX6_share_60 : decode cX6_share 60 = .ok (.iload_n 2, 1) := by decide +kernel
theorem dX6_share_61 : decode cX6_share 61 = .ok (.iload 6, 2) := by decide +kernel
theorem dX6_share_63 : decode cX6_share 63 = .ok (.isub, 1) := by decide +kernel
theorem dX6_share_64 : decode cX6_share 64 = .ok (.iload 7, 2) := by decide +kernel
theorem dX6_share_66 : decode cX6_share 66 = .ok (.isub, 1) := by decide +kernel
theorem dX6_share_67 : decode cX6_share 67 = .ok (.istore 8, 2) := by decide +kernel
theorem dX6_share_69 : decode cX6_share 69 = .ok (.aload_n 0, 1) := by decide +kernel
theorem dX6_share_70 : decode cX6_share 70 = .ok (.iload_n 1, 1) := by decide +kernel
theorem dX6_share_71 : decode cX6_share 71 = .ok (.iload 6, 2) := by decide +kernel
theorem dX6_share_73 : decode cX6_share 73 = .ok (.iload 7, 2) := by decide +kernel
theorem dX6_share_75 : decode cX6_share 75 = .ok (.iload 8, 2) := by decide +kernel
theorem dX6_share_77 : decode cX6_share 77 = .ok (.invokevirtual 198, 3) := by decide +kernel
theorem dX6_share_80 : decode cX6_share 80 = .ok (.iload_n 1, 1) := by decide +kernel
theorem dX6_share_81 : decode cX6_share 81 = .ok (.invokevirtual 105, 3) := by decide +kernel
theorem dX6_share_84 : decode cX6_share 84 = .ok (.istore 9, 2) := by decide +kernel
theorem dX6_share_86 : decode cX6_share 86 = .ok (.iload 9, 2) := by decide +kernel
theorem dX6_share_88 : decode cX6_share 88 = .ok (.iload 4, 2) := by decide +kernel
theorem dX6_share_90 : decode cX6_share 90 = .ok (.if_icmp .le 30, 3) := by decide +kernel
theorem dX6_share_93 : decode cX6_share 93 = .ok (.iload 9, 2) := by decide +kernel
theorem dX6_share_95 : decode cX6_share 95 = .ok (.istore 4, 2) := by decide +kernel
theorem dX6_share_97 : decode cX6_share 97 = .ok (.iload_n 3, 1) := by decide +kernel
theorem dX6_share_98 : decode cX6_share 98 = .ok (.ifCond .ne 8, 3) := by decide +kernel
theorem dX6_share_101 : decode cX6_share 101 = .ok (.iload 6, 2) := by decide +kernel
theorem dX6_share_103 : decode cX6_share 103 = .ok (.goto 15, 3) := by decide +kernel
theorem dX6_share_106 : decode cX6_share 106 = .ok (.iload_n 3, 1) := by decide +kernel
theorem dX6_share_107 : decode cX6_share 107 = .ok (.iconst 1, 1) := by decide +kernel
theorem dX6_share_108 : decode cX6_share 108 = .ok (.if_icmp .ne 8, 3) := by decide +kernel
theorem dX6_share_111 : decode cX6_share 111 = .ok (.iload 7, 2) := by decide +kernel
theorem dX6_share_113 : decode cX6_share 113 = .ok (.goto 5, 3) := by decide +kernel
theorem dX6_share_116 : decode cX6_share 116 = .ok (.iload 8, 2) := by decide +kernel
theorem dX6_share_118 : decode cX6_share 118 = .ok (.istore 5, 2) := by decide +kernel
theorem dX6_share_120 : decode cX6_share 120 = .ok (.iinc 7 (-1), 3) := by decide +kernel
theorem dX6_share_123 : decode cX6_share 123 = .ok (.goto (-68), 3) := by decide +kernel
theorem dX6_share_126 : decode cX6_share 126 = .ok (.iinc 6 (-1), 3) := by decide +kernel
theorem dX6_share_129 : decode cX6_share 129 = .ok (.goto (-85), 3) := by decide +kernel
theorem dX6_share_132 : decode cX6_share 132 = .ok (.iload_n 3, 1) := by decide +kernel
theorem dX6_share_133 : decode cX6_share 133 = .ok (.ifCond .ge 8, 3) := by decide +kernel
theorem dX6_share_136 : decode cX6_share 136 = .ok (.iload 4, 2) := by decide +kernel
theorem dX6_share_138 : decode cX6_share 138 = .ok (.goto 5, 3) := by decide +kernel
theorem dX6_share_141 : decode cX6_share 141 = .ok (.iload 5, 2) := by decide +kernel
theorem dX6_share_143 : decode cX6_share 143 = .ok (.ireturn, 1) := by decide +kernel
theorem dX6_ifDrawn_0 : decode cX6_ifDrawn 0 = .ok (.aload_n 0, 1) := by decide +kernel
theorem dX6_ifDrawn_1 : decode cX6_ifDrawn 1 = .ok (.getfield 74, 3) := by decide +kernel
theorem dX6_ifDrawn_4 : decode cX6_ifDrawn 4 = .ok (.iconst 0, 1) := by decide +kernel
theorem dX6_ifDrawn_5 : decode cX6_ifDrawn 5 = .ok (.aaload, 1) := by decide +kernel
theorem dX6_ifDrawn_6 : decode cX6_ifDrawn 6 = .ok (.astore 5, 2) := by decide +kernel
theorem dX6_ifDrawn_8 : decode cX6_ifDrawn 8 = .ok (.aload 5, 2) := by decide +kernel
theorem dX6_ifDrawn_10 : decode cX6_ifDrawn 10 = .ok (.aload_n 0, 1) := by decide +kernel
theorem dX6_ifDrawn_11 : decode cX6_ifDrawn 11 = .ok (.getfield 67, 3) := by decide +kernel
theorem dX6_ifDrawn_14 : decode cX6_ifDrawn 14 = .ok (.invokevirtual 194, 3) := by decide +kernel
theorem dX6_ifDrawn_17 : decode cX6_ifDrawn 17 = .ok (.aload 5, 2) := by decide +kernel
theorem dX6_ifDrawn_19 : decode cX6_ifDrawn 19 = .ok (.iload_n 1, 1) := by decide +kernel
theorem dX6_ifDrawn_20 : decode cX6_ifDrawn 20 = .ok (.iconst 0, 1) := by decide +kernel
theorem dX6_ifDrawn_21 : decode cX6_ifDrawn 21 = .ok (.iload_n 2, 1) := by decide +kernel
theorem dX6_ifDrawn_22 : decode cX6_ifDrawn 22 = .ok (.invokevirtual 144, 3) := by decide +kernel
theorem dX6_ifDrawn_25 : decode cX6_ifDrawn 25 = .ok (.pop, 1) := by decide +kernel
theorem dX6_ifDrawn_26 : decode cX6_ifDrawn 26 = .ok (.aload 5, 2) := by decide +kernel
theorem dX6_ifDrawn_28 : decode cX6_ifDrawn 28 = .ok (.iload_n 1, 1) := by decide +kernel
theorem dX6_ifDrawn_29 : decode cX6_ifDrawn 29 = .ok (.iconst 1, 1) := by decide +kernel
theorem dX6_ifDrawn_30 : decode cX6_ifDrawn 30 = .ok (.iload_n 3, 1) := by decide +kernel
theorem dX6_ifDrawn_31 : decode cX6_ifDrawn 31 = .ok (.invokevirtual 144, 3) := by decide +kernel
theorem dX6_ifDrawn_34 : decode cX6_ifDrawn 34 = .ok (.pop, 1) := by decide +kernel
theorem dX6_ifDrawn_35 : decode cX6_ifDrawn 35 = .ok (.aload 5, 2) := by decide +kernel
theorem dX6_ifDrawn_37 : decode cX6_ifDrawn 37 = .ok (.iload_n 1, 1) := by decide +kernel
theorem dX6_ifDrawn_38 : decode cX6_ifDrawn 38 = .ok (.iconst 2, 1) := by decide +kernel
theorem dX6_ifDrawn_39 : decode cX6_ifDrawn 39 = .ok (.iload 4, 2) := by decide +kernel
theorem dX6_ifDrawn_41 : decode cX6_ifDrawn 41 = .ok (.invokevirtual 144, 3) := by decide +kernel
theorem dX6_ifDrawn_44 : decode cX6_ifDrawn 44 = .ok (.pop, 1) := by decide +kernel
theorem dX6_ifDrawn_45 : decode cX6_ifDrawn 45 = .ok (.aload 5, 2) := by decide +kernel
theorem dX6_ifDrawn_47 : decode cX6_ifDrawn 47 = .ok (.areturn, 1) := by decide +kernel
theorem dX6_meet_0 : decode cX6_meet 0 = .ok (.aload_n 0, 1) := by decide +kernel
theorem dX6_meet_1 : decode cX6_meet 1 = .ok (.getfield 67, 3) := by decide +kernel
theorem dX6_meet_4 : decode cX6_meet 4 = .ok (.invokevirtual 184, 3) := by decide +kernel
theorem dX6_meet_7 : decode cX6_meet 7 = .ok (.istore_n 1, 1) := by decide +kernel
theorem dX6_meet_8 : decode cX6_meet 8 = .ok (.bipush (-5), 2) := by decide +kernel
theorem dX6_meet_10 : decode cX6_meet 10 = .ok (.istore_n 2, 1) := by decide +kernel
theorem dX6_meet_11 : decode cX6_meet 11 = .ok (.iconst 0, 1) := by decide +kernel
theorem dX6_meet_12 : decode cX6_meet 12 = .ok (.istore_n 3, 1) := by decide +kernel
theorem dX6_meet_13 : decode cX6_meet 13 = .ok (.iload_n 3, 1) := by decide +kernel
theorem dX6_meet_14 : decode cX6_meet 14 = .ok (.aload_n 0, 1) := by decide +kernel
theorem dX6_meet_15 : decode cX6_meet 15 = .ok (.getfield 67, 3) := by decide +kernel
theorem dX6_meet_18 : decode cX6_meet 18 = .ok (.getfield 83, 3) := by decide +kernel
theorem dX6_meet_21 : decode cX6_meet 21 = .ok (.if_icmp .ge 61, 3) := by decide +kernel
theorem dX6_meet_24 : decode cX6_meet 24 = .ok (.iload_n 3, 1) := by decide +kernel
theorem dX6_meet_25 : decode cX6_meet 25 = .ok (.iconst 1, 1) := by decide +kernel
theorem dX6_meet_26 : decode cX6_meet 26 = .ok (.iadd, 1) := by decide +kernel
theorem dX6_meet_27 : decode cX6_meet 27 = .ok (.istore 4, 2) := by decide +kernel
theorem dX6_meet_29 : decode cX6_meet 29 = .ok (.iload 4, 2) := by decide +kernel
theorem dX6_meet_31 : decode cX6_meet 31 = .ok (.aload_n 0, 1) := by decide +kernel
theorem dX6_meet_32 : decode cX6_meet 32 = .ok (.getfield 67, 3) := by decide +kernel
theorem dX6_meet_35 : decode cX6_meet 35 = .ok (.getfield 83, 3) := by decide +kernel
theorem dX6_meet_38 : decode cX6_meet 38 = .ok (.if_icmp .ge 38, 3) := by decide +kernel
theorem dX6_meet_41 : decode cX6_meet 41 = .ok (.aload_n 0, 1) := by decide +kernel
theorem dX6_meet_42 : decode cX6_meet 42 = .ok (.iload_n 3, 1) := by decide +kernel
theorem dX6_meet_43 : decode cX6_meet 43 = .ok (.iload 4, 2) := by decide +kernel
theorem dX6_meet_45 : decode cX6_meet 45 = .ok (.invokevirtual 202, 3) := by decide +kernel
theorem dX6_meet_48 : decode cX6_meet 48 = .ok (.invokevirtual 184, 3) := by decide +kernel
theorem dX6_meet_51 : decode cX6_meet 51 = .ok (.istore 5, 2) := by decide +kernel
theorem dX6_meet_53 : decode cX6_meet 53 = .ok (.iload 5, 2) := by decide +kernel
theorem dX6_meet_55 : decode cX6_meet 55 = .ok (.iload_n 1, 1) := by decide +kernel
theorem dX6_meet_56 : decode cX6_meet 56 = .ok (.if_icmp .le 14, 3) := by decide +kernel
theorem dX6_meet_59 : decode cX6_meet 59 = .ok (.iload 5, 2) := by decide +kernel
theorem dX6_meet_61 : decode cX6_meet 61 = .ok (.istore_n 1, 1) := by decide +kernel
theorem dX6_meet_62 : decode cX6_meet 62 = .ok (.bipush 10, 2) := by decide +kernel
theorem dX6_meet_64 : decode cX6_meet 64 = .ok (.iload_n 3, 1) := by decide +kernel
theorem dX6_meet_65 : decode cX6_meet 65 = .ok (.imul, 1) := by decide +kernel
theorem dX6_meet_66 : decode cX6_meet 66 = .ok (.iload 4, 2) := by decide +kernel
theorem dX6_meet_68 : decode cX6_meet 68 = .ok (.iadd, 1) := by decide +kernel
theorem dX6_meet_69 : decode cX6_meet 69 = .ok (.istore_n 2, 1) := by decide +kernel
theorem dX6_meet_70 : decode cX6_meet 70 = .ok (.iinc 4 1, 3) := by decide +kernel
theorem dX6_meet_73 : decode cX6_meet 73 = .ok (.goto (-44), 3) := by decide +kernel
theorem dX6_meet_76 : decode cX6_meet 76 = .ok (.iinc 3 1, 3) := by decide +kernel
theorem dX6_meet_79 : decode cX6_meet 79 = .ok (.goto (-66), 3) := by decide +kernel
theorem dX6_meet_82 : decode cX6_meet 82 = .ok (.iload_n 2, 1) := by decide +kernel
theorem dX6_meet_83 : decode cX6_meet 83 = .ok (.ireturn, 1) := by decide +kernel
theorem dX6_ifShaken_0 : decode cX6_ifShaken 0 = .ok (.aload_n 0, 1) := by decide +kernel
theorem dX6_ifShaken_1 : decode cX6_ifShaken 1 = .ok (.getfield 74, 3) := by decide +kernel
theorem dX6_ifShaken_4 : decode cX6_ifShaken 4 = .ok (.iconst 0, 1) := by decide +kernel
theorem dX6_ifShaken_5 : decode cX6_ifShaken 5 = .ok (.aaload, 1) := by decide +kernel
theorem dX6_ifShaken_6 : decode cX6_ifShaken 6 = .ok (.astore_n 3, 1) := by decide +kernel
theorem dX6_ifShaken_7 : decode cX6_ifShaken 7 = .ok (.aload_n 3, 1) := by decide +kernel
theorem dX6_ifShaken_8 : decode cX6_ifShaken 8 = .ok (.aload_n 0, 1) := by decide +kernel
theorem dX6_ifShaken_9 : decode cX6_ifShaken 9 = .ok (.getfield 67, 3) := by decide +kernel
theorem dX6_ifShaken_12 : decode cX6_ifShaken 12 = .ok (.invokevirtual 194, 3) := by decide +kernel
theorem dX6_ifShaken_15 : decode cX6_ifShaken 15 = .ok (.aload_n 3, 1) := by decide +kernel
theorem dX6_ifShaken_16 : decode cX6_ifShaken 16 = .ok (.iload_n 1, 1) := by decide +kernel
theorem dX6_ifShaken_17 : decode cX6_ifShaken 17 = .ok (.iload_n 2, 1) := by decide +kernel
theorem dX6_ifShaken_18 : decode cX6_ifShaken 18 = .ok (.invokevirtual 147, 3) := by decide +kernel
theorem dX6_ifShaken_21 : decode cX6_ifShaken 21 = .ok (.pop, 1) := by decide +kernel
theorem dX6_ifShaken_22 : decode cX6_ifShaken 22 = .ok (.aload_n 3, 1) := by decide +kernel
theorem dX6_ifShaken_23 : decode cX6_ifShaken 23 = .ok (.areturn, 1) := by decide +kernel
theorem dX6_book_0 : decode cX6_book 0 = .ok (.iload_n 1, 1) := by decide +kernel
theorem dX6_book_1 : decode cX6_book 1 = .ok (.iconst (-1), 1) := by decide +kernel
theorem dX6_book_2 : decode cX6_book 2 = .ok (.if_icmp .ne 11, 3) := by decide +kernel
theorem dX6_book_5 : decode cX6_book 5 = .ok (.aload_n 0, 1) := by decide +kernel
theorem dX6_book_6 : decode cX6_book 6 = .ok (.getfield 21, 3) := by decide +kernel
theorem dX6_book_9 : decode cX6_book 9 = .ok (.invokevirtual 206, 3) := by decide +kernel
theorem dX6_book_12 : decode cX6_book 12 = .ok (.ireturn, 1) := by decide +kernel
theorem dX6_book_13 : decode cX6_book 13 = .ok (.aload_n 0, 1) := by decide +kernel
theorem dX6_book_14 : decode cX6_book 14 = .ok (.getfield 67, 3) := by decide +kernel
theorem dX6_book_17 : decode cX6_book 17 = .ok (.iload_n 1, 1) := by decide +kernel
theorem dX6_book_18 : decode cX6_book 18 = .ok (.iload_n 2, 1) := by decide +kernel
theorem dX6_book_19 : decode cX6_book 19 = .ok (.invokevirtual 118, 3) := by decide +kernel
theorem dX6_book_22 : decode cX6_book 22 = .ok (.ifCond .ne 5, 3) := by decide +kernel
theorem dX6_book_25 : decode cX6_book 25 = .ok (.iconst (-1), 1) := by decide +kernel
theorem dX6_book_26 : decode cX6_book 26 = .ok (.ireturn, 1) := by decide +kernel
theorem dX6_book_27 : decode cX6_book 27 = .ok (.iload_n 3, 1) := by decide +kernel
theorem dX6_book_28 : decode cX6_book 28 = .ok (.iconst 0, 1) := by decide +kernel
theorem dX6_book_29 : decode cX6_book 29 = .ok (.bipush 60, 2) := by decide +kernel
theorem dX6_book_31 : decode cX6_book 31 = .ok (.invokestatic 79, 3) := by decide +kernel
theorem dX6_book_34 : decode cX6_book 34 = .ok (.ifCond .ne 6, 3) := by decide +kernel
theorem dX6_book_37 : decode cX6_book 37 = .ok (.bipush (-2), 2) := by decide +kernel
theorem dX6_book_39 : decode cX6_book 39 = .ok (.ireturn, 1) := by decide +kernel
theorem dX6_book_40 : decode cX6_book 40 = .ok (.aload_n 0, 1) := by decide +kernel
theorem dX6_book_41 : decode cX6_book 41 = .ok (.getfield 21, 3) := by decide +kernel
theorem dX6_book_44 : decode cX6_book 44 = .ok (.getfield 208, 3) := by decide +kernel
theorem dX6_book_47 : decode cX6_book 47 = .ok (.bipush 8, 2) := by decide +kernel
theorem dX6_book_49 : decode cX6_book 49 = .ok (.if_icmp .lt 6, 3) := by decide +kernel
theorem dX6_book_52 : decode cX6_book 52 = .ok (.bipush (-4), 2) := by decide +kernel
theorem dX6_book_54 : decode cX6_book 54 = .ok (.ireturn, 1) := by decide +kernel
theorem dX6_book_55 : decode cX6_book 55 = .ok (.aload_n 0, 1) := by decide +kernel
theorem dX6_book_56 : decode cX6_book 56 = .ok (.getfield 21, 3) := by decide +kernel
theorem dX6_book_59 : decode cX6_book 59 = .ok (.iload_n 1, 1) := by decide +kernel
theorem dX6_book_60 : decode cX6_book 60 = .ok (.iload_n 2, 1) := by decide +kernel
theorem dX6_book_61 : decode cX6_book 61 = .ok (.iload_n 3, 1) := by decide +kernel
theorem dX6_book_62 : decode cX6_book 62 = .ok (.iconst 0, 1) := by decide +kernel
theorem dX6_book_63 : decode cX6_book 63 = .ok (.invokevirtual 211, 3) := by decide +kernel
theorem dX6_book_66 : decode cX6_book 66 = .ok (.ireturn, 1) := by decide +kernel
theorem dX6_looked_0 : decode cX6_looked 0 = .ok (.aload_n 0, 1) := by decide +kernel
theorem dX6_looked_1 : decode cX6_looked 1 = .ok (.aload_n 0, 1) := by decide +kernel
theorem dX6_looked_2 : decode cX6_looked 2 = .ok (.getfield 67, 3) := by decide +kernel
theorem dX6_looked_5 : decode cX6_looked 5 = .ok (.invokevirtual 214, 3) := by decide +kernel
theorem dX6_looked_8 : decode cX6_looked 8 = .ok (.ireturn, 1) := by decide +kernel
theorem dX6_firstOtherwise_0 : decode cX6_firstOtherwise 0 = .ok (.iconst 0, 1) := by decide +kernel
theorem dX6_firstOtherwise_1 : decode cX6_firstOtherwise 1 = .ok (.istore_n 2, 1) := by decide +kernel
theorem dX6_firstOtherwise_2 : decode cX6_firstOtherwise 2 = .ok (.iload_n 2, 1) := by decide +kernel
theorem dX6_firstOtherwise_3 : decode cX6_firstOtherwise 3 = .ok (.aload_n 0, 1) := by decide +kernel
theorem dX6_firstOtherwise_4 : decode cX6_firstOtherwise 4 = .ok (.getfield 21, 3) := by decide +kernel
theorem dX6_firstOtherwise_7 : decode cX6_firstOtherwise 7 = .ok (.getfield 208, 3) := by decide +kernel
theorem dX6_firstOtherwise_10 : decode cX6_firstOtherwise 10 = .ok (.if_icmp .ge 45, 3) := by decide +kernel
theorem dX6_firstOtherwise_13 : decode cX6_firstOtherwise 13 = .ok (.aload_n 1, 1) := by decide +kernel
theorem dX6_firstOtherwise_14 : decode cX6_firstOtherwise 14 = .ok (.aload_n 0, 1) := by decide +kernel
theorem dX6_firstOtherwise_15 : decode cX6_firstOtherwise 15 = .ok (.getfield 21, 3) := by decide +kernel
theorem dX6_firstOtherwise_18 : decode cX6_firstOtherwise 18 = .ok (.iload_n 2, 1) := by decide +kernel
theorem dX6_firstOtherwise_19 : decode cX6_firstOtherwise 19 = .ok (.iconst 0, 1) := by decide +kernel
theorem dX6_firstOtherwise_20 : decode cX6_firstOtherwise 20 = .ok (.invokevirtual 218, 3) := by decide +kernel
theorem dX6_firstOtherwise_23 : decode cX6_firstOtherwise 23 = .ok (.aload_n 0, 1) := by decide +kernel
theorem dX6_firstOtherwise_24 : decode cX6_firstOtherwise 24 = .ok (.getfield 21, 3) := by decide +kernel
theorem dX6_firstOtherwise_27 : decode cX6_firstOtherwise 27 = .ok (.iload_n 2, 1) := by decide +kernel
theorem dX6_firstOtherwise_28 : decode cX6_firstOtherwise 28 = .ok (.iconst 1, 1) := by decide +kernel
theorem dX6_firstOtherwise_29 : decode cX6_firstOtherwise 29 = .ok (.invokevirtual 218, 3) := by decide +kernel
theorem dX6_firstOtherwise_32 : decode cX6_firstOtherwise 32 = .ok (.invokevirtual 122, 3) := by decide +kernel
theorem dX6_firstOtherwise_35 : decode cX6_firstOtherwise 35 = .ok (.aload_n 0, 1) := by decide +kernel
theorem dX6_firstOtherwise_36 : decode cX6_firstOtherwise 36 = .ok (.getfield 21, 3) := by decide +kernel
theorem dX6_firstOtherwise_39 : decode cX6_firstOtherwise 39 = .ok (.iload_n 2, 1) := by decide +kernel
theorem dX6_firstOtherwise_40 : decode cX6_firstOtherwise 40 = .ok (.iconst 2, 1) := by decide +kernel
theorem dX6_firstOtherwise_41 : decode cX6_firstOtherwise 41 = .ok (.invokevirtual 218, 3) := by decide +kernel
theorem dX6_firstOtherwise_44 : decode cX6_firstOtherwise 44 = .ok (.if_icmp .eq 5, 3) := by decide +kernel
theorem dX6_firstOtherwise_47 : decode cX6_firstOtherwise 47 = .ok (.iload_n 2, 1) := by decide +kernel
theorem dX6_firstOtherwise_48 : decode cX6_firstOtherwise 48 = .ok (.ireturn, 1) := by decide +kernel
theorem dX6_firstOtherwise_49 : decode cX6_firstOtherwise 49 = .ok (.iinc 2 1, 3) := by decide +kernel
theorem dX6_firstOtherwise_52 : decode cX6_firstOtherwise 52 = .ok (.goto (-50), 3) := by decide +kernel
theorem dX6_firstOtherwise_55 : decode cX6_firstOtherwise 55 = .ok (.bipush (-5), 2) := by decide +kernel
theorem dX6_firstOtherwise_57 : decode cX6_firstOtherwise 57 = .ok (.ireturn, 1) := by decide +kernel
theorem dX6_shaken_0 : decode cX6_shaken 0 = .ok (.iload_n 1, 1) := by decide +kernel
theorem dX6_shaken_1 : decode cX6_shaken 1 = .ok (.iconst (-1), 1) := by decide +kernel
theorem dX6_shaken_2 : decode cX6_shaken 2 = .ok (.iconst 2, 1) := by decide +kernel
theorem dX6_shaken_3 : decode cX6_shaken 3 = .ok (.invokestatic 79, 3) := by decide +kernel
theorem dX6_shaken_6 : decode cX6_shaken 6 = .ok (.ifCond .ne 5, 3) := by decide +kernel
theorem dX6_shaken_9 : decode cX6_shaken 9 = .ok (.iconst (-1), 1) := by decide +kernel
theorem dX6_shaken_10 : decode cX6_shaken 10 = .ok (.ireturn, 1) := by decide +kernel
theorem dX6_shaken_11 : decode cX6_shaken 11 = .ok (.aload_n 0, 1) := by decide +kernel
theorem dX6_shaken_12 : decode cX6_shaken 12 = .ok (.getfield 74, 3) := by decide +kernel
theorem dX6_shaken_15 : decode cX6_shaken 15 = .ok (.iconst 0, 1) := by decide +kernel
theorem dX6_shaken_16 : decode cX6_shaken 16 = .ok (.aaload, 1) := by decide +kernel
theorem dX6_shaken_17 : decode cX6_shaken 17 = .ok (.aload_n 0, 1) := by decide +kernel
theorem dX6_shaken_18 : decode cX6_shaken 18 = .ok (.getfield 67, 3) := by decide +kernel
theorem dX6_shaken_21 : decode cX6_shaken 21 = .ok (.invokevirtual 194, 3) := by decide +kernel
theorem dX6_shaken_24 : decode cX6_shaken 24 = .ok (.iconst 0, 1) := by decide +kernel
theorem dX6_shaken_25 : decode cX6_shaken 25 = .ok (.istore_n 2, 1) := by decide +kernel
theorem dX6_shaken_26 : decode cX6_shaken 26 = .ok (.iload_n 2, 1) := by decide +kernel
theorem dX6_shaken_27 : decode cX6_shaken 27 = .ok (.iconst 3, 1) := by decide +kernel
theorem dX6_shaken_28 : decode cX6_shaken 28 = .ok (.if_icmp .gt 43, 3) := by decide +kernel
theorem dX6_shaken_31 : decode cX6_shaken 31 = .ok (.aload_n 0, 1) := by decide +kernel
theorem dX6_shaken_32 : decode cX6_shaken 32 = .ok (.iconst 0, 1) := by decide +kernel
theorem dX6_shaken_33 : decode cX6_shaken 33 = .ok (.iload_n 2, 1) := by decide +kernel
theorem dX6_shaken_34 : decode cX6_shaken 34 = .ok (.invokevirtual 221, 3) := by decide +kernel
theorem dX6_shaken_37 : decode cX6_shaken 37 = .ok (.ifCond .eq 28, 3) := by decide +kernel
theorem dX6_shaken_40 : decode cX6_shaken 40 = .ok (.iload_n 1, 1) := by decide +kernel
theorem dX6_shaken_41 : decode cX6_shaken 41 = .ok (.ifCond .ge 7, 3) := by decide +kernel
theorem dX6_shaken_44 : decode cX6_shaken 44 = .ok (.iload_n 2, 1) := by decide +kernel
theorem dX6_shaken_45 : decode cX6_shaken 45 = .ok (.goto 19, 3) := by decide +kernel
theorem dX6_shaken_48 : decode cX6_shaken 48 = .ok (.iload_n 1, 1) := by decide +kernel
theorem dX6_shaken_49 : decode cX6_shaken 49 = .ok (.iload_n 2, 1) := by decide +kernel
theorem dX6_shaken_50 : decode cX6_shaken 50 = .ok (.if_icmp .ge 12, 3) := by decide +kernel
theorem dX6_shaken_53 : decode cX6_shaken 53 = .ok (.aload_n 0, 1) := by decide +kernel
theorem dX6_shaken_54 : decode cX6_shaken 54 = .ok (.getfield 33, 3) := by decide +kernel
theorem dX6_shaken_57 : decode cX6_shaken 57 = .ok (.iload_n 1, 1) := by decide +kernel
theorem dX6_shaken_58 : decode cX6_shaken 58 = .ok (.iaload, 1) := by decide +kernel
theorem dX6_shaken_59 : decode cX6_shaken 59 = .ok (.goto 5, 3) := by decide +kernel
theorem dX6_shaken_62 : decode cX6_shaken 62 = .ok (.bipush (-5), 2) := by decide +kernel
theorem dX6_shaken_64 : decode cX6_shaken 64 = .ok (.ireturn, 1) := by decide +kernel
theorem dX6_shaken_65 : decode cX6_shaken 65 = .ok (.iinc 2 1, 3) := by decide +kernel
theorem dX6_shaken_68 : decode cX6_shaken 68 = .ok (.goto (-42), 3) := by decide +kernel
theorem dX6_shaken_71 : decode cX6_shaken 71 = .ok (.bipush (-5), 2) := by decide +kernel
theorem dX6_shaken_73 : decode cX6_shaken 73 = .ok (.ireturn, 1) := by decide +kernel
theorem dX6_isSoAfter_0 : decode cX6_isSoAfter 0 = .ok (.iload_n 1, 1) := by decide +kernel
theorem dX6_isSoAfter_1 : decode cX6_isSoAfter 1 = .ok (.ifCond .lt 8, 3) := by decide +kernel
theorem dX6_isSoAfter_4 : decode cX6_isSoAfter 4 = .ok (.iload_n 1, 1) := by decide +kernel
theorem dX6_isSoAfter_5 : decode cX6_isSoAfter 5 = .ok (.iconst 3, 1) := by decide +kernel
theorem dX6_isSoAfter_6 : decode cX6_isSoAfter 6 = .ok (.if_icmp .le 5, 3) := by decide +kernel
theorem dX6_isSoAfter_9 : decode cX6_isSoAfter 9 = .ok (.iconst 0, 1) := by decide +kernel
theorem dX6_isSoAfter_10 : decode cX6_isSoAfter 10 = .ok (.ireturn, 1) := by decide +kernel
theorem dX6_isSoAfter_11 : decode cX6_isSoAfter 11 = .ok (.iload_n 1, 1) := by decide +kernel
theorem dX6_isSoAfter_12 : decode cX6_isSoAfter 12 = .ok (.iload_n 2, 1) := by decide +kernel
theorem dX6_isSoAfter_13 : decode cX6_isSoAfter 13 = .ok (.if_icmp .ge 8, 3) := by decide +kernel
theorem dX6_isSoAfter_16 : decode cX6_isSoAfter 16 = .ok (.iload_n 1, 1) := by decide +kernel
theorem dX6_isSoAfter_17 : decode cX6_isSoAfter 17 = .ok (.iconst 3, 1) := by decide +kernel
theorem dX6_isSoAfter_18 : decode cX6_isSoAfter 18 = .ok (.if_icmp .ne 24, 3) := by decide +kernel
theorem dX6_isSoAfter_21 : decode cX6_isSoAfter 21 = .ok (.aload_n 0, 1) := by decide +kernel
theorem dX6_isSoAfter_22 : decode cX6_isSoAfter 22 = .ok (.aload_n 0, 1) := by decide +kernel
theorem dX6_isSoAfter_23 : decode cX6_isSoAfter 23 = .ok (.getfield 74, 3) := by decide +kernel
theorem dX6_isSoAfter_26 : decode cX6_isSoAfter 26 = .ok (.iload_n 1, 1) := by decide +kernel
theorem dX6_isSoAfter_27 : decode cX6_isSoAfter 27 = .ok (.aaload, 1) := by decide +kernel
theorem dX6_isSoAfter_28 : decode cX6_isSoAfter 28 = .ok (.invokevirtual 214, 3) := by decide +kernel
theorem dX6_isSoAfter_31 : decode cX6_isSoAfter 31 = .ok (.bipush (-5), 2) := by decide +kernel
theorem dX6_isSoAfter_33 : decode cX6_isSoAfter 33 = .ok (.if_icmp .ne 7, 3) := by decide +kernel
theorem dX6_isSoAfter_36 : decode cX6_isSoAfter 36 = .ok (.iconst 1, 1) := by decide +kernel
theorem dX6_isSoAfter_37 : decode cX6_isSoAfter 37 = .ok (.goto 4, 3) := by decide +kernel
theorem dX6_isSoAfter_40 : decode cX6_isSoAfter 40 = .ok (.iconst 0, 1) := by decide +kernel
theorem dX6_isSoAfter_41 : decode cX6_isSoAfter 41 = .ok (.ireturn, 1) := by decide +kernel
theorem dX6_isSoAfter_42 : decode cX6_isSoAfter 42 = .ok (.aload_n 0, 1) := by decide +kernel
theorem dX6_isSoAfter_43 : decode cX6_isSoAfter 43 = .ok (.getfield 74, 3) := by decide +kernel
theorem dX6_isSoAfter_46 : decode cX6_isSoAfter 46 = .ok (.iload_n 1, 1) := by decide +kernel
theorem dX6_isSoAfter_47 : decode cX6_isSoAfter 47 = .ok (.iconst 1, 1) := by decide +kernel
theorem dX6_isSoAfter_48 : decode cX6_isSoAfter 48 = .ok (.iadd, 1) := by decide +kernel
theorem dX6_isSoAfter_49 : decode cX6_isSoAfter 49 = .ok (.aaload, 1) := by decide +kernel
theorem dX6_isSoAfter_50 : decode cX6_isSoAfter 50 = .ok (.astore_n 3, 1) := by decide +kernel
theorem dX6_isSoAfter_51 : decode cX6_isSoAfter 51 = .ok (.iconst 0, 1) := by decide +kernel
theorem dX6_isSoAfter_52 : decode cX6_isSoAfter 52 = .ok (.istore 4, 2) := by decide +kernel
theorem dX6_isSoAfter_54 : decode cX6_isSoAfter 54 = .ok (.iload 4, 2) := by decide +kernel
theorem dX6_isSoAfter_56 : decode cX6_isSoAfter 56 = .ok (.aload_n 0, 1) := by decide +kernel
theorem dX6_isSoAfter_57 : decode cX6_isSoAfter 57 = .ok (.getfield 67, 3) := by decide +kernel
theorem dX6_isSoAfter_60 : decode cX6_isSoAfter 60 = .ok (.getfield 83, 3) := by decide +kernel
theorem dX6_isSoAfter_63 : decode cX6_isSoAfter 63 = .ok (.if_icmp .ge 79, 3) := by decide +kernel
theorem dX6_isSoAfter_66 : decode cX6_isSoAfter 66 = .ok (.iload 4, 2) := by decide +kernel
theorem dX6_isSoAfter_68 : decode cX6_isSoAfter 68 = .ok (.iconst 1, 1) := by decide +kernel
theorem dX6_isSoAfter_69 : decode cX6_isSoAfter 69 = .ok (.iadd, 1) := by decide +kernel
theorem dX6_isSoAfter_70 : decode cX6_isSoAfter 70 = .ok (.istore 5, 2) := by decide +kernel
theorem dX6_isSoAfter_72 : decode cX6_isSoAfter 72 = .ok (.iload 5, 2) := by decide +kernel
theorem dX6_isSoAfter_74 : decode cX6_isSoAfter 74 = .ok (.aload_n 0, 1) := by decide +kernel
theorem dX6_isSoAfter_75 : decode cX6_isSoAfter 75 = .ok (.getfield 67, 3) := by decide +kernel
theorem dX6_isSoAfter_78 : decode cX6_isSoAfter 78 = .ok (.getfield 83, 3) := by decide +kernel
theorem dX6_isSoAfter_81 : decode cX6_isSoAfter 81 = .ok (.if_icmp .ge 55, 3) := by decide +kernel
theorem dX6_isSoAfter_84 : decode cX6_isSoAfter 84 = .ok (.aload_n 3, 1) := by decide +kernel
theorem dX6_isSoAfter_85 : decode cX6_isSoAfter 85 = .ok (.aload_n 0, 1) := by decide +kernel
theorem dX6_isSoAfter_86 : decode cX6_isSoAfter 86 = .ok (.getfield 74, 3) := by decide +kernel
theorem dX6_isSoAfter_89 : decode cX6_isSoAfter 89 = .ok (.iload_n 1, 1) := by decide +kernel
theorem dX6_isSoAfter_90 : decode cX6_isSoAfter 90 = .ok (.aaload, 1) := by decide +kernel
theorem dX6_isSoAfter_91 : decode cX6_isSoAfter 91 = .ok (.invokevirtual 194, 3) := by decide +kernel
theorem dX6_isSoAfter_94 : decode cX6_isSoAfter 94 = .ok (.aload_n 3, 1) := by decide +kernel
theorem dX6_isSoAfter_95 : decode cX6_isSoAfter 95 = .ok (.iload 4, 2) := by decide +kernel
theorem dX6_isSoAfter_97 : decode cX6_isSoAfter 97 = .ok (.iload 5, 2) := by decide +kernel
theorem dX6_isSoAfter_99 : decode cX6_isSoAfter 99 = .ok (.invokevirtual 147, 3) := by decide +kernel
theorem dX6_isSoAfter_102 : decode cX6_isSoAfter 102 = .ok (.pop, 1) := by decide +kernel
theorem dX6_isSoAfter_103 : decode cX6_isSoAfter 103 = .ok (.aload_n 0, 1) := by decide +kernel
theorem dX6_isSoAfter_104 : decode cX6_isSoAfter 104 = .ok (.getfield 33, 3) := by decide +kernel
theorem dX6_isSoAfter_107 : decode cX6_isSoAfter 107 = .ok (.iload_n 1, 1) := by decide +kernel
theorem dX6_isSoAfter_108 : decode cX6_isSoAfter 108 = .ok (.bipush 10, 2) := by decide +kernel
theorem dX6_isSoAfter_110 : decode cX6_isSoAfter 110 = .ok (.iload 4, 2) := by decide +kernel
theorem dX6_isSoAfter_112 : decode cX6_isSoAfter 112 = .ok (.imul, 1) := by decide +kernel
theorem dX6_isSoAfter_113 : decode cX6_isSoAfter 113 = .ok (.iload 5, 2) := by decide +kernel
theorem dX6_isSoAfter_115 : decode cX6_isSoAfter 115 = .ok (.iadd, 1) := by decide +kernel
theorem dX6_isSoAfter_116 : decode cX6_isSoAfter 116 = .ok (.iastore, 1) := by decide +kernel
theorem dX6_isSoAfter_117 : decode cX6_isSoAfter 117 = .ok (.aload_n 0, 1) := by decide +kernel
theorem dX6_isSoAfter_118 : decode cX6_isSoAfter 118 = .ok (.iload_n 1, 1) := by decide +kernel
theorem dX6_isSoAfter_119 : decode cX6_isSoAfter 119 = .ok (.iconst 1, 1) := by decide +kernel
theorem dX6_isSoAfter_120 : decode cX6_isSoAfter 120 = .ok (.iadd, 1) := by decide +kernel
theorem dX6_isSoAfter_121 : decode cX6_isSoAfter 121 = .ok (.iload_n 2, 1) := by decide +kernel
theorem dX6_isSoAfter_122 : decode cX6_isSoAfter 122 = .ok (.invokevirtual 221, 3) := by decide +kernel
theorem dX6_isSoAfter_125 : decode cX6_isSoAfter 125 = .ok (.ifCond .eq 5, 3) := by decide +kernel
theorem dX6_isSoAfter_128 : decode cX6_isSoAfter 128 = .ok (.iconst 1, 1) := by decide +kernel
theorem dX6_isSoAfter_129 : decode cX6_isSoAfter 129 = .ok (.ireturn, 1) := by decide +kernel
theorem dX6_isSoAfter_130 : decode cX6_isSoAfter 130 = .ok (.iinc 5 1, 3) := by decide +kernel
theorem dX6_isSoAfter_133 : decode cX6_isSoAfter 133 = .ok (.goto (-61), 3) := by decide +kernel
theorem dX6_isSoAfter_136 : decode cX6_isSoAfter 136 = .ok (.iinc 4 1, 3) := by decide +kernel
theorem dX6_isSoAfter_139 : decode cX6_isSoAfter 139 = .ok (.goto (-85), 3) := by decide +kernel
theorem dX6_isSoAfter_142 : decode cX6_isSoAfter 142 = .ok (.iconst 0, 1) := by decide +kernel
theorem dX6_isSoAfter_143 : decode cX6_isSoAfter 143 = .ok (.ireturn, 1) := by decide +kernel
theorem dX6_see_0 : decode cX6_see 0 = .ok (.iload_n 1, 1) := by decide +kernel
theorem dX6_see_1 : decode cX6_see 1 = .ok (.iconst (-1), 1) := by decide +kernel
theorem dX6_see_2 : decode cX6_see 2 = .ok (.if_icmp .ne 11, 3) := by decide +kernel
theorem dX6_see_5 : decode cX6_see 5 = .ok (.aload_n 0, 1) := by decide +kernel
theorem dX6_see_6 : decode cX6_see 6 = .ok (.getfield 12, 3) := by decide +kernel
theorem dX6_see_9 : decode cX6_see 9 = .ok (.invokevirtual 206, 3) := by decide +kernel
theorem dX6_see_12 : decode cX6_see 12 = .ok (.ireturn, 1) := by decide +kernel
theorem dX6_see_13 : decode cX6_see 13 = .ok (.aload_n 0, 1) := by decide +kernel
theorem dX6_see_14 : decode cX6_see 14 = .ok (.getfield 67, 3) := by decide +kernel
theorem dX6_see_17 : decode cX6_see 17 = .ok (.iload_n 1, 1) := by decide +kernel
theorem dX6_see_18 : decode cX6_see 18 = .ok (.iload_n 2, 1) := by decide +kernel
theorem dX6_see_19 : decode cX6_see 19 = .ok (.invokevirtual 118, 3) := by decide +kernel
theorem dX6_see_22 : decode cX6_see 22 = .ok (.ifCond .ne 5, 3) := by decide +kernel
theorem dX6_see_25 : decode cX6_see 25 = .ok (.iconst (-1), 1) := by decide +kernel
theorem dX6_see_26 : decode cX6_see 26 = .ok (.ireturn, 1) := by decide +kernel
theorem dX6_see_27 : decode cX6_see 27 = .ok (.iload_n 3, 1) := by decide +kernel
theorem dX6_see_28 : decode cX6_see 28 = .ok (.iconst 0, 1) := by decide +kernel
theorem dX6_see_29 : decode cX6_see 29 = .ok (.bipush 60, 2) := by decide +kernel
theorem dX6_see_31 : decode cX6_see 31 = .ok (.invokestatic 79, 3) := by decide +kernel
theorem dX6_see_34 : decode cX6_see 34 = .ok (.ifCond .eq 14, 3) := by decide +kernel
theorem dX6_see_37 : decode cX6_see 37 = .ok (.iload 4, 2) := by decide +kernel
theorem dX6_see_39 : decode cX6_see 39 = .ok (.iconst 0, 1) := by decide +kernel
theorem dX6_see_40 : decode cX6_see 40 = .ok (.bipush 20, 2) := by decide +kernel
theorem dX6_see_42 : decode cX6_see 42 = .ok (.invokestatic 79, 3) := by decide +kernel
theorem dX6_see_45 : decode cX6_see 45 = .ok (.ifCond .ne 6, 3) := by decide +kernel
theorem dX6_see_48 : decode cX6_see 48 = .ok (.bipush (-2), 2) := by decide +kernel
theorem dX6_see_50 : decode cX6_see 50 = .ok (.ireturn, 1) := by decide +kernel
theorem dX6_see_51 : decode cX6_see 51 = .ok (.aload_n 0, 1) := by decide +kernel
theorem dX6_see_52 : decode cX6_see 52 = .ok (.getfield 12, 3) := by decide +kernel
theorem dX6_see_55 : decode cX6_see 55 = .ok (.getfield 208, 3) := by decide +kernel
theorem dX6_see_58 : decode cX6_see 58 = .ok (.iconst 5, 1) := by decide +kernel
theorem dX6_see_59 : decode cX6_see 59 = .ok (.if_icmp .lt 6, 3) := by decide +kernel
theorem dX6_see_62 : decode cX6_see 62 = .ok (.bipush (-4), 2) := by decide +kernel
theorem dX6_see_64 : decode cX6_see 64 = .ok (.ireturn, 1) := by decide +kernel
theorem dX6_see_65 : decode cX6_see 65 = .ok (.aload_n 0, 1) := by decide +kernel
theorem dX6_see_66 : decode cX6_see 66 = .ok (.getfield 12, 3) := by decide +kernel
theorem dX6_see_69 : decode cX6_see 69 = .ok (.iload_n 1, 1) := by decide +kernel
theorem dX6_see_70 : decode cX6_see 70 = .ok (.iload_n 2, 1) := by decide +kernel
theorem dX6_see_71 : decode cX6_see 71 = .ok (.iload_n 3, 1) := by decide +kernel
theorem dX6_see_72 : decode cX6_see 72 = .ok (.iload 4, 2) := by decide +kernel
theorem dX6_see_74 : decode cX6_see 74 = .ok (.invokevirtual 211, 3) := by decide +kernel
theorem dX6_see_77 : decode cX6_see 77 = .ok (.ireturn, 1) := by decide +kernel
theorem dX6_isAllSeenSo_0 : decode cX6_isAllSeenSo 0 = .ok (.iconst 0, 1) := by decide +kernel
theorem dX6_isAllSeenSo_1 : decode cX6_isAllSeenSo 1 = .ok (.istore_n 2, 1) := by decide +kernel
theorem dX6_isAllSeenSo_2 : decode cX6_isAllSeenSo 2 = .ok (.iload_n 2, 1) := by decide +kernel
theorem dX6_isAllSeenSo_3 : decode cX6_isAllSeenSo 3 = .ok (.aload_n 0, 1) := by decide +kernel
theorem dX6_isAllSeenSo_4 : decode cX6_isAllSeenSo 4 = .ok (.getfield 12, 3) := by decide +kernel
theorem dX6_isAllSeenSo_7 : decode cX6_isAllSeenSo 7 = .ok (.getfield 208, 3) := by decide +kernel
theorem dX6_isAllSeenSo_10 : decode cX6_isAllSeenSo 10 = .ok (.if_icmp .ge 56, 3) := by decide +kernel
theorem dX6_isAllSeenSo_13 : decode cX6_isAllSeenSo 13 = .ok (.aload_n 1, 1) := by decide +kernel
theorem dX6_isAllSeenSo_14 : decode cX6_isAllSeenSo 14 = .ok (.aload_n 0, 1) := by decide +kernel
theorem dX6_isAllSeenSo_15 : decode cX6_isAllSeenSo 15 = .ok (.getfield 12, 3) := by decide +kernel
theorem dX6_isAllSeenSo_18 : decode cX6_isAllSeenSo 18 = .ok (.iload_n 2, 1) := by decide +kernel
theorem dX6_isAllSeenSo_19 : decode cX6_isAllSeenSo 19 = .ok (.iconst 0, 1) := by decide +kernel
theorem dX6_isAllSeenSo_20 : decode cX6_isAllSeenSo 20 = .ok (.invokevirtual 218, 3) := by decide +kernel
theorem dX6_isAllSeenSo_23 : decode cX6_isAllSeenSo 23 = .ok (.aload_n 0, 1) := by decide +kernel
theorem dX6_isAllSeenSo_24 : decode cX6_isAllSeenSo 24 = .ok (.getfield 12, 3) := by decide +kernel
theorem dX6_isAllSeenSo_27 : decode cX6_isAllSeenSo 27 = .ok (.iload_n 2, 1) := by decide +kernel
theorem dX6_isAllSeenSo_28 : decode cX6_isAllSeenSo 28 = .ok (.iconst 1, 1) := by decide +kernel
theorem dX6_isAllSeenSo_29 : decode cX6_isAllSeenSo 29 = .ok (.invokevirtual 218, 3) := by decide +kernel
theorem dX6_isAllSeenSo_32 : decode cX6_isAllSeenSo 32 = .ok (.aload_n 0, 1) := by decide +kernel
theorem dX6_isAllSeenSo_33 : decode cX6_isAllSeenSo 33 = .ok (.getfield 12, 3) := by decide +kernel
theorem dX6_isAllSeenSo_36 : decode cX6_isAllSeenSo 36 = .ok (.iload_n 2, 1) := by decide +kernel
theorem dX6_isAllSeenSo_37 : decode cX6_isAllSeenSo 37 = .ok (.iconst 3, 1) := by decide +kernel
theorem dX6_isAllSeenSo_38 : decode cX6_isAllSeenSo 38 = .ok (.invokevirtual 218, 3) := by decide +kernel
theorem dX6_isAllSeenSo_41 : decode cX6_isAllSeenSo 41 = .ok (.invokevirtual 224, 3) := by decide +kernel
theorem dX6_isAllSeenSo_44 : decode cX6_isAllSeenSo 44 = .ok (.istore_n 3, 1) := by decide +kernel
theorem dX6_isAllSeenSo_45 : decode cX6_isAllSeenSo 45 = .ok (.iload_n 3, 1) := by decide +kernel
theorem dX6_isAllSeenSo_46 : decode cX6_isAllSeenSo 46 = .ok (.aload_n 0, 1) := by decide +kernel
theorem dX6_isAllSeenSo_47 : decode cX6_isAllSeenSo 47 = .ok (.getfield 12, 3) := by decide +kernel
theorem dX6_isAllSeenSo_50 : decode cX6_isAllSeenSo 50 = .ok (.iload_n 2, 1) := by decide +kernel
theorem dX6_isAllSeenSo_51 : decode cX6_isAllSeenSo 51 = .ok (.iconst 2, 1) := by decide +kernel
theorem dX6_isAllSeenSo_52 : decode cX6_isAllSeenSo 52 = .ok (.invokevirtual 218, 3) := by decide +kernel
theorem dX6_isAllSeenSo_55 : decode cX6_isAllSeenSo 55 = .ok (.if_icmp .eq 5, 3) := by decide +kernel
theorem dX6_isAllSeenSo_58 : decode cX6_isAllSeenSo 58 = .ok (.iconst 0, 1) := by decide +kernel
theorem dX6_isAllSeenSo_59 : decode cX6_isAllSeenSo 59 = .ok (.ireturn, 1) := by decide +kernel
theorem dX6_isAllSeenSo_60 : decode cX6_isAllSeenSo 60 = .ok (.iinc 2 1, 3) := by decide +kernel
theorem dX6_isAllSeenSo_63 : decode cX6_isAllSeenSo 63 = .ok (.goto (-61), 3) := by decide +kernel
theorem dX6_isAllSeenSo_66 : decode cX6_isAllSeenSo 66 = .ok (.iconst 1, 1) := by decide +kernel
theorem dX6_isAllSeenSo_67 : decode cX6_isAllSeenSo 67 = .ok (.ireturn, 1) := by decide +kernel
theorem dX6_was_0 : decode cX6_was 0 = .ok (.aload_n 0, 1) := by decide +kernel
theorem dX6_was_1 : decode cX6_was 1 = .ok (.getfield 67, 3) := by decide +kernel
theorem dX6_was_4 : decode cX6_was 4 = .ok (.iload_n 1, 1) := by decide +kernel
theorem dX6_was_5 : decode cX6_was 5 = .ok (.iload_n 2, 1) := by decide +kernel
theorem dX6_was_6 : decode cX6_was 6 = .ok (.invokevirtual 118, 3) := by decide +kernel
theorem dX6_was_9 : decode cX6_was 9 = .ok (.ifCond .eq 12, 3) := by decide +kernel
theorem dX6_was_12 : decode cX6_was 12 = .ok (.iload_n 3, 1) := by decide +kernel
theorem dX6_was_13 : decode cX6_was 13 = .ok (.iconst 0, 1) := by decide +kernel
theorem dX6_was_14 : decode cX6_was 14 = .ok (.iconst 1, 1) := by decide +kernel
theorem dX6_was_15 : decode cX6_was 15 = .ok (.invokestatic 79, 3) := by decide +kernel
theorem dX6_was_18 : decode cX6_was 18 = .ok (.ifCond .ne 5, 3) := by decide +kernel
theorem dX6_was_21 : decode cX6_was 21 = .ok (.iconst (-1), 1) := by decide +kernel
theorem dX6_was_22 : decode cX6_was 22 = .ok (.ireturn, 1) := by decide +kernel
theorem dX6_was_23 : decode cX6_was 23 = .ok (.aload_n 0, 1) := by decide +kernel
theorem dX6_was_24 : decode cX6_was 24 = .ok (.getfield 74, 3) := by decide +kernel
theorem dX6_was_27 : decode cX6_was 27 = .ok (.iconst 0, 1) := by decide +kernel
theorem dX6_was_28 : decode cX6_was 28 = .ok (.aaload, 1) := by decide +kernel
theorem dX6_was_29 : decode cX6_was 29 = .ok (.astore 4, 2) := by decide +kernel
theorem dX6_was_31 : decode cX6_was 31 = .ok (.aload 4, 2) := by decide +kernel
theorem dX6_was_33 : decode cX6_was 33 = .ok (.aload_n 0, 1) := by decide +kernel
theorem dX6_was_34 : decode cX6_was 34 = .ok (.getfield 67, 3) := by decide +kernel
theorem dX6_was_37 : decode cX6_was 37 = .ok (.invokevirtual 194, 3) := by decide +kernel
theorem dX6_was_40 : decode cX6_was 40 = .ok (.iconst 0, 1) := by decide +kernel
theorem dX6_was_41 : decode cX6_was 41 = .ok (.istore 5, 2) := by decide +kernel
theorem dX6_was_43 : decode cX6_was 43 = .ok (.bipush (-5), 2) := by decide +kernel
theorem dX6_was_45 : decode cX6_was 45 = .ok (.istore 6, 2) := by decide +kernel
theorem dX6_was_47 : decode cX6_was 47 = .ok (.bipush 60, 2) := by decide +kernel
theorem dX6_was_49 : decode cX6_was 49 = .ok (.istore 7, 2) := by decide +kernel
theorem dX6_was_51 : decode cX6_was 51 = .ok (.iload 7, 2) := by decide +kernel
theorem dX6_was_53 : decode cX6_was 53 = .ok (.ifCond .lt 34, 3) := by decide +kernel
theorem dX6_was_56 : decode cX6_was 56 = .ok (.aload 4, 2) := by decide +kernel
theorem dX6_was_58 : decode cX6_was 58 = .ok (.iload_n 1, 1) := by decide +kernel
theorem dX6_was_59 : decode cX6_was 59 = .ok (.iload_n 2, 1) := by decide +kernel
theorem dX6_was_60 : decode cX6_was 60 = .ok (.iload 7, 2) := by decide +kernel
theorem dX6_was_62 : decode cX6_was 62 = .ok (.invokevirtual 131, 3) := by decide +kernel
theorem dX6_was_65 : decode cX6_was 65 = .ok (.aload_n 0, 1) := by decide +kernel
theorem dX6_was_66 : decode cX6_was 66 = .ok (.aload 4, 2) := by decide +kernel
theorem dX6_was_68 : decode cX6_was 68 = .ok (.invokevirtual 227, 3) := by decide +kernel
theorem dX6_was_71 : decode cX6_was 71 = .ok (.ifCond .eq 10, 3) := by decide +kernel
theorem dX6_was_74 : decode cX6_was 74 = .ok (.iinc 5 1, 3) := by decide +kernel
theorem dX6_was_77 : decode cX6_was 77 = .ok (.iload 7, 2) := by decide +kernel
theorem dX6_was_79 : decode cX6_was 79 = .ok (.istore 6, 2) := by decide +kernel
theorem dX6_was_81 : decode cX6_was 81 = .ok (.iinc 7 (-1), 3) := by decide +kernel
theorem dX6_was_84 : decode cX6_was 84 = .ok (.goto (-33), 3) := by decide +kernel
theorem dX6_was_87 : decode cX6_was 87 = .ok (.iload_n 3, 1) := by decide +kernel
theorem dX6_was_88 : decode cX6_was 88 = .ok (.ifCond .ne 8, 3) := by decide +kernel
theorem dX6_was_91 : decode cX6_was 91 = .ok (.iload 5, 2) := by decide +kernel
theorem dX6_was_93 : decode cX6_was 93 = .ok (.goto 5, 3) := by decide +kernel
theorem dX6_was_96 : decode cX6_was 96 = .ok (.iload 6, 2) := by decide +kernel
theorem dX6_was_98 : decode cX6_was 98 = .ok (.ireturn, 1) := by decide +kernel
theorem dX6_can_0 : decode cX6_can 0 = .ok (.aload_n 0, 1) := by decide +kernel
theorem dX6_can_1 : decode cX6_can 1 = .ok (.getfield 67, 3) := by decide +kernel
theorem dX6_can_4 : decode cX6_can 4 = .ok (.iload_n 1, 1) := by decide +kernel
theorem dX6_can_5 : decode cX6_can 5 = .ok (.invokevirtual 91, 3) := by decide +kernel
theorem dX6_can_8 : decode cX6_can 8 = .ok (.ifCond .eq 12, 3) := by decide +kernel
theorem dX6_can_11 : decode cX6_can 11 = .ok (.iload_n 2, 1) := by decide +kernel
theorem dX6_can_12 : decode cX6_can 12 = .ok (.iconst 0, 1) := by decide +kernel
theorem dX6_can_13 : decode cX6_can 13 = .ok (.iconst 1, 1) := by decide +kernel
theorem dX6_can_14 : decode cX6_can 14 = .ok (.invokestatic 79, 3) := by decide +kernel
theorem dX6_can_17 : decode cX6_can 17 = .ok (.ifCond .ne 5, 3) := by decide +kernel
theorem dX6_can_20 : decode cX6_can 20 = .ok (.iconst (-1), 1) := by decide +kernel
theorem dX6_can_21 : decode cX6_can 21 = .ok (.ireturn, 1) := by decide +kernel
theorem dX6_can_22 : decode cX6_can 22 = .ok (.aload_n 0, 1) := by decide +kernel
theorem dX6_can_23 : decode cX6_can 23 = .ok (.getfield 74, 3) := by decide +kernel
theorem dX6_can_26 : decode cX6_can 26 = .ok (.iconst 0, 1) := by decide +kernel
theorem dX6_can_27 : decode cX6_can 27 = .ok (.aaload, 1) := by decide +kernel
theorem dX6_can_28 : decode cX6_can 28 = .ok (.astore_n 3, 1) := by decide +kernel
theorem dX6_can_29 : decode cX6_can 29 = .ok (.aload_n 3, 1) := by decide +kernel
theorem dX6_can_30 : decode cX6_can 30 = .ok (.aload_n 0, 1) := by decide +kernel
theorem dX6_can_31 : decode cX6_can 31 = .ok (.getfield 67, 3) := by decide +kernel
theorem dX6_can_34 : decode cX6_can 34 = .ok (.invokevirtual 194, 3) := by decide +kernel
theorem dX6_can_37 : decode cX6_can 37 = .ok (.iconst 0, 1) := by decide +kernel
theorem dX6_can_38 : decode cX6_can 38 = .ok (.istore 4, 2) := by decide +kernel
theorem dX6_can_40 : decode cX6_can 40 = .ok (.bipush (-5), 2) := by decide +kernel
theorem dX6_can_42 : decode cX6_can 42 = .ok (.istore 5, 2) := by decide +kernel
theorem dX6_can_44 : decode cX6_can 44 = .ok (.bipush 9, 2) := by decide +kernel
theorem dX6_can_46 : decode cX6_can 46 = .ok (.istore 6, 2) := by decide +kernel
theorem dX6_can_48 : decode cX6_can 48 = .ok (.iload 6, 2) := by decide +kernel
theorem dX6_can_50 : decode cX6_can 50 = .ok (.ifCond .lt 31, 3) := by decide +kernel
theorem dX6_can_53 : decode cX6_can 53 = .ok (.aload_n 3, 1) := by decide +kernel
theorem dX6_can_54 : decode cX6_can 54 = .ok (.iload_n 1, 1) := by decide +kernel
theorem dX6_can_55 : decode cX6_can 55 = .ok (.iload 6, 2) := by decide +kernel
theorem dX6_can_57 : decode cX6_can 57 = .ok (.invokevirtual 231, 3) := by decide +kernel
theorem dX6_can_60 : decode cX6_can 60 = .ok (.aload_n 0, 1) := by decide +kernel
theorem dX6_can_61 : decode cX6_can 61 = .ok (.aload_n 3, 1) := by decide +kernel
theorem dX6_can_62 : decode cX6_can 62 = .ok (.invokevirtual 227, 3) := by decide +kernel
theorem dX6_can_65 : decode cX6_can 65 = .ok (.ifCond .eq 10, 3) := by decide +kernel
theorem dX6_can_68 : decode cX6_can 68 = .ok (.iinc 4 1, 3) := by decide +kernel
theorem dX6_can_71 : decode cX6_can 71 = .ok (.iload 6, 2) := by decide +kernel
theorem dX6_can_73 : decode cX6_can 73 = .ok (.istore 5, 2) := by decide +kernel
theorem dX6_can_75 : decode cX6_can 75 = .ok (.iinc 6 (-1), 3) := by decide +kernel
theorem dX6_can_78 : decode cX6_can 78 = .ok (.goto (-30), 3) := by decide +kernel
theorem dX6_can_81 : decode cX6_can 81 = .ok (.iload_n 2, 1) := by decide +kernel
theorem dX6_can_82 : decode cX6_can 82 = .ok (.ifCond .ne 8, 3) := by decide +kernel
theorem dX6_can_85 : decode cX6_can 85 = .ok (.iload 4, 2) := by decide +kernel
theorem dX6_can_87 : decode cX6_can 87 = .ok (.goto 5, 3) := by decide +kernel
theorem dX6_can_90 : decode cX6_can 90 = .ok (.iload 5, 2) := by decide +kernel
theorem dX6_can_92 : decode cX6_can 92 = .ok (.ireturn, 1) := by decide +kernel
theorem dX6_odds_0 : decode cX6_odds 0 = .ok (.iload_n 1, 1) := by decide +kernel
theorem dX6_odds_1 : decode cX6_odds 1 = .ok (.iconst 0, 1) := by decide +kernel
theorem dX6_odds_2 : decode cX6_odds 2 = .ok (.sipush 999, 3) := by decide +kernel
theorem dX6_odds_5 : decode cX6_odds 5 = .ok (.invokestatic 79, 3) := by decide +kernel
theorem dX6_odds_8 : decode cX6_odds 8 = .ok (.ifCond .eq 23, 3) := by decide +kernel
theorem dX6_odds_11 : decode cX6_odds 11 = .ok (.iload_n 2, 1) := by decide +kernel
theorem dX6_odds_12 : decode cX6_odds 12 = .ok (.iconst 0, 1) := by decide +kernel
theorem dX6_odds_13 : decode cX6_odds 13 = .ok (.iconst 1, 1) := by decide +kernel
theorem dX6_odds_14 : decode cX6_odds 14 = .ok (.invokestatic 79, 3) := by decide +kernel
theorem dX6_odds_17 : decode cX6_odds 17 = .ok (.ifCond .eq 14, 3) := by decide +kernel
theorem dX6_odds_20 : decode cX6_odds 20 = .ok (.aload_n 0, 1) := by decide +kernel
theorem dX6_odds_21 : decode cX6_odds 21 = .ok (.getfield 67, 3) := by decide +kernel
theorem dX6_odds_24 : decode cX6_odds 24 = .ok (.getfield 83, 3) := by decide +kernel
theorem dX6_odds_27 : decode cX6_odds 27 = .ok (.iconst 2, 1) := by decide +kernel
theorem dX6_odds_28 : decode cX6_odds 28 = .ok (.if_icmp .ge 7, 3) := by decide +kernel
theorem dX6_odds_31 : decode cX6_odds 31 = .ok (.ldc2_w 235, 3) := by decide +kernel
theorem dX6_odds_34 : decode cX6_odds 34 = .ok (.lreturn, 1) := by decide +kernel
theorem dX6_odds_35 : decode cX6_odds 35 = .ok (.iconst 0, 1) := by decide +kernel
theorem dX6_odds_36 : decode cX6_odds 36 = .ok (.istore_n 3, 1) := by decide +kernel
theorem dX6_odds_37 : decode cX6_odds 37 = .ok (.iconst 0, 1) := by decide +kernel
theorem dX6_odds_38 : decode cX6_odds 38 = .ok (.istore 4, 2) := by decide +kernel
theorem dX6_odds_40 : decode cX6_odds 40 = .ok (.iconst 0, 1) := by decide +kernel
theorem dX6_odds_41 : decode cX6_odds 41 = .ok (.istore 5, 2) := by decide +kernel
theorem dX6_odds_43 : decode cX6_odds 43 = .ok (.iload 5, 2) := by decide +kernel
theorem dX6_odds_45 : decode cX6_odds 45 = .ok (.aload_n 0, 1) := by decide +kernel
theorem dX6_odds_46 : decode cX6_odds 46 = .ok (.getfield 67, 3) := by decide +kernel
theorem dX6_odds_49 : decode cX6_odds 49 = .ok (.getfield 83, 3) := by decide +kernel
theorem dX6_odds_52 : decode cX6_odds 52 = .ok (.if_icmp .ge 54, 3) := by decide +kernel
theorem dX6_odds_55 : decode cX6_odds 55 = .ok (.iload 5, 2) := by decide +kernel
theorem dX6_odds_57 : decode cX6_odds 57 = .ok (.iconst 1, 1) := by decide +kernel
theorem dX6_odds_58 : decode cX6_odds 58 = .ok (.iadd, 1) := by decide +kernel
theorem dX6_odds_59 : decode cX6_odds 59 = .ok (.istore 6, 2) := by decide +kernel
theorem dX6_odds_61 : decode cX6_odds 61 = .ok (.iload 6, 2) := by decide +kernel
theorem dX6_odds_63 : decode cX6_odds 63 = .ok (.aload_n 0, 1) := by decide +kernel
theorem dX6_odds_64 : decode cX6_odds 64 = .ok (.getfield 67, 3) := by decide +kernel
theorem dX6_odds_67 : decode cX6_odds 67 = .ok (.getfield 83, 3) := by decide +kernel
theorem dX6_odds_70 : decode cX6_odds 70 = .ok (.if_icmp .ge 30, 3) := by decide +kernel
theorem dX6_odds_73 : decode cX6_odds 73 = .ok (.iinc 3 1, 3) := by decide +kernel
theorem dX6_odds_76 : decode cX6_odds 76 = .ok (.aload_n 0, 1) := by decide +kernel
theorem dX6_odds_77 : decode cX6_odds 77 = .ok (.iload 5, 2) := by decide +kernel
theorem dX6_odds_79 : decode cX6_odds 79 = .ok (.iload 6, 2) := by decide +kernel
theorem dX6_odds_81 : decode cX6_odds 81 = .ok (.invokevirtual 202, 3) := by decide +kernel
theorem dX6_odds_84 : decode cX6_odds 84 = .ok (.invokevirtual 184, 3) := by decide +kernel
theorem dX6_odds_87 : decode cX6_odds 87 = .ok (.iload_n 1, 1) := by decide +kernel
theorem dX6_odds_88 : decode cX6_odds 88 = .ok (.if_icmp .lt 6, 3) := by decide +kernel
theorem dX6_odds_91 : decode cX6_odds 91 = .ok (.iinc 4 1, 3) := by decide +kernel
theorem dX6_odds_94 : decode cX6_odds 94 = .ok (.iinc 6 1, 3) := by decide +kernel
theorem dX6_odds_97 : decode cX6_odds 97 = .ok (.goto (-36), 3) := by decide +kernel
theorem dX6_odds_100 : decode cX6_odds 100 = .ok (.iinc 5 1, 3) := by decide +kernel
theorem dX6_odds_103 : decode cX6_odds 103 = .ok (.goto (-60), 3) := by decide +kernel
theorem dX6_odds_106 : decode cX6_odds 106 = .ok (.iload 4, 2) := by decide +kernel
theorem dX6_odds_108 : decode cX6_odds 108 = .ok (.iload_n 3, 1) := by decide +kernel
theorem dX6_odds_109 : decode cX6_odds 109 = .ok (.iload_n 2, 1) := by decide +kernel
theorem dX6_odds_110 : decode cX6_odds 110 = .ok (.invokestatic 237, 3) := by decide +kernel
theorem dX6_odds_113 : decode cX6_odds 113 = .ok (.i2l, 1) := by decide +kernel
theorem dX6_odds_114 : decode cX6_odds 114 = .ok (.lreturn, 1) := by decide +kernel
theorem dX6_mean_0 : decode cX6_mean 0 = .ok (.iload_n 1, 1) := by decide +kernel
theorem dX6_mean_1 : decode cX6_mean 1 = .ok (.iconst 0, 1) := by decide +kernel
theorem dX6_mean_2 : decode cX6_mean 2 = .ok (.bipush 60, 2) := by decide +kernel
theorem dX6_mean_4 : decode cX6_mean 4 = .ok (.invokestatic 79, 3) := by decide +kernel
theorem dX6_mean_7 : decode cX6_mean 7 = .ok (.ifCond .eq 23, 3) := by decide +kernel
theorem dX6_mean_10 : decode cX6_mean 10 = .ok (.iload_n 2, 1) := by decide +kernel
theorem dX6_mean_11 : decode cX6_mean 11 = .ok (.iconst 0, 1) := by decide +kernel
theorem dX6_mean_12 : decode cX6_mean 12 = .ok (.iconst 1, 1) := by decide +kernel
theorem dX6_mean_13 : decode cX6_mean 13 = .ok (.invokestatic 79, 3) := by decide +kernel
theorem dX6_mean_16 : decode cX6_mean 16 = .ok (.ifCond .eq 14, 3) := by decide +kernel
theorem dX6_mean_19 : decode cX6_mean 19 = .ok (.aload_n 0, 1) := by decide +kernel
theorem dX6_mean_20 : decode cX6_mean 20 = .ok (.getfield 67, 3) := by decide +kernel
theorem dX6_mean_23 : decode cX6_mean 23 = .ok (.getfield 83, 3) := by decide +kernel
theorem dX6_mean_26 : decode cX6_mean 26 = .ok (.iconst 1, 1) := by decide +kernel
theorem dX6_mean_27 : decode cX6_mean 27 = .ok (.if_icmp .ge 7, 3) := by decide +kernel
theorem dX6_mean_30 : decode cX6_mean 30 = .ok (.ldc2_w 235, 3) := by decide +kernel
theorem dX6_mean_33 : decode cX6_mean 33 = .ok (.lreturn, 1) := by decide +kernel
theorem dX6_mean_34 : decode cX6_mean 34 = .ok (.aload_n 0, 1) := by decide +kernel
theorem dX6_mean_35 : decode cX6_mean 35 = .ok (.getfield 74, 3) := by decide +kernel
theorem dX6_mean_38 : decode cX6_mean 38 = .ok (.iconst 0, 1) := by decide +kernel
theorem dX6_mean_39 : decode cX6_mean 39 = .ok (.aaload, 1) := by decide +kernel
theorem dX6_mean_40 : decode cX6_mean 40 = .ok (.astore_n 3, 1) := by decide +kernel
theorem dX6_mean_41 : decode cX6_mean 41 = .ok (.aload_n 3, 1) := by decide +kernel
theorem dX6_mean_42 : decode cX6_mean 42 = .ok (.aload_n 0, 1) := by decide +kernel
theorem dX6_mean_43 : decode cX6_mean 43 = .ok (.getfield 67, 3) := by decide +kernel
theorem dX6_mean_46 : decode cX6_mean 46 = .ok (.invokevirtual 194, 3) := by decide +kernel
theorem dX6_mean_49 : decode cX6_mean 49 = .ok (.aload_n 3, 1) := by decide +kernel
theorem dX6_mean_50 : decode cX6_mean 50 = .ok (.iload_n 1, 1) := by decide +kernel
theorem dX6_mean_51 : decode cX6_mean 51 = .ok (.invokevirtual 190, 3) := by decide +kernel
theorem dX6_mean_54 : decode cX6_mean 54 = .ok (.aload_n 3, 1) := by decide +kernel
theorem dX6_mean_55 : decode cX6_mean 55 = .ok (.invokevirtual 184, 3) := by decide +kernel
theorem dX6_mean_58 : decode cX6_mean 58 = .ok (.aload_n 0, 1) := by decide +kernel
theorem dX6_mean_59 : decode cX6_mean 59 = .ok (.getfield 67, 3) := by decide +kernel
theorem dX6_mean_62 : decode cX6_mean 62 = .ok (.getfield 83, 3) := by decide +kernel
theorem dX6_mean_65 : decode cX6_mean 65 = .ok (.iload_n 2, 1) := by decide +kernel
theorem dX6_mean_66 : decode cX6_mean 66 = .ok (.invokestatic 237, 3) := by decide +kernel
theorem dX6_mean_69 : decode cX6_mean 69 = .ok (.i2l, 1) := by decide +kernel
theorem dX6_mean_70 : decode cX6_mean 70 = .ok (.lreturn, 1) := by decide +kernel
theorem dX6_lowestTerm_0 : decode cX6_lowestTerm 0 = .ok (.iload_n 0, 1) := by decide +kernel
theorem dX6_lowestTerm_1 : decode cX6_lowestTerm 1 = .ok (.istore_n 3, 1) := by decide +kernel
theorem dX6_lowestTerm_2 : decode cX6_lowestTerm 2 = .ok (.iload_n 1, 1) := by decide +kernel
theorem dX6_lowestTerm_3 : decode cX6_lowestTerm 3 = .ok (.istore 4, 2) := by decide +kernel
theorem dX6_lowestTerm_5 : decode cX6_lowestTerm 5 = .ok (.iconst 0, 1) := by decide +kernel
theorem dX6_lowestTerm_6 : decode cX6_lowestTerm 6 = .ok (.istore 5, 2) := by decide +kernel
theorem dX6_lowestTerm_8 : decode cX6_lowestTerm 8 = .ok (.iload 5, 2) := by decide +kernel
theorem dX6_lowestTerm_10 : decode cX6_lowestTerm 10 = .ok (.sipush 1000, 3) := by decide +kernel
theorem dX6_lowestTerm_13 : decode cX6_lowestTerm 13 = .ok (.if_icmp .ge 27, 3) := by decide +kernel
theorem dX6_lowestTerm_16 : decode cX6_lowestTerm 16 = .ok (.iload 4, 2) := by decide +kernel
theorem dX6_lowestTerm_18 : decode cX6_lowestTerm 18 = .ok (.ifCond .eq 22, 3) := by decide +kernel
theorem dX6_lowestTerm_21 : decode cX6_lowestTerm 21 = .ok (.iload_n 3, 1) := by decide +kernel
theorem dX6_lowestTerm_22 : decode cX6_lowestTerm 22 = .ok (.iload 4, 2) := by decide +kernel
theorem dX6_lowestTerm_24 : decode cX6_lowestTerm 24 = .ok (.irem, 1) := by decide +kernel
theorem dX6_lowestTerm_25 : decode cX6_lowestTerm 25 = .ok (.istore 6, 2) := by decide +kernel
theorem dX6_lowestTerm_27 : decode cX6_lowestTerm 27 = .ok (.iload 4, 2) := by decide +kernel
theorem dX6_lowestTerm_29 : decode cX6_lowestTerm 29 = .ok (.istore_n 3, 1) := by decide +kernel
theorem dX6_lowestTerm_30 : decode cX6_lowestTerm 30 = .ok (.iload 6, 2) := by decide +kernel
theorem dX6_lowestTerm_32 : decode cX6_lowestTerm 32 = .ok (.istore 4, 2) := by decide +kernel
theorem dX6_lowestTerm_34 : decode cX6_lowestTerm 34 = .ok (.iinc 5 1, 3) := by decide +kernel
theorem dX6_lowestTerm_37 : decode cX6_lowestTerm 37 = .ok (.goto (-29), 3) := by decide +kernel
theorem dX6_lowestTerm_40 : decode cX6_lowestTerm 40 = .ok (.iload_n 2, 1) := by decide +kernel
theorem dX6_lowestTerm_41 : decode cX6_lowestTerm 41 = .ok (.ifCond .ne 7, 3) := by decide +kernel
theorem dX6_lowestTerm_44 : decode cX6_lowestTerm 44 = .ok (.iload_n 0, 1) := by decide +kernel
theorem dX6_lowestTerm_45 : decode cX6_lowestTerm 45 = .ok (.goto 4, 3) := by decide +kernel
theorem dX6_lowestTerm_48 : decode cX6_lowestTerm 48 = .ok (.iload_n 1, 1) := by decide +kernel
theorem dX6_lowestTerm_49 : decode cX6_lowestTerm 49 = .ok (.istore 5, 2) := by decide +kernel
theorem dX6_lowestTerm_51 : decode cX6_lowestTerm 51 = .ok (.iload_n 3, 1) := by decide +kernel
theorem dX6_lowestTerm_52 : decode cX6_lowestTerm 52 = .ok (.ifCond .ne 8, 3) := by decide +kernel
theorem dX6_lowestTerm_55 : decode cX6_lowestTerm 55 = .ok (.iload 5, 2) := by decide +kernel
theorem dX6_lowestTerm_57 : decode cX6_lowestTerm 57 = .ok (.goto 7, 3) := by decide +kernel
theorem dX6_lowestTerm_60 : decode cX6_lowestTerm 60 = .ok (.iload 5, 2) := by decide +kernel
theorem dX6_lowestTerm_62 : decode cX6_lowestTerm 62 = .ok (.iload_n 3, 1) := by decide +kernel
theorem dX6_lowestTerm_63 : decode cX6_lowestTerm 63 = .ok (.idiv, 1) := by decide +kernel
theorem dX6_lowestTerm_64 : decode cX6_lowestTerm 64 = .ok (.ireturn, 1) := by decide +kernel
theorem dX6_fair_0 : decode cX6_fair 0 = .ok (.iload_n 1, 1) := by decide +kernel
theorem dX6_fair_1 : decode cX6_fair 1 = .ok (.iconst (-1), 1) := by decide +kernel
theorem dX6_fair_2 : decode cX6_fair 2 = .ok (.if_icmp .ne 11, 3) := by decide +kernel
theorem dX6_fair_5 : decode cX6_fair 5 = .ok (.aload_n 0, 1) := by decide +kernel
theorem dX6_fair_6 : decode cX6_fair 6 = .ok (.getfield 18, 3) := by decide +kernel
theorem dX6_fair_9 : decode cX6_fair 9 = .ok (.invokevirtual 206, 3) := by decide +kernel
theorem dX6_fair_12 : decode cX6_fair 12 = .ok (.ireturn, 1) := by decide +kernel
theorem dX6_fair_13 : decode cX6_fair 13 = .ok (.iload_n 1, 1) := by decide +kernel
theorem dX6_fair_14 : decode cX6_fair 14 = .ok (.iconst 5, 1) := by decide +kernel
theorem dX6_fair_15 : decode cX6_fair 15 = .ok (.if_icmp .eq 35, 3) := by decide +kernel
theorem dX6_fair_18 : decode cX6_fair 18 = .ok (.aload_n 0, 1) := by decide +kernel
theorem dX6_fair_19 : decode cX6_fair 19 = .ok (.getfield 67, 3) := by decide +kernel
theorem dX6_fair_22 : decode cX6_fair 22 = .ok (.iload_n 1, 1) := by decide +kernel
theorem dX6_fair_23 : decode cX6_fair 23 = .ok (.invokevirtual 91, 3) := by decide +kernel
theorem dX6_fair_26 : decode cX6_fair 26 = .ok (.ifCond .eq 14, 3) := by decide +kernel
theorem dX6_fair_29 : decode cX6_fair 29 = .ok (.aload_n 0, 1) := by decide +kernel
theorem dX6_fair_30 : decode cX6_fair 30 = .ok (.getfield 67, 3) := by decide +kernel
theorem dX6_fair_33 : decode cX6_fair 33 = .ok (.iload_n 2, 1) := by decide +kernel
theorem dX6_fair_34 : decode cX6_fair 34 = .ok (.invokevirtual 91, 3) := by decide +kernel
theorem dX6_fair_37 : decode cX6_fair 37 = .ok (.ifCond .ne 5, 3) := by decide +kernel
theorem dX6_fair_40 : decode cX6_fair 40 = .ok (.iconst (-1), 1) := by decide +kernel
theorem dX6_fair_41 : decode cX6_fair 41 = .ok (.ireturn, 1) := by decide +kernel
theorem dX6_fair_42 : decode cX6_fair 42 = .ok (.iload_n 1, 1) := by decide +kernel
theorem dX6_fair_43 : decode cX6_fair 43 = .ok (.iload_n 2, 1) := by decide +kernel
theorem dX6_fair_44 : decode cX6_fair 44 = .ok (.if_icmp .ne 6, 3) := by decide +kernel
theorem dX6_fair_47 : decode cX6_fair 47 = .ok (.bipush (-2), 2) := by decide +kernel
theorem dX6_fair_49 : decode cX6_fair 49 = .ok (.ireturn, 1) := by decide +kernel
theorem dX6_fair_50 : decode cX6_fair 50 = .ok (.aload_n 0, 1) := by decide +kernel
theorem dX6_fair_51 : decode cX6_fair 51 = .ok (.getfield 18, 3) := by decide +kernel
theorem dX6_fair_54 : decode cX6_fair 54 = .ok (.getfield 208, 3) := by decide +kernel
theorem dX6_fair_57 : decode cX6_fair 57 = .ok (.bipush 10, 2) := by decide +kernel
theorem dX6_fair_59 : decode cX6_fair 59 = .ok (.if_icmp .lt 6, 3) := by decide +kernel
theorem dX6_fair_62 : decode cX6_fair 62 = .ok (.bipush (-4), 2) := by decide +kernel
theorem dX6_fair_64 : decode cX6_fair 64 = .ok (.ireturn, 1) := by decide +kernel
theorem dX6_fair_65 : decode cX6_fair 65 = .ok (.aload_n 0, 1) := by decide +kernel
theorem dX6_fair_66 : decode cX6_fair 66 = .ok (.getfield 18, 3) := by decide +kernel
theorem dX6_fair_69 : decode cX6_fair 69 = .ok (.iload_n 1, 1) := by decide +kernel
theorem dX6_fair_70 : decode cX6_fair 70 = .ok (.iload_n 2, 1) := by decide +kernel
theorem dX6_fair_71 : decode cX6_fair 71 = .ok (.iconst 0, 1) := by decide +kernel
theorem dX6_fair_72 : decode cX6_fair 72 = .ok (.iconst 0, 1) := by decide +kernel
theorem dX6_fair_73 : decode cX6_fair 73 = .ok (.invokevirtual 211, 3) := by decide +kernel
theorem dX6_fair_76 : decode cX6_fair 76 = .ok (.ireturn, 1) := by decide +kernel
theorem dX6_ends_0 : decode cX6_ends 0 = .ok (.iload_n 1, 1) := by decide +kernel
theorem dX6_ends_1 : decode cX6_ends 1 = .ok (.iconst 0, 1) := by decide +kernel
theorem dX6_ends_2 : decode cX6_ends 2 = .ok (.iconst 1, 1) := by decide +kernel
theorem dX6_ends_3 : decode cX6_ends 3 = .ok (.invokestatic 79, 3) := by decide +kernel
theorem dX6_ends_6 : decode cX6_ends 6 = .ok (.ifCond .ne 5, 3) := by decide +kernel
theorem dX6_ends_9 : decode cX6_ends 9 = .ok (.iconst (-1), 1) := by decide +kernel
theorem dX6_ends_10 : decode cX6_ends 10 = .ok (.ireturn, 1) := by decide +kernel
theorem dX6_ends_11 : decode cX6_ends 11 = .ok (.aload_n 0, 1) := by decide +kernel
theorem dX6_ends_12 : decode cX6_ends 12 = .ok (.getfield 74, 3) := by decide +kernel
theorem dX6_ends_15 : decode cX6_ends 15 = .ok (.iconst 0, 1) := by decide +kernel
theorem dX6_ends_16 : decode cX6_ends 16 = .ok (.aaload, 1) := by decide +kernel
theorem dX6_ends_17 : decode cX6_ends 17 = .ok (.astore_n 2, 1) := by decide +kernel
theorem dX6_ends_18 : decode cX6_ends 18 = .ok (.aload_n 2, 1) := by decide +kernel
theorem dX6_ends_19 : decode cX6_ends 19 = .ok (.aload_n 0, 1) := by decide +kernel
theorem dX6_ends_20 : decode cX6_ends 20 = .ok (.getfield 67, 3) := by decide +kernel
theorem dX6_ends_23 : decode cX6_ends 23 = .ok (.invokevirtual 194, 3) := by decide +kernel
theorem dX6_ends_26 : decode cX6_ends 26 = .ok (.iconst 0, 1) := by decide +kernel
theorem dX6_ends_27 : decode cX6_ends 27 = .ok (.istore_n 3, 1) := by decide +kernel
theorem dX6_ends_28 : decode cX6_ends 28 = .ok (.iload_n 3, 1) := by decide +kernel
theorem dX6_ends_29 : decode cX6_ends 29 = .ok (.aload_n 0, 1) := by decide +kernel
theorem dX6_ends_30 : decode cX6_ends 30 = .ok (.getfield 18, 3) := by decide +kernel
theorem dX6_ends_33 : decode cX6_ends 33 = .ok (.getfield 208, 3) := by decide +kernel
theorem dX6_ends_36 : decode cX6_ends 36 = .ok (.if_icmp .ge 53, 3) := by decide +kernel
theorem dX6_ends_39 : decode cX6_ends 39 = .ok (.aload_n 0, 1) := by decide +kernel
theorem dX6_ends_40 : decode cX6_ends 40 = .ok (.getfield 18, 3) := by decide +kernel
theorem dX6_ends_43 : decode cX6_ends 43 = .ok (.iload_n 3, 1) := by decide +kernel
theorem dX6_ends_44 : decode cX6_ends 44 = .ok (.iconst 0, 1) := by decide +kernel
theorem dX6_ends_45 : decode cX6_ends 45 = .ok (.invokevirtual 218, 3) := by decide +kernel
theorem dX6_ends_48 : decode cX6_ends 48 = .ok (.iconst 5, 1) := by decide +kernel
theorem dX6_ends_49 : decode cX6_ends 49 = .ok (.if_icmp .ne 11, 3) := by decide +kernel
theorem dX6_ends_52 : decode cX6_ends 52 = .ok (.aload_n 2, 1) := by decide +kernel
theorem dX6_ends_53 : decode cX6_ends 53 = .ok (.iconst 1, 1) := by decide +kernel
theorem dX6_ends_54 : decode cX6_ends 54 = .ok (.invokevirtual 190, 3) := by decide +kernel
theorem dX6_ends_57 : decode cX6_ends 57 = .ok (.goto 26, 3) := by decide +kernel
theorem dX6_ends_60 : decode cX6_ends 60 = .ok (.aload_n 2, 1) := by decide +kernel
theorem dX6_ends_61 : decode cX6_ends 61 = .ok (.aload_n 0, 1) := by decide +kernel
theorem dX6_ends_62 : decode cX6_ends 62 = .ok (.getfield 18, 3) := by decide +kernel
theorem dX6_ends_65 : decode cX6_ends 65 = .ok (.iload_n 3, 1) := by decide +kernel
theorem dX6_ends_66 : decode cX6_ends 66 = .ok (.iconst 0, 1) := by decide +kernel
theorem dX6_ends_67 : decode cX6_ends 67 = .ok (.invokevirtual 218, 3) := by decide +kernel
theorem dX6_ends_70 : decode cX6_ends 70 = .ok (.aload_n 0, 1) := by decide +kernel
theorem dX6_ends_71 : decode cX6_ends 71 = .ok (.getfield 18, 3) := by decide +kernel
theorem dX6_ends_74 : decode cX6_ends 74 = .ok (.iload_n 3, 1) := by decide +kernel
theorem dX6_ends_75 : decode cX6_ends 75 = .ok (.iconst 1, 1) := by decide +kernel
theorem dX6_ends_76 : decode cX6_ends 76 = .ok (.invokevirtual 218, 3) := by decide +kernel
theorem dX6_ends_79 : decode cX6_ends 79 = .ok (.invokevirtual 147, 3) := by decide +kernel
theorem dX6_ends_82 : decode cX6_ends 82 = .ok (.pop, 1) := by decide +kernel
theorem dX6_ends_83 : decode cX6_ends 83 = .ok (.iinc 3 1, 3) := by decide +kernel
theorem dX6_ends_86 : decode cX6_ends 86 = .ok (.goto (-58), 3) := by decide +kernel
theorem dX6_ends_89 : decode cX6_ends 89 = .ok (.iload_n 1, 1) := by decide +kernel
theorem dX6_ends_90 : decode cX6_ends 90 = .ok (.ifCond .ne 10, 3) := by decide +kernel
theorem dX6_ends_93 : decode cX6_ends 93 = .ok (.aload_n 2, 1) := by decide +kernel
theorem dX6_ends_94 : decode cX6_ends 94 = .ok (.invokevirtual 184, 3) := by decide +kernel
theorem dX6_ends_97 : decode cX6_ends 97 = .ok (.goto 7, 3) := by decide +kernel
theorem dX6_ends_100 : decode cX6_ends 100 = .ok (.aload_n 2, 1) := by decide +kernel
theorem dX6_ends_101 : decode cX6_ends 101 = .ok (.invokevirtual 187, 3) := by decide +kernel
theorem dX6_ends_104 : decode cX6_ends 104 = .ok (.ireturn, 1) := by decide +kernel
theorem dX6_judge_0 : decode cX6_judge 0 = .ok (.iload_n 1, 1) := by decide +kernel
theorem dX6_judge_1 : decode cX6_judge 1 = .ok (.invokestatic 240, 3) := by decide +kernel
theorem dX6_judge_4 : decode cX6_judge 4 = .ok (.ifCond .ne 5, 3) := by decide +kernel
theorem dX6_judge_7 : decode cX6_judge 7 = .ok (.iconst (-1), 1) := by decide +kernel
theorem dX6_judge_8 : decode cX6_judge 8 = .ok (.ireturn, 1) := by decide +kernel
theorem dX6_judge_9 : decode cX6_judge 9 = .ok (.aload_n 0, 1) := by decide +kernel
theorem dX6_judge_10 : decode cX6_judge 10 = .ok (.getfield 53, 3) := by decide +kernel
theorem dX6_judge_13 : decode cX6_judge 13 = .ok (.iload_n 1, 1) := by decide +kernel
theorem dX6_judge_14 : decode cX6_judge 14 = .ok (.aaload, 1) := by decide +kernel
theorem dX6_judge_15 : decode cX6_judge 15 = .ok (.astore_n 3, 1) := by decide +kernel
theorem dX6_judge_16 : decode cX6_judge 16 = .ok (.aload_n 3, 1) := by decide +kernel
theorem dX6_judge_17 : decode cX6_judge 17 = .ok (.invokevirtual 243, 3) := by decide +kernel
theorem dX6_judge_20 : decode cX6_judge 20 = .ok (.ifCond .ne 13, 3) := by decide +kernel
theorem dX6_judge_23 : decode cX6_judge 23 = .ok (.aload_n 3, 1) := by decide +kernel
theorem dX6_judge_24 : decode cX6_judge 24 = .ok (.getfield 246, 3) := by decide +kernel
theorem dX6_judge_27 : decode cX6_judge 27 = .ok (.ifCond .eq 6, 3) := by decide +kernel
theorem dX6_judge_30 : decode cX6_judge 30 = .ok (.bipush (-12), 2) := by decide +kernel
theorem dX6_judge_32 : decode cX6_judge 32 = .ok (.ireturn, 1) := by decide +kernel
theorem dX6_judge_33 : decode cX6_judge 33 = .ok (.iconst 0, 1) := by decide +kernel
theorem dX6_judge_34 : decode cX6_judge 34 = .ok (.istore 4, 2) := by decide +kernel
theorem dX6_judge_36 : decode cX6_judge 36 = .ok (.iload 4, 2) := by decide +kernel
theorem dX6_judge_38 : decode cX6_judge 38 = .ok (.aload_n 0, 1) := by decide +kernel
theorem dX6_judge_39 : decode cX6_judge 39 = .ok (.getfield 67, 3) := by decide +kernel
theorem dX6_judge_42 : decode cX6_judge 42 = .ok (.getfield 83, 3) := by decide +kernel
theorem dX6_judge_45 : decode cX6_judge 45 = .ok (.iconst 3, 1) := by decide +kernel
theorem dX6_judge_46 : decode cX6_judge 46 = .ok (.imul, 1) := by decide +kernel
theorem dX6_judge_47 : decode cX6_judge 47 = .ok (.if_icmp .ge 61, 3) := by decide +kernel
theorem dX6_judge_50 : decode cX6_judge 50 = .ok (.iload_n 2, 1) := by decide +kernel
theorem dX6_judge_51 : decode cX6_judge 51 = .ok (.ifCond .lt 14, 3) := by decide +kernel
theorem dX6_judge_54 : decode cX6_judge 54 = .ok (.aload_n 3, 1) := by decide +kernel
theorem dX6_judge_55 : decode cX6_judge 55 = .ok (.iload_n 2, 1) := by decide +kernel
theorem dX6_judge_56 : decode cX6_judge 56 = .ok (.iload 4, 2) := by decide +kernel
theorem dX6_judge_58 : decode cX6_judge 58 = .ok (.iadd, 1) := by decide +kernel
theorem dX6_judge_59 : decode cX6_judge 59 = .ok (.invokevirtual 249, 3) := by decide +kernel
theorem dX6_judge_62 : decode cX6_judge 62 = .ok (.ifCond .ne 9, 3) := by decide +kernel
theorem dX6_judge_65 : decode cX6_judge 65 = .ok (.bipush 100, 2) := by decide +kernel
theorem dX6_judge_67 : decode cX6_judge 67 = .ok (.iload 4, 2) := by decide +kernel
theorem dX6_judge_69 : decode cX6_judge 69 = .ok (.iadd, 1) := by decide +kernel
theorem dX6_judge_70 : decode cX6_judge 70 = .ok (.ireturn, 1) := by decide +kernel
theorem dX6_judge_71 : decode cX6_judge 71 = .ok (.aload_n 3, 1) := by decide +kernel
theorem dX6_judge_72 : decode cX6_judge 72 = .ok (.iload_n 2, 1) := by decide +kernel
theorem dX6_judge_73 : decode cX6_judge 73 = .ok (.iload 4, 2) := by decide +kernel
theorem dX6_judge_75 : decode cX6_judge 75 = .ok (.iadd, 1) := by decide +kernel
theorem dX6_judge_76 : decode cX6_judge 76 = .ok (.invokevirtual 252, 3) := by decide +kernel
theorem dX6_judge_79 : decode cX6_judge 79 = .ok (.aload_n 0, 1) := by decide +kernel
theorem dX6_judge_80 : decode cX6_judge 80 = .ok (.getfield 67, 3) := by decide +kernel
theorem dX6_judge_83 : decode cX6_judge 83 = .ok (.iload 4, 2) := by decide +kernel
theorem dX6_judge_85 : decode cX6_judge 85 = .ok (.iconst 3, 1) := by decide +kernel
theorem dX6_judge_86 : decode cX6_judge 86 = .ok (.idiv, 1) := by decide +kernel
theorem dX6_judge_87 : decode cX6_judge 87 = .ok (.iload 4, 2) := by decide +kernel
theorem dX6_judge_89 : decode cX6_judge 89 = .ok (.iconst 3, 1) := by decide +kernel
theorem dX6_judge_90 : decode cX6_judge 90 = .ok (.irem, 1) := by decide +kernel
theorem dX6_judge_91 : decode cX6_judge 91 = .ok (.invokevirtual 122, 3) := by decide +kernel
theorem dX6_judge_94 : decode cX6_judge 94 = .ok (.i2l, 1) := by decide +kernel
theorem dX6_judge_95 : decode cX6_judge 95 = .ok (.lcmp, 1) := by decide +kernel
theorem dX6_judge_96 : decode cX6_judge 96 = .ok (.ifCond .eq 6, 3) := by decide +kernel
theorem dX6_judge_99 : decode cX6_judge 99 = .ok (.iload 4, 2) := by decide +kernel
theorem dX6_judge_101 : decode cX6_judge 101 = .ok (.ireturn, 1) := by decide +kernel
theorem dX6_judge_102 : decode cX6_judge 102 = .ok (.iinc 4 1, 3) := by decide +kernel
theorem dX6_judge_105 : decode cX6_judge 105 = .ok (.goto (-69), 3) := by decide +kernel
theorem dX6_judge_108 : decode cX6_judge 108 = .ok (.bipush (-5), 2) := by decide +kernel
theorem dX6_judge_110 : decode cX6_judge 110 = .ok (.ireturn, 1) := by decide +kernel
theorem dX6_image_0 : decode cX6_image 0 = .ok (.aload_n 0, 1) := by decide +kernel
theorem dX6_image_1 : decode cX6_image 1 = .ok (.getfield 71, 3) := by decide +kernel
theorem dX6_image_4 : decode cX6_image 4 = .ok (.aload_n 0, 1) := by decide +kernel
theorem dX6_image_5 : decode cX6_image 5 = .ok (.getfield 67, 3) := by decide +kernel
theorem dX6_image_8 : decode cX6_image 8 = .ok (.invokevirtual 194, 3) := by decide +kernel
theorem dX6_image_11 : decode cX6_image 11 = .ok (.aload_n 0, 1) := by decide +kernel
theorem dX6_image_12 : decode cX6_image 12 = .ok (.getfield 24, 3) := by decide +kernel
theorem dX6_image_15 : decode cX6_image 15 = .ok (.aload_n 0, 1) := by decide +kernel
theorem dX6_image_16 : decode cX6_image 16 = .ok (.getfield 12, 3) := by decide +kernel
theorem dX6_image_19 : decode cX6_image 19 = .ok (.invokevirtual 255, 3) := by decide +kernel
theorem dX6_image_22 : decode cX6_image 22 = .ok (.aload_n 0, 1) := by decide +kernel
theorem dX6_image_23 : decode cX6_image 23 = .ok (.getfield 27, 3) := by decide +kernel
theorem dX6_image_26 : decode cX6_image 26 = .ok (.aload_n 0, 1) := by decide +kernel
theorem dX6_image_27 : decode cX6_image 27 = .ok (.getfield 18, 3) := by decide +kernel
theorem dX6_image_30 : decode cX6_image 30 = .ok (.invokevirtual 255, 3) := by decide +kernel
theorem dX6_image_33 : decode cX6_image 33 = .ok (.aload_n 0, 1) := by decide +kernel
theorem dX6_image_34 : decode cX6_image 34 = .ok (.getfield 30, 3) := by decide +kernel
theorem dX6_image_37 : decode cX6_image 37 = .ok (.aload_n 0, 1) := by decide +kernel
theorem dX6_image_38 : decode cX6_image 38 = .ok (.getfield 21, 3) := by decide +kernel
theorem dX6_image_41 : decode cX6_image 41 = .ok (.invokevirtual 255, 3) := by decide +kernel
theorem dX6_image_44 : decode cX6_image 44 = .ok (.aload_n 0, 1) := by decide +kernel
theorem dX6_image_45 : decode cX6_image 45 = .ok (.iconst 1, 1) := by decide +kernel
theorem dX6_image_46 : decode cX6_image 46 = .ok (.putfield 258, 3) := by decide +kernel
theorem dX6_image_49 : decode cX6_image 49 = .ok (.aload_n 0, 1) := by decide +kernel
theorem dX6_image_50 : decode cX6_image 50 = .ok (.getfield 67, 3) := by decide +kernel
theorem dX6_image_53 : decode cX6_image 53 = .ok (.getfield 83, 3) := by decide +kernel
theorem dX6_image_56 : decode cX6_image 56 = .ok (.ireturn, 1) := by decide +kernel
theorem dX6_undo_0 : decode cX6_undo 0 = .ok (.aload_n 0, 1) := by decide +kernel
theorem dX6_undo_1 : decode cX6_undo 1 = .ok (.getfield 258, 3) := by decide +kernel
theorem dX6_undo_4 : decode cX6_undo 4 = .ok (.ifCond .ne 6, 3) := by decide +kernel
theorem dX6_undo_7 : decode cX6_undo 7 = .ok (.bipush (-3), 2) := by decide +kernel
theorem dX6_undo_9 : decode cX6_undo 9 = .ok (.ireturn, 1) := by decide +kernel
theorem dX6_undo_10 : decode cX6_undo 10 = .ok (.aload_n 0, 1) := by decide +kernel
theorem dX6_undo_11 : decode cX6_undo 11 = .ok (.getfield 67, 3) := by decide +kernel
theorem dX6_undo_14 : decode cX6_undo 14 = .ok (.aload_n 0, 1) := by decide +kernel
theorem dX6_undo_15 : decode cX6_undo 15 = .ok (.getfield 71, 3) := by decide +kernel
theorem dX6_undo_18 : decode cX6_undo 18 = .ok (.invokevirtual 194, 3) := by decide +kernel
theorem dX6_undo_21 : decode cX6_undo 21 = .ok (.aload_n 0, 1) := by decide +kernel
theorem dX6_undo_22 : decode cX6_undo 22 = .ok (.getfield 12, 3) := by decide +kernel
theorem dX6_undo_25 : decode cX6_undo 25 = .ok (.aload_n 0, 1) := by decide +kernel
theorem dX6_undo_26 : decode cX6_undo 26 = .ok (.getfield 24, 3) := by decide +kernel
theorem dX6_undo_29 : decode cX6_undo 29 = .ok (.invokevirtual 255, 3) := by decide +kernel
theorem dX6_undo_32 : decode cX6_undo 32 = .ok (.aload_n 0, 1) := by decide +kernel
theorem dX6_undo_33 : decode cX6_undo 33 = .ok (.getfield 18, 3) := by decide +kernel
theorem dX6_undo_36 : decode cX6_undo 36 = .ok (.aload_n 0, 1) := by decide +kernel
theorem dX6_undo_37 : decode cX6_undo 37 = .ok (.getfield 27, 3) := by decide +kernel
theorem dX6_undo_40 : decode cX6_undo 40 = .ok (.invokevirtual 255, 3) := by decide +kernel
theorem dX6_undo_43 : decode cX6_undo 43 = .ok (.aload_n 0, 1) := by decide +kernel
theorem dX6_undo_44 : decode cX6_undo 44 = .ok (.getfield 21, 3) := by decide +kernel
theorem dX6_undo_47 : decode cX6_undo 47 = .ok (.aload_n 0, 1) := by decide +kernel
theorem dX6_undo_48 : decode cX6_undo 48 = .ok (.getfield 30, 3) := by decide +kernel
theorem dX6_undo_51 : decode cX6_undo 51 = .ok (.invokevirtual 255, 3) := by decide +kernel
theorem dX6_undo_54 : decode cX6_undo 54 = .ok (.aload_n 0, 1) := by decide +kernel
theorem dX6_undo_55 : decode cX6_undo 55 = .ok (.getfield 67, 3) := by decide +kernel
theorem dX6_undo_58 : decode cX6_undo 58 = .ok (.getfield 83, 3) := by decide +kernel
theorem dX6_undo_61 : decode cX6_undo 61 = .ok (.ireturn, 1) := by decide +kernel
theorem dX6_act_0 : decode cX6_act 0 = .ok (.aload_n 0, 1) := by decide +kernel
theorem dX6_act_1 : decode cX6_act 1 = .ok (.getfield 47, 3) := by decide +kernel
theorem dX6_act_4 : decode cX6_act 4 = .ok (.invokevirtual 262, 3) := by decide +kernel
theorem dX6_act_7 : decode cX6_act 7 = .ok (.aload_n 0, 1) := by decide +kernel
theorem dX6_act_8 : decode cX6_act 8 = .ok (.getfield 67, 3) := by decide +kernel
theorem dX6_act_11 : decode cX6_act 11 = .ok (.iload_n 1, 1) := by decide +kernel
theorem dX6_act_12 : decode cX6_act 12 = .ok (.invokevirtual 91, 3) := by decide +kernel
theorem dX6_act_15 : decode cX6_act 15 = .ok (.ifCond .eq 12, 3) := by decide +kernel
theorem dX6_act_18 : decode cX6_act 18 = .ok (.iload_n 2, 1) := by decide +kernel
theorem dX6_act_19 : decode cX6_act 19 = .ok (.iconst 0, 1) := by decide +kernel
theorem dX6_act_20 : decode cX6_act 20 = .ok (.iconst 2, 1) := by decide +kernel
theorem dX6_act_21 : decode cX6_act 21 = .ok (.invokestatic 79, 3) := by decide +kernel
theorem dX6_act_24 : decode cX6_act 24 = .ok (.ifCond .ne 5, 3) := by decide +kernel
theorem dX6_act_27 : decode cX6_act 27 = .ok (.iconst 0, 1) := by decide +kernel
theorem dX6_act_28 : decode cX6_act 28 = .ok (.ireturn, 1) := by decide +kernel
theorem dX6_act_29 : decode cX6_act 29 = .ok (.aload_n 0, 1) := by decide +kernel
theorem dX6_act_30 : decode cX6_act 30 = .ok (.getfield 47, 3) := by decide +kernel
theorem dX6_act_33 : decode cX6_act 33 = .ok (.iload_n 1, 1) := by decide +kernel
theorem dX6_act_34 : decode cX6_act 34 = .ok (.aload_n 0, 1) := by decide +kernel
theorem dX6_act_35 : decode cX6_act 35 = .ok (.getfield 67, 3) := by decide +kernel
theorem dX6_act_38 : decode cX6_act 38 = .ok (.iload_n 1, 1) := by decide +kernel
theorem dX6_act_39 : decode cX6_act 39 = .ok (.invokevirtual 95, 3) := by decide +kernel
theorem dX6_act_42 : decode cX6_act 42 = .ok (.aload_n 0, 1) := by decide +kernel
theorem dX6_act_43 : decode cX6_act 43 = .ok (.getfield 67, 3) := by decide +kernel
theorem dX6_act_46 : decode cX6_act 46 = .ok (.iload_n 1, 1) := by decide +kernel
theorem dX6_act_47 : decode cX6_act 47 = .ok (.invokevirtual 99, 3) := by decide +kernel
theorem dX6_act_50 : decode cX6_act 50 = .ok (.iload_n 2, 1) := by decide +kernel
theorem dX6_act_51 : decode cX6_act 51 = .ok (.iload_n 3, 1) := by decide +kernel
theorem dX6_act_52 : decode cX6_act 52 = .ok (.invokevirtual 265, 3) := by decide +kernel
theorem dX6_act_55 : decode cX6_act 55 = .ok (.ireturn, 1) := by decide +kernel
theorem dX6_trace_0 : decode cX6_trace 0 = .ok (.aload_n 0, 1) := by decide +kernel
theorem dX6_trace_1 : decode cX6_trace 1 = .ok (.getfield 47, 3) := by decide +kernel
theorem dX6_trace_4 : decode cX6_trace 4 = .ok (.iload_n 1, 1) := by decide +kernel
theorem dX6_trace_5 : decode cX6_trace 5 = .ok (.invokevirtual 269, 3) := by decide +kernel
theorem dX6_trace_8 : decode cX6_trace 8 = .ok (.ifCond .eq 14, 3) := by decide +kernel
theorem dX6_trace_11 : decode cX6_trace 11 = .ok (.aload_n 0, 1) := by decide +kernel
theorem dX6_trace_12 : decode cX6_trace 12 = .ok (.getfield 47, 3) := by decide +kernel
theorem dX6_trace_15 : decode cX6_trace 15 = .ok (.iload_n 1, 1) := by decide +kernel
theorem dX6_trace_16 : decode cX6_trace 16 = .ok (.invokevirtual 272, 3) := by decide +kernel
theorem dX6_trace_19 : decode cX6_trace 19 = .ok (.goto 4, 3) := by decide +kernel
theorem dX6_trace_22 : decode cX6_trace 22 = .ok (.iconst (-1), 1) := by decide +kernel
theorem dX6_trace_23 : decode cX6_trace 23 = .ok (.ireturn, 1) := by decide +kernel
theorem dX6_taken_0 : decode cX6_taken 0 = .ok (.iload_n 2, 1) := by decide +kernel
theorem dX6_taken_1 : decode cX6_taken 1 = .ok (.iconst 0, 1) := by decide +kernel
theorem dX6_taken_2 : decode cX6_taken 2 = .ok (.bipush 6, 2) := by decide +kernel
theorem dX6_taken_4 : decode cX6_taken 4 = .ok (.invokestatic 79, 3) := by decide +kernel
theorem dX6_taken_7 : decode cX6_taken 7 = .ok (.ifCond .ne 6, 3) := by decide +kernel
theorem dX6_taken_10 : decode cX6_taken 10 = .ok (.bipush (-2), 2) := by decide +kernel
theorem dX6_taken_12 : decode cX6_taken 12 = .ok (.ireturn, 1) := by decide +kernel
theorem dX6_taken_13 : decode cX6_taken 13 = .ok (.aload_n 0, 1) := by decide +kernel
theorem dX6_taken_14 : decode cX6_taken 14 = .ok (.getfield 67, 3) := by decide +kernel
theorem dX6_taken_17 : decode cX6_taken 17 = .ok (.iload_n 1, 1) := by decide +kernel
theorem dX6_taken_18 : decode cX6_taken 18 = .ok (.invokevirtual 91, 3) := by decide +kernel
theorem dX6_taken_21 : decode cX6_taken 21 = .ok (.ifCond .ne 6, 3) := by decide +kernel
theorem dX6_taken_24 : decode cX6_taken 24 = .ok (.bipush (-11), 2) := by decide +kernel
theorem dX6_taken_26 : decode cX6_taken 26 = .ok (.ireturn, 1) := by decide +kernel
theorem dX6_taken_27 : decode cX6_taken 27 = .ok (.aload_n 0, 1) := by decide +kernel
theorem dX6_taken_28 : decode cX6_taken 28 = .ok (.getfield 67, 3) := by decide +kernel
theorem dX6_taken_31 : decode cX6_taken 31 = .ok (.iload_n 1, 1) := by decide +kernel
theorem dX6_taken_32 : decode cX6_taken 32 = .ok (.invokevirtual 95, 3) := by decide +kernel
theorem dX6_taken_35 : decode cX6_taken 35 = .ok (.istore_n 3, 1) := by decide +kernel
theorem dX6_taken_36 : decode cX6_taken 36 = .ok (.iload_n 3, 1) := by decide +kernel
theorem dX6_taken_37 : decode cX6_taken 37 = .ok (.istore 4, 2) := by decide +kernel
theorem dX6_taken_39 : decode cX6_taken 39 = .ok (.iconst 0, 1) := by decide +kernel
theorem dX6_taken_40 : decode cX6_taken 40 = .ok (.istore 5, 2) := by decide +kernel
theorem dX6_taken_42 : decode cX6_taken 42 = .ok (.iload 5, 2) := by decide +kernel
theorem dX6_taken_44 : decode cX6_taken 44 = .ok (.bipush 7, 2) := by decide +kernel
theorem dX6_taken_46 : decode cX6_taken 46 = .ok (.if_icmp .ge 36, 3) := by decide +kernel
theorem dX6_taken_49 : decode cX6_taken 49 = .ok (.iload 4, 2) := by decide +kernel
theorem dX6_taken_51 : decode cX6_taken 51 = .ok (.iconst 0, 1) := by decide +kernel
theorem dX6_taken_52 : decode cX6_taken 52 = .ok (.bipush 6, 2) := by decide +kernel
theorem dX6_taken_54 : decode cX6_taken 54 = .ok (.invokestatic 79, 3) := by decide +kernel
theorem dX6_taken_57 : decode cX6_taken 57 = .ok (.ifCond .eq 25, 3) := by decide +kernel
theorem dX6_taken_60 : decode cX6_taken 60 = .ok (.iload 4, 2) := by decide +kernel
theorem dX6_taken_62 : decode cX6_taken 62 = .ok (.iload_n 2, 1) := by decide +kernel
theorem dX6_taken_63 : decode cX6_taken 63 = .ok (.if_icmp .ne 5, 3) := by decide +kernel
theorem dX6_taken_66 : decode cX6_taken 66 = .ok (.iload_n 3, 1) := by decide +kernel
theorem dX6_taken_67 : decode cX6_taken 67 = .ok (.ireturn, 1) := by decide +kernel
theorem dX6_taken_68 : decode cX6_taken 68 = .ok (.getstatic 275, 3) := by decide +kernel
theorem dX6_taken_71 : decode cX6_taken 71 = .ok (.iload 4, 2) := by decide +kernel
theorem dX6_taken_73 : decode cX6_taken 73 = .ok (.iaload, 1) := by decide +kernel
theorem dX6_taken_74 : decode cX6_taken 74 = .ok (.istore 4, 2) := by decide +kernel
theorem dX6_taken_76 : decode cX6_taken 76 = .ok (.iinc 5 1, 3) := by decide +kernel
theorem dX6_taken_79 : decode cX6_taken 79 = .ok (.goto (-37), 3) := by decide +kernel
theorem dX6_taken_82 : decode cX6_taken 82 = .ok (.bipush (-12), 2) := by decide +kernel
theorem dX6_taken_84 : decode cX6_taken 84 = .ok (.ireturn, 1) := by decide +kernel
theorem dX6_count_0 : decode cX6_count 0 = .ok (.iload_n 1, 1) := by decide +kernel
theorem dX6_count_1 : decode cX6_count 1 = .ok (.tableswitch 96 0 6 #[43, 51, 56, 64, 72, 80, 88], 43) := by decide +kernel
theorem dX6_count_44 : decode cX6_count 44 = .ok (.aload_n 0, 1) := by decide +kernel
theorem dX6_count_45 : decode cX6_count 45 = .ok (.getfield 67, 3) := by decide +kernel
theorem dX6_count_48 : decode cX6_count 48 = .ok (.getfield 83, 3) := by decide +kernel
theorem dX6_count_51 : decode cX6_count 51 = .ok (.ireturn, 1) := by decide +kernel
theorem dX6_count_52 : decode cX6_count 52 = .ok (.aload_n 0, 1) := by decide +kernel
theorem dX6_count_53 : decode cX6_count 53 = .ok (.getfield 157, 3) := by decide +kernel
theorem dX6_count_56 : decode cX6_count 56 = .ok (.ireturn, 1) := by decide +kernel
theorem dX6_count_57 : decode cX6_count 57 = .ok (.aload_n 0, 1) := by decide +kernel
theorem dX6_count_58 : decode cX6_count 58 = .ok (.getfield 12, 3) := by decide +kernel
theorem dX6_count_61 : decode cX6_count 61 = .ok (.getfield 208, 3) := by decide +kernel
theorem dX6_count_64 : decode cX6_count 64 = .ok (.ireturn, 1) := by decide +kernel
theorem dX6_count_65 : decode cX6_count 65 = .ok (.aload_n 0, 1) := by decide +kernel
theorem dX6_count_66 : decode cX6_count 66 = .ok (.getfield 18, 3) := by decide +kernel
theorem dX6_count_69 : decode cX6_count 69 = .ok (.getfield 208, 3) := by decide +kernel
theorem dX6_count_72 : decode cX6_count 72 = .ok (.ireturn, 1) := by decide +kernel
theorem dX6_count_73 : decode cX6_count 73 = .ok (.aload_n 0, 1) := by decide +kernel
theorem dX6_count_74 : decode cX6_count 74 = .ok (.getfield 21, 3) := by decide +kernel
theorem dX6_count_77 : decode cX6_count 77 = .ok (.getfield 208, 3) := by decide +kernel
theorem dX6_count_80 : decode cX6_count 80 = .ok (.ireturn, 1) := by decide +kernel
theorem dX6_count_81 : decode cX6_count 81 = .ok (.aload_n 0, 1) := by decide +kernel
theorem dX6_count_82 : decode cX6_count 82 = .ok (.getfield 40, 3) := by decide +kernel
theorem dX6_count_85 : decode cX6_count 85 = .ok (.invokevirtual 278, 3) := by decide +kernel
theorem dX6_count_88 : decode cX6_count 88 = .ok (.ireturn, 1) := by decide +kernel
theorem dX6_count_89 : decode cX6_count 89 = .ok (.aload_n 0, 1) := by decide +kernel
theorem dX6_count_90 : decode cX6_count 90 = .ok (.getfield 47, 3) := by decide +kernel
theorem dX6_count_93 : decode cX6_count 93 = .ok (.invokevirtual 281, 3) := by decide +kernel
theorem dX6_count_96 : decode cX6_count 96 = .ok (.ireturn, 1) := by decide +kernel
theorem dX6_count_97 : decode cX6_count 97 = .ok (.bipush (-2), 2) := by decide +kernel
theorem dX6_count_99 : decode cX6_count 99 = .ok (.ireturn, 1) := by decide +kernel
theorem dX6_tape_0 : decode cX6_tape 0 = .ok (.iload_n 1, 1) := by decide +kernel
theorem dX6_tape_1 : decode cX6_tape 1 = .ok (.invokestatic 240, 3) := by decide +kernel
theorem dX6_tape_4 : decode cX6_tape 4 = .ok (.ifCond .ne 5, 3) := by decide +kernel
theorem dX6_tape_7 : decode cX6_tape 7 = .ok (.iconst (-1), 1) := by decide +kernel
theorem dX6_tape_8 : decode cX6_tape 8 = .ok (.ireturn, 1) := by decide +kernel
theorem dX6_tape_9 : decode cX6_tape 9 = .ok (.iload_n 2, 1) := by decide +kernel
theorem dX6_tape_10 : decode cX6_tape 10 = .ok (.iconst (-1), 1) := by decide +kernel
theorem dX6_tape_11 : decode cX6_tape 11 = .ok (.iconst 4, 1) := by decide +kernel
theorem dX6_tape_12 : decode cX6_tape 12 = .ok (.invokestatic 79, 3) := by decide +kernel
theorem dX6_tape_15 : decode cX6_tape 15 = .ok (.ifCond .ne 6, 3) := by decide +kernel
theorem dX6_tape_18 : decode cX6_tape 18 = .ok (.bipush (-2), 2) := by decide +kernel
theorem dX6_tape_20 : decode cX6_tape 20 = .ok (.ireturn, 1) := by decide +kernel
theorem dX6_tape_21 : decode cX6_tape 21 = .ok (.iload_n 2, 1) := by decide +kernel
theorem dX6_tape_22 : decode cX6_tape 22 = .ok (.iconst (-1), 1) := by decide +kernel
theorem dX6_tape_23 : decode cX6_tape 23 = .ok (.if_icmp .ne 16, 3) := by decide +kernel
theorem dX6_tape_26 : decode cX6_tape 26 = .ok (.aload_n 0, 1) := by decide +kernel
theorem dX6_tape_27 : decode cX6_tape 27 = .ok (.getfield 53, 3) := by decide +kernel
theorem dX6_tape_30 : decode cX6_tape 30 = .ok (.iload_n 1, 1) := by decide +kernel
theorem dX6_tape_31 : decode cX6_tape 31 = .ok (.aaload, 1) := by decide +kernel
theorem dX6_tape_32 : decode cX6_tape 32 = .ok (.iload_n 2, 1) := by decide +kernel
theorem dX6_tape_33 : decode cX6_tape 33 = .ok (.iconst 0, 1) := by decide +kernel
theorem dX6_tape_34 : decode cX6_tape 34 = .ok (.invokevirtual 284, 3) := by decide +kernel
theorem dX6_tape_37 : decode cX6_tape 37 = .ok (.iconst 1, 1) := by decide +kernel
theorem dX6_tape_38 : decode cX6_tape 38 = .ok (.ireturn, 1) := by decide +kernel
theorem dX6_tape_39 : decode cX6_tape 39 = .ok (.iload_n 3, 1) := by decide +kernel
theorem dX6_tape_40 : decode cX6_tape 40 = .ok (.bipush 60, 2) := by decide +kernel
theorem dX6_tape_42 : decode cX6_tape 42 = .ok (.if_icmp .le 6, 3) := by decide +kernel
theorem dX6_tape_45 : decode cX6_tape 45 = .ok (.bipush (-2), 2) := by decide +kernel
theorem dX6_tape_47 : decode cX6_tape 47 = .ok (.ireturn, 1) := by decide +kernel
theorem dX6_tape_48 : decode cX6_tape 48 = .ok (.iload_n 3, 1) := by decide +kernel
theorem dX6_tape_49 : decode cX6_tape 49 = .ok (.ifCond .ge 6, 3) := by decide +kernel
theorem dX6_tape_52 : decode cX6_tape 52 = .ok (.bipush (-14), 2) := by decide +kernel
theorem dX6_tape_54 : decode cX6_tape 54 = .ok (.ireturn, 1) := by decide +kernel
theorem dX6_tape_55 : decode cX6_tape 55 = .ok (.aload_n 0, 1) := by decide +kernel
theorem dX6_tape_56 : decode cX6_tape 56 = .ok (.getfield 53, 3) := by decide +kernel
theorem dX6_tape_59 : decode cX6_tape 59 = .ok (.iload_n 1, 1) := by decide +kernel
theorem dX6_tape_60 : decode cX6_tape 60 = .ok (.aaload, 1) := by decide +kernel
theorem dX6_tape_61 : decode cX6_tape 61 = .ok (.iload_n 2, 1) := by decide +kernel
theorem dX6_tape_62 : decode cX6_tape 62 = .ok (.iload_n 3, 1) := by decide +kernel
theorem dX6_tape_63 : decode cX6_tape 63 = .ok (.invokevirtual 284, 3) := by decide +kernel
theorem dX6_tape_66 : decode cX6_tape 66 = .ok (.iconst 1, 1) := by decide +kernel
theorem dX6_tape_67 : decode cX6_tape 67 = .ok (.ireturn, 1) := by decide +kernel
theorem dX6_item_0 : decode cX6_item 0 = .ok (.iload_n 1, 1) := by decide +kernel
theorem dX6_item_1 : decode cX6_item 1 = .ok (.invokestatic 240, 3) := by decide +kernel
theorem dX6_item_4 : decode cX6_item 4 = .ok (.ifCond .ne 5, 3) := by decide +kernel
theorem dX6_item_7 : decode cX6_item 7 = .ok (.iconst (-1), 1) := by decide +kernel
theorem dX6_item_8 : decode cX6_item 8 = .ok (.ireturn, 1) := by decide +kernel
theorem dX6_item_9 : decode cX6_item 9 = .ok (.aload_n 0, 1) := by decide +kernel
theorem dX6_item_10 : decode cX6_item 10 = .ok (.getfield 53, 3) := by decide +kernel
theorem dX6_item_13 : decode cX6_item 13 = .ok (.iload_n 1, 1) := by decide +kernel
theorem dX6_item_14 : decode cX6_item 14 = .ok (.aaload, 1) := by decide +kernel
theorem dX6_item_15 : decode cX6_item 15 = .ok (.invokevirtual 243, 3) := by decide +kernel
theorem dX6_item_18 : decode cX6_item 18 = .ok (.ifCond .eq 6, 3) := by decide +kernel
theorem dX6_item_21 : decode cX6_item 21 = .ok (.bipush (-11), 2) := by decide +kernel
theorem dX6_item_23 : decode cX6_item 23 = .ok (.ireturn, 1) := by decide +kernel
theorem dX6_item_24 : decode cX6_item 24 = .ok (.aload_n 0, 1) := by decide +kernel
theorem dX6_item_25 : decode cX6_item 25 = .ok (.getfield 53, 3) := by decide +kernel
theorem dX6_item_28 : decode cX6_item 28 = .ok (.iload_n 1, 1) := by decide +kernel
theorem dX6_item_29 : decode cX6_item 29 = .ok (.aaload, 1) := by decide +kernel
theorem dX6_item_30 : decode cX6_item 30 = .ok (.iload_n 2, 1) := by decide +kernel
theorem dX6_item_31 : decode cX6_item 31 = .ok (.invokevirtual 249, 3) := by decide +kernel
theorem dX6_item_34 : decode cX6_item 34 = .ok (.ifCond .ne 6, 3) := by decide +kernel
theorem dX6_item_37 : decode cX6_item 37 = .ok (.bipush (-13), 2) := by decide +kernel
theorem dX6_item_39 : decode cX6_item 39 = .ok (.ireturn, 1) := by decide +kernel
theorem dX6_item_40 : decode cX6_item 40 = .ok (.aload_n 0, 1) := by decide +kernel
theorem dX6_item_41 : decode cX6_item 41 = .ok (.getfield 53, 3) := by decide +kernel
theorem dX6_item_44 : decode cX6_item 44 = .ok (.iload_n 1, 1) := by decide +kernel
theorem dX6_item_45 : decode cX6_item 45 = .ok (.aaload, 1) := by decide +kernel
theorem dX6_item_46 : decode cX6_item 46 = .ok (.iload_n 2, 1) := by decide +kernel
theorem dX6_item_47 : decode cX6_item 47 = .ok (.lload_n 3, 1) := by decide +kernel
theorem dX6_item_48 : decode cX6_item 48 = .ok (.invokevirtual 286, 3) := by decide +kernel
theorem dX6_item_51 : decode cX6_item 51 = .ok (.iconst 1, 1) := by decide +kernel
theorem dX6_item_52 : decode cX6_item 52 = .ok (.ireturn, 1) := by decide +kernel
theorem dX6_read_0 : decode cX6_read 0 = .ok (.iload_n 1, 1) := by decide +kernel
theorem dX6_read_1 : decode cX6_read 1 = .ok (.invokestatic 240, 3) := by decide +kernel
theorem dX6_read_4 : decode cX6_read 4 = .ok (.ifCond .eq 16, 3) := by decide +kernel
theorem dX6_read_7 : decode cX6_read 7 = .ok (.aload_n 0, 1) := by decide +kernel
theorem dX6_read_8 : decode cX6_read 8 = .ok (.getfield 53, 3) := by decide +kernel
theorem dX6_read_11 : decode cX6_read 11 = .ok (.iload_n 1, 1) := by decide +kernel
theorem dX6_read_12 : decode cX6_read 12 = .ok (.aaload, 1) := by decide +kernel
theorem dX6_read_13 : decode cX6_read 13 = .ok (.iload_n 2, 1) := by decide +kernel
theorem dX6_read_14 : decode cX6_read 14 = .ok (.invokevirtual 249, 3) := by decide +kernel
theorem dX6_read_17 : decode cX6_read 17 = .ok (.ifCond .ne 7, 3) := by decide +kernel
theorem dX6_read_20 : decode cX6_read 20 = .ok (.ldc2_w 235, 3) := by decide +kernel
theorem dX6_read_23 : decode cX6_read 23 = .ok (.lreturn, 1) := by decide +kernel
theorem dX6_read_24 : decode cX6_read 24 = .ok (.aload_n 0, 1) := by decide +kernel
theorem dX6_read_25 : decode cX6_read 25 = .ok (.getfield 53, 3) := by decide +kernel
theorem dX6_read_28 : decode cX6_read 28 = .ok (.iload_n 1, 1) := by decide +kernel
theorem dX6_read_29 : decode cX6_read 29 = .ok (.aaload, 1) := by decide +kernel
theorem dX6_read_30 : decode cX6_read 30 = .ok (.iload_n 2, 1) := by decide +kernel
theorem dX6_read_31 : decode cX6_read 31 = .ok (.invokevirtual 252, 3) := by decide +kernel
theorem dX6_read_34 : decode cX6_read 34 = .ok (.lreturn, 1) := by decide +kernel
theorem dX6_shift_0 : decode cX6_shift 0 = .ok (.iload_n 1, 1) := by decide +kernel
theorem dX6_shift_1 : decode cX6_shift 1 = .ok (.invokestatic 240, 3) := by decide +kernel
theorem dX6_shift_4 : decode cX6_shift 4 = .ok (.ifCond .eq 10, 3) := by decide +kernel
theorem dX6_shift_7 : decode cX6_shift 7 = .ok (.iload_n 3, 1) := by decide +kernel
theorem dX6_shift_8 : decode cX6_shift 8 = .ok (.invokestatic 240, 3) := by decide +kernel
theorem dX6_shift_11 : decode cX6_shift 11 = .ok (.ifCond .ne 5, 3) := by decide +kernel
theorem dX6_shift_14 : decode cX6_shift 14 = .ok (.iconst (-1), 1) := by decide +kernel
theorem dX6_shift_15 : decode cX6_shift 15 = .ok (.ireturn, 1) := by decide +kernel
theorem dX6_shift_16 : decode cX6_shift 16 = .ok (.aload_n 0, 1) := by decide +kernel
theorem dX6_shift_17 : decode cX6_shift 17 = .ok (.getfield 53, 3) := by decide +kernel
theorem dX6_shift_20 : decode cX6_shift 20 = .ok (.iload_n 1, 1) := by decide +kernel
theorem dX6_shift_21 : decode cX6_shift 21 = .ok (.aaload, 1) := by decide +kernel
theorem dX6_shift_22 : decode cX6_shift 22 = .ok (.astore 6, 2) := by decide +kernel
theorem dX6_shift_24 : decode cX6_shift 24 = .ok (.aload_n 0, 1) := by decide +kernel
theorem dX6_shift_25 : decode cX6_shift 25 = .ok (.getfield 53, 3) := by decide +kernel
theorem dX6_shift_28 : decode cX6_shift 28 = .ok (.iload_n 3, 1) := by decide +kernel
theorem dX6_shift_29 : decode cX6_shift 29 = .ok (.aaload, 1) := by decide +kernel
theorem dX6_shift_30 : decode cX6_shift 30 = .ok (.astore 7, 2) := by decide +kernel
theorem dX6_shift_32 : decode cX6_shift 32 = .ok (.aload 6, 2) := by decide +kernel
theorem dX6_shift_34 : decode cX6_shift 34 = .ok (.invokevirtual 243, 3) := by decide +kernel
theorem dX6_shift_37 : decode cX6_shift 37 = .ok (.ifCond .ne 11, 3) := by decide +kernel
theorem dX6_shift_40 : decode cX6_shift 40 = .ok (.aload 7, 2) := by decide +kernel
theorem dX6_shift_42 : decode cX6_shift 42 = .ok (.invokevirtual 243, 3) := by decide +kernel
theorem dX6_shift_45 : decode cX6_shift 45 = .ok (.ifCond .eq 6, 3) := by decide +kernel
theorem dX6_shift_48 : decode cX6_shift 48 = .ok (.bipush (-11), 2) := by decide +kernel
theorem dX6_shift_50 : decode cX6_shift 50 = .ok (.ireturn, 1) := by decide +kernel
theorem dX6_shift_51 : decode cX6_shift 51 = .ok (.aload 6, 2) := by decide +kernel
theorem dX6_shift_53 : decode cX6_shift 53 = .ok (.getfield 246, 3) := by decide +kernel
theorem dX6_shift_56 : decode cX6_shift 56 = .ok (.aload 7, 2) := by decide +kernel
theorem dX6_shift_58 : decode cX6_shift 58 = .ok (.getfield 246, 3) := by decide +kernel
theorem dX6_shift_61 : decode cX6_shift 61 = .ok (.if_icmp .eq 6, 3) := by decide +kernel
theorem dX6_shift_64 : decode cX6_shift 64 = .ok (.bipush (-12), 2) := by decide +kernel
theorem dX6_shift_66 : decode cX6_shift 66 = .ok (.ireturn, 1) := by decide +kernel
theorem dX6_shift_67 : decode cX6_shift 67 = .ok (.aload 6, 2) := by decide +kernel
theorem dX6_shift_69 : decode cX6_shift 69 = .ok (.iload_n 2, 1) := by decide +kernel
theorem dX6_shift_70 : decode cX6_shift 70 = .ok (.iload 5, 2) := by decide +kernel
theorem dX6_shift_72 : decode cX6_shift 72 = .ok (.invokevirtual 290, 3) := by decide +kernel
theorem dX6_shift_75 : decode cX6_shift 75 = .ok (.ifCond .eq 15, 3) := by decide +kernel
theorem dX6_shift_78 : decode cX6_shift 78 = .ok (.aload 7, 2) := by decide +kernel
theorem dX6_shift_80 : decode cX6_shift 80 = .ok (.iload 4, 2) := by decide +kernel
theorem dX6_shift_82 : decode cX6_shift 82 = .ok (.iload 5, 2) := by decide +kernel
theorem dX6_shift_84 : decode cX6_shift 84 = .ok (.invokevirtual 290, 3) := by decide +kernel
theorem dX6_shift_87 : decode cX6_shift 87 = .ok (.ifCond .ne 6, 3) := by decide +kernel
theorem dX6_shift_90 : decode cX6_shift 90 = .ok (.bipush (-13), 2) := by decide +kernel
theorem dX6_shift_92 : decode cX6_shift 92 = .ok (.ireturn, 1) := by decide +kernel
theorem dX6_shift_93 : decode cX6_shift 93 = .ok (.aload 6, 2) := by decide +kernel
theorem dX6_shift_95 : decode cX6_shift 95 = .ok (.getfield 293, 3) := by decide +kernel
theorem dX6_shift_98 : decode cX6_shift 98 = .ok (.iload_n 2, 1) := by decide +kernel
theorem dX6_shift_99 : decode cX6_shift 99 = .ok (.aload 7, 2) := by decide +kernel
theorem dX6_shift_101 : decode cX6_shift 101 = .ok (.getfield 293, 3) := by decide +kernel
theorem dX6_shift_104 : decode cX6_shift 104 = .ok (.iload 4, 2) := by decide +kernel
theorem dX6_shift_106 : decode cX6_shift 106 = .ok (.iload 5, 2) := by decide +kernel
theorem dX6_shift_108 : decode cX6_shift 108 = .ok (.invokestatic 297, 3) := by decide +kernel
theorem dX6_shift_111 : decode cX6_shift 111 = .ok (.iload 5, 2) := by decide +kernel
theorem dX6_shift_113 : decode cX6_shift 113 = .ok (.ireturn, 1) := by decide +kernel
theorem dX6_isTape_0 : decode cX6_isTape 0 = .ok (.iload_n 0, 1) := by decide +kernel
theorem dX6_isTape_1 : decode cX6_isTape 1 = .ok (.iconst 0, 1) := by decide +kernel
theorem dX6_isTape_2 : decode cX6_isTape 2 = .ok (.iconst 5, 1) := by decide +kernel
theorem dX6_isTape_3 : decode cX6_isTape 3 = .ok (.invokestatic 79, 3) := by decide +kernel
theorem dX6_isTape_6 : decode cX6_isTape 6 = .ok (.ireturn, 1) := by decide +kernel
theorem dX6_within_0 : decode cX6_within 0 = .ok (.iload_n 0, 1) := by decide +kernel
theorem dX6_within_1 : decode cX6_within 1 = .ok (.iload_n 1, 1) := by decide +kernel
theorem dX6_within_2 : decode cX6_within 2 = .ok (.if_icmp .lt 12, 3) := by decide +kernel
theorem dX6_within_5 : decode cX6_within 5 = .ok (.iload_n 0, 1) := by decide +kernel
theorem dX6_within_6 : decode cX6_within 6 = .ok (.iload_n 2, 1) := by decide +kernel
theorem dX6_within_7 : decode cX6_within 7 = .ok (.if_icmp .gt 7, 3) := by decide +kernel
theorem dX6_within_10 : decode cX6_within 10 = .ok (.iconst 1, 1) := by decide +kernel
theorem dX6_within_11 : decode cX6_within 11 = .ok (.goto 4, 3) := by decide +kernel
theorem dX6_within_14 : decode cX6_within 14 = .ok (.iconst 0, 1) := by decide +kernel
theorem dX6_within_15 : decode cX6_within 15 = .ok (.ireturn, 1) := by decide +kernel
theorem dX7_init_0 : decode cX7_init 0 = .ok (.aload_n 0, 1) := by decide +kernel
theorem dX7_init_1 : decode cX7_init 1 = .ok (.invokespecial 1, 3) := by decide +kernel
theorem dX7_init_4 : decode cX7_init 4 = .ok (.aload_n 0, 1) := by decide +kernel
theorem dX7_init_5 : decode cX7_init 5 = .ok (.iconst 0, 1) := by decide +kernel
theorem dX7_init_6 : decode cX7_init 6 = .ok (.putfield 7, 3) := by decide +kernel
theorem dX7_init_9 : decode cX7_init 9 = .ok (.aload_n 0, 1) := by decide +kernel
theorem dX7_init_10 : decode cX7_init 10 = .ok (.iconst 0, 1) := by decide +kernel
theorem dX7_init_11 : decode cX7_init 11 = .ok (.putfield 13, 3) := by decide +kernel
theorem dX7_init_14 : decode cX7_init 14 = .ok (.aload_n 0, 1) := by decide +kernel
theorem dX7_init_15 : decode cX7_init 15 = .ok (.bipush 100, 2) := by decide +kernel
theorem dX7_init_17 : decode cX7_init 17 = .ok (.putfield 16, 3) := by decide +kernel
theorem dX7_init_20 : decode cX7_init 20 = .ok (.aload_n 0, 1) := by decide +kernel
theorem dX7_init_21 : decode cX7_init 21 = .ok (.iconst 5, 1) := by decide +kernel
theorem dX7_init_22 : decode cX7_init 22 = .ok (.newarray .int, 2) := by decide +kernel
theorem dX7_init_24 : decode cX7_init 24 = .ok (.putfield 19, 3) := by decide +kernel
theorem dX7_init_27 : decode cX7_init 27 = .ok (.aload_n 0, 1) := by decide +kernel
theorem dX7_init_28 : decode cX7_init 28 = .ok (.iconst 5, 1) := by decide +kernel
theorem dX7_init_29 : decode cX7_init 29 = .ok (.newarray .int, 2) := by decide +kernel
theorem dX7_init_31 : decode cX7_init 31 = .ok (.putfield 23, 3) := by decide +kernel
theorem dX7_init_34 : decode cX7_init 34 = .ok (.aload_n 0, 1) := by decide +kernel
theorem dX7_init_35 : decode cX7_init 35 = .ok (.iconst 5, 1) := by decide +kernel
theorem dX7_init_36 : decode cX7_init 36 = .ok (.newarray .int, 2) := by decide +kernel
theorem dX7_init_38 : decode cX7_init 38 = .ok (.putfield 26, 3) := by decide +kernel
theorem dX7_init_41 : decode cX7_init 41 = .ok (.aload_n 0, 1) := by decide +kernel
theorem dX7_init_42 : decode cX7_init 42 = .ok (.bipush 15, 2) := by decide +kernel
theorem dX7_init_44 : decode cX7_init 44 = .ok (.newarray .int, 2) := by decide +kernel
theorem dX7_init_46 : decode cX7_init 46 = .ok (.putfield 29, 3) := by decide +kernel
theorem dX7_init_49 : decode cX7_init 49 = .ok (.aload_n 0, 1) := by decide +kernel
theorem dX7_init_50 : decode cX7_init 50 = .ok (.bipush 20, 2) := by decide +kernel
theorem dX7_init_52 : decode cX7_init 52 = .ok (.newarray .int, 2) := by decide +kernel
theorem dX7_init_54 : decode cX7_init 54 = .ok (.putfield 32, 3) := by decide +kernel
theorem dX7_init_57 : decode cX7_init 57 = .ok (.aload_n 0, 1) := by decide +kernel
theorem dX7_init_58 : decode cX7_init 58 = .ok (.iconst 0, 1) := by decide +kernel
theorem dX7_init_59 : decode cX7_init 59 = .ok (.putfield 35, 3) := by decide +kernel
theorem dX7_init_62 : decode cX7_init 62 = .ok (.aload_n 0, 1) := by decide +kernel
theorem dX7_init_63 : decode cX7_init 63 = .ok (.iconst (-1), 1) := by decide +kernel
theorem dX7_init_64 : decode cX7_init 64 = .ok (.putfield 38, 3) := by decide +kernel
theorem dX7_init_67 : decode cX7_init 67 = .ok (.aload_n 0, 1) := by decide +kernel
theorem dX7_init_68 : decode cX7_init 68 = .ok (.iconst 0, 1) := by decide +kernel
theorem dX7_init_69 : decode cX7_init 69 = .ok (.putfield 41, 3) := by decide +kernel
theorem dX7_init_72 : decode cX7_init 72 = .ok (.aload_n 0, 1) := by decide +kernel
theorem dX7_init_73 : decode cX7_init 73 = .ok (.iconst 0, 1) := by decide +kernel
theorem dX7_init_74 : decode cX7_init 74 = .ok (.putfield 44, 3) := by decide +kernel
theorem dX7_init_77 : decode cX7_init 77 = .ok (.aload_n 0, 1) := by decide +kernel
theorem dX7_init_78 : decode cX7_init 78 = .ok (.iconst 0, 1) := by decide +kernel
theorem dX7_init_79 : decode cX7_init 79 = .ok (.putfield 47, 3) := by decide +kernel
theorem dX7_init_82 : decode cX7_init 82 = .ok (.aload_n 0, 1) := by decide +kernel
theorem dX7_init_83 : decode cX7_init 83 = .ok (.bipush 100, 2) := by decide +kernel
theorem dX7_init_85 : decode cX7_init 85 = .ok (.newarray .int, 2) := by decide +kernel
theorem dX7_init_87 : decode cX7_init 87 = .ok (.putfield 50, 3) := by decide +kernel
theorem dX7_init_90 : decode cX7_init 90 = .ok (.aload_n 0, 1) := by decide +kernel
theorem dX7_init_91 : decode cX7_init 91 = .ok (.bipush 6, 2) := by decide +kernel
theorem dX7_init_93 : decode cX7_init 93 = .ok (.newarray .int, 2) := by decide +kernel
theorem dX7_init_95 : decode cX7_init 95 = .ok (.putfield 53, 3) := by decide +kernel
theorem dX7_init_98 : decode cX7_init 98 = .ok (.aload_n 0, 1) := by decide +kernel
theorem dX7_init_99 : decode cX7_init 99 = .ok (.bipush 60, 2) := by decide +kernel
theorem dX7_init_101 : decode cX7_init 101 = .ok (.newarray .int, 2) := by decide +kernel
theorem dX7_init_103 : decode cX7_init 103 = .ok (.putfield 56, 3) := by decide +kernel
theorem dX7_init_106 : decode cX7_init 106 = .ok (.aload_n 0, 1) := by decide +kernel
theorem dX7_init_107 : decode cX7_init 107 = .ok (.bipush 60, 2) := by decide +kernel
theorem dX7_init_109 : decode cX7_init 109 = .ok (.newarray .int, 2) := by decide +kernel
theorem dX7_init_111 : decode cX7_init 111 = .ok (.putfield 59, 3) := by decide +kernel
theorem dX7_init_114 : decode cX7_init 114 = .ok (.aload_n 0, 1) := by decide +kernel
theorem dX7_init_115 : decode cX7_init 115 = .ok (.bipush 60, 2) := by decide +kernel
theorem dX7_init_117 : decode cX7_init 117 = .ok (.newarray .int, 2) := by decide +kernel
theorem dX7_init_119 : decode cX7_init 119 = .ok (.putfield 62, 3) := by decide +kernel
theorem dX7_init_122 : decode cX7_init 122 = .ok (.aload_n 0, 1) := by decide +kernel
theorem dX7_init_123 : decode cX7_init 123 = .ok (.bipush 60, 2) := by decide +kernel
theorem dX7_init_125 : decode cX7_init 125 = .ok (.newarray .int, 2) := by decide +kernel
theorem dX7_init_127 : decode cX7_init 127 = .ok (.putfield 65, 3) := by decide +kernel
theorem dX7_init_130 : decode cX7_init 130 = .ok (.aload_n 0, 1) := by decide +kernel
theorem dX7_init_131 : decode cX7_init 131 = .ok (.sipush 600, 3) := by decide +kernel
theorem dX7_init_134 : decode cX7_init 134 = .ok (.newarray .int, 2) := by decide +kernel
theorem dX7_init_136 : decode cX7_init 136 = .ok (.putfield 68, 3) := by decide +kernel
theorem dX7_init_139 : decode cX7_init 139 = .ok (.aload_n 0, 1) := by decide +kernel
theorem dX7_init_140 : decode cX7_init 140 = .ok (.bipush 101, 2) := by decide +kernel
theorem dX7_init_142 : decode cX7_init 142 = .ok (.newarray .int, 2) := by decide +kernel
theorem dX7_init_144 : decode cX7_init 144 = .ok (.putfield 71, 3) := by decide +kernel
theorem dX7_init_147 : decode cX7_init 147 = .ok (.aload_n 0, 1) := by decide +kernel
theorem dX7_init_148 : decode cX7_init 148 = .ok (.iconst 0, 1) := by decide +kernel
theorem dX7_init_149 : decode cX7_init 149 = .ok (.putfield 74, 3) := by decide +kernel
theorem dX7_init_152 : decode cX7_init 152 = .ok (.aload_n 0, 1) := by decide +kernel
theorem dX7_init_153 : decode cX7_init 153 = .ok (.iconst 0, 1) := by decide +kernel
theorem dX7_init_154 : decode cX7_init 154 = .ok (.putfield 77, 3) := by decide +kernel
theorem dX7_init_157 : decode cX7_init 157 = .ok (.aload_n 0, 1) := by decide +kernel
theorem dX7_init_158 : decode cX7_init 158 = .ok (.iconst 0, 1) := by decide +kernel
theorem dX7_init_159 : decode cX7_init 159 = .ok (.putfield 80, 3) := by decide +kernel
theorem dX7_init_162 : decode cX7_init 162 = .ok (.aload_n 0, 1) := by decide +kernel
theorem dX7_init_163 : decode cX7_init 163 = .ok (.bipush 20, 2) := by decide +kernel
theorem dX7_init_165 : decode cX7_init 165 = .ok (.newarray .int, 2) := by decide +kernel
theorem dX7_init_167 : decode cX7_init 167 = .ok (.dup, 1) := by decide +kernel
theorem dX7_init_168 : decode cX7_init 168 = .ok (.iconst 0, 1) := by decide +kernel
theorem dX7_init_169 : decode cX7_init 169 = .ok (.bipush 98, 2) := by decide +kernel
theorem dX7_init_171 : decode cX7_init 171 = .ok (.iastore, 1) := by decide +kernel
theorem dX7_init_172 : decode cX7_init 172 = .ok (.dup, 1) := by decide +kernel
theorem dX7_init_173 : decode cX7_init 173 = .ok (.iconst 1, 1) := by decide +kernel
theorem dX7_init_174 : decode cX7_init 174 = .ok (.bipush 108, 2) := by decide +kernel
theorem dX7_init_176 : decode cX7_init 176 = .ok (.iastore, 1) := by decide +kernel
theorem dX7_init_177 : decode cX7_init 177 = .ok (.dup, 1) := by decide +kernel
theorem dX7_init_178 : decode cX7_init 178 = .ok (.iconst 2, 1) := by decide +kernel
theorem dX7_init_179 : decode cX7_init 179 = .ok (.bipush 101, 2) := by decide +kernel
theorem dX7_init_181 : decode cX7_init 181 = .ok (.iastore, 1) := by decide +kernel
theorem dX7_init_182 : decode cX7_init 182 = .ok (.dup, 1) := by decide +kernel
theorem dX7_init_183 : decode cX7_init 183 = .ok (.iconst 3, 1) := by decide +kernel
theorem dX7_init_184 : decode cX7_init 184 = .ok (.bipush 115, 2) := by decide +kernel
theorem dX7_init_186 : decode cX7_init 186 = .ok (.iastore, 1) := by decide +kernel
theorem dX7_init_187 : decode cX7_init 187 = .ok (.dup, 1) := by decide +kernel
theorem dX7_init_188 : decode cX7_init 188 = .ok (.iconst 4, 1) := by decide +kernel
theorem dX7_init_189 : decode cX7_init 189 = .ok (.bipush 115, 2) := by decide +kernel
theorem dX7_init_191 : decode cX7_init 191 = .ok (.iastore, 1) := by decide +kernel
theorem dX7_init_192 : decode cX7_init 192 = .ok (.dup, 1) := by decide +kernel
theorem dX7_init_193 : decode cX7_init 193 = .ok (.iconst 5, 1) := by decide +kernel
theorem dX7_init_194 : decode cX7_init 194 = .ok (.bipush 98, 2) := by decide +kernel
theorem dX7_init_196 : decode cX7_init 196 = .ok (.iastore, 1) := by decide +kernel
theorem dX7_init_197 : decode cX7_init 197 = .ok (.dup, 1) := by decide +kernel
theorem dX7_init_198 : decode cX7_init 198 = .ok (.bipush 6, 2) := by decide +kernel
theorem dX7_init_200 : decode cX7_init 200 = .ok (.bipush 108, 2) := by decide +kernel
theorem dX7_init_202 : decode cX7_init 202 = .ok (.iastore, 1) := by decide +kernel
theorem dX7_init_203 : decode cX7_init 203 = .ok (.dup, 1) := by decide +kernel
theorem dX7_init_204 : decode cX7_init 204 = .ok (.bipush 7, 2) := by decide +kernel
theorem dX7_init_206 : decode cX7_init 206 = .ok (.bipush 105, 2) := by decide +kernel
theorem dX7_init_208 : decode cX7_init 208 = .ok (.iastore, 1) := by decide +kernel
theorem dX7_init_209 : decode cX7_init 209 = .ok (.dup, 1) := by decide +kernel
theorem dX7_init_210 : decode cX7_init 210 = .ok (.bipush 8, 2) := by decide +kernel
theorem dX7_init_212 : decode cX7_init 212 = .ok (.bipush 103, 2) := by decide +kernel
theorem dX7_init_214 : decode cX7_init 214 = .ok (.iastore, 1) := by decide +kernel
theorem dX7_init_215 : decode cX7_init 215 = .ok (.dup, 1) := by decide +kernel
theorem dX7_init_216 : decode cX7_init 216 = .ok (.bipush 9, 2) := by decide +kernel
theorem dX7_init_218 : decode cX7_init 218 = .ok (.bipush 104, 2) := by decide +kernel
theorem dX7_init_220 : decode cX7_init 220 = .ok (.iastore, 1) := by decide +kernel
theorem dX7_init_221 : decode cX7_init 221 = .ok (.dup, 1) := by decide +kernel
theorem dX7_init_222 : decode cX7_init 222 = .ok (.bipush 10, 2) := by decide +kernel
theorem dX7_init_224 : decode cX7_init 224 = .ok (.bipush 116, 2) := by decide +kernel
theorem dX7_init_226 : decode cX7_init 226 = .ok (.iastore, 1) := by decide +kernel
theorem dX7_init_227 : decode cX7_init 227 = .ok (.dup, 1) := by decide +kernel
theorem dX7_init_228 : decode cX7_init 228 = .ok (.bipush 11, 2) := by decide +kernel
theorem dX7_init_230 : decode cX7_init 230 = .ok (.bipush 114, 2) := by decide +kernel
theorem dX7_init_232 : decode cX7_init 232 = .ok (.iastore, 1) := by decide +kernel
theorem dX7_init_233 : decode cX7_init 233 = .ok (.dup, 1) := by decide +kernel
theorem dX7_init_234 : decode cX7_init 234 = .ok (.bipush 12, 2) := by decide +kernel
theorem dX7_init_236 : decode cX7_init 236 = .ok (.bipush 111, 2) := by decide +kernel
theorem dX7_init_238 : decode cX7_init 238 = .ok (.iastore, 1) := by decide +kernel
theorem dX7_init_239 : decode cX7_init 239 = .ok (.dup, 1) := by decide +kernel
theorem dX7_init_240 : decode cX7_init 240 = .ok (.bipush 13, 2) := by decide +kernel
theorem dX7_init_242 : decode cX7_init 242 = .ok (.bipush 111, 2) := by decide +kernel
theorem dX7_init_244 : decode cX7_init 244 = .ok (.iastore, 1) := by decide +kernel
theorem dX7_init_245 : decode cX7_init 245 = .ok (.dup, 1) := by decide +kernel
theorem dX7_init_246 : decode cX7_init 246 = .ok (.bipush 14, 2) := by decide +kernel
theorem dX7_init_248 : decode cX7_init 248 = .ok (.bipush 109, 2) := by decide +kernel
theorem dX7_init_250 : decode cX7_init 250 = .ok (.iastore, 1) := by decide +kernel
theorem dX7_init_251 : decode cX7_init 251 = .ok (.dup, 1) := by decide +kernel
theorem dX7_init_252 : decode cX7_init 252 = .ok (.bipush 15, 2) := by decide +kernel
theorem dX7_init_254 : decode cX7_init 254 = .ok (.bipush 112, 2) := by decide +kernel
theorem dX7_init_256 : decode cX7_init 256 = .ok (.iastore, 1) := by decide +kernel
theorem dX7_init_257 : decode cX7_init 257 = .ok (.dup, 1) := by decide +kernel
theorem dX7_init_258 : decode cX7_init 258 = .ok (.bipush 16, 2) := by decide +kernel
theorem dX7_init_260 : decode cX7_init 260 = .ok (.bipush 114, 2) := by decide +kernel
theorem dX7_init_262 : decode cX7_init 262 = .ok (.iastore, 1) := by decide +kernel
theorem dX7_init_263 : decode cX7_init 263 = .ok (.dup, 1) := by decide +kernel
theorem dX7_init_264 : decode cX7_init 264 = .ok (.bipush 17, 2) := by decide +kernel
theorem dX7_init_266 : decode cX7_init 266 = .ok (.bipush 101, 2) := by decide +kernel
theorem dX7_init_268 : decode cX7_init 268 = .ok (.iastore, 1) := by decide +kernel
theorem dX7_init_269 : decode cX7_init 269 = .ok (.dup, 1) := by decide +kernel
theorem dX7_init_270 : decode cX7_init 270 = .ok (.bipush 18, 2) := by decide +kernel
theorem dX7_init_272 : decode cX7_init 272 = .ok (.bipush 115, 2) := by decide +kernel
theorem dX7_init_274 : decode cX7_init 274 = .ok (.iastore, 1) := by decide +kernel
theorem dX7_init_275 : decode cX7_init 275 = .ok (.dup, 1) := by decide +kernel
theorem dX7_init_276 : decode cX7_init 276 = .ok (.bipush 19, 2) := by decide +kernel
theorem dX7_init_278 : decode cX7_init 278 = .ok (.bipush 115, 2) := by decide +kernel
theorem dX7_init_280 : decode cX7_init 280 = .ok (.iastore, 1) := by decide +kernel
theorem dX7_init_281 : decode cX7_init 281 = .ok (.putfield 83, 3) := by decide +kernel
theorem dX7_init_284 : decode cX7_init 284 = .ok (.aload_n 0, 1) := by decide +kernel
theorem dX7_init_285 : decode cX7_init 285 = .ok (.bipush 100, 2) := by decide +kernel
theorem dX7_init_287 : decode cX7_init 287 = .ok (.newarray .boolean, 2) := by decide +kernel
theorem dX7_init_289 : decode cX7_init 289 = .ok (.putfield 86, 3) := by decide +kernel
theorem dX7_init_292 : decode cX7_init 292 = .ok (.aload_n 0, 1) := by decide +kernel
theorem dX7_init_293 : decode cX7_init 293 = .ok (.iconst 0, 1) := by decide +kernel
theorem dX7_init_294 : decode cX7_init 294 = .ok (.putfield 90, 3) := by decide +kernel
theorem dX7_init_297 : decode cX7_init 297 = .ok (.aload_n 0, 1) := by decide +kernel
theorem dX7_init_298 : decode cX7_init 298 = .ok (.iconst 0, 1) := by decide +kernel
theorem dX7_init_299 : decode cX7_init 299 = .ok (.putfield 93, 3) := by decide +kernel
theorem dX7_init_302 : decode cX7_init 302 = .ok (.aload_n 0, 1) := by decide +kernel
theorem dX7_init_303 : decode cX7_init 303 = .ok (.iconst 5, 1) := by decide +kernel
theorem dX7_init_304 : decode cX7_init 304 = .ok (.newarray .int, 2) := by decide +kernel
theorem dX7_init_306 : decode cX7_init 306 = .ok (.putfield 96, 3) := by decide +kernel
theorem dX7_init_309 : decode cX7_init 309 = .ok (.aload_n 0, 1) := by decide +kernel
theorem dX7_init_310 : decode cX7_init 310 = .ok (.bipush 15, 2) := by decide +kernel
theorem dX7_init_312 : decode cX7_init 312 = .ok (.newarray .int, 2) := by decide +kernel
theorem dX7_init_314 : decode cX7_init 314 = .ok (.putfield 99, 3) := by decide +kernel
theorem dX7_init_317 : decode cX7_init 317 = .ok (.aload_n 0, 1) := by decide +kernel
theorem dX7_init_318 : decode cX7_init 318 = .ok (.iconst 0, 1) := by decide +kernel
theorem dX7_init_319 : decode cX7_init 319 = .ok (.putfield 102, 3) := by decide +kernel
theorem dX7_init_322 : decode cX7_init 322 = .ok (.aload_n 0, 1) := by decide +kernel
theorem dX7_init_323 : decode cX7_init 323 = .ok (.bipush 8, 2) := by decide +kernel
theorem dX7_init_325 : decode cX7_init 325 = .ok (.newarray .int, 2) := by decide +kernel
theorem dX7_init_327 : decode cX7_init 327 = .ok (.putfield 105, 3) := by decide +kernel
theorem dX7_init_330 : decode cX7_init 330 = .ok (.aload_n 0, 1) := by decide +kernel
theorem dX7_init_331 : decode cX7_init 331 = .ok (.bipush 8, 2) := by decide +kernel
theorem dX7_init_333 : decode cX7_init 333 = .ok (.newarray .int, 2) := by decide +kernel
theorem dX7_init_335 : decode cX7_init 335 = .ok (.putfield 108, 3) := by decide +kernel
theorem dX7_init_338 : decode cX7_init 338 = .ok (.aload_n 0, 1) := by decide +kernel
theorem dX7_init_339 : decode cX7_init 339 = .ok (.bipush 10, 2) := by decide +kernel
theorem dX7_init_341 : decode cX7_init 341 = .ok (.newarray .int, 2) := by decide +kernel
theorem dX7_init_343 : decode cX7_init 343 = .ok (.putfield 111, 3) := by decide +kernel
theorem dX7_init_346 : decode cX7_init 346 = .ok (.aload_n 0, 1) := by decide +kernel
theorem dX7_init_347 : decode cX7_init 347 = .ok (.bipush 10, 2) := by decide +kernel
theorem dX7_init_349 : decode cX7_init 349 = .ok (.newarray .int, 2) := by decide +kernel
theorem dX7_init_351 : decode cX7_init 351 = .ok (.putfield 114, 3) := by decide +kernel
theorem dX7_init_354 : decode cX7_init 354 = .ok (.aload_n 0, 1) := by decide +kernel
theorem dX7_init_355 : decode cX7_init 355 = .ok (.iconst 0, 1) := by decide +kernel
theorem dX7_init_356 : decode cX7_init 356 = .ok (.putfield 117, 3) := by decide +kernel
theorem dX7_init_359 : decode cX7_init 359 = .ok (.aload_n 0, 1) := by decide +kernel
theorem dX7_init_360 : decode cX7_init 360 = .ok (.iconst 0, 1) := by decide +kernel
theorem dX7_init_361 : decode cX7_init 361 = .ok (.putfield 120, 3) := by decide +kernel
theorem dX7_init_364 : decode cX7_init 364 = .ok (.aload_n 0, 1) := by decide +kernel
theorem dX7_init_365 : decode cX7_init 365 = .ok (.iconst 5, 1) := by decide +kernel
theorem dX7_init_366 : decode cX7_init 366 = .ok (.newarray .int, 2) := by decide +kernel
theorem dX7_init_368 : decode cX7_init 368 = .ok (.putfield 123, 3) := by decide +kernel
theorem dX7_init_371 : decode cX7_init 371 = .ok (.aload_n 0, 1) := by decide +kernel
theorem dX7_init_372 : decode cX7_init 372 = .ok (.iconst 5, 1) := by decide +kernel
theorem dX7_init_373 : decode cX7_init 373 = .ok (.newarray .int, 2) := by decide +kernel
theorem dX7_init_375 : decode cX7_init 375 = .ok (.putfield 126, 3) := by decide +kernel
theorem dX7_init_378 : decode cX7_init 378 = .ok (.aload_n 0, 1) := by decide +kernel
theorem dX7_init_379 : decode cX7_init 379 = .ok (.iconst 5, 1) := by decide +kernel
theorem dX7_init_380 : decode cX7_init 380 = .ok (.newarray .int, 2) := by decide +kernel
theorem dX7_init_382 : decode cX7_init 382 = .ok (.putfield 129, 3) := by decide +kernel
theorem dX7_init_385 : decode cX7_init 385 = .ok (.aload_n 0, 1) := by decide +kernel
theorem dX7_init_386 : decode cX7_init 386 = .ok (.iconst 0, 1) := by decide +kernel
theorem dX7_init_387 : decode cX7_init 387 = .ok (.putfield 132, 3) := by decide +kernel
theorem dX7_init_390 : decode cX7_init 390 = .ok (.aload_n 0, 1) := by decide +kernel
theorem dX7_init_391 : decode cX7_init 391 = .ok (.bipush 10, 2) := by decide +kernel
theorem dX7_init_393 : decode cX7_init 393 = .ok (.newarray .int, 2) := by decide +kernel
theorem dX7_init_395 : decode cX7_init 395 = .ok (.putfield 135, 3) := by decide +kernel
theorem dX7_init_398 : decode cX7_init 398 = .ok (.aload_n 0, 1) := by decide +kernel
theorem dX7_init_399 : decode cX7_init 399 = .ok (.bipush 10, 2) := by decide +kernel
theorem dX7_init_401 : decode cX7_init 401 = .ok (.newarray .int, 2) := by decide +kernel
theorem dX7_init_403 : decode cX7_init 403 = .ok (.putfield 138, 3) := by decide +kernel
theorem dX7_init_406 : decode cX7_init 406 = .ok (.aload_n 0, 1) := by decide +kernel
theorem dX7_init_407 : decode cX7_init 407 = .ok (.iconst 0, 1) := by decide +kernel
theorem dX7_init_408 : decode cX7_init 408 = .ok (.putfield 141, 3) := by decide +kernel
theorem dX7_init_411 : decode cX7_init 411 = .ok (.aload_n 0, 1) := by decide +kernel
theorem dX7_init_412 : decode cX7_init 412 = .ok (.iconst (-1), 1) := by decide +kernel
theorem dX7_init_413 : decode cX7_init 413 = .ok (.putfield 145, 3) := by decide +kernel
theorem dX7_init_416 : decode cX7_init 416 = .ok (.aload_n 0, 1) := by decide +kernel
theorem dX7_init_417 : decode cX7_init 417 = .ok (.iconst 0, 1) := by decide +kernel
theorem dX7_init_418 : decode cX7_init 418 = .ok (.putfield 148, 3) := by decide +kernel
theorem dX7_init_421 : decode cX7_init 421 = .ok (.aload_n 0, 1) := by decide +kernel
theorem dX7_init_422 : decode cX7_init 422 = .ok (.iconst 0, 1) := by decide +kernel
theorem dX7_init_423 : decode cX7_init 423 = .ok (.putfield 151, 3) := by decide +kernel
theorem dX7_init_426 : decode cX7_init 426 = .ok (.aload_n 0, 1) := by decide +kernel
theorem dX7_init_427 : decode cX7_init 427 = .ok (.iconst 0, 1) := by decide +kernel
theorem dX7_init_428 : decode cX7_init 428 = .ok (.putfield 154, 3) := by decide +kernel
theorem dX7_init_431 : decode cX7_init 431 = .ok (.aload_n 0, 1) := by decide +kernel
theorem dX7_init_432 : decode cX7_init 432 = .ok (.iconst 0, 1) := by decide +kernel
theorem dX7_init_433 : decode cX7_init 433 = .ok (.putfield 157, 3) := by decide +kernel
theorem dX7_init_436 : decode cX7_init 436 = .ok (.aload_n 0, 1) := by decide +kernel
theorem dX7_init_437 : decode cX7_init 437 = .ok (.iconst 0, 1) := by decide +kernel
theorem dX7_init_438 : decode cX7_init 438 = .ok (.putfield 160, 3) := by decide +kernel
theorem dX7_init_441 : decode cX7_init 441 = .ok (.aload_n 0, 1) := by decide +kernel
theorem dX7_init_442 : decode cX7_init 442 = .ok (.iconst 0, 1) := by decide +kernel
theorem dX7_init_443 : decode cX7_init 443 = .ok (.putfield 163, 3) := by decide +kernel
theorem dX7_init_446 : decode cX7_init 446 = .ok (.aload_n 0, 1) := by decide +kernel
theorem dX7_init_447 : decode cX7_init 447 = .ok (.iconst 5, 1) := by decide +kernel
theorem dX7_init_448 : decode cX7_init 448 = .ok (.newarray .int, 2) := by decide +kernel
theorem dX7_init_450 : decode cX7_init 450 = .ok (.putfield 166, 3) := by decide +kernel
theorem dX7_init_453 : decode cX7_init 453 = .ok (.aload_n 0, 1) := by decide +kernel
theorem dX7_init_454 : decode cX7_init 454 = .ok (.iconst 5, 1) := by decide +kernel
theorem dX7_init_455 : decode cX7_init 455 = .ok (.newarray .int, 2) := by decide +kernel
theorem dX7_init_457 : decode cX7_init 457 = .ok (.putfield 169, 3) := by decide +kernel
theorem dX7_init_460 : decode cX7_init 460 = .ok (.aload_n 0, 1) := by decide +kernel
theorem dX7_init_461 : decode cX7_init 461 = .ok (.iconst 5, 1) := by decide +kernel
theorem dX7_init_462 : decode cX7_init 462 = .ok (.newarray .int, 2) := by decide +kernel
theorem dX7_init_464 : decode cX7_init 464 = .ok (.putfield 172, 3) := by decide +kernel
theorem dX7_init_467 : decode cX7_init 467 = .ok (.aload_n 0, 1) := by decide +kernel
theorem dX7_init_468 : decode cX7_init 468 = .ok (.bipush 15, 2) := by decide +kernel
theorem dX7_init_470 : decode cX7_init 470 = .ok (.newarray .int, 2) := by decide +kernel
theorem dX7_init_472 : decode cX7_init 472 = .ok (.putfield 175, 3) := by decide +kernel
theorem dX7_init_475 : decode cX7_init 475 = .ok (.aload_n 0, 1) := by decide +kernel
theorem dX7_init_476 : decode cX7_init 476 = .ok (.bipush 20, 2) := by decide +kernel
theorem dX7_init_478 : decode cX7_init 478 = .ok (.newarray .int, 2) := by decide +kernel
theorem dX7_init_480 : decode cX7_init 480 = .ok (.putfield 178, 3) := by decide +kernel
theorem dX7_init_483 : decode cX7_init 483 = .ok (.aload_n 0, 1) := by decide +kernel
theorem dX7_init_484 : decode cX7_init 484 = .ok (.iconst 5, 1) := by decide +kernel
theorem dX7_init_485 : decode cX7_init 485 = .ok (.newarray .int, 2) := by decide +kernel
theorem dX7_init_487 : decode cX7_init 487 = .ok (.putfield 181, 3) := by decide +kernel
theorem dX7_init_490 : decode cX7_init 490 = .ok (.aload_n 0, 1) := by decide +kernel
theorem dX7_init_491 : decode cX7_init 491 = .ok (.iconst 5, 1) := by decide +kernel
theorem dX7_init_492 : decode cX7_init 492 = .ok (.newarray .int, 2) := by decide +kernel
theorem dX7_init_494 : decode cX7_init 494 = .ok (.putfield 184, 3) := by decide +kernel
theorem dX7_init_497 : decode cX7_init 497 = .ok (.aload_n 0, 1) := by decide +kernel
theorem dX7_init_498 : decode cX7_init 498 = .ok (.iconst 5, 1) := by decide +kernel
theorem dX7_init_499 : decode cX7_init 499 = .ok (.newarray .int, 2) := by decide +kernel
theorem dX7_init_501 : decode cX7_init 501 = .ok (.putfield 187, 3) := by decide +kernel
theorem dX7_init_504 : decode cX7_init 504 = .ok (.aload_n 0, 1) := by decide +kernel
theorem dX7_init_505 : decode cX7_init 505 = .ok (.bipush 10, 2) := by decide +kernel
theorem dX7_init_507 : decode cX7_init 507 = .ok (.newarray .int, 2) := by decide +kernel
theorem dX7_init_509 : decode cX7_init 509 = .ok (.putfield 190, 3) := by decide +kernel
theorem dX7_init_512 : decode cX7_init 512 = .ok (.aload_n 0, 1) := by decide +kernel
theorem dX7_init_513 : decode cX7_init 513 = .ok (.bipush 10, 2) := by decide +kernel
theorem dX7_init_515 : decode cX7_init 515 = .ok (.newarray .int, 2) := by decide +kernel
theorem dX7_init_517 : decode cX7_init 517 = .ok (.putfield 193, 3) := by decide +kernel
theorem dX7_init_520 : decode cX7_init 520 = .ok (.aload_n 0, 1) := by decide +kernel
theorem dX7_init_521 : decode cX7_init 521 = .ok (.bipush 8, 2) := by decide +kernel
theorem dX7_init_523 : decode cX7_init 523 = .ok (.newarray .int, 2) := by decide +kernel
theorem dX7_init_525 : decode cX7_init 525 = .ok (.putfield 196, 3) := by decide +kernel
theorem dX7_init_528 : decode cX7_init 528 = .ok (.aload_n 0, 1) := by decide +kernel
theorem dX7_init_529 : decode cX7_init 529 = .ok (.bipush 8, 2) := by decide +kernel
theorem dX7_init_531 : decode cX7_init 531 = .ok (.newarray .int, 2) := by decide +kernel
theorem dX7_init_533 : decode cX7_init 533 = .ok (.putfield 199, 3) := by decide +kernel
theorem dX7_init_536 : decode cX7_init 536 = .ok (.aload_n 0, 1) := by decide +kernel
theorem dX7_init_537 : decode cX7_init 537 = .ok (.iconst 0, 1) := by decide +kernel
theorem dX7_init_538 : decode cX7_init 538 = .ok (.putfield 202, 3) := by decide +kernel
theorem dX7_init_541 : decode cX7_init 541 = .ok (.aload_n 0, 1) := by decide +kernel
theorem dX7_init_542 : decode cX7_init 542 = .ok (.bipush 20, 2) := by decide +kernel
theorem dX7_init_544 : decode cX7_init 544 = .ok (.newarray .int, 2) := by decide +kernel
theorem dX7_init_546 : decode cX7_init 546 = .ok (.putfield 205, 3) := by decide +kernel
theorem dX7_init_549 : decode cX7_init 549 = .ok (.aload_n 0, 1) := by decide +kernel
theorem dX7_init_550 : decode cX7_init 550 = .ok (.bipush 6, 2) := by decide +kernel
theorem dX7_init_552 : decode cX7_init 552 = .ok (.newarray .int, 2) := by decide +kernel
theorem dX7_init_554 : decode cX7_init 554 = .ok (.dup, 1) := by decide +kernel
theorem dX7_init_555 : decode cX7_init 555 = .ok (.iconst 0, 1) := by decide +kernel
theorem dX7_init_556 : decode cX7_init 556 = .ok (.iconst (-1), 1) := by decide +kernel
theorem dX7_init_557 : decode cX7_init 557 = .ok (.iastore, 1) := by decide +kernel
theorem dX7_init_558 : decode cX7_init 558 = .ok (.dup, 1) := by decide +kernel
theorem dX7_init_559 : decode cX7_init 559 = .ok (.iconst 1, 1) := by decide +kernel
theorem dX7_init_560 : decode cX7_init 560 = .ok (.iconst (-1), 1) := by decide +kernel
theorem dX7_init_561 : decode cX7_init 561 = .ok (.iastore, 1) := by decide +kernel
theorem dX7_init_562 : decode cX7_init 562 = .ok (.dup, 1) := by decide +kernel
theorem dX7_init_563 : decode cX7_init 563 = .ok (.iconst 2, 1) := by decide +kernel
theorem dX7_init_564 : decode cX7_init 564 = .ok (.iconst (-1), 1) := by decide +kernel
theorem dX7_init_565 : decode cX7_init 565 = .ok (.iastore, 1) := by decide +kernel
theorem dX7_init_566 : decode cX7_init 566 = .ok (.dup, 1) := by decide +kernel
theorem dX7_init_567 : decode cX7_init 567 = .ok (.iconst 3, 1) := by decide +kernel
theorem dX7_init_568 : decode cX7_init 568 = .ok (.iconst (-1), 1) := by decide +kernel
theorem dX7_init_569 : decode cX7_init 569 = .ok (.iastore, 1) := by decide +kernel
theorem dX7_init_570 : decode cX7_init 570 = .ok (.dup, 1) := by decide +kernel
theorem dX7_init_571 : decode cX7_init 571 = .ok (.iconst 4, 1) := by decide +kernel
theorem dX7_init_572 : decode cX7_init 572 = .ok (.iconst (-1), 1) := by decide +kernel
theorem dX7_init_573 : decode cX7_init 573 = .ok (.iastore, 1) := by decide +kernel
theorem dX7_init_574 : decode cX7_init 574 = .ok (.dup, 1) := by decide +kernel
theorem dX7_init_575 : decode cX7_init 575 = .ok (.iconst 5, 1) := by decide +kernel
theorem dX7_init_576 : decode cX7_init 576 = .ok (.iconst (-1), 1) := by decide +kernel
theorem dX7_init_577 : decode cX7_init 577 = .ok (.iastore, 1) := by decide +kernel
theorem dX7_init_578 : decode cX7_init 578 = .ok (.putfield 208, 3) := by decide +kernel
theorem dX7_init_581 : decode cX7_init 581 = .ok (.aload_n 0, 1) := by decide +kernel
theorem dX7_init_582 : decode cX7_init 582 = .ok (.bipush 6, 2) := by decide +kernel
theorem dX7_init_584 : decode cX7_init 584 = .ok (.newarray .int, 2) := by decide +kernel
theorem dX7_init_586 : decode cX7_init 586 = .ok (.putfield 211, 3) := by decide +kernel
theorem dX7_init_589 : decode cX7_init 589 = .ok (.aload_n 0, 1) := by decide +kernel
theorem dX7_init_590 : decode cX7_init 590 = .ok (.sipush 360, 3) := by decide +kernel
theorem dX7_init_593 : decode cX7_init 593 = .ok (.newarray .long, 2) := by decide +kernel
theorem dX7_init_595 : decode cX7_init 595 = .ok (.putfield 214, 3) := by decide +kernel
theorem dX7_init_598 : decode cX7_init 598 = .ok (.aload_n 0, 1) := by decide +kernel
theorem dX7_init_599 : decode cX7_init 599 = .ok (.bipush 60, 2) := by decide +kernel
theorem dX7_init_601 : decode cX7_init 601 = .ok (.newarray .long, 2) := by decide +kernel
theorem dX7_init_603 : decode cX7_init 603 = .ok (.putfield 218, 3) := by decide +kernel
theorem dX7_init_606 : decode cX7_init 606 = .ok (.return_, 1) := by decide +kernel
theorem dX7_in_0 : decode cX7_in 0 = .ok (.iload_n 1, 1) := by decide +kernel
theorem dX7_in_1 : decode cX7_in 1 = .ok (.iload_n 2, 1) := by decide +kernel
theorem dX7_in_2 : decode cX7_in 2 = .ok (.if_icmp .lt 12, 3) := by decide +kernel
theorem dX7_in_5 : decode cX7_in 5 = .ok (.iload_n 1, 1) := by decide +kernel
theorem dX7_in_6 : decode cX7_in 6 = .ok (.iload_n 3, 1) := by decide +kernel
theorem dX7_in_7 : decode cX7_in 7 = .ok (.if_icmp .gt 7, 3) := by decide +kernel
theorem dX7_in_10 : decode cX7_in 10 = .ok (.iconst 1, 1) := by decide +kernel
theorem dX7_in_11 : decode cX7_in 11 = .ok (.goto 4, 3) := by decide +kernel
theorem dX7_in_14 : decode cX7_in 14 = .ok (.iconst 0, 1) := by decide +kernel
theorem dX7_in_15 : decode cX7_in 15 = .ok (.ireturn, 1) := by decide +kernel
theorem dX7_least_0 : decode cX7_least 0 = .ok (.iload_n 1, 1) := by decide +kernel
theorem dX7_least_1 : decode cX7_least 1 = .ok (.iload_n 2, 1) := by decide +kernel
theorem dX7_least_2 : decode cX7_least 2 = .ok (.if_icmp .ge 7, 3) := by decide +kernel
theorem dX7_least_5 : decode cX7_least 5 = .ok (.iload_n 1, 1) := by decide +kernel
theorem dX7_least_6 : decode cX7_least 6 = .ok (.goto 4, 3) := by decide +kernel
theorem dX7_least_9 : decode cX7_least 9 = .ok (.iload_n 2, 1) := by decide +kernel
theorem dX7_least_10 : decode cX7_least 10 = .ok (.ireturn, 1) := by decide +kernel
theorem dX7_least0_0 : decode cX7_least0 0 = .ok (.iload_n 1, 1) := by decide +kernel
theorem dX7_least0_1 : decode cX7_least0 1 = .ok (.ifCond .ge 7, 3) := by decide +kernel
theorem dX7_least0_4 : decode cX7_least0 4 = .ok (.iconst 0, 1) := by decide +kernel
theorem dX7_least0_5 : decode cX7_least0 5 = .ok (.goto 4, 3) := by decide +kernel
theorem dX7_least0_8 : decode cX7_least0 8 = .ok (.iload_n 1, 1) := by decide +kernel
theorem dX7_least0_9 : decode cX7_least0 9 = .ok (.ireturn, 1) := by decide +kernel
theorem dX7_isHand_0 : decode cX7_isHand 0 = .ok (.aload_n 0, 1) := by decide +kernel
theorem dX7_isHand_1 : decode cX7_isHand 1 = .ok (.iload_n 1, 1) := by decide +kernel
theorem dX7_isHand_2 : decode cX7_isHand 2 = .ok (.iconst 0, 1) := by decide +kernel
theorem dX7_isHand_3 : decode cX7_isHand 3 = .ok (.aload_n 0, 1) := by decide +kernel
theorem dX7_isHand_4 : decode cX7_isHand 4 = .ok (.getfield 7, 3) := by decide +kernel
theorem dX7_isHand_7 : decode cX7_isHand 7 = .ok (.iconst 1, 1) := by decide +kernel
theorem dX7_isHand_8 : decode cX7_isHand 8 = .ok (.isub, 1) := by decide +kernel
theorem dX7_isHand_9 : decode cX7_isHand 9 = .ok (.invokevirtual 221, 3) := by decide +kernel
theorem dX7_isHand_12 : decode cX7_isHand 12 = .ok (.ireturn, 1) := by decide +kernel
theorem dX7_isLine_0 : decode cX7_isLine 0 = .ok (.aload_n 0, 1) := by decide +kernel
theorem dX7_isLine_1 : decode cX7_isLine 1 = .ok (.iload_n 1, 1) := by decide +kernel
theorem dX7_isLine_2 : decode cX7_isLine 2 = .ok (.iconst 0, 1) := by decide +kernel
theorem dX7_isLine_3 : decode cX7_isLine 3 = .ok (.iconst 2, 1) := by decide +kernel
theorem dX7_isLine_4 : decode cX7_isLine 4 = .ok (.invokevirtual 221, 3) := by decide +kernel
theorem dX7_isLine_7 : decode cX7_isLine 7 = .ok (.ireturn, 1) := by decide +kernel
theorem dX7_isLength_0 : decode cX7_isLength 0 = .ok (.aload_n 0, 1) := by decide +kernel
theorem dX7_isLength_1 : decode cX7_isLength 1 = .ok (.iload_n 1, 1) := by decide +kernel
theorem dX7_isLength_2 : decode cX7_isLength 2 = .ok (.iconst 0, 1) := by decide +kernel
theorem dX7_isLength_3 : decode cX7_isLength 3 = .ok (.bipush 60, 2) := by decide +kernel
theorem dX7_isLength_5 : decode cX7_isLength 5 = .ok (.invokevirtual 221, 3) := by decide +kernel
theorem dX7_isLength_8 : decode cX7_isLength 8 = .ok (.ireturn, 1) := by decide +kernel
theorem dX7_isFortune_0 : decode cX7_isFortune 0 = .ok (.aload_n 0, 1) := by decide +kernel
theorem dX7_isFortune_1 : decode cX7_isFortune 1 = .ok (.iload_n 1, 1) := by decide +kernel
theorem dX7_isFortune_2 : decode cX7_isFortune 2 = .ok (.iconst 0, 1) := by decide +kernel
theorem dX7_isFortune_3 : decode cX7_isFortune 3 = .ok (.sipush 999, 3) := by decide +kernel
theorem dX7_isFortune_6 : decode cX7_isFortune 6 = .ok (.invokevirtual 221, 3) := by decide +kernel
theorem dX7_isFortune_9 : decode cX7_isFortune 9 = .ok (.ireturn, 1) := by decide +kernel
theorem dX7_hand_0 : decode cX7_hand 0 = .ok (.aload_n 0, 1) := by decide +kernel
theorem dX7_hand_1 : decode cX7_hand 1 = .ok (.iload_n 1, 1) := by decide +kernel
theorem dX7_hand_2 : decode cX7_hand 2 = .ok (.iconst 0, 1) := by decide +kernel
theorem dX7_hand_3 : decode cX7_hand 3 = .ok (.bipush 6, 2) := by decide +kernel
theorem dX7_hand_5 : decode cX7_hand 5 = .ok (.invokevirtual 221, 3) := by decide +kernel
theorem dX7_hand_8 : decode cX7_hand 8 = .ok (.ifCond .ne 5, 3) := by decide +kernel
theorem dX7_hand_11 : decode cX7_hand 11 = .ok (.iconst (-1), 1) := by decide +kernel
theorem dX7_hand_12 : decode cX7_hand 12 = .ok (.ireturn, 1) := by decide +kernel
theorem dX7_hand_13 : decode cX7_hand 13 = .ok (.aload_n 0, 1) := by decide +kernel
theorem dX7_hand_14 : decode cX7_hand 14 = .ok (.iload_n 2, 1) := by decide +kernel
theorem dX7_hand_15 : decode cX7_hand 15 = .ok (.iconst 0, 1) := by decide +kernel
theorem dX7_hand_16 : decode cX7_hand 16 = .ok (.bipush 9, 2) := by decide +kernel
theorem dX7_hand_18 : decode cX7_hand 18 = .ok (.invokevirtual 221, 3) := by decide +kernel
theorem dX7_hand_21 : decode cX7_hand 21 = .ok (.ifCond .eq 11, 3) := by decide +kernel
theorem dX7_hand_24 : decode cX7_hand 24 = .ok (.aload_n 0, 1) := by decide +kernel
theorem dX7_hand_25 : decode cX7_hand 25 = .ok (.iload_n 3, 1) := by decide +kernel
theorem dX7_hand_26 : decode cX7_hand 26 = .ok (.invokevirtual 225, 3) := by decide +kernel
theorem dX7_hand_29 : decode cX7_hand 29 = .ok (.ifCond .ne 6, 3) := by decide +kernel
theorem dX7_hand_32 : decode cX7_hand 32 = .ok (.bipush (-2), 2) := by decide +kernel
theorem dX7_hand_34 : decode cX7_hand 34 = .ok (.ireturn, 1) := by decide +kernel
theorem dX7_hand_35 : decode cX7_hand 35 = .ok (.aload_n 0, 1) := by decide +kernel
theorem dX7_hand_36 : decode cX7_hand 36 = .ok (.getfield 7, 3) := by decide +kernel
theorem dX7_hand_39 : decode cX7_hand 39 = .ok (.iconst 5, 1) := by decide +kernel
theorem dX7_hand_40 : decode cX7_hand 40 = .ok (.if_icmp .ne 6, 3) := by decide +kernel
theorem dX7_hand_43 : decode cX7_hand 43 = .ok (.bipush (-4), 2) := by decide +kernel
theorem dX7_hand_45 : decode cX7_hand 45 = .ok (.ireturn, 1) := by decide +kernel
theorem dX7_hand_46 : decode cX7_hand 46 = .ok (.aload_n 0, 1) := by decide +kernel
theorem dX7_hand_47 : decode cX7_hand 47 = .ok (.getfield 19, 3) := by decide +kernel
theorem dX7_hand_50 : decode cX7_hand 50 = .ok (.aload_n 0, 1) := by decide +kernel
theorem dX7_hand_51 : decode cX7_hand 51 = .ok (.getfield 7, 3) := by decide +kernel
theorem dX7_hand_54 : decode cX7_hand 54 = .ok (.iload_n 1, 1) := by decide +kernel
theorem dX7_hand_55 : decode cX7_hand 55 = .ok (.iastore, 1) := by decide +kernel
theorem dX7_hand_56 : decode cX7_hand 56 = .ok (.aload_n 0, 1) := by decide +kernel
theorem dX7_hand_57 : decode cX7_hand 57 = .ok (.getfield 23, 3) := by decide +kernel
theorem dX7_hand_60 : decode cX7_hand 60 = .ok (.aload_n 0, 1) := by decide +kernel
theorem dX7_hand_61 : decode cX7_hand 61 = .ok (.getfield 7, 3) := by decide +kernel
theorem dX7_hand_64 : decode cX7_hand 64 = .ok (.iload_n 2, 1) := by decide +kernel
theorem dX7_hand_65 : decode cX7_hand 65 = .ok (.iastore, 1) := by decide +kernel
theorem dX7_hand_66 : decode cX7_hand 66 = .ok (.aload_n 0, 1) := by decide +kernel
theorem dX7_hand_67 : decode cX7_hand 67 = .ok (.getfield 26, 3) := by decide +kernel
theorem dX7_hand_70 : decode cX7_hand 70 = .ok (.aload_n 0, 1) := by decide +kernel
theorem dX7_hand_71 : decode cX7_hand 71 = .ok (.getfield 7, 3) := by decide +kernel
theorem dX7_hand_74 : decode cX7_hand 74 = .ok (.iconst 0, 1) := by decide +kernel
theorem dX7_hand_75 : decode cX7_hand 75 = .ok (.iastore, 1) := by decide +kernel
theorem dX7_hand_76 : decode cX7_hand 76 = .ok (.iconst 0, 1) := by decide +kernel
theorem dX7_hand_77 : decode cX7_hand 77 = .ok (.istore 4, 2) := by decide +kernel
theorem dX7_hand_79 : decode cX7_hand 79 = .ok (.iload 4, 2) := by decide +kernel
theorem dX7_hand_81 : decode cX7_hand 81 = .ok (.iconst 3, 1) := by decide +kernel
theorem dX7_hand_82 : decode cX7_hand 82 = .ok (.if_icmp .ge 24, 3) := by decide +kernel
theorem dX7_hand_85 : decode cX7_hand 85 = .ok (.aload_n 0, 1) := by decide +kernel
theorem dX7_hand_86 : decode cX7_hand 86 = .ok (.getfield 29, 3) := by decide +kernel
theorem dX7_hand_89 : decode cX7_hand 89 = .ok (.iconst 3, 1) := by decide +kernel
theorem dX7_hand_90 : decode cX7_hand 90 = .ok (.aload_n 0, 1) := by decide +kernel
theorem dX7_hand_91 : decode cX7_hand 91 = .ok (.getfield 7, 3) := by decide +kernel
theorem dX7_hand_94 : decode cX7_hand 94 = .ok (.imul, 1) := by decide +kernel
theorem dX7_hand_95 : decode cX7_hand 95 = .ok (.iload 4, 2) := by decide +kernel
theorem dX7_hand_97 : decode cX7_hand 97 = .ok (.iadd, 1) := by decide +kernel
theorem dX7_hand_98 : decode cX7_hand 98 = .ok (.iload_n 3, 1) := by decide +kernel
theorem dX7_hand_99 : decode cX7_hand 99 = .ok (.iastore, 1) := by decide +kernel
theorem dX7_hand_100 : decode cX7_hand 100 = .ok (.iinc 4 1, 3) := by decide +kernel
theorem dX7_hand_103 : decode cX7_hand 103 = .ok (.goto (-24), 3) := by decide +kernel
theorem dX7_hand_106 : decode cX7_hand 106 = .ok (.iconst 0, 1) := by decide +kernel
theorem dX7_hand_107 : decode cX7_hand 107 = .ok (.istore 4, 2) := by decide +kernel
theorem dX7_hand_109 : decode cX7_hand 109 = .ok (.iload 4, 2) := by decide +kernel
theorem dX7_hand_111 : decode cX7_hand 111 = .ok (.iconst 4, 1) := by decide +kernel
theorem dX7_hand_112 : decode cX7_hand 112 = .ok (.if_icmp .ge 24, 3) := by decide +kernel
theorem dX7_hand_115 : decode cX7_hand 115 = .ok (.aload_n 0, 1) := by decide +kernel
theorem dX7_hand_116 : decode cX7_hand 116 = .ok (.getfield 32, 3) := by decide +kernel
theorem dX7_hand_119 : decode cX7_hand 119 = .ok (.iconst 4, 1) := by decide +kernel
theorem dX7_hand_120 : decode cX7_hand 120 = .ok (.aload_n 0, 1) := by decide +kernel
theorem dX7_hand_121 : decode cX7_hand 121 = .ok (.getfield 7, 3) := by decide +kernel
theorem dX7_hand_124 : decode cX7_hand 124 = .ok (.imul, 1) := by decide +kernel
theorem dX7_hand_125 : decode cX7_hand 125 = .ok (.iload 4, 2) := by decide +kernel
theorem dX7_hand_127 : decode cX7_hand 127 = .ok (.iadd, 1) := by decide +kernel
theorem dX7_hand_128 : decode cX7_hand 128 = .ok (.iconst 0, 1) := by decide +kernel
theorem dX7_hand_129 : decode cX7_hand 129 = .ok (.iastore, 1) := by decide +kernel
theorem dX7_hand_130 : decode cX7_hand 130 = .ok (.iinc 4 1, 3) := by decide +kernel
theorem dX7_hand_133 : decode cX7_hand 133 = .ok (.goto (-24), 3) := by decide +kernel
theorem dX7_hand_136 : decode cX7_hand 136 = .ok (.aload_n 0, 1) := by decide +kernel
theorem dX7_hand_137 : decode cX7_hand 137 = .ok (.dup, 1) := by decide +kernel
theorem dX7_hand_138 : decode cX7_hand 138 = .ok (.getfield 7, 3) := by decide +kernel
theorem dX7_hand_141 : decode cX7_hand 141 = .ok (.iconst 1, 1) := by decide +kernel
theorem dX7_hand_142 : decode cX7_hand 142 = .ok (.iadd, 1) := by decide +kernel
theorem dX7_hand_143 : decode cX7_hand 143 = .ok (.putfield 7, 3) := by decide +kernel
theorem dX7_hand_146 : decode cX7_hand 146 = .ok (.aload_n 0, 1) := by decide +kernel
theorem dX7_hand_147 : decode cX7_hand 147 = .ok (.getfield 7, 3) := by decide +kernel
theorem dX7_hand_150 : decode cX7_hand 150 = .ok (.iconst 1, 1) := by decide +kernel
theorem dX7_hand_151 : decode cX7_hand 151 = .ok (.isub, 1) := by decide +kernel
theorem dX7_hand_152 : decode cX7_hand 152 = .ok (.ireturn, 1) := by decide +kernel
theorem dX7_set_0 : decode cX7_set 0 = .ok (.aload_n 0, 1) := by decide +kernel
theorem dX7_set_1 : decode cX7_set 1 = .ok (.iload_n 1, 1) := by decide +kernel
theorem dX7_set_2 : decode cX7_set 2 = .ok (.invokevirtual 229, 3) := by decide +kernel
theorem dX7_set_5 : decode cX7_set 5 = .ok (.ifCond .eq 11, 3) := by decide +kernel
theorem dX7_set_8 : decode cX7_set 8 = .ok (.aload_n 0, 1) := by decide +kernel
theorem dX7_set_9 : decode cX7_set 9 = .ok (.iload_n 2, 1) := by decide +kernel
theorem dX7_set_10 : decode cX7_set 10 = .ok (.invokevirtual 232, 3) := by decide +kernel
theorem dX7_set_13 : decode cX7_set 13 = .ok (.ifCond .ne 5, 3) := by decide +kernel
theorem dX7_set_16 : decode cX7_set 16 = .ok (.iconst (-1), 1) := by decide +kernel
theorem dX7_set_17 : decode cX7_set 17 = .ok (.ireturn, 1) := by decide +kernel
theorem dX7_set_18 : decode cX7_set 18 = .ok (.aload_n 0, 1) := by decide +kernel
theorem dX7_set_19 : decode cX7_set 19 = .ok (.iload_n 3, 1) := by decide +kernel
theorem dX7_set_20 : decode cX7_set 20 = .ok (.invokevirtual 225, 3) := by decide +kernel
theorem dX7_set_23 : decode cX7_set 23 = .ok (.ifCond .ne 6, 3) := by decide +kernel
theorem dX7_set_26 : decode cX7_set 26 = .ok (.bipush (-2), 2) := by decide +kernel
theorem dX7_set_28 : decode cX7_set 28 = .ok (.ireturn, 1) := by decide +kernel
theorem dX7_set_29 : decode cX7_set 29 = .ok (.aload_n 0, 1) := by decide +kernel
theorem dX7_set_30 : decode cX7_set 30 = .ok (.getfield 29, 3) := by decide +kernel
theorem dX7_set_33 : decode cX7_set 33 = .ok (.iconst 3, 1) := by decide +kernel
theorem dX7_set_34 : decode cX7_set 34 = .ok (.iload_n 1, 1) := by decide +kernel
theorem dX7_set_35 : decode cX7_set 35 = .ok (.imul, 1) := by decide +kernel
theorem dX7_set_36 : decode cX7_set 36 = .ok (.iload_n 2, 1) := by decide +kernel
theorem dX7_set_37 : decode cX7_set 37 = .ok (.iadd, 1) := by decide +kernel
theorem dX7_set_38 : decode cX7_set 38 = .ok (.iaload, 1) := by decide +kernel
theorem dX7_set_39 : decode cX7_set 39 = .ok (.istore 4, 2) := by decide +kernel
theorem dX7_set_41 : decode cX7_set 41 = .ok (.aload_n 0, 1) := by decide +kernel
theorem dX7_set_42 : decode cX7_set 42 = .ok (.getfield 29, 3) := by decide +kernel
theorem dX7_set_45 : decode cX7_set 45 = .ok (.iconst 3, 1) := by decide +kernel
theorem dX7_set_46 : decode cX7_set 46 = .ok (.iload_n 1, 1) := by decide +kernel
theorem dX7_set_47 : decode cX7_set 47 = .ok (.imul, 1) := by decide +kernel
theorem dX7_set_48 : decode cX7_set 48 = .ok (.iload_n 2, 1) := by decide +kernel
theorem dX7_set_49 : decode cX7_set 49 = .ok (.iadd, 1) := by decide +kernel
theorem dX7_set_50 : decode cX7_set 50 = .ok (.iload_n 3, 1) := by decide +kernel
theorem dX7_set_51 : decode cX7_set 51 = .ok (.iastore, 1) := by decide +kernel
theorem dX7_set_52 : decode cX7_set 52 = .ok (.iload 4, 2) := by decide +kernel
theorem dX7_set_54 : decode cX7_set 54 = .ok (.ireturn, 1) := by decide +kernel
theorem dX7_row_0 : decode cX7_row 0 = .ok (.aload_n 0, 1) := by decide +kernel
theorem dX7_row_1 : decode cX7_row 1 = .ok (.iload_n 1, 1) := by decide +kernel
theorem dX7_row_2 : decode cX7_row 2 = .ok (.invokevirtual 229, 3) := by decide +kernel
theorem dX7_row_5 : decode cX7_row 5 = .ok (.ifCond .eq 13, 3) := by decide +kernel
theorem dX7_row_8 : decode cX7_row 8 = .ok (.aload_n 0, 1) := by decide +kernel
theorem dX7_row_9 : decode cX7_row 9 = .ok (.iload_n 2, 1) := by decide +kernel
theorem dX7_row_10 : decode cX7_row 10 = .ok (.iconst 0, 1) := by decide +kernel
theorem dX7_row_11 : decode cX7_row 11 = .ok (.iconst 3, 1) := by decide +kernel
theorem dX7_row_12 : decode cX7_row 12 = .ok (.invokevirtual 221, 3) := by decide +kernel
theorem dX7_row_15 : decode cX7_row 15 = .ok (.ifCond .ne 5, 3) := by decide +kernel
theorem dX7_row_18 : decode cX7_row 18 = .ok (.iconst (-1), 1) := by decide +kernel
theorem dX7_row_19 : decode cX7_row 19 = .ok (.ireturn, 1) := by decide +kernel
theorem dX7_row_20 : decode cX7_row 20 = .ok (.aload_n 0, 1) := by decide +kernel
theorem dX7_row_21 : decode cX7_row 21 = .ok (.iload_n 3, 1) := by decide +kernel
theorem dX7_row_22 : decode cX7_row 22 = .ok (.iconst 0, 1) := by decide +kernel
theorem dX7_row_23 : decode cX7_row 23 = .ok (.bipush 9, 2) := by decide +kernel
theorem dX7_row_25 : decode cX7_row 25 = .ok (.invokevirtual 221, 3) := by decide +kernel
theorem dX7_row_28 : decode cX7_row 28 = .ok (.ifCond .ne 6, 3) := by decide +kernel
theorem dX7_row_31 : decode cX7_row 31 = .ok (.bipush (-2), 2) := by decide +kernel
theorem dX7_row_33 : decode cX7_row 33 = .ok (.ireturn, 1) := by decide +kernel
theorem dX7_row_34 : decode cX7_row 34 = .ok (.aload_n 0, 1) := by decide +kernel
theorem dX7_row_35 : decode cX7_row 35 = .ok (.getfield 19, 3) := by decide +kernel
theorem dX7_row_38 : decode cX7_row 38 = .ok (.iload_n 1, 1) := by decide +kernel
theorem dX7_row_39 : decode cX7_row 39 = .ok (.iaload, 1) := by decide +kernel
theorem dX7_row_40 : decode cX7_row 40 = .ok (.bipush 6, 2) := by decide +kernel
theorem dX7_row_42 : decode cX7_row 42 = .ok (.if_icmp .eq 6, 3) := by decide +kernel
theorem dX7_row_45 : decode cX7_row 45 = .ok (.bipush (-3), 2) := by decide +kernel
theorem dX7_row_47 : decode cX7_row 47 = .ok (.ireturn, 1) := by decide +kernel
theorem dX7_row_48 : decode cX7_row 48 = .ok (.aload_n 0, 1) := by decide +kernel
theorem dX7_row_49 : decode cX7_row 49 = .ok (.getfield 32, 3) := by decide +kernel
theorem dX7_row_52 : decode cX7_row 52 = .ok (.iconst 4, 1) := by decide +kernel
theorem dX7_row_53 : decode cX7_row 53 = .ok (.iload_n 1, 1) := by decide +kernel
theorem dX7_row_54 : decode cX7_row 54 = .ok (.imul, 1) := by decide +kernel
theorem dX7_row_55 : decode cX7_row 55 = .ok (.iload_n 2, 1) := by decide +kernel
theorem dX7_row_56 : decode cX7_row 56 = .ok (.iadd, 1) := by decide +kernel
theorem dX7_row_57 : decode cX7_row 57 = .ok (.iaload, 1) := by decide +kernel
theorem dX7_row_58 : decode cX7_row 58 = .ok (.istore 4, 2) := by decide +kernel
theorem dX7_row_60 : decode cX7_row 60 = .ok (.aload_n 0, 1) := by decide +kernel
theorem dX7_row_61 : decode cX7_row 61 = .ok (.getfield 32, 3) := by decide +kernel
theorem dX7_row_64 : decode cX7_row 64 = .ok (.iconst 4, 1) := by decide +kernel
theorem dX7_row_65 : decode cX7_row 65 = .ok (.iload_n 1, 1) := by decide +kernel
theorem dX7_row_66 : decode cX7_row 66 = .ok (.imul, 1) := by decide +kernel
theorem dX7_row_67 : decode cX7_row 67 = .ok (.iload_n 2, 1) := by decide +kernel
theorem dX7_row_68 : decode cX7_row 68 = .ok (.iadd, 1) := by decide +kernel
theorem dX7_row_69 : decode cX7_row 69 = .ok (.iload_n 3, 1) := by decide +kernel
theorem dX7_row_70 : decode cX7_row 70 = .ok (.iastore, 1) := by decide +kernel
theorem dX7_row_71 : decode cX7_row 71 = .ok (.iload 4, 2) := by decide +kernel
theorem dX7_row_73 : decode cX7_row 73 = .ok (.ireturn, 1) := by decide +kernel
theorem dX7_ink_0 : decode cX7_ink 0 = .ok (.aload_n 0, 1) := by decide +kernel
theorem dX7_ink_1 : decode cX7_ink 1 = .ok (.iload_n 1, 1) := by decide +kernel
theorem dX7_ink_2 : decode cX7_ink 2 = .ok (.iconst 0, 1) := by decide +kernel
theorem dX7_ink_3 : decode cX7_ink 3 = .ok (.sipush 999, 3) := by decide +kernel
theorem dX7_ink_6 : decode cX7_ink 6 = .ok (.invokevirtual 221, 3) := by decide +kernel
theorem dX7_ink_9 : decode cX7_ink 9 = .ok (.ifCond .ne 6, 3) := by decide +kernel
theorem dX7_ink_12 : decode cX7_ink 12 = .ok (.bipush (-2), 2) := by decide +kernel
theorem dX7_ink_14 : decode cX7_ink 14 = .ok (.ireturn, 1) := by decide +kernel
theorem dX7_ink_15 : decode cX7_ink 15 = .ok (.aload_n 0, 1) := by decide +kernel
theorem dX7_ink_16 : decode cX7_ink 16 = .ok (.getfield 16, 3) := by decide +kernel
theorem dX7_ink_19 : decode cX7_ink 19 = .ok (.istore_n 2, 1) := by decide +kernel
theorem dX7_ink_20 : decode cX7_ink 20 = .ok (.aload_n 0, 1) := by decide +kernel
theorem dX7_ink_21 : decode cX7_ink 21 = .ok (.iload_n 1, 1) := by decide +kernel
theorem dX7_ink_22 : decode cX7_ink 22 = .ok (.putfield 16, 3) := by decide +kernel
theorem dX7_ink_25 : decode cX7_ink 25 = .ok (.iload_n 2, 1) := by decide +kernel
theorem dX7_ink_26 : decode cX7_ink 26 = .ok (.ireturn, 1) := by decide +kernel
theorem dX7_feed_0 : decode cX7_feed 0 = .ok (.aload_n 0, 1) := by decide +kernel
theorem dX7_feed_1 : decode cX7_feed 1 = .ok (.iload_n 1, 1) := by decide +kernel
theorem dX7_feed_2 : decode cX7_feed 2 = .ok (.iconst 0, 1) := by decide +kernel
theorem dX7_feed_3 : decode cX7_feed 3 = .ok (.bipush 127, 2) := by decide +kernel
theorem dX7_feed_5 : decode cX7_feed 5 = .ok (.invokevirtual 221, 3) := by decide +kernel
theorem dX7_feed_8 : decode cX7_feed 8 = .ok (.ifCond .ne 6, 3) := by decide +kernel
theorem dX7_feed_11 : decode cX7_feed 11 = .ok (.bipush (-2), 2) := by decide +kernel
theorem dX7_feed_13 : decode cX7_feed 13 = .ok (.ireturn, 1) := by decide +kernel
theorem dX7_feed_14 : decode cX7_feed 14 = .ok (.aload_n 0, 1) := by decide +kernel
theorem dX7_feed_15 : decode cX7_feed 15 = .ok (.getfield 41, 3) := by decide +kernel
theorem dX7_feed_18 : decode cX7_feed 18 = .ok (.bipush 100, 2) := by decide +kernel
theorem dX7_feed_20 : decode cX7_feed 20 = .ok (.if_icmp .ne 6, 3) := by decide +kernel
theorem dX7_feed_23 : decode cX7_feed 23 = .ok (.bipush (-4), 2) := by decide +kernel
theorem dX7_feed_25 : decode cX7_feed 25 = .ok (.ireturn, 1) := by decide +kernel
theorem dX7_feed_26 : decode cX7_feed 26 = .ok (.aload_n 0, 1) := by decide +kernel
theorem dX7_feed_27 : decode cX7_feed 27 = .ok (.getfield 50, 3) := by decide +kernel
theorem dX7_feed_30 : decode cX7_feed 30 = .ok (.aload_n 0, 1) := by decide +kernel
theorem dX7_feed_31 : decode cX7_feed 31 = .ok (.getfield 41, 3) := by decide +kernel
theorem dX7_feed_34 : decode cX7_feed 34 = .ok (.iload_n 1, 1) := by decide +kernel
theorem dX7_feed_35 : decode cX7_feed 35 = .ok (.iastore, 1) := by decide +kernel
theorem dX7_feed_36 : decode cX7_feed 36 = .ok (.aload_n 0, 1) := by decide +kernel
theorem dX7_feed_37 : decode cX7_feed 37 = .ok (.dup, 1) := by decide +kernel
theorem dX7_feed_38 : decode cX7_feed 38 = .ok (.getfield 41, 3) := by decide +kernel
theorem dX7_feed_41 : decode cX7_feed 41 = .ok (.iconst 1, 1) := by decide +kernel
theorem dX7_feed_42 : decode cX7_feed 42 = .ok (.iadd, 1) := by decide +kernel
theorem dX7_feed_43 : decode cX7_feed 43 = .ok (.putfield 41, 3) := by decide +kernel
theorem dX7_feed_46 : decode cX7_feed 46 = .ok (.aload_n 0, 1) := by decide +kernel
theorem dX7_feed_47 : decode cX7_feed 47 = .ok (.getfield 41, 3) := by decide +kernel
theorem dX7_feed_50 : decode cX7_feed 50 = .ok (.ireturn, 1) := by decide +kernel
theorem dX7_next_0 : decode cX7_next 0 = .ok (.aload_n 0, 1) := by decide +kernel
theorem dX7_next_1 : decode cX7_next 1 = .ok (.getfield 44, 3) := by decide +kernel
theorem dX7_next_4 : decode cX7_next 4 = .ok (.aload_n 0, 1) := by decide +kernel
theorem dX7_next_5 : decode cX7_next 5 = .ok (.getfield 41, 3) := by decide +kernel
theorem dX7_next_8 : decode cX7_next 8 = .ok (.if_icmp .ge 15, 3) := by decide +kernel
theorem dX7_next_11 : decode cX7_next 11 = .ok (.aload_n 0, 1) := by decide +kernel
theorem dX7_next_12 : decode cX7_next 12 = .ok (.getfield 50, 3) := by decide +kernel
theorem dX7_next_15 : decode cX7_next 15 = .ok (.aload_n 0, 1) := by decide +kernel
theorem dX7_next_16 : decode cX7_next 16 = .ok (.getfield 44, 3) := by decide +kernel
theorem dX7_next_19 : decode cX7_next 19 = .ok (.iaload, 1) := by decide +kernel
theorem dX7_next_20 : decode cX7_next 20 = .ok (.goto 4, 3) := by decide +kernel
theorem dX7_next_23 : decode cX7_next 23 = .ok (.iconst (-1), 1) := by decide +kernel
theorem dX7_next_24 : decode cX7_next 24 = .ok (.ireturn, 1) := by decide +kernel
theorem dX7_takes_0 : decode cX7_takes 0 = .ok (.aload_n 0, 1) := by decide +kernel
theorem dX7_takes_1 : decode cX7_takes 1 = .ok (.invokevirtual 235, 3) := by decide +kernel
theorem dX7_takes_4 : decode cX7_takes 4 = .ok (.iload_n 1, 1) := by decide +kernel
theorem dX7_takes_5 : decode cX7_takes 5 = .ok (.if_icmp .eq 5, 3) := by decide +kernel
theorem dX7_takes_8 : decode cX7_takes 8 = .ok (.iconst 0, 1) := by decide +kernel
theorem dX7_takes_9 : decode cX7_takes 9 = .ok (.ireturn, 1) := by decide +kernel
theorem dX7_takes_10 : decode cX7_takes 10 = .ok (.aload_n 0, 1) := by decide +kernel
theorem dX7_takes_11 : decode cX7_takes 11 = .ok (.dup, 1) := by decide +kernel
theorem dX7_takes_12 : decode cX7_takes 12 = .ok (.getfield 44, 3) := by decide +kernel
theorem dX7_takes_15 : decode cX7_takes 15 = .ok (.iconst 1, 1) := by decide +kernel
theorem dX7_takes_16 : decode cX7_takes 16 = .ok (.iadd, 1) := by decide +kernel
theorem dX7_takes_17 : decode cX7_takes 17 = .ok (.putfield 44, 3) := by decide +kernel
theorem dX7_takes_20 : decode cX7_takes 20 = .ok (.iconst 1, 1) := by decide +kernel
theorem dX7_takes_21 : decode cX7_takes 21 = .ok (.ireturn, 1) := by decide +kernel
theorem dX7_takesWord_0 : decode cX7_takesWord 0 = .ok (.iconst 0, 1) := by decide +kernel
theorem dX7_takesWord_1 : decode cX7_takesWord 1 = .ok (.istore_n 3, 1) := by decide +kernel
theorem dX7_takesWord_2 : decode cX7_takesWord 2 = .ok (.iload_n 3, 1) := by decide +kernel
theorem dX7_takesWord_3 : decode cX7_takesWord 3 = .ok (.iload_n 2, 1) := by decide +kernel
theorem dX7_takesWord_4 : decode cX7_takesWord 4 = .ok (.if_icmp .ge 26, 3) := by decide +kernel
theorem dX7_takesWord_7 : decode cX7_takesWord 7 = .ok (.aload_n 0, 1) := by decide +kernel
theorem dX7_takesWord_8 : decode cX7_takesWord 8 = .ok (.aload_n 0, 1) := by decide +kernel
theorem dX7_takesWord_9 : decode cX7_takesWord 9 = .ok (.getfield 83, 3) := by decide +kernel
theorem dX7_takesWord_12 : decode cX7_takesWord 12 = .ok (.iload_n 1, 1) := by decide +kernel
theorem dX7_takesWord_13 : decode cX7_takesWord 13 = .ok (.iload_n 3, 1) := by decide +kernel
theorem dX7_takesWord_14 : decode cX7_takesWord 14 = .ok (.iadd, 1) := by decide +kernel
theorem dX7_takesWord_15 : decode cX7_takesWord 15 = .ok (.iaload, 1) := by decide +kernel
theorem dX7_takesWord_16 : decode cX7_takesWord 16 = .ok (.invokevirtual 239, 3) := by decide +kernel
theorem dX7_takesWord_19 : decode cX7_takesWord 19 = .ok (.ifCond .ne 5, 3) := by decide +kernel
theorem dX7_takesWord_22 : decode cX7_takesWord 22 = .ok (.iconst 0, 1) := by decide +kernel
theorem dX7_takesWord_23 : decode cX7_takesWord 23 = .ok (.ireturn, 1) := by decide +kernel
theorem dX7_takesWord_24 : decode cX7_takesWord 24 = .ok (.iinc 3 1, 3) := by decide +kernel
theorem dX7_takesWord_27 : decode cX7_takesWord 27 = .ok (.goto (-25), 3) := by decide +kernel
theorem dX7_takesWord_30 : decode cX7_takesWord 30 = .ok (.aload_n 0, 1) := by decide +kernel
theorem dX7_takesWord_31 : decode cX7_takesWord 31 = .ok (.bipush 32, 2) := by decide +kernel
theorem dX7_takesWord_33 : decode cX7_takesWord 33 = .ok (.invokevirtual 239, 3) := by decide +kernel
theorem dX7_takesWord_36 : decode cX7_takesWord 36 = .ok (.ireturn, 1) := by decide +kernel
theorem dX7_isDigit_0 : decode cX7_isDigit 0 = .ok (.aload_n 0, 1) := by decide +kernel
theorem dX7_isDigit_1 : decode cX7_isDigit 1 = .ok (.aload_n 0, 1) := by decide +kernel
theorem dX7_isDigit_2 : decode cX7_isDigit 2 = .ok (.invokevirtual 235, 3) := by decide +kernel
theorem dX7_isDigit_5 : decode cX7_isDigit 5 = .ok (.bipush 48, 2) := by decide +kernel
theorem dX7_isDigit_7 : decode cX7_isDigit 7 = .ok (.bipush 57, 2) := by decide +kernel
theorem dX7_isDigit_9 : decode cX7_isDigit 9 = .ok (.invokevirtual 221, 3) := by decide +kernel
theorem dX7_isDigit_12 : decode cX7_isDigit 12 = .ok (.ireturn, 1) := by decide +kernel
theorem dX7_takesNumber_0 : decode cX7_takesNumber 0 = .ok (.aload_n 0, 1) := by decide +kernel
theorem dX7_takesNumber_1 : decode cX7_takesNumber 1 = .ok (.invokevirtual 242, 3) := by decide +kernel
theorem dX7_takesNumber_4 : decode cX7_takesNumber 4 = .ok (.ifCond .ne 5, 3) := by decide +kernel
theorem dX7_takesNumber_7 : decode cX7_takesNumber 7 = .ok (.iconst 0, 1) := by decide +kernel
theorem dX7_takesNumber_8 : decode cX7_takesNumber 8 = .ok (.ireturn, 1) := by decide +kernel
theorem dX7_takesNumber_9 : decode cX7_takesNumber 9 = .ok (.aload_n 0, 1) := by decide +kernel
theorem dX7_takesNumber_10 : decode cX7_takesNumber 10 = .ok (.iconst 0, 1) := by decide +kernel
theorem dX7_takesNumber_11 : decode cX7_takesNumber 11 = .ok (.putfield 47, 3) := by decide +kernel
theorem dX7_takesNumber_14 : decode cX7_takesNumber 14 = .ok (.iconst 0, 1) := by decide +kernel
theorem dX7_takesNumber_15 : decode cX7_takesNumber 15 = .ok (.istore_n 1, 1) := by decide +kernel
theorem dX7_takesNumber_16 : decode cX7_takesNumber 16 = .ok (.iload_n 1, 1) := by decide +kernel
theorem dX7_takesNumber_17 : decode cX7_takesNumber 17 = .ok (.iconst 2, 1) := by decide +kernel
theorem dX7_takesNumber_18 : decode cX7_takesNumber 18 = .ok (.if_icmp .ge 45, 3) := by decide +kernel
theorem dX7_takesNumber_21 : decode cX7_takesNumber 21 = .ok (.aload_n 0, 1) := by decide +kernel
theorem dX7_takesNumber_22 : decode cX7_takesNumber 22 = .ok (.invokevirtual 242, 3) := by decide +kernel
theorem dX7_takesNumber_25 : decode cX7_takesNumber 25 = .ok (.ifCond .eq 38, 3) := by decide +kernel
theorem dX7_takesNumber_28 : decode cX7_takesNumber 28 = .ok (.aload_n 0, 1) := by decide +kernel
theorem dX7_takesNumber_29 : decode cX7_takesNumber 29 = .ok (.bipush 10, 2) := by decide +kernel
theorem dX7_takesNumber_31 : decode cX7_takesNumber 31 = .ok (.aload_n 0, 1) := by decide +kernel
theorem dX7_takesNumber_32 : decode cX7_takesNumber 32 = .ok (.getfield 47, 3) := by decide +kernel
theorem dX7_takesNumber_35 : decode cX7_takesNumber 35 = .ok (.imul, 1) := by decide +kernel
theorem dX7_takesNumber_36 : decode cX7_takesNumber 36 = .ok (.aload_n 0, 1) := by decide +kernel
theorem dX7_takesNumber_37 : decode cX7_takesNumber 37 = .ok (.invokevirtual 235, 3) := by decide +kernel
theorem dX7_takesNumber_40 : decode cX7_takesNumber 40 = .ok (.iadd, 1) := by decide +kernel
theorem dX7_takesNumber_41 : decode cX7_takesNumber 41 = .ok (.bipush 48, 2) := by decide +kernel
theorem dX7_takesNumber_43 : decode cX7_takesNumber 43 = .ok (.isub, 1) := by decide +kernel
theorem dX7_takesNumber_44 : decode cX7_takesNumber 44 = .ok (.putfield 47, 3) := by decide +kernel
theorem dX7_takesNumber_47 : decode cX7_takesNumber 47 = .ok (.aload_n 0, 1) := by decide +kernel
theorem dX7_takesNumber_48 : decode cX7_takesNumber 48 = .ok (.dup, 1) := by decide +kernel
theorem dX7_takesNumber_49 : decode cX7_takesNumber 49 = .ok (.getfield 44, 3) := by decide +kernel
theorem dX7_takesNumber_52 : decode cX7_takesNumber 52 = .ok (.iconst 1, 1) := by decide +kernel
theorem dX7_takesNumber_53 : decode cX7_takesNumber 53 = .ok (.iadd, 1) := by decide +kernel
theorem dX7_takesNumber_54 : decode cX7_takesNumber 54 = .ok (.putfield 44, 3) := by decide +kernel
theorem dX7_takesNumber_57 : decode cX7_takesNumber 57 = .ok (.iinc 1 1, 3) := by decide +kernel
theorem dX7_takesNumber_60 : decode cX7_takesNumber 60 = .ok (.goto (-44), 3) := by decide +kernel
theorem dX7_takesNumber_63 : decode cX7_takesNumber 63 = .ok (.iconst 1, 1) := by decide +kernel
theorem dX7_takesNumber_64 : decode cX7_takesNumber 64 = .ok (.ireturn, 1) := by decide +kernel
theorem dX7_emits_0 : decode cX7_emits 0 = .ok (.aload_n 0, 1) := by decide +kernel
theorem dX7_emits_1 : decode cX7_emits 1 = .ok (.getfield 68, 3) := by decide +kernel
theorem dX7_emits_4 : decode cX7_emits 4 = .ok (.aload_n 0, 1) := by decide +kernel
theorem dX7_emits_5 : decode cX7_emits 5 = .ok (.getfield 74, 3) := by decide +kernel
theorem dX7_emits_8 : decode cX7_emits 8 = .ok (.iload_n 1, 1) := by decide +kernel
theorem dX7_emits_9 : decode cX7_emits 9 = .ok (.iastore, 1) := by decide +kernel
theorem dX7_emits_10 : decode cX7_emits 10 = .ok (.aload_n 0, 1) := by decide +kernel
theorem dX7_emits_11 : decode cX7_emits 11 = .ok (.dup, 1) := by decide +kernel
theorem dX7_emits_12 : decode cX7_emits 12 = .ok (.getfield 74, 3) := by decide +kernel
theorem dX7_emits_15 : decode cX7_emits 15 = .ok (.iconst 1, 1) := by decide +kernel
theorem dX7_emits_16 : decode cX7_emits 16 = .ok (.iadd, 1) := by decide +kernel
theorem dX7_emits_17 : decode cX7_emits 17 = .ok (.putfield 74, 3) := by decide +kernel
theorem dX7_emits_20 : decode cX7_emits 20 = .ok (.return_, 1) := by decide +kernel
theorem dX7_whole_0 : decode cX7_whole 0 = .ok (.aload_n 0, 1) := by decide +kernel
theorem dX7_whole_1 : decode cX7_whole 1 = .ok (.getfield 77, 3) := by decide +kernel
theorem dX7_whole_4 : decode cX7_whole 4 = .ok (.ifCond .le 48, 3) := by decide +kernel
theorem dX7_whole_7 : decode cX7_whole 7 = .ok (.aload_n 0, 1) := by decide +kernel
theorem dX7_whole_8 : decode cX7_whole 8 = .ok (.getfield 71, 3) := by decide +kernel
theorem dX7_whole_11 : decode cX7_whole 11 = .ok (.aload_n 0, 1) := by decide +kernel
theorem dX7_whole_12 : decode cX7_whole 12 = .ok (.getfield 77, 3) := by decide +kernel
theorem dX7_whole_15 : decode cX7_whole 15 = .ok (.iconst 1, 1) := by decide +kernel
theorem dX7_whole_16 : decode cX7_whole 16 = .ok (.isub, 1) := by decide +kernel
theorem dX7_whole_17 : decode cX7_whole 17 = .ok (.iaload, 1) := by decide +kernel
theorem dX7_whole_18 : decode cX7_whole 18 = .ok (.bipush 33, 2) := by decide +kernel
theorem dX7_whole_20 : decode cX7_whole 20 = .ok (.if_icmp .ne 32, 3) := by decide +kernel
theorem dX7_whole_23 : decode cX7_whole 23 = .ok (.aload_n 0, 1) := by decide +kernel
theorem dX7_whole_24 : decode cX7_whole 24 = .ok (.bipush (-33), 2) := by decide +kernel
theorem dX7_whole_26 : decode cX7_whole 26 = .ok (.invokevirtual 246, 3) := by decide +kernel
theorem dX7_whole_29 : decode cX7_whole 29 = .ok (.aload_n 0, 1) := by decide +kernel
theorem dX7_whole_30 : decode cX7_whole 30 = .ok (.dup, 1) := by decide +kernel
theorem dX7_whole_31 : decode cX7_whole 31 = .ok (.getfield 77, 3) := by decide +kernel
theorem dX7_whole_34 : decode cX7_whole 34 = .ok (.iconst 1, 1) := by decide +kernel
theorem dX7_whole_35 : decode cX7_whole 35 = .ok (.isub, 1) := by decide +kernel
theorem dX7_whole_36 : decode cX7_whole 36 = .ok (.putfield 77, 3) := by decide +kernel
theorem dX7_whole_39 : decode cX7_whole 39 = .ok (.aload_n 0, 1) := by decide +kernel
theorem dX7_whole_40 : decode cX7_whole 40 = .ok (.dup, 1) := by decide +kernel
theorem dX7_whole_41 : decode cX7_whole 41 = .ok (.getfield 80, 3) := by decide +kernel
theorem dX7_whole_44 : decode cX7_whole 44 = .ok (.iconst 1, 1) := by decide +kernel
theorem dX7_whole_45 : decode cX7_whole 45 = .ok (.isub, 1) := by decide +kernel
theorem dX7_whole_46 : decode cX7_whole 46 = .ok (.putfield 80, 3) := by decide +kernel
theorem dX7_whole_49 : decode cX7_whole 49 = .ok (.goto (-49), 3) := by decide +kernel
theorem dX7_whole_52 : decode cX7_whole 52 = .ok (.return_, 1) := by decide +kernel
theorem dX7_settle_0 : decode cX7_settle 0 = .ok (.aload_n 0, 1) := by decide +kernel
theorem dX7_settle_1 : decode cX7_settle 1 = .ok (.getfield 77, 3) := by decide +kernel
theorem dX7_settle_4 : decode cX7_settle 4 = .ok (.ifCond .le 68, 3) := by decide +kernel
theorem dX7_settle_7 : decode cX7_settle 7 = .ok (.aload_n 0, 1) := by decide +kernel
theorem dX7_settle_8 : decode cX7_settle 8 = .ok (.getfield 71, 3) := by decide +kernel
theorem dX7_settle_11 : decode cX7_settle 11 = .ok (.aload_n 0, 1) := by decide +kernel
theorem dX7_settle_12 : decode cX7_settle 12 = .ok (.getfield 77, 3) := by decide +kernel
theorem dX7_settle_15 : decode cX7_settle 15 = .ok (.iconst 1, 1) := by decide +kernel
theorem dX7_settle_16 : decode cX7_settle 16 = .ok (.isub, 1) := by decide +kernel
theorem dX7_settle_17 : decode cX7_settle 17 = .ok (.iaload, 1) := by decide +kernel
theorem dX7_settle_18 : decode cX7_settle 18 = .ok (.bipush 38, 2) := by decide +kernel
theorem dX7_settle_20 : decode cX7_settle 20 = .ok (.if_icmp .eq 25, 3) := by decide +kernel
theorem dX7_settle_23 : decode cX7_settle 23 = .ok (.aload_n 0, 1) := by decide +kernel
theorem dX7_settle_24 : decode cX7_settle 24 = .ok (.getfield 71, 3) := by decide +kernel
theorem dX7_settle_27 : decode cX7_settle 27 = .ok (.aload_n 0, 1) := by decide +kernel
theorem dX7_settle_28 : decode cX7_settle 28 = .ok (.getfield 77, 3) := by decide +kernel
theorem dX7_settle_31 : decode cX7_settle 31 = .ok (.iconst 1, 1) := by decide +kernel
theorem dX7_settle_32 : decode cX7_settle 32 = .ok (.isub, 1) := by decide +kernel
theorem dX7_settle_33 : decode cX7_settle 33 = .ok (.iaload, 1) := by decide +kernel
theorem dX7_settle_34 : decode cX7_settle 34 = .ok (.bipush 124, 2) := by decide +kernel
theorem dX7_settle_36 : decode cX7_settle 36 = .ok (.if_icmp .ne 36, 3) := by decide +kernel
theorem dX7_settle_39 : decode cX7_settle 39 = .ok (.iload_n 1, 1) := by decide +kernel
theorem dX7_settle_40 : decode cX7_settle 40 = .ok (.bipush 38, 2) := by decide +kernel
theorem dX7_settle_42 : decode cX7_settle 42 = .ok (.if_icmp .eq 30, 3) := by decide +kernel
theorem dX7_settle_45 : decode cX7_settle 45 = .ok (.aload_n 0, 1) := by decide +kernel
theorem dX7_settle_46 : decode cX7_settle 46 = .ok (.dup, 1) := by decide +kernel
theorem dX7_settle_47 : decode cX7_settle 47 = .ok (.getfield 77, 3) := by decide +kernel
theorem dX7_settle_50 : decode cX7_settle 50 = .ok (.iconst 1, 1) := by decide +kernel
theorem dX7_settle_51 : decode cX7_settle 51 = .ok (.isub, 1) := by decide +kernel
theorem dX7_settle_52 : decode cX7_settle 52 = .ok (.putfield 77, 3) := by decide +kernel
theorem dX7_settle_55 : decode cX7_settle 55 = .ok (.aload_n 0, 1) := by decide +kernel
theorem dX7_settle_56 : decode cX7_settle 56 = .ok (.aload_n 0, 1) := by decide +kernel
theorem dX7_settle_57 : decode cX7_settle 57 = .ok (.getfield 71, 3) := by decide +kernel
theorem dX7_settle_60 : decode cX7_settle 60 = .ok (.aload_n 0, 1) := by decide +kernel
theorem dX7_settle_61 : decode cX7_settle 61 = .ok (.getfield 77, 3) := by decide +kernel
theorem dX7_settle_64 : decode cX7_settle 64 = .ok (.iaload, 1) := by decide +kernel
theorem dX7_settle_65 : decode cX7_settle 65 = .ok (.ineg, 1) := by decide +kernel
theorem dX7_settle_66 : decode cX7_settle 66 = .ok (.invokevirtual 246, 3) := by decide +kernel
theorem dX7_settle_69 : decode cX7_settle 69 = .ok (.goto (-69), 3) := by decide +kernel
theorem dX7_settle_72 : decode cX7_settle 72 = .ok (.return_, 1) := by decide +kernel
theorem dX7_place_0 : decode cX7_place 0 = .ok (.iload_n 1, 1) := by decide +kernel
theorem dX7_place_1 : decode cX7_place 1 = .ok (.lookupswitch 71 #[(100, 69), (104, 59), (107, 63), (108, 61), (118, 65), (120, 67)], 59) := by decide +kernel
theorem dX7_place_60 : decode cX7_place 60 = .ok (.iconst 0, 1) := by decide +kernel
theorem dX7_place_61 : decode cX7_place 61 = .ok (.ireturn, 1) := by decide +kernel
theorem dX7_place_62 : decode cX7_place 62 = .ok (.iconst 1, 1) := by decide +kernel
theorem dX7_place_63 : decode cX7_place 63 = .ok (.ireturn, 1) := by decide +kernel
theorem dX7_place_64 : decode cX7_place 64 = .ok (.iconst 2, 1) := by decide +kernel
theorem dX7_place_65 : decode cX7_place 65 = .ok (.ireturn, 1) := by decide +kernel
theorem dX7_place_66 : decode cX7_place 66 = .ok (.iconst 3, 1) := by decide +kernel
theorem dX7_place_67 : decode cX7_place 67 = .ok (.ireturn, 1) := by decide +kernel
theorem dX7_place_68 : decode cX7_place 68 = .ok (.iconst 4, 1) := by decide +kernel
theorem dX7_place_69 : decode cX7_place 69 = .ok (.ireturn, 1) := by decide +kernel
theorem dX7_place_70 : decode cX7_place 70 = .ok (.iconst 5, 1) := by decide +kernel
theorem dX7_place_71 : decode cX7_place 71 = .ok (.ireturn, 1) := by decide +kernel
theorem dX7_place_72 : decode cX7_place 72 = .ok (.iconst (-1), 1) := by decide +kernel
theorem dX7_place_73 : decode cX7_place 73 = .ok (.ireturn, 1) := by decide +kernel
theorem dX7_takesTest_0 : decode cX7_takesTest 0 = .ok (.aload_n 0, 1) := by decide +kernel
theorem dX7_takesTest_1 : decode cX7_takesTest 1 = .ok (.aload_n 0, 1) := by decide +kernel
theorem dX7_takesTest_2 : decode cX7_takesTest 2 = .ok (.invokevirtual 235, 3) := by decide +kernel
theorem dX7_takesTest_5 : decode cX7_takesTest 5 = .ok (.invokevirtual 250, 3) := by decide +kernel
theorem dX7_takesTest_8 : decode cX7_takesTest 8 = .ok (.istore_n 1, 1) := by decide +kernel
theorem dX7_takesTest_9 : decode cX7_takesTest 9 = .ok (.iload_n 1, 1) := by decide +kernel
theorem dX7_takesTest_10 : decode cX7_takesTest 10 = .ok (.ifCond .ge 5, 3) := by decide +kernel
theorem dX7_takesTest_13 : decode cX7_takesTest 13 = .ok (.iconst 0, 1) := by decide +kernel
theorem dX7_takesTest_14 : decode cX7_takesTest 14 = .ok (.ireturn, 1) := by decide +kernel
theorem dX7_takesTest_15 : decode cX7_takesTest 15 = .ok (.aload_n 0, 1) := by decide +kernel
theorem dX7_takesTest_16 : decode cX7_takesTest 16 = .ok (.dup, 1) := by decide +kernel
theorem dX7_takesTest_17 : decode cX7_takesTest 17 = .ok (.getfield 44, 3) := by decide +kernel
theorem dX7_takesTest_20 : decode cX7_takesTest 20 = .ok (.iconst 1, 1) := by decide +kernel
theorem dX7_takesTest_21 : decode cX7_takesTest 21 = .ok (.iadd, 1) := by decide +kernel
theorem dX7_takesTest_22 : decode cX7_takesTest 22 = .ok (.putfield 44, 3) := by decide +kernel
theorem dX7_takesTest_25 : decode cX7_takesTest 25 = .ok (.aload_n 0, 1) := by decide +kernel
theorem dX7_takesTest_26 : decode cX7_takesTest 26 = .ok (.invokevirtual 235, 3) := by decide +kernel
theorem dX7_takesTest_29 : decode cX7_takesTest 29 = .ok (.istore_n 2, 1) := by decide +kernel
theorem dX7_takesTest_30 : decode cX7_takesTest 30 = .ok (.aload_n 0, 1) := by decide +kernel
theorem dX7_takesTest_31 : decode cX7_takesTest 31 = .ok (.iload_n 2, 1) := by decide +kernel
theorem dX7_takesTest_32 : decode cX7_takesTest 32 = .ok (.bipush 60, 2) := by decide +kernel
theorem dX7_takesTest_34 : decode cX7_takesTest 34 = .ok (.bipush 62, 2) := by decide +kernel
theorem dX7_takesTest_36 : decode cX7_takesTest 36 = .ok (.invokevirtual 221, 3) := by decide +kernel
theorem dX7_takesTest_39 : decode cX7_takesTest 39 = .ok (.ifCond .ne 5, 3) := by decide +kernel
theorem dX7_takesTest_42 : decode cX7_takesTest 42 = .ok (.iconst 0, 1) := by decide +kernel
theorem dX7_takesTest_43 : decode cX7_takesTest 43 = .ok (.ireturn, 1) := by decide +kernel
theorem dX7_takesTest_44 : decode cX7_takesTest 44 = .ok (.aload_n 0, 1) := by decide +kernel
theorem dX7_takesTest_45 : decode cX7_takesTest 45 = .ok (.dup, 1) := by decide +kernel
theorem dX7_takesTest_46 : decode cX7_takesTest 46 = .ok (.getfield 44, 3) := by decide +kernel
theorem dX7_takesTest_49 : decode cX7_takesTest 49 = .ok (.iconst 1, 1) := by decide +kernel
theorem dX7_takesTest_50 : decode cX7_takesTest 50 = .ok (.iadd, 1) := by decide +kernel
theorem dX7_takesTest_51 : decode cX7_takesTest 51 = .ok (.putfield 44, 3) := by decide +kernel
theorem dX7_takesTest_54 : decode cX7_takesTest 54 = .ok (.aload_n 0, 1) := by decide +kernel
theorem dX7_takesTest_55 : decode cX7_takesTest 55 = .ok (.invokevirtual 254, 3) := by decide +kernel
theorem dX7_takesTest_58 : decode cX7_takesTest 58 = .ok (.ifCond .ne 5, 3) := by decide +kernel
theorem dX7_takesTest_61 : decode cX7_takesTest 61 = .ok (.iconst 0, 1) := by decide +kernel
theorem dX7_takesTest_62 : decode cX7_takesTest 62 = .ok (.ireturn, 1) := by decide +kernel
theorem dX7_takesTest_63 : decode cX7_takesTest 63 = .ok (.aload_n 0, 1) := by decide +kernel
theorem dX7_takesTest_64 : decode cX7_takesTest 64 = .ok (.sipush 1000, 3) := by decide +kernel
theorem dX7_takesTest_67 : decode cX7_takesTest 67 = .ok (.iload_n 1, 1) := by decide +kernel
theorem dX7_takesTest_68 : decode cX7_takesTest 68 = .ok (.imul, 1) := by decide +kernel
theorem dX7_takesTest_69 : decode cX7_takesTest 69 = .ok (.bipush 100, 2) := by decide +kernel
theorem dX7_takesTest_71 : decode cX7_takesTest 71 = .ok (.iload_n 2, 1) := by decide +kernel
theorem dX7_takesTest_72 : decode cX7_takesTest 72 = .ok (.bipush 60, 2) := by decide +kernel
theorem dX7_takesTest_74 : decode cX7_takesTest 74 = .ok (.isub, 1) := by decide +kernel
theorem dX7_takesTest_75 : decode cX7_takesTest 75 = .ok (.imul, 1) := by decide +kernel
theorem dX7_takesTest_76 : decode cX7_takesTest 76 = .ok (.iadd, 1) := by decide +kernel
theorem dX7_takesTest_77 : decode cX7_takesTest 77 = .ok (.aload_n 0, 1) := by decide +kernel
theorem dX7_takesTest_78 : decode cX7_takesTest 78 = .ok (.getfield 47, 3) := by decide +kernel
theorem dX7_takesTest_81 : decode cX7_takesTest 81 = .ok (.iadd, 1) := by decide +kernel
theorem dX7_takesTest_82 : decode cX7_takesTest 82 = .ok (.invokevirtual 246, 3) := by decide +kernel
theorem dX7_takesTest_85 : decode cX7_takesTest 85 = .ok (.aload_n 0, 1) := by decide +kernel
theorem dX7_takesTest_86 : decode cX7_takesTest 86 = .ok (.invokevirtual 257, 3) := by decide +kernel
theorem dX7_takesTest_89 : decode cX7_takesTest 89 = .ok (.iconst 1, 1) := by decide +kernel
theorem dX7_takesTest_90 : decode cX7_takesTest 90 = .ok (.ireturn, 1) := by decide +kernel
theorem dX7_takesE_0 : decode cX7_takesE 0 = .ok (.aload_n 0, 1) := by decide +kernel
theorem dX7_takesE_1 : decode cX7_takesE 1 = .ok (.iconst 0, 1) := by decide +kernel
theorem dX7_takesE_2 : decode cX7_takesE 2 = .ok (.putfield 77, 3) := by decide +kernel
theorem dX7_takesE_5 : decode cX7_takesE 5 = .ok (.aload_n 0, 1) := by decide +kernel
theorem dX7_takesE_6 : decode cX7_takesE 6 = .ok (.iconst 0, 1) := by decide +kernel
theorem dX7_takesE_7 : decode cX7_takesE 7 = .ok (.putfield 80, 3) := by decide +kernel
theorem dX7_takesE_10 : decode cX7_takesE 10 = .ok (.aload_n 0, 1) := by decide +kernel
theorem dX7_takesE_11 : decode cX7_takesE 11 = .ok (.getfield 62, 3) := by decide +kernel
theorem dX7_takesE_14 : decode cX7_takesE 14 = .ok (.iload_n 1, 1) := by decide +kernel
theorem dX7_takesE_15 : decode cX7_takesE 15 = .ok (.aload_n 0, 1) := by decide +kernel
theorem dX7_takesE_16 : decode cX7_takesE 16 = .ok (.getfield 74, 3) := by decide +kernel
theorem dX7_takesE_19 : decode cX7_takesE 19 = .ok (.iastore, 1) := by decide +kernel
theorem dX7_takesE_20 : decode cX7_takesE 20 = .ok (.iconst 1, 1) := by decide +kernel
theorem dX7_takesE_21 : decode cX7_takesE 21 = .ok (.istore_n 2, 1) := by decide +kernel
theorem dX7_takesE_22 : decode cX7_takesE 22 = .ok (.aload_n 0, 1) := by decide +kernel
theorem dX7_takesE_23 : decode cX7_takesE 23 = .ok (.invokevirtual 235, 3) := by decide +kernel
theorem dX7_takesE_26 : decode cX7_takesE 26 = .ok (.istore_n 3, 1) := by decide +kernel
theorem dX7_takesE_27 : decode cX7_takesE 27 = .ok (.iload_n 2, 1) := by decide +kernel
theorem dX7_takesE_28 : decode cX7_takesE 28 = .ok (.ifCond .eq 82, 3) := by decide +kernel
theorem dX7_takesE_31 : decode cX7_takesE 31 = .ok (.iload_n 3, 1) := by decide +kernel
theorem dX7_takesE_32 : decode cX7_takesE 32 = .ok (.bipush 33, 2) := by decide +kernel
theorem dX7_takesE_34 : decode cX7_takesE 34 = .ok (.if_icmp .eq 9, 3) := by decide +kernel
theorem dX7_takesE_37 : decode cX7_takesE 37 = .ok (.iload_n 3, 1) := by decide +kernel
theorem dX7_takesE_38 : decode cX7_takesE 38 = .ok (.bipush 40, 2) := by decide +kernel
theorem dX7_takesE_40 : decode cX7_takesE 40 = .ok (.if_icmp .ne 56, 3) := by decide +kernel
theorem dX7_takesE_43 : decode cX7_takesE 43 = .ok (.aload_n 0, 1) := by decide +kernel
theorem dX7_takesE_44 : decode cX7_takesE 44 = .ok (.getfield 80, 3) := by decide +kernel
theorem dX7_takesE_47 : decode cX7_takesE 47 = .ok (.iconst 4, 1) := by decide +kernel
theorem dX7_takesE_48 : decode cX7_takesE 48 = .ok (.if_icmp .ne 5, 3) := by decide +kernel
theorem dX7_takesE_51 : decode cX7_takesE 51 = .ok (.iconst 0, 1) := by decide +kernel
theorem dX7_takesE_52 : decode cX7_takesE 52 = .ok (.ireturn, 1) := by decide +kernel
theorem dX7_takesE_53 : decode cX7_takesE 53 = .ok (.aload_n 0, 1) := by decide +kernel
theorem dX7_takesE_54 : decode cX7_takesE 54 = .ok (.dup, 1) := by decide +kernel
theorem dX7_takesE_55 : decode cX7_takesE 55 = .ok (.getfield 80, 3) := by decide +kernel
theorem dX7_takesE_58 : decode cX7_takesE 58 = .ok (.iconst 1, 1) := by decide +kernel
theorem dX7_takesE_59 : decode cX7_takesE 59 = .ok (.iadd, 1) := by decide +kernel
theorem dX7_takesE_60 : decode cX7_takesE 60 = .ok (.putfield 80, 3) := by decide +kernel
theorem dX7_takesE_63 : decode cX7_takesE 63 = .ok (.aload_n 0, 1) := by decide +kernel
theorem dX7_takesE_64 : decode cX7_takesE 64 = .ok (.getfield 71, 3) := by decide +kernel
theorem dX7_takesE_67 : decode cX7_takesE 67 = .ok (.aload_n 0, 1) := by decide +kernel
theorem dX7_takesE_68 : decode cX7_takesE 68 = .ok (.getfield 77, 3) := by decide +kernel
theorem dX7_takesE_71 : decode cX7_takesE 71 = .ok (.iload_n 3, 1) := by decide +kernel
theorem dX7_takesE_72 : decode cX7_takesE 72 = .ok (.iastore, 1) := by decide +kernel
theorem dX7_takesE_73 : decode cX7_takesE 73 = .ok (.aload_n 0, 1) := by decide +kernel
theorem dX7_takesE_74 : decode cX7_takesE 74 = .ok (.dup, 1) := by decide +kernel
theorem dX7_takesE_75 : decode cX7_takesE 75 = .ok (.getfield 77, 3) := by decide +kernel
theorem dX7_takesE_78 : decode cX7_takesE 78 = .ok (.iconst 1, 1) := by decide +kernel
theorem dX7_takesE_79 : decode cX7_takesE 79 = .ok (.iadd, 1) := by decide +kernel
theorem dX7_takesE_80 : decode cX7_takesE 80 = .ok (.putfield 77, 3) := by decide +kernel
theorem dX7_takesE_83 : decode cX7_takesE 83 = .ok (.aload_n 0, 1) := by decide +kernel
theorem dX7_takesE_84 : decode cX7_takesE 84 = .ok (.dup, 1) := by decide +kernel
theorem dX7_takesE_85 : decode cX7_takesE 85 = .ok (.getfield 44, 3) := by decide +kernel
theorem dX7_takesE_88 : decode cX7_takesE 88 = .ok (.iconst 1, 1) := by decide +kernel
theorem dX7_takesE_89 : decode cX7_takesE 89 = .ok (.iadd, 1) := by decide +kernel
theorem dX7_takesE_90 : decode cX7_takesE 90 = .ok (.putfield 44, 3) := by decide +kernel
theorem dX7_takesE_93 : decode cX7_takesE 93 = .ok (.goto (-71), 3) := by decide +kernel
theorem dX7_takesE_96 : decode cX7_takesE 96 = .ok (.aload_n 0, 1) := by decide +kernel
theorem dX7_takesE_97 : decode cX7_takesE 97 = .ok (.invokevirtual 260, 3) := by decide +kernel
theorem dX7_takesE_100 : decode cX7_takesE 100 = .ok (.ifCond .eq 8, 3) := by decide +kernel
theorem dX7_takesE_103 : decode cX7_takesE 103 = .ok (.iconst 0, 1) := by decide +kernel
theorem dX7_takesE_104 : decode cX7_takesE 104 = .ok (.istore_n 2, 1) := by decide +kernel
theorem dX7_takesE_105 : decode cX7_takesE 105 = .ok (.goto (-83), 3) := by decide +kernel
theorem dX7_takesE_108 : decode cX7_takesE 108 = .ok (.iconst 0, 1) := by decide +kernel
theorem dX7_takesE_109 : decode cX7_takesE 109 = .ok (.ireturn, 1) := by decide +kernel
theorem dX7_takesE_110 : decode cX7_takesE 110 = .ok (.iload_n 3, 1) := by decide +kernel
theorem dX7_takesE_111 : decode cX7_takesE 111 = .ok (.bipush 38, 2) := by decide +kernel
theorem dX7_takesE_113 : decode cX7_takesE 113 = .ok (.if_icmp .eq 9, 3) := by decide +kernel
theorem dX7_takesE_116 : decode cX7_takesE 116 = .ok (.iload_n 3, 1) := by decide +kernel
theorem dX7_takesE_117 : decode cX7_takesE 117 = .ok (.bipush 124, 2) := by decide +kernel
theorem dX7_takesE_119 : decode cX7_takesE 119 = .ok (.if_icmp .ne 43, 3) := by decide +kernel
theorem dX7_takesE_122 : decode cX7_takesE 122 = .ok (.aload_n 0, 1) := by decide +kernel
theorem dX7_takesE_123 : decode cX7_takesE 123 = .ok (.iload_n 3, 1) := by decide +kernel
theorem dX7_takesE_124 : decode cX7_takesE 124 = .ok (.invokevirtual 263, 3) := by decide +kernel
theorem dX7_takesE_127 : decode cX7_takesE 127 = .ok (.aload_n 0, 1) := by decide +kernel
theorem dX7_takesE_128 : decode cX7_takesE 128 = .ok (.getfield 71, 3) := by decide +kernel
theorem dX7_takesE_131 : decode cX7_takesE 131 = .ok (.aload_n 0, 1) := by decide +kernel
theorem dX7_takesE_132 : decode cX7_takesE 132 = .ok (.getfield 77, 3) := by decide +kernel
theorem dX7_takesE_135 : decode cX7_takesE 135 = .ok (.iload_n 3, 1) := by decide +kernel
theorem dX7_takesE_136 : decode cX7_takesE 136 = .ok (.iastore, 1) := by decide +kernel
theorem dX7_takesE_137 : decode cX7_takesE 137 = .ok (.aload_n 0, 1) := by decide +kernel
theorem dX7_takesE_138 : decode cX7_takesE 138 = .ok (.dup, 1) := by decide +kernel
theorem dX7_takesE_139 : decode cX7_takesE 139 = .ok (.getfield 77, 3) := by decide +kernel
theorem dX7_takesE_142 : decode cX7_takesE 142 = .ok (.iconst 1, 1) := by decide +kernel
theorem dX7_takesE_143 : decode cX7_takesE 143 = .ok (.iadd, 1) := by decide +kernel
theorem dX7_takesE_144 : decode cX7_takesE 144 = .ok (.putfield 77, 3) := by decide +kernel
theorem dX7_takesE_147 : decode cX7_takesE 147 = .ok (.iconst 1, 1) := by decide +kernel
theorem dX7_takesE_148 : decode cX7_takesE 148 = .ok (.istore_n 2, 1) := by decide +kernel
theorem dX7_takesE_149 : decode cX7_takesE 149 = .ok (.aload_n 0, 1) := by decide +kernel
theorem dX7_takesE_150 : decode cX7_takesE 150 = .ok (.dup, 1) := by decide +kernel
theorem dX7_takesE_151 : decode cX7_takesE 151 = .ok (.getfield 44, 3) := by decide +kernel
theorem dX7_takesE_154 : decode cX7_takesE 154 = .ok (.iconst 1, 1) := by decide +kernel
theorem dX7_takesE_155 : decode cX7_takesE 155 = .ok (.iadd, 1) := by decide +kernel
theorem dX7_takesE_156 : decode cX7_takesE 156 = .ok (.putfield 44, 3) := by decide +kernel
theorem dX7_takesE_159 : decode cX7_takesE 159 = .ok (.goto (-137), 3) := by decide +kernel
theorem dX7_takesE_162 : decode cX7_takesE 162 = .ok (.aload_n 0, 1) := by decide +kernel
theorem dX7_takesE_163 : decode cX7_takesE 163 = .ok (.bipush 124, 2) := by decide +kernel
theorem dX7_takesE_165 : decode cX7_takesE 165 = .ok (.invokevirtual 263, 3) := by decide +kernel
theorem dX7_takesE_168 : decode cX7_takesE 168 = .ok (.aload_n 0, 1) := by decide +kernel
theorem dX7_takesE_169 : decode cX7_takesE 169 = .ok (.getfield 65, 3) := by decide +kernel
theorem dX7_takesE_172 : decode cX7_takesE 172 = .ok (.iload_n 1, 1) := by decide +kernel
theorem dX7_takesE_173 : decode cX7_takesE 173 = .ok (.aload_n 0, 1) := by decide +kernel
theorem dX7_takesE_174 : decode cX7_takesE 174 = .ok (.getfield 74, 3) := by decide +kernel
theorem dX7_takesE_177 : decode cX7_takesE 177 = .ok (.iastore, 1) := by decide +kernel
theorem dX7_takesE_178 : decode cX7_takesE 178 = .ok (.aload_n 0, 1) := by decide +kernel
theorem dX7_takesE_179 : decode cX7_takesE 179 = .ok (.getfield 77, 3) := by decide +kernel
theorem dX7_takesE_182 : decode cX7_takesE 182 = .ok (.ifCond .ne 5, 3) := by decide +kernel
theorem dX7_takesE_185 : decode cX7_takesE 185 = .ok (.iconst 1, 1) := by decide +kernel
theorem dX7_takesE_186 : decode cX7_takesE 186 = .ok (.ireturn, 1) := by decide +kernel
theorem dX7_takesE_187 : decode cX7_takesE 187 = .ok (.iload_n 3, 1) := by decide +kernel
theorem dX7_takesE_188 : decode cX7_takesE 188 = .ok (.bipush 41, 2) := by decide +kernel
theorem dX7_takesE_190 : decode cX7_takesE 190 = .ok (.if_icmp .eq 5, 3) := by decide +kernel
theorem dX7_takesE_193 : decode cX7_takesE 193 = .ok (.iconst 0, 1) := by decide +kernel
theorem dX7_takesE_194 : decode cX7_takesE 194 = .ok (.ireturn, 1) := by decide +kernel
theorem dX7_takesE_195 : decode cX7_takesE 195 = .ok (.aload_n 0, 1) := by decide +kernel
theorem dX7_takesE_196 : decode cX7_takesE 196 = .ok (.dup, 1) := by decide +kernel
theorem dX7_takesE_197 : decode cX7_takesE 197 = .ok (.getfield 77, 3) := by decide +kernel
theorem dX7_takesE_200 : decode cX7_takesE 200 = .ok (.iconst 1, 1) := by decide +kernel
theorem dX7_takesE_201 : decode cX7_takesE 201 = .ok (.isub, 1) := by decide +kernel
theorem dX7_takesE_202 : decode cX7_takesE 202 = .ok (.putfield 77, 3) := by decide +kernel
theorem dX7_takesE_205 : decode cX7_takesE 205 = .ok (.aload_n 0, 1) := by decide +kernel
theorem dX7_takesE_206 : decode cX7_takesE 206 = .ok (.dup, 1) := by decide +kernel
theorem dX7_takesE_207 : decode cX7_takesE 207 = .ok (.getfield 80, 3) := by decide +kernel
theorem dX7_takesE_210 : decode cX7_takesE 210 = .ok (.iconst 1, 1) := by decide +kernel
theorem dX7_takesE_211 : decode cX7_takesE 211 = .ok (.isub, 1) := by decide +kernel
theorem dX7_takesE_212 : decode cX7_takesE 212 = .ok (.putfield 80, 3) := by decide +kernel
theorem dX7_takesE_215 : decode cX7_takesE 215 = .ok (.aload_n 0, 1) := by decide +kernel
theorem dX7_takesE_216 : decode cX7_takesE 216 = .ok (.dup, 1) := by decide +kernel
theorem dX7_takesE_217 : decode cX7_takesE 217 = .ok (.getfield 44, 3) := by decide +kernel
theorem dX7_takesE_220 : decode cX7_takesE 220 = .ok (.iconst 1, 1) := by decide +kernel
theorem dX7_takesE_221 : decode cX7_takesE 221 = .ok (.iadd, 1) := by decide +kernel
theorem dX7_takesE_222 : decode cX7_takesE 222 = .ok (.putfield 44, 3) := by decide +kernel
theorem dX7_takesE_225 : decode cX7_takesE 225 = .ok (.aload_n 0, 1) := by decide +kernel
theorem dX7_takesE_226 : decode cX7_takesE 226 = .ok (.invokevirtual 257, 3) := by decide +kernel
theorem dX7_takesE_229 : decode cX7_takesE 229 = .ok (.goto (-207), 3) := by decide +kernel
theorem dX7_takesHead_0 : decode cX7_takesHead 0 = .ok (.aload_n 0, 1) := by decide +kernel
theorem dX7_takesHead_1 : decode cX7_takesHead 1 = .ok (.invokevirtual 235, 3) := by decide +kernel
theorem dX7_takesHead_4 : decode cX7_takesHead 4 = .ok (.lookupswitch 110 #[(98, 28), (114, 95)], 28) := by decide +kernel
theorem dX7_takesHead_32 : decode cX7_takesHead 32 = .ok (.aload_n 0, 1) := by decide +kernel
theorem dX7_takesHead_33 : decode cX7_takesHead 33 = .ok (.getfield 56, 3) := by decide +kernel
theorem dX7_takesHead_36 : decode cX7_takesHead 36 = .ok (.iload_n 1, 1) := by decide +kernel
theorem dX7_takesHead_37 : decode cX7_takesHead 37 = .ok (.aload_n 0, 1) := by decide +kernel
theorem dX7_takesHead_38 : decode cX7_takesHead 38 = .ok (.getfield 44, 3) := by decide +kernel
theorem dX7_takesHead_41 : decode cX7_takesHead 41 = .ok (.iconst 2, 1) := by decide +kernel
theorem dX7_takesHead_42 : decode cX7_takesHead 42 = .ok (.iadd, 1) := by decide +kernel
theorem dX7_takesHead_43 : decode cX7_takesHead 43 = .ok (.aload_n 0, 1) := by decide +kernel
theorem dX7_takesHead_44 : decode cX7_takesHead 44 = .ok (.getfield 41, 3) := by decide +kernel
theorem dX7_takesHead_47 : decode cX7_takesHead 47 = .ok (.if_icmp .ge 23, 3) := by decide +kernel
theorem dX7_takesHead_50 : decode cX7_takesHead 50 = .ok (.aload_n 0, 1) := by decide +kernel
theorem dX7_takesHead_51 : decode cX7_takesHead 51 = .ok (.getfield 50, 3) := by decide +kernel
theorem dX7_takesHead_54 : decode cX7_takesHead 54 = .ok (.aload_n 0, 1) := by decide +kernel
theorem dX7_takesHead_55 : decode cX7_takesHead 55 = .ok (.getfield 44, 3) := by decide +kernel
theorem dX7_takesHead_58 : decode cX7_takesHead 58 = .ok (.iconst 2, 1) := by decide +kernel
theorem dX7_takesHead_59 : decode cX7_takesHead 59 = .ok (.iadd, 1) := by decide +kernel
theorem dX7_takesHead_60 : decode cX7_takesHead 60 = .ok (.iaload, 1) := by decide +kernel
theorem dX7_takesHead_61 : decode cX7_takesHead 61 = .ok (.bipush 105, 2) := by decide +kernel
theorem dX7_takesHead_63 : decode cX7_takesHead 63 = .ok (.if_icmp .ne 7, 3) := by decide +kernel
theorem dX7_takesHead_66 : decode cX7_takesHead 66 = .ok (.iconst 1, 1) := by decide +kernel
theorem dX7_takesHead_67 : decode cX7_takesHead 67 = .ok (.goto 4, 3) := by decide +kernel
theorem dX7_takesHead_70 : decode cX7_takesHead 70 = .ok (.iconst 0, 1) := by decide +kernel
theorem dX7_takesHead_71 : decode cX7_takesHead 71 = .ok (.iastore, 1) := by decide +kernel
theorem dX7_takesHead_72 : decode cX7_takesHead 72 = .ok (.aload_n 0, 1) := by decide +kernel
theorem dX7_takesHead_73 : decode cX7_takesHead 73 = .ok (.getfield 56, 3) := by decide +kernel
theorem dX7_takesHead_76 : decode cX7_takesHead 76 = .ok (.iload_n 1, 1) := by decide +kernel
theorem dX7_takesHead_77 : decode cX7_takesHead 77 = .ok (.iaload, 1) := by decide +kernel
theorem dX7_takesHead_78 : decode cX7_takesHead 78 = .ok (.iconst 1, 1) := by decide +kernel
theorem dX7_takesHead_79 : decode cX7_takesHead 79 = .ok (.if_icmp .ne 13, 3) := by decide +kernel
theorem dX7_takesHead_82 : decode cX7_takesHead 82 = .ok (.aload_n 0, 1) := by decide +kernel
theorem dX7_takesHead_83 : decode cX7_takesHead 83 = .ok (.iconst 5, 1) := by decide +kernel
theorem dX7_takesHead_84 : decode cX7_takesHead 84 = .ok (.bipush 6, 2) := by decide +kernel
theorem dX7_takesHead_86 : decode cX7_takesHead 86 = .ok (.invokevirtual 266, 3) := by decide +kernel
theorem dX7_takesHead_89 : decode cX7_takesHead 89 = .ok (.goto 9, 3) := by decide +kernel
theorem dX7_takesHead_92 : decode cX7_takesHead 92 = .ok (.aload_n 0, 1) := by decide +kernel
theorem dX7_takesHead_93 : decode cX7_takesHead 93 = .ok (.iconst 0, 1) := by decide +kernel
theorem dX7_takesHead_94 : decode cX7_takesHead 94 = .ok (.iconst 5, 1) := by decide +kernel
theorem dX7_takesHead_95 : decode cX7_takesHead 95 = .ok (.invokevirtual 266, 3) := by decide +kernel
theorem dX7_takesHead_98 : decode cX7_takesHead 98 = .ok (.ireturn, 1) := by decide +kernel
theorem dX7_takesHead_99 : decode cX7_takesHead 99 = .ok (.aload_n 0, 1) := by decide +kernel
theorem dX7_takesHead_100 : decode cX7_takesHead 100 = .ok (.getfield 56, 3) := by decide +kernel
theorem dX7_takesHead_103 : decode cX7_takesHead 103 = .ok (.iload_n 1, 1) := by decide +kernel
theorem dX7_takesHead_104 : decode cX7_takesHead 104 = .ok (.iconst 2, 1) := by decide +kernel
theorem dX7_takesHead_105 : decode cX7_takesHead 105 = .ok (.iastore, 1) := by decide +kernel
theorem dX7_takesHead_106 : decode cX7_takesHead 106 = .ok (.aload_n 0, 1) := by decide +kernel
theorem dX7_takesHead_107 : decode cX7_takesHead 107 = .ok (.bipush 11, 2) := by decide +kernel
theorem dX7_takesHead_109 : decode cX7_takesHead 109 = .ok (.iconst 4, 1) := by decide +kernel
theorem dX7_takesHead_110 : decode cX7_takesHead 110 = .ok (.invokevirtual 266, 3) := by decide +kernel
theorem dX7_takesHead_113 : decode cX7_takesHead 113 = .ok (.ireturn, 1) := by decide +kernel
theorem dX7_takesHead_114 : decode cX7_takesHead 114 = .ok (.aload_n 0, 1) := by decide +kernel
theorem dX7_takesHead_115 : decode cX7_takesHead 115 = .ok (.getfield 56, 3) := by decide +kernel
theorem dX7_takesHead_118 : decode cX7_takesHead 118 = .ok (.iload_n 1, 1) := by decide +kernel
theorem dX7_takesHead_119 : decode cX7_takesHead 119 = .ok (.iconst 3, 1) := by decide +kernel
theorem dX7_takesHead_120 : decode cX7_takesHead 120 = .ok (.iastore, 1) := by decide +kernel
theorem dX7_takesHead_121 : decode cX7_takesHead 121 = .ok (.aload_n 0, 1) := by decide +kernel
theorem dX7_takesHead_122 : decode cX7_takesHead 122 = .ok (.bipush 15, 2) := by decide +kernel
theorem dX7_takesHead_124 : decode cX7_takesHead 124 = .ok (.iconst 5, 1) := by decide +kernel
theorem dX7_takesHead_125 : decode cX7_takesHead 125 = .ok (.invokevirtual 266, 3) := by decide +kernel
theorem dX7_takesHead_128 : decode cX7_takesHead 128 = .ok (.ireturn, 1) := by decide +kernel
theorem dX7_takesClause_0 : decode cX7_takesClause 0 = .ok (.aload_n 0, 1) := by decide +kernel
theorem dX7_takesClause_1 : decode cX7_takesClause 1 = .ok (.iload_n 1, 1) := by decide +kernel
theorem dX7_takesClause_2 : decode cX7_takesClause 2 = .ok (.invokevirtual 270, 3) := by decide +kernel
theorem dX7_takesClause_5 : decode cX7_takesClause 5 = .ok (.ifCond .eq 10, 3) := by decide +kernel
theorem dX7_takesClause_8 : decode cX7_takesClause 8 = .ok (.aload_n 0, 1) := by decide +kernel
theorem dX7_takesClause_9 : decode cX7_takesClause 9 = .ok (.invokevirtual 254, 3) := by decide +kernel
theorem dX7_takesClause_12 : decode cX7_takesClause 12 = .ok (.ifCond .ne 5, 3) := by decide +kernel
theorem dX7_takesClause_15 : decode cX7_takesClause 15 = .ok (.iconst 0, 1) := by decide +kernel
theorem dX7_takesClause_16 : decode cX7_takesClause 16 = .ok (.ireturn, 1) := by decide +kernel
theorem dX7_takesClause_17 : decode cX7_takesClause 17 = .ok (.aload_n 0, 1) := by decide +kernel
theorem dX7_takesClause_18 : decode cX7_takesClause 18 = .ok (.getfield 59, 3) := by decide +kernel
theorem dX7_takesClause_21 : decode cX7_takesClause 21 = .ok (.iload_n 1, 1) := by decide +kernel
theorem dX7_takesClause_22 : decode cX7_takesClause 22 = .ok (.aload_n 0, 1) := by decide +kernel
theorem dX7_takesClause_23 : decode cX7_takesClause 23 = .ok (.getfield 47, 3) := by decide +kernel
theorem dX7_takesClause_26 : decode cX7_takesClause 26 = .ok (.iastore, 1) := by decide +kernel
theorem dX7_takesClause_27 : decode cX7_takesClause 27 = .ok (.aload_n 0, 1) := by decide +kernel
theorem dX7_takesClause_28 : decode cX7_takesClause 28 = .ok (.getfield 56, 3) := by decide +kernel
theorem dX7_takesClause_31 : decode cX7_takesClause 31 = .ok (.iload_n 1, 1) := by decide +kernel
theorem dX7_takesClause_32 : decode cX7_takesClause 32 = .ok (.iaload, 1) := by decide +kernel
theorem dX7_takesClause_33 : decode cX7_takesClause 33 = .ok (.iconst 2, 1) := by decide +kernel
theorem dX7_takesClause_34 : decode cX7_takesClause 34 = .ok (.if_icmp .ge 20, 3) := by decide +kernel
theorem dX7_takesClause_37 : decode cX7_takesClause 37 = .ok (.aload_n 0, 1) := by decide +kernel
theorem dX7_takesClause_38 : decode cX7_takesClause 38 = .ok (.bipush 32, 2) := by decide +kernel
theorem dX7_takesClause_40 : decode cX7_takesClause 40 = .ok (.invokevirtual 239, 3) := by decide +kernel
theorem dX7_takesClause_43 : decode cX7_takesClause 43 = .ok (.ifCond .eq 15, 3) := by decide +kernel
theorem dX7_takesClause_46 : decode cX7_takesClause 46 = .ok (.aload_n 0, 1) := by decide +kernel
theorem dX7_takesClause_47 : decode cX7_takesClause 47 = .ok (.iload_n 1, 1) := by decide +kernel
theorem dX7_takesClause_48 : decode cX7_takesClause 48 = .ok (.invokevirtual 273, 3) := by decide +kernel
theorem dX7_takesClause_51 : decode cX7_takesClause 51 = .ok (.ifCond .eq 7, 3) := by decide +kernel
theorem dX7_takesClause_54 : decode cX7_takesClause 54 = .ok (.iconst 1, 1) := by decide +kernel
theorem dX7_takesClause_55 : decode cX7_takesClause 55 = .ok (.goto 4, 3) := by decide +kernel
theorem dX7_takesClause_58 : decode cX7_takesClause 58 = .ok (.iconst 0, 1) := by decide +kernel
theorem dX7_takesClause_59 : decode cX7_takesClause 59 = .ok (.ireturn, 1) := by decide +kernel
theorem dX7_goesText_0 : decode cX7_goesText 0 = .ok (.aload_n 0, 1) := by decide +kernel
theorem dX7_goesText_1 : decode cX7_goesText 1 = .ok (.iconst 0, 1) := by decide +kernel
theorem dX7_goesText_2 : decode cX7_goesText 2 = .ok (.putfield 44, 3) := by decide +kernel
theorem dX7_goesText_5 : decode cX7_goesText 5 = .ok (.aload_n 0, 1) := by decide +kernel
theorem dX7_goesText_6 : decode cX7_goesText 6 = .ok (.bipush 100, 2) := by decide +kernel
theorem dX7_goesText_8 : decode cX7_goesText 8 = .ok (.iload_n 1, 1) := by decide +kernel
theorem dX7_goesText_9 : decode cX7_goesText 9 = .ok (.imul, 1) := by decide +kernel
theorem dX7_goesText_10 : decode cX7_goesText 10 = .ok (.putfield 74, 3) := by decide +kernel
theorem dX7_goesText_13 : decode cX7_goesText 13 = .ok (.iconst 0, 1) := by decide +kernel
theorem dX7_goesText_14 : decode cX7_goesText 14 = .ok (.istore_n 2, 1) := by decide +kernel
theorem dX7_goesText_15 : decode cX7_goesText 15 = .ok (.aload_n 0, 1) := by decide +kernel
theorem dX7_goesText_16 : decode cX7_goesText 16 = .ok (.bipush 10, 2) := by decide +kernel
theorem dX7_goesText_18 : decode cX7_goesText 18 = .ok (.iload_n 1, 1) := by decide +kernel
theorem dX7_goesText_19 : decode cX7_goesText 19 = .ok (.imul, 1) := by decide +kernel
theorem dX7_goesText_20 : decode cX7_goesText 20 = .ok (.iload_n 2, 1) := by decide +kernel
theorem dX7_goesText_21 : decode cX7_goesText 21 = .ok (.iadd, 1) := by decide +kernel
theorem dX7_goesText_22 : decode cX7_goesText 22 = .ok (.invokevirtual 276, 3) := by decide +kernel
theorem dX7_goesText_25 : decode cX7_goesText 25 = .ok (.ifCond .ne 5, 3) := by decide +kernel
theorem dX7_goesText_28 : decode cX7_goesText 28 = .ok (.iconst 0, 1) := by decide +kernel
theorem dX7_goesText_29 : decode cX7_goesText 29 = .ok (.ireturn, 1) := by decide +kernel
theorem dX7_goesText_30 : decode cX7_goesText 30 = .ok (.iinc 2 1, 3) := by decide +kernel
theorem dX7_goesText_33 : decode cX7_goesText 33 = .ok (.aload_n 0, 1) := by decide +kernel
theorem dX7_goesText_34 : decode cX7_goesText 34 = .ok (.getfield 53, 3) := by decide +kernel
theorem dX7_goesText_37 : decode cX7_goesText 37 = .ok (.iload_n 1, 1) := by decide +kernel
theorem dX7_goesText_38 : decode cX7_goesText 38 = .ok (.iload_n 2, 1) := by decide +kernel
theorem dX7_goesText_39 : decode cX7_goesText 39 = .ok (.iastore, 1) := by decide +kernel
theorem dX7_goesText_40 : decode cX7_goesText 40 = .ok (.aload_n 0, 1) := by decide +kernel
theorem dX7_goesText_41 : decode cX7_goesText 41 = .ok (.getfield 44, 3) := by decide +kernel
theorem dX7_goesText_44 : decode cX7_goesText 44 = .ok (.aload_n 0, 1) := by decide +kernel
theorem dX7_goesText_45 : decode cX7_goesText 45 = .ok (.getfield 41, 3) := by decide +kernel
theorem dX7_goesText_48 : decode cX7_goesText 48 = .ok (.if_icmp .ne 5, 3) := by decide +kernel
theorem dX7_goesText_51 : decode cX7_goesText 51 = .ok (.iconst 1, 1) := by decide +kernel
theorem dX7_goesText_52 : decode cX7_goesText 52 = .ok (.ireturn, 1) := by decide +kernel
theorem dX7_goesText_53 : decode cX7_goesText 53 = .ok (.iload_n 2, 1) := by decide +kernel
theorem dX7_goesText_54 : decode cX7_goesText 54 = .ok (.bipush 10, 2) := by decide +kernel
theorem dX7_goesText_56 : decode cX7_goesText 56 = .ok (.if_icmp .eq 12, 3) := by decide +kernel
theorem dX7_goesText_59 : decode cX7_goesText 59 = .ok (.aload_n 0, 1) := by decide +kernel
theorem dX7_goesText_60 : decode cX7_goesText 60 = .ok (.bipush 59, 2) := by decide +kernel
theorem dX7_goesText_62 : decode cX7_goesText 62 = .ok (.invokevirtual 239, 3) := by decide +kernel
theorem dX7_goesText_65 : decode cX7_goesText 65 = .ok (.ifCond .ne (-50), 3) := by decide +kernel
theorem dX7_goesText_68 : decode cX7_goesText 68 = .ok (.iconst 0, 1) := by decide +kernel
theorem dX7_goesText_69 : decode cX7_goesText 69 = .ok (.ireturn, 1) := by decide +kernel
theorem dX7_booth_0 : decode cX7_booth 0 = .ok (.aload_n 0, 1) := by decide +kernel
theorem dX7_booth_1 : decode cX7_booth 1 = .ok (.getfield 35, 3) := by decide +kernel
theorem dX7_booth_4 : decode cX7_booth 4 = .ok (.bipush 6, 2) := by decide +kernel
theorem dX7_booth_6 : decode cX7_booth 6 = .ok (.if_icmp .ne 6, 3) := by decide +kernel
theorem dX7_booth_9 : decode cX7_booth 9 = .ok (.bipush (-4), 2) := by decide +kernel
theorem dX7_booth_11 : decode cX7_booth 11 = .ok (.ireturn, 1) := by decide +kernel
theorem dX7_booth_12 : decode cX7_booth 12 = .ok (.aload_n 0, 1) := by decide +kernel
theorem dX7_booth_13 : decode cX7_booth 13 = .ok (.aload_n 0, 1) := by decide +kernel
theorem dX7_booth_14 : decode cX7_booth 14 = .ok (.getfield 35, 3) := by decide +kernel
theorem dX7_booth_17 : decode cX7_booth 17 = .ok (.invokevirtual 279, 3) := by decide +kernel
theorem dX7_booth_20 : decode cX7_booth 20 = .ok (.istore_n 1, 1) := by decide +kernel
theorem dX7_booth_21 : decode cX7_booth 21 = .ok (.aload_n 0, 1) := by decide +kernel
theorem dX7_booth_22 : decode cX7_booth 22 = .ok (.iconst 0, 1) := by decide +kernel
theorem dX7_booth_23 : decode cX7_booth 23 = .ok (.putfield 41, 3) := by decide +kernel
theorem dX7_booth_26 : decode cX7_booth 26 = .ok (.iload_n 1, 1) := by decide +kernel
theorem dX7_booth_27 : decode cX7_booth 27 = .ok (.ifCond .ne 11, 3) := by decide +kernel
theorem dX7_booth_30 : decode cX7_booth 30 = .ok (.bipush (-10), 2) := by decide +kernel
theorem dX7_booth_32 : decode cX7_booth 32 = .ok (.aload_n 0, 1) := by decide +kernel
theorem dX7_booth_33 : decode cX7_booth 33 = .ok (.getfield 44, 3) := by decide +kernel
theorem dX7_booth_36 : decode cX7_booth 36 = .ok (.isub, 1) := by decide +kernel
theorem dX7_booth_37 : decode cX7_booth 37 = .ok (.ireturn, 1) := by decide +kernel
theorem dX7_booth_38 : decode cX7_booth 38 = .ok (.aload_n 0, 1) := by decide +kernel
theorem dX7_booth_39 : decode cX7_booth 39 = .ok (.aload_n 0, 1) := by decide +kernel
theorem dX7_booth_40 : decode cX7_booth 40 = .ok (.getfield 35, 3) := by decide +kernel
theorem dX7_booth_43 : decode cX7_booth 43 = .ok (.putfield 38, 3) := by decide +kernel
theorem dX7_booth_46 : decode cX7_booth 46 = .ok (.aload_n 0, 1) := by decide +kernel
theorem dX7_booth_47 : decode cX7_booth 47 = .ok (.dup, 1) := by decide +kernel
theorem dX7_booth_48 : decode cX7_booth 48 = .ok (.getfield 35, 3) := by decide +kernel
theorem dX7_booth_51 : decode cX7_booth 51 = .ok (.iconst 1, 1) := by decide +kernel
theorem dX7_booth_52 : decode cX7_booth 52 = .ok (.iadd, 1) := by decide +kernel
theorem dX7_booth_53 : decode cX7_booth 53 = .ok (.putfield 35, 3) := by decide +kernel
theorem dX7_booth_56 : decode cX7_booth 56 = .ok (.aload_n 0, 1) := by decide +kernel
theorem dX7_booth_57 : decode cX7_booth 57 = .ok (.getfield 38, 3) := by decide +kernel
theorem dX7_booth_60 : decode cX7_booth 60 = .ok (.ireturn, 1) := by decide +kernel
theorem dX7_begin_0 : decode cX7_begin 0 = .ok (.aload_n 0, 1) := by decide +kernel
theorem dX7_begin_1 : decode cX7_begin 1 = .ok (.getfield 38, 3) := by decide +kernel
theorem dX7_begin_4 : decode cX7_begin 4 = .ok (.ifCond .ge 7, 3) := by decide +kernel
theorem dX7_begin_7 : decode cX7_begin 7 = .ok (.iconst 0, 1) := by decide +kernel
theorem dX7_begin_8 : decode cX7_begin 8 = .ok (.goto 10, 3) := by decide +kernel
theorem dX7_begin_11 : decode cX7_begin 11 = .ok (.bipush 10, 2) := by decide +kernel
theorem dX7_begin_13 : decode cX7_begin 13 = .ok (.aload_n 0, 1) := by decide +kernel
theorem dX7_begin_14 : decode cX7_begin 14 = .ok (.getfield 38, 3) := by decide +kernel
theorem dX7_begin_17 : decode cX7_begin 17 = .ok (.imul, 1) := by decide +kernel
theorem dX7_begin_18 : decode cX7_begin 18 = .ok (.ireturn, 1) := by decide +kernel
theorem dX7_behind_0 : decode cX7_behind 0 = .ok (.aload_n 0, 1) := by decide +kernel
theorem dX7_behind_1 : decode cX7_behind 1 = .ok (.getfield 38, 3) := by decide +kernel
theorem dX7_behind_4 : decode cX7_behind 4 = .ok (.ifCond .ge 7, 3) := by decide +kernel
theorem dX7_behind_7 : decode cX7_behind 7 = .ok (.iconst 0, 1) := by decide +kernel
theorem dX7_behind_8 : decode cX7_behind 8 = .ok (.goto 20, 3) := by decide +kernel
theorem dX7_behind_11 : decode cX7_behind 11 = .ok (.bipush 10, 2) := by decide +kernel
theorem dX7_behind_13 : decode cX7_behind 13 = .ok (.aload_n 0, 1) := by decide +kernel
theorem dX7_behind_14 : decode cX7_behind 14 = .ok (.getfield 38, 3) := by decide +kernel
theorem dX7_behind_17 : decode cX7_behind 17 = .ok (.imul, 1) := by decide +kernel
theorem dX7_behind_18 : decode cX7_behind 18 = .ok (.aload_n 0, 1) := by decide +kernel
theorem dX7_behind_19 : decode cX7_behind 19 = .ok (.getfield 53, 3) := by decide +kernel
theorem dX7_behind_22 : decode cX7_behind 22 = .ok (.aload_n 0, 1) := by decide +kernel
theorem dX7_behind_23 : decode cX7_behind 23 = .ok (.getfield 38, 3) := by decide +kernel
theorem dX7_behind_26 : decode cX7_behind 26 = .ok (.iaload, 1) := by decide +kernel
theorem dX7_behind_27 : decode cX7_behind 27 = .ok (.iadd, 1) := by decide +kernel
theorem dX7_behind_28 : decode cX7_behind 28 = .ok (.ireturn, 1) := by decide +kernel
theorem dX7_lastOf_0 : decode cX7_lastOf 0 = .ok (.iload_n 2, 1) := by decide +kernel
theorem dX7_lastOf_1 : decode cX7_lastOf 1 = .ok (.istore_n 3, 1) := by decide +kernel
theorem dX7_lastOf_2 : decode cX7_lastOf 2 = .ok (.aload_n 0, 1) := by decide +kernel
theorem dX7_lastOf_3 : decode cX7_lastOf 3 = .ok (.invokevirtual 282, 3) := by decide +kernel
theorem dX7_lastOf_6 : decode cX7_lastOf 6 = .ok (.istore 4, 2) := by decide +kernel
theorem dX7_lastOf_8 : decode cX7_lastOf 8 = .ok (.iload 4, 2) := by decide +kernel
theorem dX7_lastOf_10 : decode cX7_lastOf 10 = .ok (.aload_n 0, 1) := by decide +kernel
theorem dX7_lastOf_11 : decode cX7_lastOf 11 = .ok (.invokevirtual 285, 3) := by decide +kernel
theorem dX7_lastOf_14 : decode cX7_lastOf 14 = .ok (.if_icmp .ge 32, 3) := by decide +kernel
theorem dX7_lastOf_17 : decode cX7_lastOf 17 = .ok (.aload_n 0, 1) := by decide +kernel
theorem dX7_lastOf_18 : decode cX7_lastOf 18 = .ok (.getfield 56, 3) := by decide +kernel
theorem dX7_lastOf_21 : decode cX7_lastOf 21 = .ok (.iload 4, 2) := by decide +kernel
theorem dX7_lastOf_23 : decode cX7_lastOf 23 = .ok (.iaload, 1) := by decide +kernel
theorem dX7_lastOf_24 : decode cX7_lastOf 24 = .ok (.iload_n 1, 1) := by decide +kernel
theorem dX7_lastOf_25 : decode cX7_lastOf 25 = .ok (.if_icmp .ne 13, 3) := by decide +kernel
theorem dX7_lastOf_28 : decode cX7_lastOf 28 = .ok (.aload_n 0, 1) := by decide +kernel
theorem dX7_lastOf_29 : decode cX7_lastOf 29 = .ok (.getfield 59, 3) := by decide +kernel
theorem dX7_lastOf_32 : decode cX7_lastOf 32 = .ok (.iload 4, 2) := by decide +kernel
theorem dX7_lastOf_34 : decode cX7_lastOf 34 = .ok (.iaload, 1) := by decide +kernel
theorem dX7_lastOf_35 : decode cX7_lastOf 35 = .ok (.goto 4, 3) := by decide +kernel
theorem dX7_lastOf_38 : decode cX7_lastOf 38 = .ok (.iload_n 3, 1) := by decide +kernel
theorem dX7_lastOf_39 : decode cX7_lastOf 39 = .ok (.istore_n 3, 1) := by decide +kernel
theorem dX7_lastOf_40 : decode cX7_lastOf 40 = .ok (.iinc 4 1, 3) := by decide +kernel
theorem dX7_lastOf_43 : decode cX7_lastOf 43 = .ok (.goto (-35), 3) := by decide +kernel
theorem dX7_lastOf_46 : decode cX7_lastOf 46 = .ok (.iload_n 3, 1) := by decide +kernel
theorem dX7_lastOf_47 : decode cX7_lastOf 47 = .ok (.ireturn, 1) := by decide +kernel
theorem dX7_room_0 : decode cX7_room 0 = .ok (.aload_n 0, 1) := by decide +kernel
theorem dX7_room_1 : decode cX7_room 1 = .ok (.aload_n 0, 1) := by decide +kernel
theorem dX7_room_2 : decode cX7_room 2 = .ok (.iconst 2, 1) := by decide +kernel
theorem dX7_room_3 : decode cX7_room 3 = .ok (.bipush 20, 2) := by decide +kernel
theorem dX7_room_5 : decode cX7_room 5 = .ok (.invokevirtual 288, 3) := by decide +kernel
theorem dX7_room_8 : decode cX7_room 8 = .ok (.bipush 60, 2) := by decide +kernel
theorem dX7_room_10 : decode cX7_room 10 = .ok (.invokevirtual 292, 3) := by decide +kernel
theorem dX7_room_13 : decode cX7_room 13 = .ok (.ireturn, 1) := by decide +kernel
theorem dX7_press_0 : decode cX7_press 0 = .ok (.aload_n 0, 1) := by decide +kernel
theorem dX7_press_1 : decode cX7_press 1 = .ok (.iconst 3, 1) := by decide +kernel
theorem dX7_press_2 : decode cX7_press 2 = .ok (.iconst 4, 1) := by decide +kernel
theorem dX7_press_3 : decode cX7_press 3 = .ok (.invokevirtual 288, 3) := by decide +kernel
theorem dX7_press_6 : decode cX7_press 6 = .ok (.istore_n 1, 1) := by decide +kernel
theorem dX7_press_7 : decode cX7_press 7 = .ok (.iload_n 1, 1) := by decide +kernel
theorem dX7_press_8 : decode cX7_press 8 = .ok (.iconst 1, 1) := by decide +kernel
theorem dX7_press_9 : decode cX7_press 9 = .ok (.if_icmp .ge 7, 3) := by decide +kernel
theorem dX7_press_12 : decode cX7_press 12 = .ok (.iconst 1, 1) := by decide +kernel
theorem dX7_press_13 : decode cX7_press 13 = .ok (.goto 4, 3) := by decide +kernel
theorem dX7_press_16 : decode cX7_press 16 = .ok (.iload_n 1, 1) := by decide +kernel
theorem dX7_press_17 : decode cX7_press 17 = .ok (.ireturn, 1) := by decide +kernel
theorem dX7_factOf_0 : decode cX7_factOf 0 = .ok (.iload_n 1, 1) := by decide +kernel
theorem dX7_factOf_1 : decode cX7_factOf 1 = .ok (.tableswitch 64 0 4 #[35, 37, 39, 46, 53], 35) := by decide +kernel
theorem dX7_factOf_36 : decode cX7_factOf 36 = .ok (.iload_n 2, 1) := by decide +kernel
theorem dX7_factOf_37 : decode cX7_factOf 37 = .ok (.ireturn, 1) := by decide +kernel
theorem dX7_factOf_38 : decode cX7_factOf 38 = .ok (.iload_n 3, 1) := by decide +kernel
theorem dX7_factOf_39 : decode cX7_factOf 39 = .ok (.ireturn, 1) := by decide +kernel
theorem dX7_factOf_40 : decode cX7_factOf 40 = .ok (.aload_n 0, 1) := by decide +kernel
theorem dX7_factOf_41 : decode cX7_factOf 41 = .ok (.getfield 19, 3) := by decide +kernel
theorem dX7_factOf_44 : decode cX7_factOf 44 = .ok (.iload_n 2, 1) := by decide +kernel
theorem dX7_factOf_45 : decode cX7_factOf 45 = .ok (.iaload, 1) := by decide +kernel
theorem dX7_factOf_46 : decode cX7_factOf 46 = .ok (.ireturn, 1) := by decide +kernel
theorem dX7_factOf_47 : decode cX7_factOf 47 = .ok (.aload_n 0, 1) := by decide +kernel
theorem dX7_factOf_48 : decode cX7_factOf 48 = .ok (.getfield 23, 3) := by decide +kernel
theorem dX7_factOf_51 : decode cX7_factOf 51 = .ok (.iload_n 2, 1) := by decide +kernel
theorem dX7_factOf_52 : decode cX7_factOf 52 = .ok (.iaload, 1) := by decide +kernel
theorem dX7_factOf_53 : decode cX7_factOf 53 = .ok (.ireturn, 1) := by decide +kernel
theorem dX7_factOf_54 : decode cX7_factOf 54 = .ok (.aload_n 0, 1) := by decide +kernel
theorem dX7_factOf_55 : decode cX7_factOf 55 = .ok (.getfield 29, 3) := by decide +kernel
theorem dX7_factOf_58 : decode cX7_factOf 58 = .ok (.iconst 3, 1) := by decide +kernel
theorem dX7_factOf_59 : decode cX7_factOf 59 = .ok (.iload_n 2, 1) := by decide +kernel
theorem dX7_factOf_60 : decode cX7_factOf 60 = .ok (.imul, 1) := by decide +kernel
theorem dX7_factOf_61 : decode cX7_factOf 61 = .ok (.iload_n 3, 1) := by decide +kernel
theorem dX7_factOf_62 : decode cX7_factOf 62 = .ok (.iadd, 1) := by decide +kernel
theorem dX7_factOf_63 : decode cX7_factOf 63 = .ok (.iaload, 1) := by decide +kernel
theorem dX7_factOf_64 : decode cX7_factOf 64 = .ok (.ireturn, 1) := by decide +kernel
theorem dX7_factOf_65 : decode cX7_factOf 65 = .ok (.aload_n 0, 1) := by decide +kernel
theorem dX7_factOf_66 : decode cX7_factOf 66 = .ok (.getfield 13, 3) := by decide +kernel
theorem dX7_factOf_69 : decode cX7_factOf 69 = .ok (.bipush 10, 2) := by decide +kernel
theorem dX7_factOf_71 : decode cX7_factOf 71 = .ok (.irem, 1) := by decide +kernel
theorem dX7_factOf_72 : decode cX7_factOf 72 = .ok (.ireturn, 1) := by decide +kernel
theorem dX7_holds_0 : decode cX7_holds 0 = .ok (.iconst 0, 1) := by decide +kernel
theorem dX7_holds_1 : decode cX7_holds 1 = .ok (.istore 4, 2) := by decide +kernel
theorem dX7_holds_3 : decode cX7_holds 3 = .ok (.aload_n 0, 1) := by decide +kernel
theorem dX7_holds_4 : decode cX7_holds 4 = .ok (.getfield 62, 3) := by decide +kernel
theorem dX7_holds_7 : decode cX7_holds 7 = .ok (.iload_n 1, 1) := by decide +kernel
theorem dX7_holds_8 : decode cX7_holds 8 = .ok (.iaload, 1) := by decide +kernel
theorem dX7_holds_9 : decode cX7_holds 9 = .ok (.istore 5, 2) := by decide +kernel
theorem dX7_holds_11 : decode cX7_holds 11 = .ok (.iload 5, 2) := by decide +kernel
theorem dX7_holds_13 : decode cX7_holds 13 = .ok (.aload_n 0, 1) := by decide +kernel
theorem dX7_holds_14 : decode cX7_holds 14 = .ok (.getfield 65, 3) := by decide +kernel
theorem dX7_holds_17 : decode cX7_holds 17 = .ok (.iload_n 1, 1) := by decide +kernel
theorem dX7_holds_18 : decode cX7_holds 18 = .ok (.iaload, 1) := by decide +kernel
theorem dX7_holds_19 : decode cX7_holds 19 = .ok (.if_icmp .ge 234, 3) := by decide +kernel
theorem dX7_holds_22 : decode cX7_holds 22 = .ok (.aload_n 0, 1) := by decide +kernel
theorem dX7_holds_23 : decode cX7_holds 23 = .ok (.getfield 68, 3) := by decide +kernel
theorem dX7_holds_26 : decode cX7_holds 26 = .ok (.iload 5, 2) := by decide +kernel
theorem dX7_holds_28 : decode cX7_holds 28 = .ok (.iaload, 1) := by decide +kernel
theorem dX7_holds_29 : decode cX7_holds 29 = .ok (.istore 6, 2) := by decide +kernel
theorem dX7_holds_31 : decode cX7_holds 31 = .ok (.iload 6, 2) := by decide +kernel
theorem dX7_holds_33 : decode cX7_holds 33 = .ok (.bipush (-33), 2) := by decide +kernel
theorem dX7_holds_35 : decode cX7_holds 35 = .ok (.if_icmp .ne 32, 3) := by decide +kernel
theorem dX7_holds_38 : decode cX7_holds 38 = .ok (.aload_n 0, 1) := by decide +kernel
theorem dX7_holds_39 : decode cX7_holds 39 = .ok (.getfield 86, 3) := by decide +kernel
theorem dX7_holds_42 : decode cX7_holds 42 = .ok (.iload 4, 2) := by decide +kernel
theorem dX7_holds_44 : decode cX7_holds 44 = .ok (.iconst 1, 1) := by decide +kernel
theorem dX7_holds_45 : decode cX7_holds 45 = .ok (.isub, 1) := by decide +kernel
theorem dX7_holds_46 : decode cX7_holds 46 = .ok (.aload_n 0, 1) := by decide +kernel
theorem dX7_holds_47 : decode cX7_holds 47 = .ok (.getfield 86, 3) := by decide +kernel
theorem dX7_holds_50 : decode cX7_holds 50 = .ok (.iload 4, 2) := by decide +kernel
theorem dX7_holds_52 : decode cX7_holds 52 = .ok (.iconst 1, 1) := by decide +kernel
theorem dX7_holds_53 : decode cX7_holds 53 = .ok (.isub, 1) := by decide +kernel
theorem dX7_holds_54 : decode cX7_holds 54 = .ok (.baload, 1) := by decide +kernel
theorem dX7_holds_55 : decode cX7_holds 55 = .ok (.ifCond .ne 7, 3) := by decide +kernel
theorem dX7_holds_58 : decode cX7_holds 58 = .ok (.iconst 1, 1) := by decide +kernel
theorem dX7_holds_59 : decode cX7_holds 59 = .ok (.goto 4, 3) := by decide +kernel
theorem dX7_holds_62 : decode cX7_holds 62 = .ok (.iconst 0, 1) := by decide +kernel
theorem dX7_holds_63 : decode cX7_holds 63 = .ok (.bastore, 1) := by decide +kernel
theorem dX7_holds_64 : decode cX7_holds 64 = .ok (.goto 183, 3) := by decide +kernel
theorem dX7_holds_67 : decode cX7_holds 67 = .ok (.iload 6, 2) := by decide +kernel
theorem dX7_holds_69 : decode cX7_holds 69 = .ok (.ifCond .ge 82, 3) := by decide +kernel
theorem dX7_holds_72 : decode cX7_holds 72 = .ok (.iinc 4 (-1), 3) := by decide +kernel
theorem dX7_holds_75 : decode cX7_holds 75 = .ok (.aload_n 0, 1) := by decide +kernel
theorem dX7_holds_76 : decode cX7_holds 76 = .ok (.getfield 86, 3) := by decide +kernel
theorem dX7_holds_79 : decode cX7_holds 79 = .ok (.iload 4, 2) := by decide +kernel
theorem dX7_holds_81 : decode cX7_holds 81 = .ok (.iconst 1, 1) := by decide +kernel
theorem dX7_holds_82 : decode cX7_holds 82 = .ok (.isub, 1) := by decide +kernel
theorem dX7_holds_83 : decode cX7_holds 83 = .ok (.iload 6, 2) := by decide +kernel
theorem dX7_holds_85 : decode cX7_holds 85 = .ok (.bipush (-38), 2) := by decide +kernel
theorem dX7_holds_87 : decode cX7_holds 87 = .ok (.if_icmp .ne 33, 3) := by decide +kernel
theorem dX7_holds_90 : decode cX7_holds 90 = .ok (.aload_n 0, 1) := by decide +kernel
theorem dX7_holds_91 : decode cX7_holds 91 = .ok (.getfield 86, 3) := by decide +kernel
theorem dX7_holds_94 : decode cX7_holds 94 = .ok (.iload 4, 2) := by decide +kernel
theorem dX7_holds_96 : decode cX7_holds 96 = .ok (.iconst 1, 1) := by decide +kernel
theorem dX7_holds_97 : decode cX7_holds 97 = .ok (.isub, 1) := by decide +kernel
theorem dX7_holds_98 : decode cX7_holds 98 = .ok (.baload, 1) := by decide +kernel
theorem dX7_holds_99 : decode cX7_holds 99 = .ok (.ifCond .eq 17, 3) := by decide +kernel
theorem dX7_holds_102 : decode cX7_holds 102 = .ok (.aload_n 0, 1) := by decide +kernel
theorem dX7_holds_103 : decode cX7_holds 103 = .ok (.getfield 86, 3) := by decide +kernel
theorem dX7_holds_106 : decode cX7_holds 106 = .ok (.iload 4, 2) := by decide +kernel
theorem dX7_holds_108 : decode cX7_holds 108 = .ok (.baload, 1) := by decide +kernel
theorem dX7_holds_109 : decode cX7_holds 109 = .ok (.ifCond .eq 7, 3) := by decide +kernel
theorem dX7_holds_112 : decode cX7_holds 112 = .ok (.iconst 1, 1) := by decide +kernel
theorem dX7_holds_113 : decode cX7_holds 113 = .ok (.goto 34, 3) := by decide +kernel
theorem dX7_holds_116 : decode cX7_holds 116 = .ok (.iconst 0, 1) := by decide +kernel
theorem dX7_holds_117 : decode cX7_holds 117 = .ok (.goto 30, 3) := by decide +kernel
theorem dX7_holds_120 : decode cX7_holds 120 = .ok (.aload_n 0, 1) := by decide +kernel
theorem dX7_holds_121 : decode cX7_holds 121 = .ok (.getfield 86, 3) := by decide +kernel
theorem dX7_holds_124 : decode cX7_holds 124 = .ok (.iload 4, 2) := by decide +kernel
theorem dX7_holds_126 : decode cX7_holds 126 = .ok (.iconst 1, 1) := by decide +kernel
theorem dX7_holds_127 : decode cX7_holds 127 = .ok (.isub, 1) := by decide +kernel
theorem dX7_holds_128 : decode cX7_holds 128 = .ok (.baload, 1) := by decide +kernel
theorem dX7_holds_129 : decode cX7_holds 129 = .ok (.ifCond .ne 13, 3) := by decide +kernel
theorem dX7_holds_132 : decode cX7_holds 132 = .ok (.aload_n 0, 1) := by decide +kernel
theorem dX7_holds_133 : decode cX7_holds 133 = .ok (.getfield 86, 3) := by decide +kernel
theorem dX7_holds_136 : decode cX7_holds 136 = .ok (.iload 4, 2) := by decide +kernel
theorem dX7_holds_138 : decode cX7_holds 138 = .ok (.baload, 1) := by decide +kernel
theorem dX7_holds_139 : decode cX7_holds 139 = .ok (.ifCond .eq 7, 3) := by decide +kernel
theorem dX7_holds_142 : decode cX7_holds 142 = .ok (.iconst 1, 1) := by decide +kernel
theorem dX7_holds_143 : decode cX7_holds 143 = .ok (.goto 4, 3) := by decide +kernel
theorem dX7_holds_146 : decode cX7_holds 146 = .ok (.iconst 0, 1) := by decide +kernel
theorem dX7_holds_147 : decode cX7_holds 147 = .ok (.bastore, 1) := by decide +kernel
theorem dX7_holds_148 : decode cX7_holds 148 = .ok (.goto 99, 3) := by decide +kernel
theorem dX7_holds_151 : decode cX7_holds 151 = .ok (.aload_n 0, 1) := by decide +kernel
theorem dX7_holds_152 : decode cX7_holds 152 = .ok (.iload 6, 2) := by decide +kernel
theorem dX7_holds_154 : decode cX7_holds 154 = .ok (.sipush 1000, 3) := by decide +kernel
theorem dX7_holds_157 : decode cX7_holds 157 = .ok (.idiv, 1) := by decide +kernel
theorem dX7_holds_158 : decode cX7_holds 158 = .ok (.iload_n 2, 1) := by decide +kernel
theorem dX7_holds_159 : decode cX7_holds 159 = .ok (.iload_n 3, 1) := by decide +kernel
theorem dX7_holds_160 : decode cX7_holds 160 = .ok (.invokevirtual 295, 3) := by decide +kernel
theorem dX7_holds_163 : decode cX7_holds 163 = .ok (.istore 7, 2) := by decide +kernel
theorem dX7_holds_165 : decode cX7_holds 165 = .ok (.iload 6, 2) := by decide +kernel
theorem dX7_holds_167 : decode cX7_holds 167 = .ok (.bipush 100, 2) := by decide +kernel
theorem dX7_holds_169 : decode cX7_holds 169 = .ok (.idiv, 1) := by decide +kernel
theorem dX7_holds_170 : decode cX7_holds 170 = .ok (.bipush 10, 2) := by decide +kernel
theorem dX7_holds_172 : decode cX7_holds 172 = .ok (.irem, 1) := by decide +kernel
theorem dX7_holds_173 : decode cX7_holds 173 = .ok (.istore 8, 2) := by decide +kernel
theorem dX7_holds_175 : decode cX7_holds 175 = .ok (.aload_n 0, 1) := by decide +kernel
theorem dX7_holds_176 : decode cX7_holds 176 = .ok (.getfield 86, 3) := by decide +kernel
theorem dX7_holds_179 : decode cX7_holds 179 = .ok (.iload 4, 2) := by decide +kernel
theorem dX7_holds_181 : decode cX7_holds 181 = .ok (.iload 8, 2) := by decide +kernel
theorem dX7_holds_183 : decode cX7_holds 183 = .ok (.ifCond .ne 21, 3) := by decide +kernel
theorem dX7_holds_186 : decode cX7_holds 186 = .ok (.iload 7, 2) := by decide +kernel
theorem dX7_holds_188 : decode cX7_holds 188 = .ok (.iload 6, 2) := by decide +kernel
theorem dX7_holds_190 : decode cX7_holds 190 = .ok (.bipush 100, 2) := by decide +kernel
theorem dX7_holds_192 : decode cX7_holds 192 = .ok (.irem, 1) := by decide +kernel
theorem dX7_holds_193 : decode cX7_holds 193 = .ok (.if_icmp .ge 7, 3) := by decide +kernel
theorem dX7_holds_196 : decode cX7_holds 196 = .ok (.iconst 1, 1) := by decide +kernel
theorem dX7_holds_197 : decode cX7_holds 197 = .ok (.goto 46, 3) := by decide +kernel
theorem dX7_holds_200 : decode cX7_holds 200 = .ok (.iconst 0, 1) := by decide +kernel
theorem dX7_holds_201 : decode cX7_holds 201 = .ok (.goto 42, 3) := by decide +kernel
theorem dX7_holds_204 : decode cX7_holds 204 = .ok (.iload 8, 2) := by decide +kernel
theorem dX7_holds_206 : decode cX7_holds 206 = .ok (.iconst 1, 1) := by decide +kernel
theorem dX7_holds_207 : decode cX7_holds 207 = .ok (.if_icmp .ne 21, 3) := by decide +kernel
theorem dX7_holds_210 : decode cX7_holds 210 = .ok (.iload 7, 2) := by decide +kernel
theorem dX7_holds_212 : decode cX7_holds 212 = .ok (.iload 6, 2) := by decide +kernel
theorem dX7_holds_214 : decode cX7_holds 214 = .ok (.bipush 100, 2) := by decide +kernel
theorem dX7_holds_216 : decode cX7_holds 216 = .ok (.irem, 1) := by decide +kernel
theorem dX7_holds_217 : decode cX7_holds 217 = .ok (.if_icmp .ne 7, 3) := by decide +kernel
theorem dX7_holds_220 : decode cX7_holds 220 = .ok (.iconst 1, 1) := by decide +kernel
theorem dX7_holds_221 : decode cX7_holds 221 = .ok (.goto 22, 3) := by decide +kernel
theorem dX7_holds_224 : decode cX7_holds 224 = .ok (.iconst 0, 1) := by decide +kernel
theorem dX7_holds_225 : decode cX7_holds 225 = .ok (.goto 18, 3) := by decide +kernel
theorem dX7_holds_228 : decode cX7_holds 228 = .ok (.iload 7, 2) := by decide +kernel
theorem dX7_holds_230 : decode cX7_holds 230 = .ok (.iload 6, 2) := by decide +kernel
theorem dX7_holds_232 : decode cX7_holds 232 = .ok (.bipush 100, 2) := by decide +kernel
theorem dX7_holds_234 : decode cX7_holds 234 = .ok (.irem, 1) := by decide +kernel
theorem dX7_holds_235 : decode cX7_holds 235 = .ok (.if_icmp .le 7, 3) := by decide +kernel
theorem dX7_holds_238 : decode cX7_holds 238 = .ok (.iconst 1, 1) := by decide +kernel
theorem dX7_holds_239 : decode cX7_holds 239 = .ok (.goto 4, 3) := by decide +kernel
theorem dX7_holds_242 : decode cX7_holds 242 = .ok (.iconst 0, 1) := by decide +kernel
theorem dX7_holds_243 : decode cX7_holds 243 = .ok (.bastore, 1) := by decide +kernel
theorem dX7_holds_244 : decode cX7_holds 244 = .ok (.iinc 4 1, 3) := by decide +kernel
theorem dX7_holds_247 : decode cX7_holds 247 = .ok (.iinc 5 1, 3) := by decide +kernel
theorem dX7_holds_250 : decode cX7_holds 250 = .ok (.goto (-239), 3) := by decide +kernel
theorem dX7_holds_253 : decode cX7_holds 253 = .ok (.aload_n 0, 1) := by decide +kernel
theorem dX7_holds_254 : decode cX7_holds 254 = .ok (.getfield 86, 3) := by decide +kernel
theorem dX7_holds_257 : decode cX7_holds 257 = .ok (.iconst 0, 1) := by decide +kernel
theorem dX7_holds_258 : decode cX7_holds 258 = .ok (.baload, 1) := by decide +kernel
theorem dX7_holds_259 : decode cX7_holds 259 = .ok (.ireturn, 1) := by decide +kernel
theorem dX7_grace_0 : decode cX7_grace 0 = .ok (.iconst 0, 1) := by decide +kernel
theorem dX7_grace_1 : decode cX7_grace 1 = .ok (.istore_n 3, 1) := by decide +kernel
theorem dX7_grace_2 : decode cX7_grace 2 = .ok (.aload_n 0, 1) := by decide +kernel
theorem dX7_grace_3 : decode cX7_grace 3 = .ok (.invokevirtual 282, 3) := by decide +kernel
theorem dX7_grace_6 : decode cX7_grace 6 = .ok (.istore 4, 2) := by decide +kernel
theorem dX7_grace_8 : decode cX7_grace 8 = .ok (.iload 4, 2) := by decide +kernel
theorem dX7_grace_10 : decode cX7_grace 10 = .ok (.aload_n 0, 1) := by decide +kernel
theorem dX7_grace_11 : decode cX7_grace 11 = .ok (.invokevirtual 285, 3) := by decide +kernel
theorem dX7_grace_14 : decode cX7_grace 14 = .ok (.if_icmp .ge 65, 3) := by decide +kernel
theorem dX7_grace_17 : decode cX7_grace 17 = .ok (.aload_n 0, 1) := by decide +kernel
theorem dX7_grace_18 : decode cX7_grace 18 = .ok (.getfield 56, 3) := by decide +kernel
theorem dX7_grace_21 : decode cX7_grace 21 = .ok (.iload 4, 2) := by decide +kernel
theorem dX7_grace_23 : decode cX7_grace 23 = .ok (.iaload, 1) := by decide +kernel
theorem dX7_grace_24 : decode cX7_grace 24 = .ok (.iconst 1, 1) := by decide +kernel
theorem dX7_grace_25 : decode cX7_grace 25 = .ok (.if_icmp .gt 48, 3) := by decide +kernel
theorem dX7_grace_28 : decode cX7_grace 28 = .ok (.aload_n 0, 1) := by decide +kernel
theorem dX7_grace_29 : decode cX7_grace 29 = .ok (.iload 4, 2) := by decide +kernel
theorem dX7_grace_31 : decode cX7_grace 31 = .ok (.iload_n 1, 1) := by decide +kernel
theorem dX7_grace_32 : decode cX7_grace 32 = .ok (.iload_n 2, 1) := by decide +kernel
theorem dX7_grace_33 : decode cX7_grace 33 = .ok (.invokevirtual 299, 3) := by decide +kernel
theorem dX7_grace_36 : decode cX7_grace 36 = .ok (.ifCond .ne 6, 3) := by decide +kernel
theorem dX7_grace_39 : decode cX7_grace 39 = .ok (.goto 34, 3) := by decide +kernel
theorem dX7_grace_42 : decode cX7_grace 42 = .ok (.iload_n 3, 1) := by decide +kernel
theorem dX7_grace_43 : decode cX7_grace 43 = .ok (.aload_n 0, 1) := by decide +kernel
theorem dX7_grace_44 : decode cX7_grace 44 = .ok (.getfield 56, 3) := by decide +kernel
theorem dX7_grace_47 : decode cX7_grace 47 = .ok (.iload 4, 2) := by decide +kernel
theorem dX7_grace_49 : decode cX7_grace 49 = .ok (.iaload, 1) := by decide +kernel
theorem dX7_grace_50 : decode cX7_grace 50 = .ok (.ifCond .ne 13, 3) := by decide +kernel
theorem dX7_grace_53 : decode cX7_grace 53 = .ok (.aload_n 0, 1) := by decide +kernel
theorem dX7_grace_54 : decode cX7_grace 54 = .ok (.getfield 59, 3) := by decide +kernel
theorem dX7_grace_57 : decode cX7_grace 57 = .ok (.iload 4, 2) := by decide +kernel
theorem dX7_grace_59 : decode cX7_grace 59 = .ok (.iaload, 1) := by decide +kernel
theorem dX7_grace_60 : decode cX7_grace 60 = .ok (.goto 11, 3) := by decide +kernel
theorem dX7_grace_63 : decode cX7_grace 63 = .ok (.aload_n 0, 1) := by decide +kernel
theorem dX7_grace_64 : decode cX7_grace 64 = .ok (.getfield 59, 3) := by decide +kernel
theorem dX7_grace_67 : decode cX7_grace 67 = .ok (.iload 4, 2) := by decide +kernel
theorem dX7_grace_69 : decode cX7_grace 69 = .ok (.iaload, 1) := by decide +kernel
theorem dX7_grace_70 : decode cX7_grace 70 = .ok (.ineg, 1) := by decide +kernel
theorem dX7_grace_71 : decode cX7_grace 71 = .ok (.iadd, 1) := by decide +kernel
theorem dX7_grace_72 : decode cX7_grace 72 = .ok (.istore_n 3, 1) := by decide +kernel
theorem dX7_grace_73 : decode cX7_grace 73 = .ok (.iinc 4 1, 3) := by decide +kernel
theorem dX7_grace_76 : decode cX7_grace 76 = .ok (.goto (-68), 3) := by decide +kernel
theorem dX7_grace_79 : decode cX7_grace 79 = .ok (.iload_n 3, 1) := by decide +kernel
theorem dX7_grace_80 : decode cX7_grace 80 = .ok (.ireturn, 1) := by decide +kernel
theorem dX7_worth_0 : decode cX7_worth 0 = .ok (.aload_n 0, 1) := by decide +kernel
theorem dX7_worth_1 : decode cX7_worth 1 = .ok (.getfield 29, 3) := by decide +kernel
theorem dX7_worth_4 : decode cX7_worth 4 = .ok (.iconst 3, 1) := by decide +kernel
theorem dX7_worth_5 : decode cX7_worth 5 = .ok (.iload_n 1, 1) := by decide +kernel
theorem dX7_worth_6 : decode cX7_worth 6 = .ok (.imul, 1) := by decide +kernel
theorem dX7_worth_7 : decode cX7_worth 7 = .ok (.iload_n 2, 1) := by decide +kernel
theorem dX7_worth_8 : decode cX7_worth 8 = .ok (.iadd, 1) := by decide +kernel
theorem dX7_worth_9 : decode cX7_worth 9 = .ok (.iaload, 1) := by decide +kernel
theorem dX7_worth_10 : decode cX7_worth 10 = .ok (.ifCond .ne 7, 3) := by decide +kernel
theorem dX7_worth_13 : decode cX7_worth 13 = .ok (.iconst 0, 1) := by decide +kernel
theorem dX7_worth_14 : decode cX7_worth 14 = .ok (.goto 24, 3) := by decide +kernel
theorem dX7_worth_17 : decode cX7_worth 17 = .ok (.aload_n 0, 1) := by decide +kernel
theorem dX7_worth_18 : decode cX7_worth 18 = .ok (.aload_n 0, 1) := by decide +kernel
theorem dX7_worth_19 : decode cX7_worth 19 = .ok (.getfield 29, 3) := by decide +kernel
theorem dX7_worth_22 : decode cX7_worth 22 = .ok (.iconst 3, 1) := by decide +kernel
theorem dX7_worth_23 : decode cX7_worth 23 = .ok (.iload_n 1, 1) := by decide +kernel
theorem dX7_worth_24 : decode cX7_worth 24 = .ok (.imul, 1) := by decide +kernel
theorem dX7_worth_25 : decode cX7_worth 25 = .ok (.iload_n 2, 1) := by decide +kernel
theorem dX7_worth_26 : decode cX7_worth 26 = .ok (.iadd, 1) := by decide +kernel
theorem dX7_worth_27 : decode cX7_worth 27 = .ok (.iaload, 1) := by decide +kernel
theorem dX7_worth_28 : decode cX7_worth 28 = .ok (.aload_n 0, 1) := by decide +kernel
theorem dX7_worth_29 : decode cX7_worth 29 = .ok (.iload_n 1, 1) := by decide +kernel
theorem dX7_worth_30 : decode cX7_worth 30 = .ok (.iload_n 2, 1) := by decide +kernel
theorem dX7_worth_31 : decode cX7_worth 31 = .ok (.invokevirtual 302, 3) := by decide +kernel
theorem dX7_worth_34 : decode cX7_worth 34 = .ok (.iadd, 1) := by decide +kernel
theorem dX7_worth_35 : decode cX7_worth 35 = .ok (.invokevirtual 305, 3) := by decide +kernel
theorem dX7_worth_38 : decode cX7_worth 38 = .ok (.ireturn, 1) := by decide +kernel
theorem dX7_fortune_0 : decode cX7_fortune 0 = .ok (.aload_n 0, 1) := by decide +kernel
theorem dX7_fortune_1 : decode cX7_fortune 1 = .ok (.getfield 19, 3) := by decide +kernel
theorem dX7_fortune_4 : decode cX7_fortune 4 = .ok (.iload_n 1, 1) := by decide +kernel
theorem dX7_fortune_5 : decode cX7_fortune 5 = .ok (.iaload, 1) := by decide +kernel
theorem dX7_fortune_6 : decode cX7_fortune 6 = .ok (.iconst 4, 1) := by decide +kernel
theorem dX7_fortune_7 : decode cX7_fortune 7 = .ok (.if_icmp .ne 5, 3) := by decide +kernel
theorem dX7_fortune_10 : decode cX7_fortune 10 = .ok (.iconst 0, 1) := by decide +kernel
theorem dX7_fortune_11 : decode cX7_fortune 11 = .ok (.ireturn, 1) := by decide +kernel
theorem dX7_fortune_12 : decode cX7_fortune 12 = .ok (.aload_n 0, 1) := by decide +kernel
theorem dX7_fortune_13 : decode cX7_fortune 13 = .ok (.iload_n 1, 1) := by decide +kernel
theorem dX7_fortune_14 : decode cX7_fortune 14 = .ok (.iconst 0, 1) := by decide +kernel
theorem dX7_fortune_15 : decode cX7_fortune 15 = .ok (.invokevirtual 308, 3) := by decide +kernel
theorem dX7_fortune_18 : decode cX7_fortune 18 = .ok (.aload_n 0, 1) := by decide +kernel
theorem dX7_fortune_19 : decode cX7_fortune 19 = .ok (.iload_n 1, 1) := by decide +kernel
theorem dX7_fortune_20 : decode cX7_fortune 20 = .ok (.iconst 1, 1) := by decide +kernel
theorem dX7_fortune_21 : decode cX7_fortune 21 = .ok (.invokevirtual 308, 3) := by decide +kernel
theorem dX7_fortune_24 : decode cX7_fortune 24 = .ok (.iadd, 1) := by decide +kernel
theorem dX7_fortune_25 : decode cX7_fortune 25 = .ok (.aload_n 0, 1) := by decide +kernel
theorem dX7_fortune_26 : decode cX7_fortune 26 = .ok (.iload_n 1, 1) := by decide +kernel
theorem dX7_fortune_27 : decode cX7_fortune 27 = .ok (.iconst 2, 1) := by decide +kernel
theorem dX7_fortune_28 : decode cX7_fortune 28 = .ok (.invokevirtual 308, 3) := by decide +kernel
theorem dX7_fortune_31 : decode cX7_fortune 31 = .ok (.iadd, 1) := by decide +kernel
theorem dX7_fortune_32 : decode cX7_fortune 32 = .ok (.istore_n 2, 1) := by decide +kernel
theorem dX7_fortune_33 : decode cX7_fortune 33 = .ok (.aload_n 0, 1) := by decide +kernel
theorem dX7_fortune_34 : decode cX7_fortune 34 = .ok (.getfield 19, 3) := by decide +kernel
theorem dX7_fortune_37 : decode cX7_fortune 37 = .ok (.iload_n 1, 1) := by decide +kernel
theorem dX7_fortune_38 : decode cX7_fortune 38 = .ok (.iaload, 1) := by decide +kernel
theorem dX7_fortune_39 : decode cX7_fortune 39 = .ok (.iconst 1, 1) := by decide +kernel
theorem dX7_fortune_40 : decode cX7_fortune 40 = .ok (.if_icmp .ne 14, 3) := by decide +kernel
theorem dX7_fortune_43 : decode cX7_fortune 43 = .ok (.iload_n 2, 1) := by decide +kernel
theorem dX7_fortune_44 : decode cX7_fortune 44 = .ok (.aload_n 0, 1) := by decide +kernel
theorem dX7_fortune_45 : decode cX7_fortune 45 = .ok (.getfield 23, 3) := by decide +kernel
theorem dX7_fortune_48 : decode cX7_fortune 48 = .ok (.iload_n 1, 1) := by decide +kernel
theorem dX7_fortune_49 : decode cX7_fortune 49 = .ok (.iaload, 1) := by decide +kernel
theorem dX7_fortune_50 : decode cX7_fortune 50 = .ok (.iadd, 1) := by decide +kernel
theorem dX7_fortune_51 : decode cX7_fortune 51 = .ok (.goto 4, 3) := by decide +kernel
theorem dX7_fortune_54 : decode cX7_fortune 54 = .ok (.iload_n 2, 1) := by decide +kernel
theorem dX7_fortune_55 : decode cX7_fortune 55 = .ok (.ireturn, 1) := by decide +kernel
theorem dX7_allFortunes_0 : decode cX7_allFortunes 0 = .ok (.iconst 0, 1) := by decide +kernel
theorem dX7_allFortunes_1 : decode cX7_allFortunes 1 = .ok (.istore_n 1, 1) := by decide +kernel
theorem dX7_allFortunes_2 : decode cX7_allFortunes 2 = .ok (.iconst 0, 1) := by decide +kernel
theorem dX7_allFortunes_3 : decode cX7_allFortunes 3 = .ok (.istore_n 2, 1) := by decide +kernel
theorem dX7_allFortunes_4 : decode cX7_allFortunes 4 = .ok (.iload_n 2, 1) := by decide +kernel
theorem dX7_allFortunes_5 : decode cX7_allFortunes 5 = .ok (.aload_n 0, 1) := by decide +kernel
theorem dX7_allFortunes_6 : decode cX7_allFortunes 6 = .ok (.getfield 7, 3) := by decide +kernel
theorem dX7_allFortunes_9 : decode cX7_allFortunes 9 = .ok (.if_icmp .ge 17, 3) := by decide +kernel
theorem dX7_allFortunes_12 : decode cX7_allFortunes 12 = .ok (.iload_n 1, 1) := by decide +kernel
theorem dX7_allFortunes_13 : decode cX7_allFortunes 13 = .ok (.aload_n 0, 1) := by decide +kernel
theorem dX7_allFortunes_14 : decode cX7_allFortunes 14 = .ok (.iload_n 2, 1) := by decide +kernel
theorem dX7_allFortunes_15 : decode cX7_allFortunes 15 = .ok (.invokevirtual 311, 3) := by decide +kernel
theorem dX7_allFortunes_18 : decode cX7_allFortunes 18 = .ok (.iadd, 1) := by decide +kernel
theorem dX7_allFortunes_19 : decode cX7_allFortunes 19 = .ok (.istore_n 1, 1) := by decide +kernel
theorem dX7_allFortunes_20 : decode cX7_allFortunes 20 = .ok (.iinc 2 1, 3) := by decide +kernel
theorem dX7_allFortunes_23 : decode cX7_allFortunes 23 = .ok (.goto (-19), 3) := by decide +kernel
theorem dX7_allFortunes_26 : decode cX7_allFortunes 26 = .ok (.iload_n 1, 1) := by decide +kernel
theorem dX7_allFortunes_27 : decode cX7_allFortunes 27 = .ok (.ireturn, 1) := by decide +kernel
theorem dX7_allLengths_0 : decode cX7_allLengths 0 = .ok (.iconst 0, 1) := by decide +kernel
theorem dX7_allLengths_1 : decode cX7_allLengths 1 = .ok (.istore_n 1, 1) := by decide +kernel
theorem dX7_allLengths_2 : decode cX7_allLengths 2 = .ok (.iconst 0, 1) := by decide +kernel
theorem dX7_allLengths_3 : decode cX7_allLengths 3 = .ok (.istore_n 2, 1) := by decide +kernel
theorem dX7_allLengths_4 : decode cX7_allLengths 4 = .ok (.iload_n 2, 1) := by decide +kernel
theorem dX7_allLengths_5 : decode cX7_allLengths 5 = .ok (.iconst 3, 1) := by decide +kernel
theorem dX7_allLengths_6 : decode cX7_allLengths 6 = .ok (.aload_n 0, 1) := by decide +kernel
theorem dX7_allLengths_7 : decode cX7_allLengths 7 = .ok (.getfield 7, 3) := by decide +kernel
theorem dX7_allLengths_10 : decode cX7_allLengths 10 = .ok (.imul, 1) := by decide +kernel
theorem dX7_allLengths_11 : decode cX7_allLengths 11 = .ok (.if_icmp .ge 18, 3) := by decide +kernel
theorem dX7_allLengths_14 : decode cX7_allLengths 14 = .ok (.iload_n 1, 1) := by decide +kernel
theorem dX7_allLengths_15 : decode cX7_allLengths 15 = .ok (.aload_n 0, 1) := by decide +kernel
theorem dX7_allLengths_16 : decode cX7_allLengths 16 = .ok (.getfield 29, 3) := by decide +kernel
theorem dX7_allLengths_19 : decode cX7_allLengths 19 = .ok (.iload_n 2, 1) := by decide +kernel
theorem dX7_allLengths_20 : decode cX7_allLengths 20 = .ok (.iaload, 1) := by decide +kernel
theorem dX7_allLengths_21 : decode cX7_allLengths 21 = .ok (.iadd, 1) := by decide +kernel
theorem dX7_allLengths_22 : decode cX7_allLengths 22 = .ok (.istore_n 1, 1) := by decide +kernel
theorem dX7_allLengths_23 : decode cX7_allLengths 23 = .ok (.iinc 2 1, 3) := by decide +kernel
theorem dX7_allLengths_26 : decode cX7_allLengths 26 = .ok (.goto (-22), 3) := by decide +kernel
theorem dX7_allLengths_29 : decode cX7_allLengths 29 = .ok (.iload_n 1, 1) := by decide +kernel
theorem dX7_allLengths_30 : decode cX7_allLengths 30 = .ok (.ireturn, 1) := by decide +kernel
theorem dX7_fades_0 : decode cX7_fades 0 = .ok (.aload_n 0, 1) := by decide +kernel
theorem dX7_fades_1 : decode cX7_fades 1 = .ok (.getfield 19, 3) := by decide +kernel
theorem dX7_fades_4 : decode cX7_fades 4 = .ok (.iload_n 1, 1) := by decide +kernel
theorem dX7_fades_5 : decode cX7_fades 5 = .ok (.iaload, 1) := by decide +kernel
theorem dX7_fades_6 : decode cX7_fades 6 = .ok (.tableswitch 90 1 6 #[38, 40, 49, 90, 56, 67], 38) := by decide +kernel
theorem dX7_fades_44 : decode cX7_fades 44 = .ok (.iconst 2, 1) := by decide +kernel
theorem dX7_fades_45 : decode cX7_fades 45 = .ok (.ireturn, 1) := by decide +kernel
theorem dX7_fades_46 : decode cX7_fades 46 = .ok (.aload_n 0, 1) := by decide +kernel
theorem dX7_fades_47 : decode cX7_fades 47 = .ok (.getfield 23, 3) := by decide +kernel
theorem dX7_fades_50 : decode cX7_fades 50 = .ok (.iload_n 1, 1) := by decide +kernel
theorem dX7_fades_51 : decode cX7_fades 51 = .ok (.iaload, 1) := by decide +kernel
theorem dX7_fades_52 : decode cX7_fades 52 = .ok (.iconst 2, 1) := by decide +kernel
theorem dX7_fades_53 : decode cX7_fades 53 = .ok (.irem, 1) := by decide +kernel
theorem dX7_fades_54 : decode cX7_fades 54 = .ok (.ireturn, 1) := by decide +kernel
theorem dX7_fades_55 : decode cX7_fades 55 = .ok (.aload_n 0, 1) := by decide +kernel
theorem dX7_fades_56 : decode cX7_fades 56 = .ok (.getfield 13, 3) := by decide +kernel
theorem dX7_fades_59 : decode cX7_fades 59 = .ok (.iconst 2, 1) := by decide +kernel
theorem dX7_fades_60 : decode cX7_fades 60 = .ok (.irem, 1) := by decide +kernel
theorem dX7_fades_61 : decode cX7_fades 61 = .ok (.ireturn, 1) := by decide +kernel
theorem dX7_fades_62 : decode cX7_fades 62 = .ok (.aload_n 0, 1) := by decide +kernel
theorem dX7_fades_63 : decode cX7_fades 63 = .ok (.getfield 23, 3) := by decide +kernel
theorem dX7_fades_66 : decode cX7_fades 66 = .ok (.iload_n 1, 1) := by decide +kernel
theorem dX7_fades_67 : decode cX7_fades 67 = .ok (.iaload, 1) := by decide +kernel
theorem dX7_fades_68 : decode cX7_fades 68 = .ok (.iconst 2, 1) := by decide +kernel
theorem dX7_fades_69 : decode cX7_fades 69 = .ok (.irem, 1) := by decide +kernel
theorem dX7_fades_70 : decode cX7_fades 70 = .ok (.iconst 1, 1) := by decide +kernel
theorem dX7_fades_71 : decode cX7_fades 71 = .ok (.iadd, 1) := by decide +kernel
theorem dX7_fades_72 : decode cX7_fades 72 = .ok (.ireturn, 1) := by decide +kernel
theorem dX7_fades_73 : decode cX7_fades 73 = .ok (.aload_n 0, 1) := by decide +kernel
theorem dX7_fades_74 : decode cX7_fades 74 = .ok (.getfield 13, 3) := by decide +kernel
theorem dX7_fades_77 : decode cX7_fades 77 = .ok (.iconst 2, 1) := by decide +kernel
theorem dX7_fades_78 : decode cX7_fades 78 = .ok (.irem, 1) := by decide +kernel
theorem dX7_fades_79 : decode cX7_fades 79 = .ok (.aload_n 0, 1) := by decide +kernel
theorem dX7_fades_80 : decode cX7_fades 80 = .ok (.getfield 32, 3) := by decide +kernel
theorem dX7_fades_83 : decode cX7_fades 83 = .ok (.iconst 4, 1) := by decide +kernel
theorem dX7_fades_84 : decode cX7_fades 84 = .ok (.iload_n 1, 1) := by decide +kernel
theorem dX7_fades_85 : decode cX7_fades 85 = .ok (.imul, 1) := by decide +kernel
theorem dX7_fades_86 : decode cX7_fades 86 = .ok (.aload_n 0, 1) := by decide +kernel
theorem dX7_fades_87 : decode cX7_fades 87 = .ok (.getfield 13, 3) := by decide +kernel
theorem dX7_fades_90 : decode cX7_fades 90 = .ok (.iconst 4, 1) := by decide +kernel
theorem dX7_fades_91 : decode cX7_fades 91 = .ok (.irem, 1) := by decide +kernel
theorem dX7_fades_92 : decode cX7_fades 92 = .ok (.iadd, 1) := by decide +kernel
theorem dX7_fades_93 : decode cX7_fades 93 = .ok (.iaload, 1) := by decide +kernel
theorem dX7_fades_94 : decode cX7_fades 94 = .ok (.iadd, 1) := by decide +kernel
theorem dX7_fades_95 : decode cX7_fades 95 = .ok (.ireturn, 1) := by decide +kernel
theorem dX7_fades_96 : decode cX7_fades 96 = .ok (.iconst 1, 1) := by decide +kernel
theorem dX7_fades_97 : decode cX7_fades 97 = .ok (.ireturn, 1) := by decide +kernel
theorem dX7_of_0 : decode cX7_of 0 = .ok (.aload_n 0, 1) := by decide +kernel
theorem dX7_of_1 : decode cX7_of 1 = .ok (.iload_n 1, 1) := by decide +kernel
theorem dX7_of_2 : decode cX7_of 2 = .ok (.invokevirtual 229, 3) := by decide +kernel
theorem dX7_of_5 : decode cX7_of 5 = .ok (.ifCond .ne 7, 3) := by decide +kernel
theorem dX7_of_8 : decode cX7_of 8 = .ok (.sipush (-1001), 3) := by decide +kernel
theorem dX7_of_11 : decode cX7_of 11 = .ok (.ireturn, 1) := by decide +kernel
theorem dX7_of_12 : decode cX7_of 12 = .ok (.aload_n 0, 1) := by decide +kernel
theorem dX7_of_13 : decode cX7_of 13 = .ok (.iload_n 2, 1) := by decide +kernel
theorem dX7_of_14 : decode cX7_of 14 = .ok (.bipush 10, 2) := by decide +kernel
theorem dX7_of_16 : decode cX7_of 16 = .ok (.bipush 12, 2) := by decide +kernel
theorem dX7_of_18 : decode cX7_of 18 = .ok (.invokevirtual 221, 3) := by decide +kernel
theorem dX7_of_21 : decode cX7_of 21 = .ok (.ifCond .eq 17, 3) := by decide +kernel
theorem dX7_of_24 : decode cX7_of 24 = .ok (.aload_n 0, 1) := by decide +kernel
theorem dX7_of_25 : decode cX7_of 25 = .ok (.getfield 29, 3) := by decide +kernel
theorem dX7_of_28 : decode cX7_of 28 = .ok (.iconst 3, 1) := by decide +kernel
theorem dX7_of_29 : decode cX7_of 29 = .ok (.iload_n 1, 1) := by decide +kernel
theorem dX7_of_30 : decode cX7_of 30 = .ok (.imul, 1) := by decide +kernel
theorem dX7_of_31 : decode cX7_of 31 = .ok (.iload_n 2, 1) := by decide +kernel
theorem dX7_of_32 : decode cX7_of 32 = .ok (.iadd, 1) := by decide +kernel
theorem dX7_of_33 : decode cX7_of 33 = .ok (.bipush 10, 2) := by decide +kernel
theorem dX7_of_35 : decode cX7_of 35 = .ok (.isub, 1) := by decide +kernel
theorem dX7_of_36 : decode cX7_of 36 = .ok (.iaload, 1) := by decide +kernel
theorem dX7_of_37 : decode cX7_of 37 = .ok (.ireturn, 1) := by decide +kernel
theorem dX7_of_38 : decode cX7_of 38 = .ok (.aload_n 0, 1) := by decide +kernel
theorem dX7_of_39 : decode cX7_of 39 = .ok (.iload_n 2, 1) := by decide +kernel
theorem dX7_of_40 : decode cX7_of 40 = .ok (.bipush 20, 2) := by decide +kernel
theorem dX7_of_42 : decode cX7_of 42 = .ok (.bipush 22, 2) := by decide +kernel
theorem dX7_of_44 : decode cX7_of 44 = .ok (.invokevirtual 221, 3) := by decide +kernel
theorem dX7_of_47 : decode cX7_of 47 = .ok (.ifCond .eq 13, 3) := by decide +kernel
theorem dX7_of_50 : decode cX7_of 50 = .ok (.aload_n 0, 1) := by decide +kernel
theorem dX7_of_51 : decode cX7_of 51 = .ok (.iload_n 1, 1) := by decide +kernel
theorem dX7_of_52 : decode cX7_of 52 = .ok (.iload_n 2, 1) := by decide +kernel
theorem dX7_of_53 : decode cX7_of 53 = .ok (.bipush 20, 2) := by decide +kernel
theorem dX7_of_55 : decode cX7_of 55 = .ok (.isub, 1) := by decide +kernel
theorem dX7_of_56 : decode cX7_of 56 = .ok (.invokevirtual 302, 3) := by decide +kernel
theorem dX7_of_59 : decode cX7_of 59 = .ok (.ireturn, 1) := by decide +kernel
theorem dX7_of_60 : decode cX7_of 60 = .ok (.aload_n 0, 1) := by decide +kernel
theorem dX7_of_61 : decode cX7_of 61 = .ok (.iload_n 2, 1) := by decide +kernel
theorem dX7_of_62 : decode cX7_of 62 = .ok (.bipush 30, 2) := by decide +kernel
theorem dX7_of_64 : decode cX7_of 64 = .ok (.bipush 32, 2) := by decide +kernel
theorem dX7_of_66 : decode cX7_of 66 = .ok (.invokevirtual 221, 3) := by decide +kernel
theorem dX7_of_69 : decode cX7_of 69 = .ok (.ifCond .eq 13, 3) := by decide +kernel
theorem dX7_of_72 : decode cX7_of 72 = .ok (.aload_n 0, 1) := by decide +kernel
theorem dX7_of_73 : decode cX7_of 73 = .ok (.iload_n 1, 1) := by decide +kernel
theorem dX7_of_74 : decode cX7_of 74 = .ok (.iload_n 2, 1) := by decide +kernel
theorem dX7_of_75 : decode cX7_of 75 = .ok (.bipush 30, 2) := by decide +kernel
theorem dX7_of_77 : decode cX7_of 77 = .ok (.isub, 1) := by decide +kernel
theorem dX7_of_78 : decode cX7_of 78 = .ok (.invokevirtual 308, 3) := by decide +kernel
theorem dX7_of_81 : decode cX7_of 81 = .ok (.ireturn, 1) := by decide +kernel
theorem dX7_of_82 : decode cX7_of 82 = .ok (.iload_n 2, 1) := by decide +kernel
theorem dX7_of_83 : decode cX7_of 83 = .ok (.tableswitch 66 0 4 #[33, 40, 47, 54, 60], 33) := by decide +kernel
theorem dX7_of_116 : decode cX7_of 116 = .ok (.aload_n 0, 1) := by decide +kernel
theorem dX7_of_117 : decode cX7_of 117 = .ok (.getfield 19, 3) := by decide +kernel
theorem dX7_of_120 : decode cX7_of 120 = .ok (.iload_n 1, 1) := by decide +kernel
theorem dX7_of_121 : decode cX7_of 121 = .ok (.iaload, 1) := by decide +kernel
theorem dX7_of_122 : decode cX7_of 122 = .ok (.ireturn, 1) := by decide +kernel
theorem dX7_of_123 : decode cX7_of 123 = .ok (.aload_n 0, 1) := by decide +kernel
theorem dX7_of_124 : decode cX7_of 124 = .ok (.getfield 23, 3) := by decide +kernel
theorem dX7_of_127 : decode cX7_of 127 = .ok (.iload_n 1, 1) := by decide +kernel
theorem dX7_of_128 : decode cX7_of 128 = .ok (.iaload, 1) := by decide +kernel
theorem dX7_of_129 : decode cX7_of 129 = .ok (.ireturn, 1) := by decide +kernel
theorem dX7_of_130 : decode cX7_of 130 = .ok (.aload_n 0, 1) := by decide +kernel
theorem dX7_of_131 : decode cX7_of 131 = .ok (.getfield 26, 3) := by decide +kernel
theorem dX7_of_134 : decode cX7_of 134 = .ok (.iload_n 1, 1) := by decide +kernel
theorem dX7_of_135 : decode cX7_of 135 = .ok (.iaload, 1) := by decide +kernel
theorem dX7_of_136 : decode cX7_of 136 = .ok (.ireturn, 1) := by decide +kernel
theorem dX7_of_137 : decode cX7_of 137 = .ok (.aload_n 0, 1) := by decide +kernel
theorem dX7_of_138 : decode cX7_of 138 = .ok (.iload_n 1, 1) := by decide +kernel
theorem dX7_of_139 : decode cX7_of 139 = .ok (.invokevirtual 311, 3) := by decide +kernel
theorem dX7_of_142 : decode cX7_of 142 = .ok (.ireturn, 1) := by decide +kernel
theorem dX7_of_143 : decode cX7_of 143 = .ok (.aload_n 0, 1) := by decide +kernel
theorem dX7_of_144 : decode cX7_of 144 = .ok (.iload_n 1, 1) := by decide +kernel
theorem dX7_of_145 : decode cX7_of 145 = .ok (.invokevirtual 314, 3) := by decide +kernel
theorem dX7_of_148 : decode cX7_of 148 = .ok (.ireturn, 1) := by decide +kernel
theorem dX7_of_149 : decode cX7_of 149 = .ok (.sipush (-1001), 3) := by decide +kernel
theorem dX7_of_152 : decode cX7_of 152 = .ok (.ireturn, 1) := by decide +kernel
theorem dX7_told_0 : decode cX7_told 0 = .ok (.iload_n 1, 1) := by decide +kernel
theorem dX7_told_1 : decode cX7_told 1 = .ok (.tableswitch 69 0 5 #[39, 44, 49, 54, 59, 64], 39) := by decide +kernel
theorem dX7_told_40 : decode cX7_told 40 = .ok (.aload_n 0, 1) := by decide +kernel
theorem dX7_told_41 : decode cX7_told 41 = .ok (.getfield 13, 3) := by decide +kernel
theorem dX7_told_44 : decode cX7_told 44 = .ok (.ireturn, 1) := by decide +kernel
theorem dX7_told_45 : decode cX7_told 45 = .ok (.aload_n 0, 1) := by decide +kernel
theorem dX7_told_46 : decode cX7_told 46 = .ok (.invokevirtual 317, 3) := by decide +kernel
theorem dX7_told_49 : decode cX7_told 49 = .ok (.ireturn, 1) := by decide +kernel
theorem dX7_told_50 : decode cX7_told 50 = .ok (.aload_n 0, 1) := by decide +kernel
theorem dX7_told_51 : decode cX7_told 51 = .ok (.invokevirtual 320, 3) := by decide +kernel
theorem dX7_told_54 : decode cX7_told 54 = .ok (.ireturn, 1) := by decide +kernel
theorem dX7_told_55 : decode cX7_told 55 = .ok (.aload_n 0, 1) := by decide +kernel
theorem dX7_told_56 : decode cX7_told 56 = .ok (.getfield 16, 3) := by decide +kernel
theorem dX7_told_59 : decode cX7_told 59 = .ok (.ireturn, 1) := by decide +kernel
theorem dX7_told_60 : decode cX7_told 60 = .ok (.aload_n 0, 1) := by decide +kernel
theorem dX7_told_61 : decode cX7_told 61 = .ok (.invokevirtual 323, 3) := by decide +kernel
theorem dX7_told_64 : decode cX7_told 64 = .ok (.ireturn, 1) := by decide +kernel
theorem dX7_told_65 : decode cX7_told 65 = .ok (.aload_n 0, 1) := by decide +kernel
theorem dX7_told_66 : decode cX7_told 66 = .ok (.invokevirtual 326, 3) := by decide +kernel
theorem dX7_told_69 : decode cX7_told 69 = .ok (.ireturn, 1) := by decide +kernel
theorem dX7_told_70 : decode cX7_told 70 = .ok (.iconst (-1), 1) := by decide +kernel
theorem dX7_told_71 : decode cX7_told 71 = .ok (.ireturn, 1) := by decide +kernel
theorem dX7_draws_0 : decode cX7_draws 0 = .ok (.aload_n 0, 1) := by decide +kernel
theorem dX7_draws_1 : decode cX7_draws 1 = .ok (.aload_n 0, 1) := by decide +kernel
theorem dX7_draws_2 : decode cX7_draws 2 = .ok (.iload_n 3, 1) := by decide +kernel
theorem dX7_draws_3 : decode cX7_draws 3 = .ok (.aload_n 0, 1) := by decide +kernel
theorem dX7_draws_4 : decode cX7_draws 4 = .ok (.getfield 16, 3) := by decide +kernel
theorem dX7_draws_7 : decode cX7_draws 7 = .ok (.invokevirtual 292, 3) := by decide +kernel
theorem dX7_draws_10 : decode cX7_draws 10 = .ok (.aload_n 0, 1) := by decide +kernel
theorem dX7_draws_11 : decode cX7_draws 11 = .ok (.aload_n 0, 1) := by decide +kernel
theorem dX7_draws_12 : decode cX7_draws 12 = .ok (.invokevirtual 317, 3) := by decide +kernel
theorem dX7_draws_15 : decode cX7_draws 15 = .ok (.aload_n 0, 1) := by decide +kernel
theorem dX7_draws_16 : decode cX7_draws 16 = .ok (.getfield 29, 3) := by decide +kernel
theorem dX7_draws_19 : decode cX7_draws 19 = .ok (.iconst 3, 1) := by decide +kernel
theorem dX7_draws_20 : decode cX7_draws 20 = .ok (.iload_n 1, 1) := by decide +kernel
theorem dX7_draws_21 : decode cX7_draws 21 = .ok (.imul, 1) := by decide +kernel
theorem dX7_draws_22 : decode cX7_draws 22 = .ok (.iload_n 2, 1) := by decide +kernel
theorem dX7_draws_23 : decode cX7_draws 23 = .ok (.iadd, 1) := by decide +kernel
theorem dX7_draws_24 : decode cX7_draws 24 = .ok (.iaload, 1) := by decide +kernel
theorem dX7_draws_25 : decode cX7_draws 25 = .ok (.isub, 1) := by decide +kernel
theorem dX7_draws_26 : decode cX7_draws 26 = .ok (.invokevirtual 305, 3) := by decide +kernel
theorem dX7_draws_29 : decode cX7_draws 29 = .ok (.invokevirtual 292, 3) := by decide +kernel
theorem dX7_draws_32 : decode cX7_draws 32 = .ok (.istore 4, 2) := by decide +kernel
theorem dX7_draws_34 : decode cX7_draws 34 = .ok (.aload_n 0, 1) := by decide +kernel
theorem dX7_draws_35 : decode cX7_draws 35 = .ok (.getfield 29, 3) := by decide +kernel
theorem dX7_draws_38 : decode cX7_draws 38 = .ok (.iconst 3, 1) := by decide +kernel
theorem dX7_draws_39 : decode cX7_draws 39 = .ok (.iload_n 1, 1) := by decide +kernel
theorem dX7_draws_40 : decode cX7_draws 40 = .ok (.imul, 1) := by decide +kernel
theorem dX7_draws_41 : decode cX7_draws 41 = .ok (.iload_n 2, 1) := by decide +kernel
theorem dX7_draws_42 : decode cX7_draws 42 = .ok (.iadd, 1) := by decide +kernel
theorem dX7_draws_43 : decode cX7_draws 43 = .ok (.dup2, 1) := by decide +kernel
theorem dX7_draws_44 : decode cX7_draws 44 = .ok (.iaload, 1) := by decide +kernel
theorem dX7_draws_45 : decode cX7_draws 45 = .ok (.iload 4, 2) := by decide +kernel
theorem dX7_draws_47 : decode cX7_draws 47 = .ok (.iadd, 1) := by decide +kernel
theorem dX7_draws_48 : decode cX7_draws 48 = .ok (.iastore, 1) := by decide +kernel
theorem dX7_draws_49 : decode cX7_draws 49 = .ok (.aload_n 0, 1) := by decide +kernel
theorem dX7_draws_50 : decode cX7_draws 50 = .ok (.dup, 1) := by decide +kernel
theorem dX7_draws_51 : decode cX7_draws 51 = .ok (.getfield 16, 3) := by decide +kernel
theorem dX7_draws_54 : decode cX7_draws 54 = .ok (.iload 4, 2) := by decide +kernel
theorem dX7_draws_56 : decode cX7_draws 56 = .ok (.isub, 1) := by decide +kernel
theorem dX7_draws_57 : decode cX7_draws 57 = .ok (.putfield 16, 3) := by decide +kernel
theorem dX7_draws_60 : decode cX7_draws 60 = .ok (.iload 4, 2) := by decide +kernel
theorem dX7_draws_62 : decode cX7_draws 62 = .ok (.ireturn, 1) := by decide +kernel
theorem dX7_draw_0 : decode cX7_draw 0 = .ok (.aload_n 0, 1) := by decide +kernel
theorem dX7_draw_1 : decode cX7_draw 1 = .ok (.iload_n 1, 1) := by decide +kernel
theorem dX7_draw_2 : decode cX7_draw 2 = .ok (.invokevirtual 229, 3) := by decide +kernel
theorem dX7_draw_5 : decode cX7_draw 5 = .ok (.ifCond .eq 11, 3) := by decide +kernel
theorem dX7_draw_8 : decode cX7_draw 8 = .ok (.aload_n 0, 1) := by decide +kernel
theorem dX7_draw_9 : decode cX7_draw 9 = .ok (.iload_n 2, 1) := by decide +kernel
theorem dX7_draw_10 : decode cX7_draw 10 = .ok (.invokevirtual 232, 3) := by decide +kernel
theorem dX7_draw_13 : decode cX7_draw 13 = .ok (.ifCond .ne 5, 3) := by decide +kernel
theorem dX7_draw_16 : decode cX7_draw 16 = .ok (.iconst (-1), 1) := by decide +kernel
theorem dX7_draw_17 : decode cX7_draw 17 = .ok (.ireturn, 1) := by decide +kernel
theorem dX7_draw_18 : decode cX7_draw 18 = .ok (.aload_n 0, 1) := by decide +kernel
theorem dX7_draw_19 : decode cX7_draw 19 = .ok (.iload_n 3, 1) := by decide +kernel
theorem dX7_draw_20 : decode cX7_draw 20 = .ok (.invokevirtual 225, 3) := by decide +kernel
theorem dX7_draw_23 : decode cX7_draw 23 = .ok (.ifCond .eq 13, 3) := by decide +kernel
theorem dX7_draw_26 : decode cX7_draw 26 = .ok (.aload_n 0, 1) := by decide +kernel
theorem dX7_draw_27 : decode cX7_draw 27 = .ok (.iload_n 1, 1) := by decide +kernel
theorem dX7_draw_28 : decode cX7_draw 28 = .ok (.iload_n 2, 1) := by decide +kernel
theorem dX7_draw_29 : decode cX7_draw 29 = .ok (.iload_n 3, 1) := by decide +kernel
theorem dX7_draw_30 : decode cX7_draw 30 = .ok (.invokevirtual 329, 3) := by decide +kernel
theorem dX7_draw_33 : decode cX7_draw 33 = .ok (.goto 5, 3) := by decide +kernel
theorem dX7_draw_36 : decode cX7_draw 36 = .ok (.bipush (-2), 2) := by decide +kernel
theorem dX7_draw_38 : decode cX7_draw 38 = .ok (.ireturn, 1) := by decide +kernel
theorem dX7_isCovered_0 : decode cX7_isCovered 0 = .ok (.aload_n 0, 1) := by decide +kernel
theorem dX7_isCovered_1 : decode cX7_isCovered 1 = .ok (.getfield 19, 3) := by decide +kernel
theorem dX7_isCovered_4 : decode cX7_isCovered 4 = .ok (.iload_n 1, 1) := by decide +kernel
theorem dX7_isCovered_5 : decode cX7_isCovered 5 = .ok (.iaload, 1) := by decide +kernel
theorem dX7_isCovered_6 : decode cX7_isCovered 6 = .ok (.iconst 3, 1) := by decide +kernel
theorem dX7_isCovered_7 : decode cX7_isCovered 7 = .ok (.if_icmp .eq 14, 3) := by decide +kernel
theorem dX7_isCovered_10 : decode cX7_isCovered 10 = .ok (.aload_n 0, 1) := by decide +kernel
theorem dX7_isCovered_11 : decode cX7_isCovered 11 = .ok (.getfield 19, 3) := by decide +kernel
theorem dX7_isCovered_14 : decode cX7_isCovered 14 = .ok (.iload_n 1, 1) := by decide +kernel
theorem dX7_isCovered_15 : decode cX7_isCovered 15 = .ok (.iaload, 1) := by decide +kernel
theorem dX7_isCovered_16 : decode cX7_isCovered 16 = .ok (.bipush 6, 2) := by decide +kernel
theorem dX7_isCovered_18 : decode cX7_isCovered 18 = .ok (.if_icmp .ne 7, 3) := by decide +kernel
theorem dX7_isCovered_21 : decode cX7_isCovered 21 = .ok (.iconst 1, 1) := by decide +kernel
theorem dX7_isCovered_22 : decode cX7_isCovered 22 = .ok (.goto 4, 3) := by decide +kernel
theorem dX7_isCovered_25 : decode cX7_isCovered 25 = .ok (.iconst 0, 1) := by decide +kernel
theorem dX7_isCovered_26 : decode cX7_isCovered 26 = .ok (.ireturn, 1) := by decide +kernel
theorem dX7_prints_0 : decode cX7_prints 0 = .ok (.aload_n 0, 1) := by decide +kernel
theorem dX7_prints_1 : decode cX7_prints 1 = .ok (.getfield 26, 3) := by decide +kernel
theorem dX7_prints_4 : decode cX7_prints 4 = .ok (.iload_n 1, 1) := by decide +kernel
theorem dX7_prints_5 : decode cX7_prints 5 = .ok (.aload_n 0, 1) := by decide +kernel
theorem dX7_prints_6 : decode cX7_prints 6 = .ok (.aload_n 0, 1) := by decide +kernel
theorem dX7_prints_7 : decode cX7_prints 7 = .ok (.getfield 26, 3) := by decide +kernel
theorem dX7_prints_10 : decode cX7_prints 10 = .ok (.iload_n 1, 1) := by decide +kernel
theorem dX7_prints_11 : decode cX7_prints 11 = .ok (.iaload, 1) := by decide +kernel
theorem dX7_prints_12 : decode cX7_prints 12 = .ok (.iconst 1, 1) := by decide +kernel
theorem dX7_prints_13 : decode cX7_prints 13 = .ok (.iadd, 1) := by decide +kernel
theorem dX7_prints_14 : decode cX7_prints 14 = .ok (.sipush 9999, 3) := by decide +kernel
theorem dX7_prints_17 : decode cX7_prints 17 = .ok (.invokevirtual 292, 3) := by decide +kernel
theorem dX7_prints_20 : decode cX7_prints 20 = .ok (.iastore, 1) := by decide +kernel
theorem dX7_prints_21 : decode cX7_prints 21 = .ok (.aload_n 0, 1) := by decide +kernel
theorem dX7_prints_22 : decode cX7_prints 22 = .ok (.getfield 26, 3) := by decide +kernel
theorem dX7_prints_25 : decode cX7_prints 25 = .ok (.iload_n 2, 1) := by decide +kernel
theorem dX7_prints_26 : decode cX7_prints 26 = .ok (.aload_n 0, 1) := by decide +kernel
theorem dX7_prints_27 : decode cX7_prints 27 = .ok (.aload_n 0, 1) := by decide +kernel
theorem dX7_prints_28 : decode cX7_prints 28 = .ok (.getfield 26, 3) := by decide +kernel
theorem dX7_prints_31 : decode cX7_prints 31 = .ok (.iload_n 2, 1) := by decide +kernel
theorem dX7_prints_32 : decode cX7_prints 32 = .ok (.iaload, 1) := by decide +kernel
theorem dX7_prints_33 : decode cX7_prints 33 = .ok (.iconst 1, 1) := by decide +kernel
theorem dX7_prints_34 : decode cX7_prints 34 = .ok (.iadd, 1) := by decide +kernel
theorem dX7_prints_35 : decode cX7_prints 35 = .ok (.sipush 9999, 3) := by decide +kernel
theorem dX7_prints_38 : decode cX7_prints 38 = .ok (.invokevirtual 292, 3) := by decide +kernel
theorem dX7_prints_41 : decode cX7_prints 41 = .ok (.iastore, 1) := by decide +kernel
theorem dX7_prints_42 : decode cX7_prints 42 = .ok (.aload_n 0, 1) := by decide +kernel
theorem dX7_prints_43 : decode cX7_prints 43 = .ok (.iload_n 1, 1) := by decide +kernel
theorem dX7_prints_44 : decode cX7_prints 44 = .ok (.invokevirtual 332, 3) := by decide +kernel
theorem dX7_prints_47 : decode cX7_prints 47 = .ok (.ifCond .ne 11, 3) := by decide +kernel
theorem dX7_prints_50 : decode cX7_prints 50 = .ok (.aload_n 0, 1) := by decide +kernel
theorem dX7_prints_51 : decode cX7_prints 51 = .ok (.iload_n 2, 1) := by decide +kernel
theorem dX7_prints_52 : decode cX7_prints 52 = .ok (.invokevirtual 332, 3) := by decide +kernel
theorem dX7_prints_55 : decode cX7_prints 55 = .ok (.ifCond .eq 5, 3) := by decide +kernel
theorem dX7_prints_58 : decode cX7_prints 58 = .ok (.iconst 0, 1) := by decide +kernel
theorem dX7_prints_59 : decode cX7_prints 59 = .ok (.ireturn, 1) := by decide +kernel
theorem dX7_prints_60 : decode cX7_prints 60 = .ok (.iconst 0, 1) := by decide +kernel
theorem dX7_prints_61 : decode cX7_prints 61 = .ok (.istore_n 3, 1) := by decide +kernel
theorem dX7_prints_62 : decode cX7_prints 62 = .ok (.iconst 0, 1) := by decide +kernel
theorem dX7_prints_63 : decode cX7_prints 63 = .ok (.istore 4, 2) := by decide +kernel
theorem dX7_prints_65 : decode cX7_prints 65 = .ok (.iload 4, 2) := by decide +kernel
theorem dX7_prints_67 : decode cX7_prints 67 = .ok (.iconst 3, 1) := by decide +kernel
theorem dX7_prints_68 : decode cX7_prints 68 = .ok (.if_icmp .ge 99, 3) := by decide +kernel
theorem dX7_prints_71 : decode cX7_prints 71 = .ok (.aload_n 0, 1) := by decide +kernel
theorem dX7_prints_72 : decode cX7_prints 72 = .ok (.getfield 29, 3) := by decide +kernel
theorem dX7_prints_75 : decode cX7_prints 75 = .ok (.iconst 3, 1) := by decide +kernel
theorem dX7_prints_76 : decode cX7_prints 76 = .ok (.iload_n 1, 1) := by decide +kernel
theorem dX7_prints_77 : decode cX7_prints 77 = .ok (.imul, 1) := by decide +kernel
theorem dX7_prints_78 : decode cX7_prints 78 = .ok (.iload 4, 2) := by decide +kernel
theorem dX7_prints_80 : decode cX7_prints 80 = .ok (.iadd, 1) := by decide +kernel
theorem dX7_prints_81 : decode cX7_prints 81 = .ok (.iaload, 1) := by decide +kernel
theorem dX7_prints_82 : decode cX7_prints 82 = .ok (.aload_n 0, 1) := by decide +kernel
theorem dX7_prints_83 : decode cX7_prints 83 = .ok (.getfield 29, 3) := by decide +kernel
theorem dX7_prints_86 : decode cX7_prints 86 = .ok (.iconst 3, 1) := by decide +kernel
theorem dX7_prints_87 : decode cX7_prints 87 = .ok (.iload_n 2, 1) := by decide +kernel
theorem dX7_prints_88 : decode cX7_prints 88 = .ok (.imul, 1) := by decide +kernel
theorem dX7_prints_89 : decode cX7_prints 89 = .ok (.iload 4, 2) := by decide +kernel
theorem dX7_prints_91 : decode cX7_prints 91 = .ok (.iadd, 1) := by decide +kernel
theorem dX7_prints_92 : decode cX7_prints 92 = .ok (.iaload, 1) := by decide +kernel
theorem dX7_prints_93 : decode cX7_prints 93 = .ok (.isub, 1) := by decide +kernel
theorem dX7_prints_94 : decode cX7_prints 94 = .ok (.istore 5, 2) := by decide +kernel
theorem dX7_prints_96 : decode cX7_prints 96 = .ok (.iload 5, 2) := by decide +kernel
theorem dX7_prints_98 : decode cX7_prints 98 = .ok (.ifCond .ge 9, 3) := by decide +kernel
theorem dX7_prints_101 : decode cX7_prints 101 = .ok (.iload 5, 2) := by decide +kernel
theorem dX7_prints_103 : decode cX7_prints 103 = .ok (.ineg, 1) := by decide +kernel
theorem dX7_prints_104 : decode cX7_prints 104 = .ok (.goto 5, 3) := by decide +kernel
theorem dX7_prints_107 : decode cX7_prints 107 = .ok (.iload 5, 2) := by decide +kernel
theorem dX7_prints_109 : decode cX7_prints 109 = .ok (.aload_n 0, 1) := by decide +kernel
theorem dX7_prints_110 : decode cX7_prints 110 = .ok (.invokevirtual 320, 3) := by decide +kernel
theorem dX7_prints_113 : decode cX7_prints 113 = .ok (.idiv, 1) := by decide +kernel
theorem dX7_prints_114 : decode cX7_prints 114 = .ok (.istore 6, 2) := by decide +kernel
theorem dX7_prints_116 : decode cX7_prints 116 = .ok (.iload 5, 2) := by decide +kernel
theorem dX7_prints_118 : decode cX7_prints 118 = .ok (.ifCond .le 22, 3) := by decide +kernel
theorem dX7_prints_121 : decode cX7_prints 121 = .ok (.aload_n 0, 1) := by decide +kernel
theorem dX7_prints_122 : decode cX7_prints 122 = .ok (.getfield 29, 3) := by decide +kernel
theorem dX7_prints_125 : decode cX7_prints 125 = .ok (.iconst 3, 1) := by decide +kernel
theorem dX7_prints_126 : decode cX7_prints 126 = .ok (.iload_n 2, 1) := by decide +kernel
theorem dX7_prints_127 : decode cX7_prints 127 = .ok (.imul, 1) := by decide +kernel
theorem dX7_prints_128 : decode cX7_prints 128 = .ok (.iload 4, 2) := by decide +kernel
theorem dX7_prints_130 : decode cX7_prints 130 = .ok (.iadd, 1) := by decide +kernel
theorem dX7_prints_131 : decode cX7_prints 131 = .ok (.dup2, 1) := by decide +kernel
theorem dX7_prints_132 : decode cX7_prints 132 = .ok (.iaload, 1) := by decide +kernel
theorem dX7_prints_133 : decode cX7_prints 133 = .ok (.iload 6, 2) := by decide +kernel
theorem dX7_prints_135 : decode cX7_prints 135 = .ok (.iadd, 1) := by decide +kernel
theorem dX7_prints_136 : decode cX7_prints 136 = .ok (.iastore, 1) := by decide +kernel
theorem dX7_prints_137 : decode cX7_prints 137 = .ok (.goto 19, 3) := by decide +kernel
theorem dX7_prints_140 : decode cX7_prints 140 = .ok (.aload_n 0, 1) := by decide +kernel
theorem dX7_prints_141 : decode cX7_prints 141 = .ok (.getfield 29, 3) := by decide +kernel
theorem dX7_prints_144 : decode cX7_prints 144 = .ok (.iconst 3, 1) := by decide +kernel
theorem dX7_prints_145 : decode cX7_prints 145 = .ok (.iload_n 1, 1) := by decide +kernel
theorem dX7_prints_146 : decode cX7_prints 146 = .ok (.imul, 1) := by decide +kernel
theorem dX7_prints_147 : decode cX7_prints 147 = .ok (.iload 4, 2) := by decide +kernel
theorem dX7_prints_149 : decode cX7_prints 149 = .ok (.iadd, 1) := by decide +kernel
theorem dX7_prints_150 : decode cX7_prints 150 = .ok (.dup2, 1) := by decide +kernel
theorem dX7_prints_151 : decode cX7_prints 151 = .ok (.iaload, 1) := by decide +kernel
theorem dX7_prints_152 : decode cX7_prints 152 = .ok (.iload 6, 2) := by decide +kernel
theorem dX7_prints_154 : decode cX7_prints 154 = .ok (.iadd, 1) := by decide +kernel
theorem dX7_prints_155 : decode cX7_prints 155 = .ok (.iastore, 1) := by decide +kernel
theorem dX7_prints_156 : decode cX7_prints 156 = .ok (.iload_n 3, 1) := by decide +kernel
theorem dX7_prints_157 : decode cX7_prints 157 = .ok (.iload 6, 2) := by decide +kernel
theorem dX7_prints_159 : decode cX7_prints 159 = .ok (.iadd, 1) := by decide +kernel
theorem dX7_prints_160 : decode cX7_prints 160 = .ok (.istore_n 3, 1) := by decide +kernel
theorem dX7_prints_161 : decode cX7_prints 161 = .ok (.iinc 4 1, 3) := by decide +kernel
theorem dX7_prints_164 : decode cX7_prints 164 = .ok (.goto (-99), 3) := by decide +kernel
theorem dX7_prints_167 : decode cX7_prints 167 = .ok (.iload_n 3, 1) := by decide +kernel
theorem dX7_prints_168 : decode cX7_prints 168 = .ok (.ireturn, 1) := by decide +kernel
theorem dX7_shake_0 : decode cX7_shake 0 = .ok (.aload_n 0, 1) := by decide +kernel
theorem dX7_shake_1 : decode cX7_shake 1 = .ok (.iload_n 1, 1) := by decide +kernel
theorem dX7_shake_2 : decode cX7_shake 2 = .ok (.invokevirtual 229, 3) := by decide +kernel
theorem dX7_shake_5 : decode cX7_shake 5 = .ok (.ifCond .eq 11, 3) := by decide +kernel
theorem dX7_shake_8 : decode cX7_shake 8 = .ok (.aload_n 0, 1) := by decide +kernel
theorem dX7_shake_9 : decode cX7_shake 9 = .ok (.iload_n 2, 1) := by decide +kernel
theorem dX7_shake_10 : decode cX7_shake 10 = .ok (.invokevirtual 229, 3) := by decide +kernel
theorem dX7_shake_13 : decode cX7_shake 13 = .ok (.ifCond .ne 5, 3) := by decide +kernel
theorem dX7_shake_16 : decode cX7_shake 16 = .ok (.iconst (-1), 1) := by decide +kernel
theorem dX7_shake_17 : decode cX7_shake 17 = .ok (.ireturn, 1) := by decide +kernel
theorem dX7_shake_18 : decode cX7_shake 18 = .ok (.iload_n 1, 1) := by decide +kernel
theorem dX7_shake_19 : decode cX7_shake 19 = .ok (.iload_n 2, 1) := by decide +kernel
theorem dX7_shake_20 : decode cX7_shake 20 = .ok (.if_icmp .ne 8, 3) := by decide +kernel
theorem dX7_shake_23 : decode cX7_shake 23 = .ok (.bipush (-2), 2) := by decide +kernel
theorem dX7_shake_25 : decode cX7_shake 25 = .ok (.goto 9, 3) := by decide +kernel
theorem dX7_shake_28 : decode cX7_shake 28 = .ok (.aload_n 0, 1) := by decide +kernel
theorem dX7_shake_29 : decode cX7_shake 29 = .ok (.iload_n 1, 1) := by decide +kernel
theorem dX7_shake_30 : decode cX7_shake 30 = .ok (.iload_n 2, 1) := by decide +kernel
theorem dX7_shake_31 : decode cX7_shake 31 = .ok (.invokevirtual 335, 3) := by decide +kernel
theorem dX7_shake_34 : decode cX7_shake 34 = .ok (.ireturn, 1) := by decide +kernel
theorem dX7_goDay_0 : decode cX7_goDay 0 = .ok (.iconst 0, 1) := by decide +kernel
theorem dX7_goDay_1 : decode cX7_goDay 1 = .ok (.istore_n 1, 1) := by decide +kernel
theorem dX7_goDay_2 : decode cX7_goDay 2 = .ok (.iload_n 1, 1) := by decide +kernel
theorem dX7_goDay_3 : decode cX7_goDay 3 = .ok (.aload_n 0, 1) := by decide +kernel
theorem dX7_goDay_4 : decode cX7_goDay 4 = .ok (.getfield 7, 3) := by decide +kernel
theorem dX7_goDay_7 : decode cX7_goDay 7 = .ok (.if_icmp .ge 54, 3) := by decide +kernel
theorem dX7_goDay_10 : decode cX7_goDay 10 = .ok (.aload_n 0, 1) := by decide +kernel
theorem dX7_goDay_11 : decode cX7_goDay 11 = .ok (.iload_n 1, 1) := by decide +kernel
theorem dX7_goDay_12 : decode cX7_goDay 12 = .ok (.invokevirtual 314, 3) := by decide +kernel
theorem dX7_goDay_15 : decode cX7_goDay 15 = .ok (.istore_n 2, 1) := by decide +kernel
theorem dX7_goDay_16 : decode cX7_goDay 16 = .ok (.iconst 0, 1) := by decide +kernel
theorem dX7_goDay_17 : decode cX7_goDay 17 = .ok (.istore_n 3, 1) := by decide +kernel
theorem dX7_goDay_18 : decode cX7_goDay 18 = .ok (.iload_n 3, 1) := by decide +kernel
theorem dX7_goDay_19 : decode cX7_goDay 19 = .ok (.iconst 3, 1) := by decide +kernel
theorem dX7_goDay_20 : decode cX7_goDay 20 = .ok (.if_icmp .ge 35, 3) := by decide +kernel
theorem dX7_goDay_23 : decode cX7_goDay 23 = .ok (.aload_n 0, 1) := by decide +kernel
theorem dX7_goDay_24 : decode cX7_goDay 24 = .ok (.getfield 29, 3) := by decide +kernel
theorem dX7_goDay_27 : decode cX7_goDay 27 = .ok (.iconst 3, 1) := by decide +kernel
theorem dX7_goDay_28 : decode cX7_goDay 28 = .ok (.iload_n 1, 1) := by decide +kernel
theorem dX7_goDay_29 : decode cX7_goDay 29 = .ok (.imul, 1) := by decide +kernel
theorem dX7_goDay_30 : decode cX7_goDay 30 = .ok (.iload_n 3, 1) := by decide +kernel
theorem dX7_goDay_31 : decode cX7_goDay 31 = .ok (.iadd, 1) := by decide +kernel
theorem dX7_goDay_32 : decode cX7_goDay 32 = .ok (.aload_n 0, 1) := by decide +kernel
theorem dX7_goDay_33 : decode cX7_goDay 33 = .ok (.aload_n 0, 1) := by decide +kernel
theorem dX7_goDay_34 : decode cX7_goDay 34 = .ok (.getfield 29, 3) := by decide +kernel
theorem dX7_goDay_37 : decode cX7_goDay 37 = .ok (.iconst 3, 1) := by decide +kernel
theorem dX7_goDay_38 : decode cX7_goDay 38 = .ok (.iload_n 1, 1) := by decide +kernel
theorem dX7_goDay_39 : decode cX7_goDay 39 = .ok (.imul, 1) := by decide +kernel
theorem dX7_goDay_40 : decode cX7_goDay 40 = .ok (.iload_n 3, 1) := by decide +kernel
theorem dX7_goDay_41 : decode cX7_goDay 41 = .ok (.iadd, 1) := by decide +kernel
theorem dX7_goDay_42 : decode cX7_goDay 42 = .ok (.iaload, 1) := by decide +kernel
theorem dX7_goDay_43 : decode cX7_goDay 43 = .ok (.iload_n 2, 1) := by decide +kernel
theorem dX7_goDay_44 : decode cX7_goDay 44 = .ok (.isub, 1) := by decide +kernel
theorem dX7_goDay_45 : decode cX7_goDay 45 = .ok (.invokevirtual 305, 3) := by decide +kernel
theorem dX7_goDay_48 : decode cX7_goDay 48 = .ok (.iastore, 1) := by decide +kernel
theorem dX7_goDay_49 : decode cX7_goDay 49 = .ok (.iinc 3 1, 3) := by decide +kernel
theorem dX7_goDay_52 : decode cX7_goDay 52 = .ok (.goto (-34), 3) := by decide +kernel
theorem dX7_goDay_55 : decode cX7_goDay 55 = .ok (.iinc 1 1, 3) := by decide +kernel
theorem dX7_goDay_58 : decode cX7_goDay 58 = .ok (.goto (-56), 3) := by decide +kernel
theorem dX7_goDay_61 : decode cX7_goDay 61 = .ok (.aload_n 0, 1) := by decide +kernel
theorem dX7_goDay_62 : decode cX7_goDay 62 = .ok (.dup, 1) := by decide +kernel
theorem dX7_goDay_63 : decode cX7_goDay 63 = .ok (.getfield 13, 3) := by decide +kernel
theorem dX7_goDay_66 : decode cX7_goDay 66 = .ok (.iconst 1, 1) := by decide +kernel
theorem dX7_goDay_67 : decode cX7_goDay 67 = .ok (.iadd, 1) := by decide +kernel
theorem dX7_goDay_68 : decode cX7_goDay 68 = .ok (.putfield 13, 3) := by decide +kernel
theorem dX7_goDay_71 : decode cX7_goDay 71 = .ok (.return_, 1) := by decide +kernel
theorem dX7_goDays_0 : decode cX7_goDays 0 = .ok (.iconst 0, 1) := by decide +kernel
theorem dX7_goDays_1 : decode cX7_goDays 1 = .ok (.istore_n 2, 1) := by decide +kernel
theorem dX7_goDays_2 : decode cX7_goDays 2 = .ok (.iload_n 2, 1) := by decide +kernel
theorem dX7_goDays_3 : decode cX7_goDays 3 = .ok (.iload_n 1, 1) := by decide +kernel
theorem dX7_goDays_4 : decode cX7_goDays 4 = .ok (.if_icmp .ge 13, 3) := by decide +kernel
theorem dX7_goDays_7 : decode cX7_goDays 7 = .ok (.aload_n 0, 1) := by decide +kernel
theorem dX7_goDays_8 : decode cX7_goDays 8 = .ok (.invokevirtual 338, 3) := by decide +kernel
theorem dX7_goDays_11 : decode cX7_goDays 11 = .ok (.iinc 2 1, 3) := by decide +kernel
theorem dX7_goDays_14 : decode cX7_goDays 14 = .ok (.goto (-12), 3) := by decide +kernel
theorem dX7_goDays_17 : decode cX7_goDays 17 = .ok (.return_, 1) := by decide +kernel
theorem dX7_pass_0 : decode cX7_pass 0 = .ok (.aload_n 0, 1) := by decide +kernel
theorem dX7_pass_1 : decode cX7_pass 1 = .ok (.iload_n 1, 1) := by decide +kernel
theorem dX7_pass_2 : decode cX7_pass 2 = .ok (.iconst 0, 1) := by decide +kernel
theorem dX7_pass_3 : decode cX7_pass 3 = .ok (.bipush 60, 2) := by decide +kernel
theorem dX7_pass_5 : decode cX7_pass 5 = .ok (.invokevirtual 221, 3) := by decide +kernel
theorem dX7_pass_8 : decode cX7_pass 8 = .ok (.ifCond .ne 6, 3) := by decide +kernel
theorem dX7_pass_11 : decode cX7_pass 11 = .ok (.bipush (-2), 2) := by decide +kernel
theorem dX7_pass_13 : decode cX7_pass 13 = .ok (.ireturn, 1) := by decide +kernel
theorem dX7_pass_14 : decode cX7_pass 14 = .ok (.aload_n 0, 1) := by decide +kernel
theorem dX7_pass_15 : decode cX7_pass 15 = .ok (.getfield 13, 3) := by decide +kernel
theorem dX7_pass_18 : decode cX7_pass 18 = .ok (.iload_n 1, 1) := by decide +kernel
theorem dX7_pass_19 : decode cX7_pass 19 = .ok (.iadd, 1) := by decide +kernel
theorem dX7_pass_20 : decode cX7_pass 20 = .ok (.sipush 9999, 3) := by decide +kernel
theorem dX7_pass_23 : decode cX7_pass 23 = .ok (.if_icmp .le 6, 3) := by decide +kernel
theorem dX7_pass_26 : decode cX7_pass 26 = .ok (.bipush (-3), 2) := by decide +kernel
theorem dX7_pass_28 : decode cX7_pass 28 = .ok (.ireturn, 1) := by decide +kernel
theorem dX7_pass_29 : decode cX7_pass 29 = .ok (.aload_n 0, 1) := by decide +kernel
theorem dX7_pass_30 : decode cX7_pass 30 = .ok (.iload_n 1, 1) := by decide +kernel
theorem dX7_pass_31 : decode cX7_pass 31 = .ok (.invokevirtual 341, 3) := by decide +kernel
theorem dX7_pass_34 : decode cX7_pass 34 = .ok (.aload_n 0, 1) := by decide +kernel
theorem dX7_pass_35 : decode cX7_pass 35 = .ok (.getfield 13, 3) := by decide +kernel
theorem dX7_pass_38 : decode cX7_pass 38 = .ok (.ireturn, 1) := by decide +kernel
theorem dX7_save_0 : decode cX7_save 0 = .ok (.aload_n 0, 1) := by decide +kernel
theorem dX7_save_1 : decode cX7_save 1 = .ok (.aload_n 0, 1) := by decide +kernel
theorem dX7_save_2 : decode cX7_save 2 = .ok (.getfield 13, 3) := by decide +kernel
theorem dX7_save_5 : decode cX7_save 5 = .ok (.putfield 90, 3) := by decide +kernel
theorem dX7_save_8 : decode cX7_save 8 = .ok (.aload_n 0, 1) := by decide +kernel
theorem dX7_save_9 : decode cX7_save 9 = .ok (.aload_n 0, 1) := by decide +kernel
theorem dX7_save_10 : decode cX7_save 10 = .ok (.getfield 16, 3) := by decide +kernel
theorem dX7_save_13 : decode cX7_save 13 = .ok (.putfield 93, 3) := by decide +kernel
theorem dX7_save_16 : decode cX7_save 16 = .ok (.iconst 0, 1) := by decide +kernel
theorem dX7_save_17 : decode cX7_save 17 = .ok (.istore_n 1, 1) := by decide +kernel
theorem dX7_save_18 : decode cX7_save 18 = .ok (.iload_n 1, 1) := by decide +kernel
theorem dX7_save_19 : decode cX7_save 19 = .ok (.iconst 5, 1) := by decide +kernel
theorem dX7_save_20 : decode cX7_save 20 = .ok (.if_icmp .ge 21, 3) := by decide +kernel
theorem dX7_save_23 : decode cX7_save 23 = .ok (.aload_n 0, 1) := by decide +kernel
theorem dX7_save_24 : decode cX7_save 24 = .ok (.getfield 96, 3) := by decide +kernel
theorem dX7_save_27 : decode cX7_save 27 = .ok (.iload_n 1, 1) := by decide +kernel
theorem dX7_save_28 : decode cX7_save 28 = .ok (.aload_n 0, 1) := by decide +kernel
theorem dX7_save_29 : decode cX7_save 29 = .ok (.getfield 26, 3) := by decide +kernel
theorem dX7_save_32 : decode cX7_save 32 = .ok (.iload_n 1, 1) := by decide +kernel
theorem dX7_save_33 : decode cX7_save 33 = .ok (.iaload, 1) := by decide +kernel
theorem dX7_save_34 : decode cX7_save 34 = .ok (.iastore, 1) := by decide +kernel
theorem dX7_save_35 : decode cX7_save 35 = .ok (.iinc 1 1, 3) := by decide +kernel
theorem dX7_save_38 : decode cX7_save 38 = .ok (.goto (-20), 3) := by decide +kernel
theorem dX7_save_41 : decode cX7_save 41 = .ok (.iconst 0, 1) := by decide +kernel
theorem dX7_save_42 : decode cX7_save 42 = .ok (.istore_n 1, 1) := by decide +kernel
theorem dX7_save_43 : decode cX7_save 43 = .ok (.iload_n 1, 1) := by decide +kernel
theorem dX7_save_44 : decode cX7_save 44 = .ok (.bipush 15, 2) := by decide +kernel
theorem dX7_save_46 : decode cX7_save 46 = .ok (.if_icmp .ge 21, 3) := by decide +kernel
theorem dX7_save_49 : decode cX7_save 49 = .ok (.aload_n 0, 1) := by decide +kernel
theorem dX7_save_50 : decode cX7_save 50 = .ok (.getfield 99, 3) := by decide +kernel
theorem dX7_save_53 : decode cX7_save 53 = .ok (.iload_n 1, 1) := by decide +kernel
theorem dX7_save_54 : decode cX7_save 54 = .ok (.aload_n 0, 1) := by decide +kernel
theorem dX7_save_55 : decode cX7_save 55 = .ok (.getfield 29, 3) := by decide +kernel
theorem dX7_save_58 : decode cX7_save 58 = .ok (.iload_n 1, 1) := by decide +kernel
theorem dX7_save_59 : decode cX7_save 59 = .ok (.iaload, 1) := by decide +kernel
theorem dX7_save_60 : decode cX7_save 60 = .ok (.iastore, 1) := by decide +kernel
theorem dX7_save_61 : decode cX7_save 61 = .ok (.iinc 1 1, 3) := by decide +kernel
theorem dX7_save_64 : decode cX7_save 64 = .ok (.goto (-21), 3) := by decide +kernel
theorem dX7_save_67 : decode cX7_save 67 = .ok (.return_, 1) := by decide +kernel
theorem dX7_putBack_0 : decode cX7_putBack 0 = .ok (.aload_n 0, 1) := by decide +kernel
theorem dX7_putBack_1 : decode cX7_putBack 1 = .ok (.aload_n 0, 1) := by decide +kernel
theorem dX7_putBack_2 : decode cX7_putBack 2 = .ok (.getfield 90, 3) := by decide +kernel
theorem dX7_putBack_5 : decode cX7_putBack 5 = .ok (.putfield 13, 3) := by decide +kernel
theorem dX7_putBack_8 : decode cX7_putBack 8 = .ok (.aload_n 0, 1) := by decide +kernel
theorem dX7_putBack_9 : decode cX7_putBack 9 = .ok (.aload_n 0, 1) := by decide +kernel
theorem dX7_putBack_10 : decode cX7_putBack 10 = .ok (.getfield 93, 3) := by decide +kernel
theorem dX7_putBack_13 : decode cX7_putBack 13 = .ok (.putfield 16, 3) := by decide +kernel
theorem dX7_putBack_16 : decode cX7_putBack 16 = .ok (.iconst 0, 1) := by decide +kernel
theorem dX7_putBack_17 : decode cX7_putBack 17 = .ok (.istore_n 1, 1) := by decide +kernel
theorem dX7_putBack_18 : decode cX7_putBack 18 = .ok (.iload_n 1, 1) := by decide +kernel
theorem dX7_putBack_19 : decode cX7_putBack 19 = .ok (.iconst 5, 1) := by decide +kernel
theorem dX7_putBack_20 : decode cX7_putBack 20 = .ok (.if_icmp .ge 21, 3) := by decide +kernel
theorem dX7_putBack_23 : decode cX7_putBack 23 = .ok (.aload_n 0, 1) := by decide +kernel
theorem dX7_putBack_24 : decode cX7_putBack 24 = .ok (.getfield 26, 3) := by decide +kernel
theorem dX7_putBack_27 : decode cX7_putBack 27 = .ok (.iload_n 1, 1) := by decide +kernel
theorem dX7_putBack_28 : decode cX7_putBack 28 = .ok (.aload_n 0, 1) := by decide +kernel
theorem dX7_putBack_29 : decode cX7_putBack 29 = .ok (.getfield 96, 3) := by decide +kernel
theorem dX7_putBack_32 : decode cX7_putBack 32 = .ok (.iload_n 1, 1) := by decide +kernel
theorem dX7_putBack_33 : decode cX7_putBack 33 = .ok (.iaload, 1) := by decide +kernel
theorem dX7_putBack_34 : decode cX7_putBack 34 = .ok (.iastore, 1) := by decide +kernel
theorem dX7_putBack_35 : decode cX7_putBack 35 = .ok (.iinc 1 1, 3) := by decide +kernel
theorem dX7_putBack_38 : decode cX7_putBack 38 = .ok (.goto (-20), 3) := by decide +kernel
theorem dX7_putBack_41 : decode cX7_putBack 41 = .ok (.iconst 0, 1) := by decide +kernel
theorem dX7_putBack_42 : decode cX7_putBack 42 = .ok (.istore_n 1, 1) := by decide +kernel
theorem dX7_putBack_43 : decode cX7_putBack 43 = .ok (.iload_n 1, 1) := by decide +kernel
theorem dX7_putBack_44 : decode cX7_putBack 44 = .ok (.bipush 15, 2) := by decide +kernel
theorem dX7_putBack_46 : decode cX7_putBack 46 = .ok (.if_icmp .ge 21, 3) := by decide +kernel
theorem dX7_putBack_49 : decode cX7_putBack 49 = .ok (.aload_n 0, 1) := by decide +kernel
theorem dX7_putBack_50 : decode cX7_putBack 50 = .ok (.getfield 29, 3) := by decide +kernel
theorem dX7_putBack_53 : decode cX7_putBack 53 = .ok (.iload_n 1, 1) := by decide +kernel
theorem dX7_putBack_54 : decode cX7_putBack 54 = .ok (.aload_n 0, 1) := by decide +kernel
theorem dX7_putBack_55 : decode cX7_putBack 55 = .ok (.getfield 99, 3) := by decide +kernel
theorem dX7_putBack_58 : decode cX7_putBack 58 = .ok (.iload_n 1, 1) := by decide +kernel
theorem dX7_putBack_59 : decode cX7_putBack 59 = .ok (.iaload, 1) := by decide +kernel
theorem dX7_putBack_60 : decode cX7_putBack 60 = .ok (.iastore, 1) := by decide +kernel
theorem dX7_putBack_61 : decode cX7_putBack 61 = .ok (.iinc 1 1, 3) := by decide +kernel
theorem dX7_putBack_64 : decode cX7_putBack 64 = .ok (.goto (-21), 3) := by decide +kernel
theorem dX7_putBack_67 : decode cX7_putBack 67 = .ok (.return_, 1) := by decide +kernel
theorem dX7_on_0 : decode cX7_on 0 = .ok (.iload_n 2, 1) := by decide +kernel
theorem dX7_on_1 : decode cX7_on 1 = .ok (.ifCond .eq 41, 3) := by decide +kernel
theorem dX7_on_4 : decode cX7_on 4 = .ok (.aload_n 0, 1) := by decide +kernel
theorem dX7_on_5 : decode cX7_on 5 = .ok (.iload_n 2, 1) := by decide +kernel
theorem dX7_on_6 : decode cX7_on 6 = .ok (.bipush 10, 2) := by decide +kernel
theorem dX7_on_8 : decode cX7_on 8 = .ok (.bipush 9, 2) := by decide +kernel
theorem dX7_on_10 : decode cX7_on 10 = .ok (.aload_n 0, 1) := by decide +kernel
theorem dX7_on_11 : decode cX7_on 11 = .ok (.getfield 7, 3) := by decide +kernel
theorem dX7_on_14 : decode cX7_on 14 = .ok (.iadd, 1) := by decide +kernel
theorem dX7_on_15 : decode cX7_on 15 = .ok (.invokevirtual 221, 3) := by decide +kernel
theorem dX7_on_18 : decode cX7_on 18 = .ok (.ifCond .ne 24, 3) := by decide +kernel
theorem dX7_on_21 : decode cX7_on 21 = .ok (.aload_n 0, 1) := by decide +kernel
theorem dX7_on_22 : decode cX7_on 22 = .ok (.iload_n 2, 1) := by decide +kernel
theorem dX7_on_23 : decode cX7_on 23 = .ok (.bipush 20, 2) := by decide +kernel
theorem dX7_on_25 : decode cX7_on 25 = .ok (.bipush 19, 2) := by decide +kernel
theorem dX7_on_27 : decode cX7_on 27 = .ok (.iconst 3, 1) := by decide +kernel
theorem dX7_on_28 : decode cX7_on 28 = .ok (.aload_n 0, 1) := by decide +kernel
theorem dX7_on_29 : decode cX7_on 29 = .ok (.getfield 7, 3) := by decide +kernel
theorem dX7_on_32 : decode cX7_on 32 = .ok (.imul, 1) := by decide +kernel
theorem dX7_on_33 : decode cX7_on 33 = .ok (.iadd, 1) := by decide +kernel
theorem dX7_on_34 : decode cX7_on 34 = .ok (.invokevirtual 221, 3) := by decide +kernel
theorem dX7_on_37 : decode cX7_on 37 = .ok (.ifCond .ne 5, 3) := by decide +kernel
theorem dX7_on_40 : decode cX7_on 40 = .ok (.iconst (-1), 1) := by decide +kernel
theorem dX7_on_41 : decode cX7_on 41 = .ok (.ireturn, 1) := by decide +kernel
theorem dX7_on_42 : decode cX7_on 42 = .ok (.aload_n 0, 1) := by decide +kernel
theorem dX7_on_43 : decode cX7_on 43 = .ok (.iload_n 1, 1) := by decide +kernel
theorem dX7_on_44 : decode cX7_on 44 = .ok (.iconst 0, 1) := by decide +kernel
theorem dX7_on_45 : decode cX7_on 45 = .ok (.bipush 60, 2) := by decide +kernel
theorem dX7_on_47 : decode cX7_on 47 = .ok (.invokevirtual 221, 3) := by decide +kernel
theorem dX7_on_50 : decode cX7_on 50 = .ok (.ifCond .ne 6, 3) := by decide +kernel
theorem dX7_on_53 : decode cX7_on 53 = .ok (.bipush (-2), 2) := by decide +kernel
theorem dX7_on_55 : decode cX7_on 55 = .ok (.ireturn, 1) := by decide +kernel
theorem dX7_on_56 : decode cX7_on 56 = .ok (.aload_n 0, 1) := by decide +kernel
theorem dX7_on_57 : decode cX7_on 57 = .ok (.invokevirtual 344, 3) := by decide +kernel
theorem dX7_on_60 : decode cX7_on 60 = .ok (.aload_n 0, 1) := by decide +kernel
theorem dX7_on_61 : decode cX7_on 61 = .ok (.iload_n 1, 1) := by decide +kernel
theorem dX7_on_62 : decode cX7_on 62 = .ok (.invokevirtual 341, 3) := by decide +kernel
theorem dX7_on_65 : decode cX7_on 65 = .ok (.iload_n 2, 1) := by decide +kernel
theorem dX7_on_66 : decode cX7_on 66 = .ok (.ifCond .ne 10, 3) := by decide +kernel
theorem dX7_on_69 : decode cX7_on 69 = .ok (.aload_n 0, 1) := by decide +kernel
theorem dX7_on_70 : decode cX7_on 70 = .ok (.invokevirtual 323, 3) := by decide +kernel
theorem dX7_on_73 : decode cX7_on 73 = .ok (.goto 29, 3) := by decide +kernel
theorem dX7_on_76 : decode cX7_on 76 = .ok (.iload_n 2, 1) := by decide +kernel
theorem dX7_on_77 : decode cX7_on 77 = .ok (.bipush 20, 2) := by decide +kernel
theorem dX7_on_79 : decode cX7_on 79 = .ok (.if_icmp .ge 14, 3) := by decide +kernel
theorem dX7_on_82 : decode cX7_on 82 = .ok (.aload_n 0, 1) := by decide +kernel
theorem dX7_on_83 : decode cX7_on 83 = .ok (.iload_n 2, 1) := by decide +kernel
theorem dX7_on_84 : decode cX7_on 84 = .ok (.bipush 10, 2) := by decide +kernel
theorem dX7_on_86 : decode cX7_on 86 = .ok (.isub, 1) := by decide +kernel
theorem dX7_on_87 : decode cX7_on 87 = .ok (.invokevirtual 311, 3) := by decide +kernel
theorem dX7_on_90 : decode cX7_on 90 = .ok (.goto 12, 3) := by decide +kernel
theorem dX7_on_93 : decode cX7_on 93 = .ok (.aload_n 0, 1) := by decide +kernel
theorem dX7_on_94 : decode cX7_on 94 = .ok (.getfield 29, 3) := by decide +kernel
theorem dX7_on_97 : decode cX7_on 97 = .ok (.iload_n 2, 1) := by decide +kernel
theorem dX7_on_98 : decode cX7_on 98 = .ok (.bipush 20, 2) := by decide +kernel
theorem dX7_on_100 : decode cX7_on 100 = .ok (.isub, 1) := by decide +kernel
theorem dX7_on_101 : decode cX7_on 101 = .ok (.iaload, 1) := by decide +kernel
theorem dX7_on_102 : decode cX7_on 102 = .ok (.istore_n 3, 1) := by decide +kernel
theorem dX7_on_103 : decode cX7_on 103 = .ok (.aload_n 0, 1) := by decide +kernel
theorem dX7_on_104 : decode cX7_on 104 = .ok (.invokevirtual 347, 3) := by decide +kernel
theorem dX7_on_107 : decode cX7_on 107 = .ok (.iload_n 3, 1) := by decide +kernel
theorem dX7_on_108 : decode cX7_on 108 = .ok (.ireturn, 1) := by decide +kernel
theorem dX7_lasts_0 : decode cX7_lasts 0 = .ok (.aload_n 0, 1) := by decide +kernel
theorem dX7_lasts_1 : decode cX7_lasts 1 = .ok (.iload_n 1, 1) := by decide +kernel
theorem dX7_lasts_2 : decode cX7_lasts 2 = .ok (.invokevirtual 229, 3) := by decide +kernel
theorem dX7_lasts_5 : decode cX7_lasts 5 = .ok (.ifCond .ne 5, 3) := by decide +kernel
theorem dX7_lasts_8 : decode cX7_lasts 8 = .ok (.iconst (-1), 1) := by decide +kernel
theorem dX7_lasts_9 : decode cX7_lasts 9 = .ok (.ireturn, 1) := by decide +kernel
theorem dX7_lasts_10 : decode cX7_lasts 10 = .ok (.aload_n 0, 1) := by decide +kernel
theorem dX7_lasts_11 : decode cX7_lasts 11 = .ok (.iload_n 2, 1) := by decide +kernel
theorem dX7_lasts_12 : decode cX7_lasts 12 = .ok (.invokevirtual 350, 3) := by decide +kernel
theorem dX7_lasts_15 : decode cX7_lasts 15 = .ok (.ifCond .ne 6, 3) := by decide +kernel
theorem dX7_lasts_18 : decode cX7_lasts 18 = .ok (.bipush (-2), 2) := by decide +kernel
theorem dX7_lasts_20 : decode cX7_lasts 20 = .ok (.ireturn, 1) := by decide +kernel
theorem dX7_lasts_21 : decode cX7_lasts 21 = .ok (.aload_n 0, 1) := by decide +kernel
theorem dX7_lasts_22 : decode cX7_lasts 22 = .ok (.invokevirtual 344, 3) := by decide +kernel
theorem dX7_lasts_25 : decode cX7_lasts 25 = .ok (.iconst 0, 1) := by decide +kernel
theorem dX7_lasts_26 : decode cX7_lasts 26 = .ok (.istore_n 3, 1) := by decide +kernel
theorem dX7_lasts_27 : decode cX7_lasts 27 = .ok (.iload_n 3, 1) := by decide +kernel
theorem dX7_lasts_28 : decode cX7_lasts 28 = .ok (.bipush 61, 2) := by decide +kernel
theorem dX7_lasts_30 : decode cX7_lasts 30 = .ok (.if_icmp .ge 22, 3) := by decide +kernel
theorem dX7_lasts_33 : decode cX7_lasts 33 = .ok (.aload_n 0, 1) := by decide +kernel
theorem dX7_lasts_34 : decode cX7_lasts 34 = .ok (.iload_n 1, 1) := by decide +kernel
theorem dX7_lasts_35 : decode cX7_lasts 35 = .ok (.invokevirtual 311, 3) := by decide +kernel
theorem dX7_lasts_38 : decode cX7_lasts 38 = .ok (.iload_n 2, 1) := by decide +kernel
theorem dX7_lasts_39 : decode cX7_lasts 39 = .ok (.if_icmp .lt 13, 3) := by decide +kernel
theorem dX7_lasts_42 : decode cX7_lasts 42 = .ok (.aload_n 0, 1) := by decide +kernel
theorem dX7_lasts_43 : decode cX7_lasts 43 = .ok (.invokevirtual 338, 3) := by decide +kernel
theorem dX7_lasts_46 : decode cX7_lasts 46 = .ok (.iinc 3 1, 3) := by decide +kernel
theorem dX7_lasts_49 : decode cX7_lasts 49 = .ok (.goto (-22), 3) := by decide +kernel
theorem dX7_lasts_52 : decode cX7_lasts 52 = .ok (.aload_n 0, 1) := by decide +kernel
theorem dX7_lasts_53 : decode cX7_lasts 53 = .ok (.invokevirtual 347, 3) := by decide +kernel
theorem dX7_lasts_56 : decode cX7_lasts 56 = .ok (.iload_n 3, 1) := by decide +kernel
theorem dX7_lasts_57 : decode cX7_lasts 57 = .ok (.bipush 61, 2) := by decide +kernel
theorem dX7_lasts_59 : decode cX7_lasts 59 = .ok (.if_icmp .ge 7, 3) := by decide +kernel
theorem dX7_lasts_62 : decode cX7_lasts 62 = .ok (.iload_n 3, 1) := by decide +kernel
theorem dX7_lasts_63 : decode cX7_lasts 63 = .ok (.goto 5, 3) := by decide +kernel
theorem dX7_lasts_66 : decode cX7_lasts 66 = .ok (.bipush (-5), 2) := by decide +kernel
theorem dX7_lasts_68 : decode cX7_lasts 68 = .ok (.ireturn, 1) := by decide +kernel
theorem dX7_pen_0 : decode cX7_pen 0 = .ok (.aload_n 0, 1) := by decide +kernel
theorem dX7_pen_1 : decode cX7_pen 1 = .ok (.iload_n 1, 1) := by decide +kernel
theorem dX7_pen_2 : decode cX7_pen 2 = .ok (.invokevirtual 229, 3) := by decide +kernel
theorem dX7_pen_5 : decode cX7_pen 5 = .ok (.ifCond .ne 5, 3) := by decide +kernel
theorem dX7_pen_8 : decode cX7_pen 8 = .ok (.iconst (-1), 1) := by decide +kernel
theorem dX7_pen_9 : decode cX7_pen 9 = .ok (.ireturn, 1) := by decide +kernel
theorem dX7_pen_10 : decode cX7_pen 10 = .ok (.aload_n 0, 1) := by decide +kernel
theorem dX7_pen_11 : decode cX7_pen 11 = .ok (.iload_n 2, 1) := by decide +kernel
theorem dX7_pen_12 : decode cX7_pen 12 = .ok (.iconst 1, 1) := by decide +kernel
theorem dX7_pen_13 : decode cX7_pen 13 = .ok (.bipush 9, 2) := by decide +kernel
theorem dX7_pen_15 : decode cX7_pen 15 = .ok (.invokevirtual 221, 3) := by decide +kernel
theorem dX7_pen_18 : decode cX7_pen 18 = .ok (.ifCond .ne 6, 3) := by decide +kernel
theorem dX7_pen_21 : decode cX7_pen 21 = .ok (.bipush (-2), 2) := by decide +kernel
theorem dX7_pen_23 : decode cX7_pen 23 = .ok (.ireturn, 1) := by decide +kernel
theorem dX7_pen_24 : decode cX7_pen 24 = .ok (.iconst 0, 1) := by decide +kernel
theorem dX7_pen_25 : decode cX7_pen 25 = .ok (.istore_n 3, 1) := by decide +kernel
theorem dX7_pen_26 : decode cX7_pen 26 = .ok (.iconst (-1), 1) := by decide +kernel
theorem dX7_pen_27 : decode cX7_pen 27 = .ok (.istore 4, 2) := by decide +kernel
theorem dX7_pen_29 : decode cX7_pen 29 = .ok (.iconst 0, 1) := by decide +kernel
theorem dX7_pen_30 : decode cX7_pen 30 = .ok (.istore 5, 2) := by decide +kernel
theorem dX7_pen_32 : decode cX7_pen 32 = .ok (.iload 5, 2) := by decide +kernel
theorem dX7_pen_34 : decode cX7_pen 34 = .ok (.iconst 3, 1) := by decide +kernel
theorem dX7_pen_35 : decode cX7_pen 35 = .ok (.if_icmp .ge 50, 3) := by decide +kernel
theorem dX7_pen_38 : decode cX7_pen 38 = .ok (.aload_n 0, 1) := by decide +kernel
theorem dX7_pen_39 : decode cX7_pen 39 = .ok (.invokevirtual 344, 3) := by decide +kernel
theorem dX7_pen_42 : decode cX7_pen 42 = .ok (.aload_n 0, 1) := by decide +kernel
theorem dX7_pen_43 : decode cX7_pen 43 = .ok (.iload_n 1, 1) := by decide +kernel
theorem dX7_pen_44 : decode cX7_pen 44 = .ok (.iload 5, 2) := by decide +kernel
theorem dX7_pen_46 : decode cX7_pen 46 = .ok (.iload_n 2, 1) := by decide +kernel
theorem dX7_pen_47 : decode cX7_pen 47 = .ok (.invokevirtual 329, 3) := by decide +kernel
theorem dX7_pen_50 : decode cX7_pen 50 = .ok (.pop, 1) := by decide +kernel
theorem dX7_pen_51 : decode cX7_pen 51 = .ok (.aload_n 0, 1) := by decide +kernel
theorem dX7_pen_52 : decode cX7_pen 52 = .ok (.iload_n 1, 1) := by decide +kernel
theorem dX7_pen_53 : decode cX7_pen 53 = .ok (.invokevirtual 311, 3) := by decide +kernel
theorem dX7_pen_56 : decode cX7_pen 56 = .ok (.istore 6, 2) := by decide +kernel
theorem dX7_pen_58 : decode cX7_pen 58 = .ok (.aload_n 0, 1) := by decide +kernel
theorem dX7_pen_59 : decode cX7_pen 59 = .ok (.invokevirtual 347, 3) := by decide +kernel
theorem dX7_pen_62 : decode cX7_pen 62 = .ok (.iload 6, 2) := by decide +kernel
theorem dX7_pen_64 : decode cX7_pen 64 = .ok (.iload 4, 2) := by decide +kernel
theorem dX7_pen_66 : decode cX7_pen 66 = .ok (.if_icmp .gt 6, 3) := by decide +kernel
theorem dX7_pen_69 : decode cX7_pen 69 = .ok (.goto 10, 3) := by decide +kernel
theorem dX7_pen_72 : decode cX7_pen 72 = .ok (.iload 5, 2) := by decide +kernel
theorem dX7_pen_74 : decode cX7_pen 74 = .ok (.istore_n 3, 1) := by decide +kernel
theorem dX7_pen_75 : decode cX7_pen 75 = .ok (.iload 6, 2) := by decide +kernel
theorem dX7_pen_77 : decode cX7_pen 77 = .ok (.istore 4, 2) := by decide +kernel
theorem dX7_pen_79 : decode cX7_pen 79 = .ok (.iinc 5 1, 3) := by decide +kernel
theorem dX7_pen_82 : decode cX7_pen 82 = .ok (.goto (-50), 3) := by decide +kernel
theorem dX7_pen_85 : decode cX7_pen 85 = .ok (.iload_n 3, 1) := by decide +kernel
theorem dX7_pen_86 : decode cX7_pen 86 = .ok (.ireturn, 1) := by decide +kernel
theorem dX7_share_0 : decode cX7_share 0 = .ok (.aload_n 0, 1) := by decide +kernel
theorem dX7_share_1 : decode cX7_share 1 = .ok (.iload_n 1, 1) := by decide +kernel
theorem dX7_share_2 : decode cX7_share 2 = .ok (.invokevirtual 229, 3) := by decide +kernel
theorem dX7_share_5 : decode cX7_share 5 = .ok (.ifCond .eq 13, 3) := by decide +kernel
theorem dX7_share_8 : decode cX7_share 8 = .ok (.aload_n 0, 1) := by decide +kernel
theorem dX7_share_9 : decode cX7_share 9 = .ok (.iload_n 3, 1) := by decide +kernel
theorem dX7_share_10 : decode cX7_share 10 = .ok (.iconst (-1), 1) := by decide +kernel
theorem dX7_share_11 : decode cX7_share 11 = .ok (.iconst 2, 1) := by decide +kernel
theorem dX7_share_12 : decode cX7_share 12 = .ok (.invokevirtual 221, 3) := by decide +kernel
theorem dX7_share_15 : decode cX7_share 15 = .ok (.ifCond .ne 5, 3) := by decide +kernel
theorem dX7_share_18 : decode cX7_share 18 = .ok (.iconst (-1), 1) := by decide +kernel
theorem dX7_share_19 : decode cX7_share 19 = .ok (.ireturn, 1) := by decide +kernel
theorem dX7_share_20 : decode cX7_share 20 = .ok (.aload_n 0, 1) := by decide +kernel
theorem dX7_share_21 : decode cX7_share 21 = .ok (.iload_n 2, 1) := by decide +kernel
theorem dX7_share_22 : decode cX7_share 22 = .ok (.iconst 0, 1) := by decide +kernel
theorem dX7_share_23 : decode cX7_share 23 = .ok (.bipush 12, 2) := by decide +kernel
theorem dX7_share_25 : decode cX7_share 25 = .ok (.invokevirtual 221, 3) := by decide +kernel
theorem dX7_share_28 : decode cX7_share 28 = .ok (.ifCond .ne 6, 3) := by decide +kernel
theorem dX7_share_31 : decode cX7_share 31 = .ok (.bipush (-2), 2) := by decide +kernel
theorem dX7_share_33 : decode cX7_share 33 = .ok (.ireturn, 1) := by decide +kernel
theorem dX7_share_34 : decode cX7_share 34 = .ok (.iconst 0, 1) := by decide +kernel
theorem dX7_share_35 : decode cX7_share 35 = .ok (.istore 4, 2) := by decide +kernel
theorem dX7_share_37 : decode cX7_share 37 = .ok (.iconst (-1), 1) := by decide +kernel
theorem dX7_share_38 : decode cX7_share 38 = .ok (.istore 5, 2) := by decide +kernel
theorem dX7_share_40 : decode cX7_share 40 = .ok (.iload_n 2, 1) := by decide +kernel
theorem dX7_share_41 : decode cX7_share 41 = .ok (.istore 6, 2) := by decide +kernel
theorem dX7_share_43 : decode cX7_share 43 = .ok (.iload 6, 2) := by decide +kernel
theorem dX7_share_45 : decode cX7_share 45 = .ok (.ifCond .lt 97, 3) := by decide +kernel
theorem dX7_share_48 : decode cX7_share 48 = .ok (.iload_n 2, 1) := by decide +kernel
theorem dX7_share_49 : decode cX7_share 49 = .ok (.iload 6, 2) := by decide +kernel
theorem dX7_share_51 : decode cX7_share 51 = .ok (.isub, 1) := by decide +kernel
theorem dX7_share_52 : decode cX7_share 52 = .ok (.istore 7, 2) := by decide +kernel
theorem dX7_share_54 : decode cX7_share 54 = .ok (.iload 7, 2) := by decide +kernel
theorem dX7_share_56 : decode cX7_share 56 = .ok (.ifCond .lt 80, 3) := by decide +kernel
theorem dX7_share_59 : decode cX7_share 59 = .ok (.aload_n 0, 1) := by decide +kernel
theorem dX7_share_60 : decode cX7_share 60 = .ok (.invokevirtual 344, 3) := by decide +kernel
theorem dX7_share_63 : decode cX7_share 63 = .ok (.aload_n 0, 1) := by decide +kernel
theorem dX7_share_64 : decode cX7_share 64 = .ok (.iload_n 1, 1) := by decide +kernel
theorem dX7_share_65 : decode cX7_share 65 = .ok (.iconst 0, 1) := by decide +kernel
theorem dX7_share_66 : decode cX7_share 66 = .ok (.iload 6, 2) := by decide +kernel
theorem dX7_share_68 : decode cX7_share 68 = .ok (.invokevirtual 329, 3) := by decide +kernel
theorem dX7_share_71 : decode cX7_share 71 = .ok (.pop, 1) := by decide +kernel
theorem dX7_share_72 : decode cX7_share 72 = .ok (.aload_n 0, 1) := by decide +kernel
theorem dX7_share_73 : decode cX7_share 73 = .ok (.iload_n 1, 1) := by decide +kernel
theorem dX7_share_74 : decode cX7_share 74 = .ok (.iconst 1, 1) := by decide +kernel
theorem dX7_share_75 : decode cX7_share 75 = .ok (.iload 7, 2) := by decide +kernel
theorem dX7_share_77 : decode cX7_share 77 = .ok (.invokevirtual 329, 3) := by decide +kernel
theorem dX7_share_80 : decode cX7_share 80 = .ok (.pop, 1) := by decide +kernel
theorem dX7_share_81 : decode cX7_share 81 = .ok (.aload_n 0, 1) := by decide +kernel
theorem dX7_share_82 : decode cX7_share 82 = .ok (.iload_n 1, 1) := by decide +kernel
theorem dX7_share_83 : decode cX7_share 83 = .ok (.iconst 2, 1) := by decide +kernel
theorem dX7_share_84 : decode cX7_share 84 = .ok (.iload_n 2, 1) := by decide +kernel
theorem dX7_share_85 : decode cX7_share 85 = .ok (.iload 6, 2) := by decide +kernel
theorem dX7_share_87 : decode cX7_share 87 = .ok (.isub, 1) := by decide +kernel
theorem dX7_share_88 : decode cX7_share 88 = .ok (.iload 7, 2) := by decide +kernel
theorem dX7_share_90 : decode cX7_share 90 = .ok (.isub, 1) := by decide +kernel
theorem dX7_share_91 : decode cX7_share 91 = .ok (.invokevirtual 329, 3) := by decide +kernel
theorem dX7_share_94 : decode cX7_share 94 = .ok (.pop, 1) := by decide +kernel
theorem dX7_share_95 : decode cX7_share 95 = .ok (.aload_n 0, 1) := by decide +kernel
theorem dX7_share_96 : decode cX7_share 96 = .ok (.iload_n 1, 1) := by decide +kernel
theorem dX7_share_97 : decode cX7_share 97 = .ok (.invokevirtual 311, 3) := by decide +kernel
theorem dX7_share_100 : decode cX7_share 100 = .ok (.istore 8, 2) := by decide +kernel
theorem dX7_share_102 : decode cX7_share 102 = .ok (.aload_n 0, 1) := by decide +kernel
theorem dX7_share_103 : decode cX7_share 103 = .ok (.invokevirtual 347, 3) := by decide +kernel
theorem dX7_share_106 : decode cX7_share 106 = .ok (.iload 8, 2) := by decide +kernel
theorem dX7_share_108 : decode cX7_share 108 = .ok (.iload 5, 2) := by decide +kernel
theorem dX7_share_110 : decode cX7_share 110 = .ok (.if_icmp .gt 6, 3) := by decide +kernel
theorem dX7_share_113 : decode cX7_share 113 = .ok (.goto 17, 3) := by decide +kernel
theorem dX7_share_116 : decode cX7_share 116 = .ok (.bipush 100, 2) := by decide +kernel
theorem dX7_share_118 : decode cX7_share 118 = .ok (.iload 6, 2) := by decide +kernel
theorem dX7_share_120 : decode cX7_share 120 = .ok (.imul, 1) := by decide +kernel
theorem dX7_share_121 : decode cX7_share 121 = .ok (.iload 7, 2) := by decide +kernel
theorem dX7_share_123 : decode cX7_share 123 = .ok (.iadd, 1) := by decide +kernel
theorem dX7_share_124 : decode cX7_share 124 = .ok (.istore 4, 2) := by decide +kernel
theorem dX7_share_126 : decode cX7_share 126 = .ok (.iload 8, 2) := by decide +kernel
theorem dX7_share_128 : decode cX7_share 128 = .ok (.istore 5, 2) := by decide +kernel
theorem dX7_share_130 : decode cX7_share 130 = .ok (.iinc 7 (-1), 3) := by decide +kernel
theorem dX7_share_133 : decode cX7_share 133 = .ok (.goto (-79), 3) := by decide +kernel
theorem dX7_share_136 : decode cX7_share 136 = .ok (.iinc 6 (-1), 3) := by decide +kernel
theorem dX7_share_139 : decode cX7_share 139 = .ok (.goto (-96), 3) := by decide +kernel
theorem dX7_share_142 : decode cX7_share 142 = .ok (.iload_n 3, 1) := by decide +kernel
theorem dX7_share_143 : decode cX7_share 143 = .ok (.ifCond .ge 8, 3) := by decide +kernel
theorem dX7_share_146 : decode cX7_share 146 = .ok (.iload 5, 2) := by decide +kernel
theorem dX7_share_148 : decode cX7_share 148 = .ok (.goto 41, 3) := by decide +kernel
theorem dX7_share_151 : decode cX7_share 151 = .ok (.iload_n 3, 1) := by decide +kernel
theorem dX7_share_152 : decode cX7_share 152 = .ok (.ifCond .ne 11, 3) := by decide +kernel
theorem dX7_share_155 : decode cX7_share 155 = .ok (.iload 4, 2) := by decide +kernel
theorem dX7_share_157 : decode cX7_share 157 = .ok (.bipush 100, 2) := by decide +kernel
theorem dX7_share_159 : decode cX7_share 159 = .ok (.idiv, 1) := by decide +kernel
theorem dX7_share_160 : decode cX7_share 160 = .ok (.goto 29, 3) := by decide +kernel
theorem dX7_share_163 : decode cX7_share 163 = .ok (.iload_n 3, 1) := by decide +kernel
theorem dX7_share_164 : decode cX7_share 164 = .ok (.iconst 1, 1) := by decide +kernel
theorem dX7_share_165 : decode cX7_share 165 = .ok (.if_icmp .ne 11, 3) := by decide +kernel
theorem dX7_share_168 : decode cX7_share 168 = .ok (.iload 4, 2) := by decide +kernel
theorem dX7_share_170 : decode cX7_share 170 = .ok (.bipush 100, 2) := by decide +kernel
theorem dX7_share_172 : decode cX7_share 172 = .ok (.irem, 1) := by decide +kernel
theorem dX7_share_173 : decode cX7_share 173 = .ok (.goto 16, 3) := by decide +kernel
theorem dX7_share_176 : decode cX7_share 176 = .ok (.iload_n 2, 1) := by decide +kernel
theorem dX7_share_177 : decode cX7_share 177 = .ok (.iload 4, 2) := by decide +kernel
theorem dX7_share_179 : decode cX7_share 179 = .ok (.bipush 100, 2) := by decide +kernel
theorem dX7_share_181 : decode cX7_share 181 = .ok (.idiv, 1) := by decide +kernel
theorem dX7_share_182 : decode cX7_share 182 = .ok (.isub, 1) := by decide +kernel
theorem dX7_share_183 : decode cX7_share 183 = .ok (.iload 4, 2) := by decide +kernel
theorem dX7_share_185 : decode cX7_share 185 = .ok (.bipush 100, 2) := by decide +kernel
theorem dX7_share_187 : decode cX7_share 187 = .ok (.irem, 1) := by decide +kernel
theorem dX7_share_188 : decode cX7_share 188 = .ok (.isub, 1) := by decide +kernel
theorem dX7_share_189 : decode cX7_share 189 = .ok (.ireturn, 1) := by decide +kernel
theorem dX7_fortunesIf_0 : decode cX7_fortunesIf 0 = .ok (.aload_n 0, 1) := by decide +kernel
theorem dX7_fortunesIf_1 : decode cX7_fortunesIf 1 = .ok (.invokevirtual 344, 3) := by decide +kernel
theorem dX7_fortunesIf_4 : decode cX7_fortunesIf 4 = .ok (.aload_n 0, 1) := by decide +kernel
theorem dX7_fortunesIf_5 : decode cX7_fortunesIf 5 = .ok (.iload_n 1, 1) := by decide +kernel
theorem dX7_fortunesIf_6 : decode cX7_fortunesIf 6 = .ok (.iload_n 2, 1) := by decide +kernel
theorem dX7_fortunesIf_7 : decode cX7_fortunesIf 7 = .ok (.invokevirtual 335, 3) := by decide +kernel
theorem dX7_fortunesIf_10 : decode cX7_fortunesIf 10 = .ok (.pop, 1) := by decide +kernel
theorem dX7_fortunesIf_11 : decode cX7_fortunesIf 11 = .ok (.aload_n 0, 1) := by decide +kernel
theorem dX7_fortunesIf_12 : decode cX7_fortunesIf 12 = .ok (.invokevirtual 323, 3) := by decide +kernel
theorem dX7_fortunesIf_15 : decode cX7_fortunesIf 15 = .ok (.istore_n 3, 1) := by decide +kernel
theorem dX7_fortunesIf_16 : decode cX7_fortunesIf 16 = .ok (.aload_n 0, 1) := by decide +kernel
theorem dX7_fortunesIf_17 : decode cX7_fortunesIf 17 = .ok (.invokevirtual 347, 3) := by decide +kernel
theorem dX7_fortunesIf_20 : decode cX7_fortunesIf 20 = .ok (.iload_n 3, 1) := by decide +kernel
theorem dX7_fortunesIf_21 : decode cX7_fortunesIf 21 = .ok (.ireturn, 1) := by decide +kernel
theorem dX7_meet_0 : decode cX7_meet 0 = .ok (.bipush (-5), 2) := by decide +kernel
theorem dX7_meet_2 : decode cX7_meet 2 = .ok (.istore_n 1, 1) := by decide +kernel
theorem dX7_meet_3 : decode cX7_meet 3 = .ok (.aload_n 0, 1) := by decide +kernel
theorem dX7_meet_4 : decode cX7_meet 4 = .ok (.invokevirtual 323, 3) := by decide +kernel
theorem dX7_meet_7 : decode cX7_meet 7 = .ok (.istore_n 2, 1) := by decide +kernel
theorem dX7_meet_8 : decode cX7_meet 8 = .ok (.iconst 0, 1) := by decide +kernel
theorem dX7_meet_9 : decode cX7_meet 9 = .ok (.istore_n 3, 1) := by decide +kernel
theorem dX7_meet_10 : decode cX7_meet 10 = .ok (.iload_n 3, 1) := by decide +kernel
theorem dX7_meet_11 : decode cX7_meet 11 = .ok (.aload_n 0, 1) := by decide +kernel
theorem dX7_meet_12 : decode cX7_meet 12 = .ok (.getfield 7, 3) := by decide +kernel
theorem dX7_meet_15 : decode cX7_meet 15 = .ok (.if_icmp .ge 58, 3) := by decide +kernel
theorem dX7_meet_18 : decode cX7_meet 18 = .ok (.iload_n 3, 1) := by decide +kernel
theorem dX7_meet_19 : decode cX7_meet 19 = .ok (.iconst 1, 1) := by decide +kernel
theorem dX7_meet_20 : decode cX7_meet 20 = .ok (.iadd, 1) := by decide +kernel
theorem dX7_meet_21 : decode cX7_meet 21 = .ok (.istore 4, 2) := by decide +kernel
theorem dX7_meet_23 : decode cX7_meet 23 = .ok (.iload 4, 2) := by decide +kernel
theorem dX7_meet_25 : decode cX7_meet 25 = .ok (.aload_n 0, 1) := by decide +kernel
theorem dX7_meet_26 : decode cX7_meet 26 = .ok (.getfield 7, 3) := by decide +kernel
theorem dX7_meet_29 : decode cX7_meet 29 = .ok (.if_icmp .ge 38, 3) := by decide +kernel
theorem dX7_meet_32 : decode cX7_meet 32 = .ok (.aload_n 0, 1) := by decide +kernel
theorem dX7_meet_33 : decode cX7_meet 33 = .ok (.iload_n 3, 1) := by decide +kernel
theorem dX7_meet_34 : decode cX7_meet 34 = .ok (.iload 4, 2) := by decide +kernel
theorem dX7_meet_36 : decode cX7_meet 36 = .ok (.invokevirtual 353, 3) := by decide +kernel
theorem dX7_meet_39 : decode cX7_meet 39 = .ok (.istore 5, 2) := by decide +kernel
theorem dX7_meet_41 : decode cX7_meet 41 = .ok (.iload 5, 2) := by decide +kernel
theorem dX7_meet_43 : decode cX7_meet 43 = .ok (.iload_n 2, 1) := by decide +kernel
theorem dX7_meet_44 : decode cX7_meet 44 = .ok (.if_icmp .gt 6, 3) := by decide +kernel
theorem dX7_meet_47 : decode cX7_meet 47 = .ok (.goto 14, 3) := by decide +kernel
theorem dX7_meet_50 : decode cX7_meet 50 = .ok (.bipush 10, 2) := by decide +kernel
theorem dX7_meet_52 : decode cX7_meet 52 = .ok (.iload_n 3, 1) := by decide +kernel
theorem dX7_meet_53 : decode cX7_meet 53 = .ok (.imul, 1) := by decide +kernel
theorem dX7_meet_54 : decode cX7_meet 54 = .ok (.iload 4, 2) := by decide +kernel
theorem dX7_meet_56 : decode cX7_meet 56 = .ok (.iadd, 1) := by decide +kernel
theorem dX7_meet_57 : decode cX7_meet 57 = .ok (.istore_n 1, 1) := by decide +kernel
theorem dX7_meet_58 : decode cX7_meet 58 = .ok (.iload 5, 2) := by decide +kernel
theorem dX7_meet_60 : decode cX7_meet 60 = .ok (.istore_n 2, 1) := by decide +kernel
theorem dX7_meet_61 : decode cX7_meet 61 = .ok (.iinc 4 1, 3) := by decide +kernel
theorem dX7_meet_64 : decode cX7_meet 64 = .ok (.goto (-41), 3) := by decide +kernel
theorem dX7_meet_67 : decode cX7_meet 67 = .ok (.iinc 3 1, 3) := by decide +kernel
theorem dX7_meet_70 : decode cX7_meet 70 = .ok (.goto (-60), 3) := by decide +kernel
theorem dX7_meet_73 : decode cX7_meet 73 = .ok (.iload_n 1, 1) := by decide +kernel
theorem dX7_meet_74 : decode cX7_meet 74 = .ok (.ireturn, 1) := by decide +kernel
theorem dX7_book_0 : decode cX7_book 0 = .ok (.iload_n 1, 1) := by decide +kernel
theorem dX7_book_1 : decode cX7_book 1 = .ok (.iconst (-1), 1) := by decide +kernel
theorem dX7_book_2 : decode cX7_book 2 = .ok (.if_icmp .ne 10, 3) := by decide +kernel
theorem dX7_book_5 : decode cX7_book 5 = .ok (.aload_n 0, 1) := by decide +kernel
theorem dX7_book_6 : decode cX7_book 6 = .ok (.iconst 0, 1) := by decide +kernel
theorem dX7_book_7 : decode cX7_book 7 = .ok (.putfield 102, 3) := by decide +kernel
theorem dX7_book_10 : decode cX7_book 10 = .ok (.iconst 0, 1) := by decide +kernel
theorem dX7_book_11 : decode cX7_book 11 = .ok (.ireturn, 1) := by decide +kernel
theorem dX7_book_12 : decode cX7_book 12 = .ok (.aload_n 0, 1) := by decide +kernel
theorem dX7_book_13 : decode cX7_book 13 = .ok (.iload_n 1, 1) := by decide +kernel
theorem dX7_book_14 : decode cX7_book 14 = .ok (.invokevirtual 229, 3) := by decide +kernel
theorem dX7_book_17 : decode cX7_book 17 = .ok (.ifCond .eq 11, 3) := by decide +kernel
theorem dX7_book_20 : decode cX7_book 20 = .ok (.aload_n 0, 1) := by decide +kernel
theorem dX7_book_21 : decode cX7_book 21 = .ok (.iload_n 2, 1) := by decide +kernel
theorem dX7_book_22 : decode cX7_book 22 = .ok (.invokevirtual 232, 3) := by decide +kernel
theorem dX7_book_25 : decode cX7_book 25 = .ok (.ifCond .ne 5, 3) := by decide +kernel
theorem dX7_book_28 : decode cX7_book 28 = .ok (.iconst (-1), 1) := by decide +kernel
theorem dX7_book_29 : decode cX7_book 29 = .ok (.ireturn, 1) := by decide +kernel
theorem dX7_book_30 : decode cX7_book 30 = .ok (.aload_n 0, 1) := by decide +kernel
theorem dX7_book_31 : decode cX7_book 31 = .ok (.iload_n 3, 1) := by decide +kernel
theorem dX7_book_32 : decode cX7_book 32 = .ok (.invokevirtual 225, 3) := by decide +kernel
theorem dX7_book_35 : decode cX7_book 35 = .ok (.ifCond .ne 6, 3) := by decide +kernel
theorem dX7_book_38 : decode cX7_book 38 = .ok (.bipush (-2), 2) := by decide +kernel
theorem dX7_book_40 : decode cX7_book 40 = .ok (.ireturn, 1) := by decide +kernel
theorem dX7_book_41 : decode cX7_book 41 = .ok (.aload_n 0, 1) := by decide +kernel
theorem dX7_book_42 : decode cX7_book 42 = .ok (.getfield 102, 3) := by decide +kernel
theorem dX7_book_45 : decode cX7_book 45 = .ok (.bipush 8, 2) := by decide +kernel
theorem dX7_book_47 : decode cX7_book 47 = .ok (.if_icmp .ne 6, 3) := by decide +kernel
theorem dX7_book_50 : decode cX7_book 50 = .ok (.bipush (-4), 2) := by decide +kernel
theorem dX7_book_52 : decode cX7_book 52 = .ok (.ireturn, 1) := by decide +kernel
theorem dX7_book_53 : decode cX7_book 53 = .ok (.aload_n 0, 1) := by decide +kernel
theorem dX7_book_54 : decode cX7_book 54 = .ok (.getfield 105, 3) := by decide +kernel
theorem dX7_book_57 : decode cX7_book 57 = .ok (.aload_n 0, 1) := by decide +kernel
theorem dX7_book_58 : decode cX7_book 58 = .ok (.getfield 102, 3) := by decide +kernel
theorem dX7_book_61 : decode cX7_book 61 = .ok (.iconst 3, 1) := by decide +kernel
theorem dX7_book_62 : decode cX7_book 62 = .ok (.iload_n 1, 1) := by decide +kernel
theorem dX7_book_63 : decode cX7_book 63 = .ok (.imul, 1) := by decide +kernel
theorem dX7_book_64 : decode cX7_book 64 = .ok (.iload_n 2, 1) := by decide +kernel
theorem dX7_book_65 : decode cX7_book 65 = .ok (.iadd, 1) := by decide +kernel
theorem dX7_book_66 : decode cX7_book 66 = .ok (.iastore, 1) := by decide +kernel
theorem dX7_book_67 : decode cX7_book 67 = .ok (.aload_n 0, 1) := by decide +kernel
theorem dX7_book_68 : decode cX7_book 68 = .ok (.getfield 108, 3) := by decide +kernel
theorem dX7_book_71 : decode cX7_book 71 = .ok (.aload_n 0, 1) := by decide +kernel
theorem dX7_book_72 : decode cX7_book 72 = .ok (.getfield 102, 3) := by decide +kernel
theorem dX7_book_75 : decode cX7_book 75 = .ok (.iload_n 3, 1) := by decide +kernel
theorem dX7_book_76 : decode cX7_book 76 = .ok (.iastore, 1) := by decide +kernel
theorem dX7_book_77 : decode cX7_book 77 = .ok (.aload_n 0, 1) := by decide +kernel
theorem dX7_book_78 : decode cX7_book 78 = .ok (.dup, 1) := by decide +kernel
theorem dX7_book_79 : decode cX7_book 79 = .ok (.getfield 102, 3) := by decide +kernel
theorem dX7_book_82 : decode cX7_book 82 = .ok (.iconst 1, 1) := by decide +kernel
theorem dX7_book_83 : decode cX7_book 83 = .ok (.iadd, 1) := by decide +kernel
theorem dX7_book_84 : decode cX7_book 84 = .ok (.putfield 102, 3) := by decide +kernel
theorem dX7_book_87 : decode cX7_book 87 = .ok (.aload_n 0, 1) := by decide +kernel
theorem dX7_book_88 : decode cX7_book 88 = .ok (.getfield 102, 3) := by decide +kernel
theorem dX7_book_91 : decode cX7_book 91 = .ok (.ireturn, 1) := by decide +kernel
theorem dX7_looked_0 : decode cX7_looked 0 = .ok (.iconst 0, 1) := by decide +kernel
theorem dX7_looked_1 : decode cX7_looked 1 = .ok (.istore_n 1, 1) := by decide +kernel
theorem dX7_looked_2 : decode cX7_looked 2 = .ok (.iload_n 1, 1) := by decide +kernel
theorem dX7_looked_3 : decode cX7_looked 3 = .ok (.aload_n 0, 1) := by decide +kernel
theorem dX7_looked_4 : decode cX7_looked 4 = .ok (.getfield 102, 3) := by decide +kernel
theorem dX7_looked_7 : decode cX7_looked 7 = .ok (.if_icmp .ge 31, 3) := by decide +kernel
theorem dX7_looked_10 : decode cX7_looked 10 = .ok (.aload_n 0, 1) := by decide +kernel
theorem dX7_looked_11 : decode cX7_looked 11 = .ok (.getfield 29, 3) := by decide +kernel
theorem dX7_looked_14 : decode cX7_looked 14 = .ok (.aload_n 0, 1) := by decide +kernel
theorem dX7_looked_15 : decode cX7_looked 15 = .ok (.getfield 105, 3) := by decide +kernel
theorem dX7_looked_18 : decode cX7_looked 18 = .ok (.iload_n 1, 1) := by decide +kernel
theorem dX7_looked_19 : decode cX7_looked 19 = .ok (.iaload, 1) := by decide +kernel
theorem dX7_looked_20 : decode cX7_looked 20 = .ok (.iaload, 1) := by decide +kernel
theorem dX7_looked_21 : decode cX7_looked 21 = .ok (.aload_n 0, 1) := by decide +kernel
theorem dX7_looked_22 : decode cX7_looked 22 = .ok (.getfield 108, 3) := by decide +kernel
theorem dX7_looked_25 : decode cX7_looked 25 = .ok (.iload_n 1, 1) := by decide +kernel
theorem dX7_looked_26 : decode cX7_looked 26 = .ok (.iaload, 1) := by decide +kernel
theorem dX7_looked_27 : decode cX7_looked 27 = .ok (.if_icmp .eq 5, 3) := by decide +kernel
theorem dX7_looked_30 : decode cX7_looked 30 = .ok (.iload_n 1, 1) := by decide +kernel
theorem dX7_looked_31 : decode cX7_looked 31 = .ok (.ireturn, 1) := by decide +kernel
theorem dX7_looked_32 : decode cX7_looked 32 = .ok (.iinc 1 1, 3) := by decide +kernel
theorem dX7_looked_35 : decode cX7_looked 35 = .ok (.goto (-33), 3) := by decide +kernel
theorem dX7_looked_38 : decode cX7_looked 38 = .ok (.bipush (-5), 2) := by decide +kernel
theorem dX7_looked_40 : decode cX7_looked 40 = .ok (.ireturn, 1) := by decide +kernel
theorem dX7_layPairs_0 : decode cX7_layPairs 0 = .ok (.aload_n 0, 1) := by decide +kernel
theorem dX7_layPairs_1 : decode cX7_layPairs 1 = .ok (.iconst 0, 1) := by decide +kernel
theorem dX7_layPairs_2 : decode cX7_layPairs 2 = .ok (.putfield 117, 3) := by decide +kernel
theorem dX7_layPairs_5 : decode cX7_layPairs 5 = .ok (.iconst 0, 1) := by decide +kernel
theorem dX7_layPairs_6 : decode cX7_layPairs 6 = .ok (.istore_n 1, 1) := by decide +kernel
theorem dX7_layPairs_7 : decode cX7_layPairs 7 = .ok (.iload_n 1, 1) := by decide +kernel
theorem dX7_layPairs_8 : decode cX7_layPairs 8 = .ok (.aload_n 0, 1) := by decide +kernel
theorem dX7_layPairs_9 : decode cX7_layPairs 9 = .ok (.getfield 7, 3) := by decide +kernel
theorem dX7_layPairs_12 : decode cX7_layPairs 12 = .ok (.if_icmp .ge 57, 3) := by decide +kernel
theorem dX7_layPairs_15 : decode cX7_layPairs 15 = .ok (.iload_n 1, 1) := by decide +kernel
theorem dX7_layPairs_16 : decode cX7_layPairs 16 = .ok (.iconst 1, 1) := by decide +kernel
theorem dX7_layPairs_17 : decode cX7_layPairs 17 = .ok (.iadd, 1) := by decide +kernel
theorem dX7_layPairs_18 : decode cX7_layPairs 18 = .ok (.istore_n 2, 1) := by decide +kernel
theorem dX7_layPairs_19 : decode cX7_layPairs 19 = .ok (.iload_n 2, 1) := by decide +kernel
theorem dX7_layPairs_20 : decode cX7_layPairs 20 = .ok (.aload_n 0, 1) := by decide +kernel
theorem dX7_layPairs_21 : decode cX7_layPairs 21 = .ok (.getfield 7, 3) := by decide +kernel
theorem dX7_layPairs_24 : decode cX7_layPairs 24 = .ok (.if_icmp .ge 39, 3) := by decide +kernel
theorem dX7_layPairs_27 : decode cX7_layPairs 27 = .ok (.aload_n 0, 1) := by decide +kernel
theorem dX7_layPairs_28 : decode cX7_layPairs 28 = .ok (.getfield 111, 3) := by decide +kernel
theorem dX7_layPairs_31 : decode cX7_layPairs 31 = .ok (.aload_n 0, 1) := by decide +kernel
theorem dX7_layPairs_32 : decode cX7_layPairs 32 = .ok (.getfield 117, 3) := by decide +kernel
theorem dX7_layPairs_35 : decode cX7_layPairs 35 = .ok (.iload_n 1, 1) := by decide +kernel
theorem dX7_layPairs_36 : decode cX7_layPairs 36 = .ok (.iastore, 1) := by decide +kernel
theorem dX7_layPairs_37 : decode cX7_layPairs 37 = .ok (.aload_n 0, 1) := by decide +kernel
theorem dX7_layPairs_38 : decode cX7_layPairs 38 = .ok (.getfield 114, 3) := by decide +kernel
theorem dX7_layPairs_41 : decode cX7_layPairs 41 = .ok (.aload_n 0, 1) := by decide +kernel
theorem dX7_layPairs_42 : decode cX7_layPairs 42 = .ok (.getfield 117, 3) := by decide +kernel
theorem dX7_layPairs_45 : decode cX7_layPairs 45 = .ok (.iload_n 2, 1) := by decide +kernel
theorem dX7_layPairs_46 : decode cX7_layPairs 46 = .ok (.iastore, 1) := by decide +kernel
theorem dX7_layPairs_47 : decode cX7_layPairs 47 = .ok (.aload_n 0, 1) := by decide +kernel
theorem dX7_layPairs_48 : decode cX7_layPairs 48 = .ok (.dup, 1) := by decide +kernel
theorem dX7_layPairs_49 : decode cX7_layPairs 49 = .ok (.getfield 117, 3) := by decide +kernel
theorem dX7_layPairs_52 : decode cX7_layPairs 52 = .ok (.iconst 1, 1) := by decide +kernel
theorem dX7_layPairs_53 : decode cX7_layPairs 53 = .ok (.iadd, 1) := by decide +kernel
theorem dX7_layPairs_54 : decode cX7_layPairs 54 = .ok (.putfield 117, 3) := by decide +kernel
theorem dX7_layPairs_57 : decode cX7_layPairs 57 = .ok (.iinc 2 1, 3) := by decide +kernel
theorem dX7_layPairs_60 : decode cX7_layPairs 60 = .ok (.goto (-41), 3) := by decide +kernel
theorem dX7_layPairs_63 : decode cX7_layPairs 63 = .ok (.iinc 1 1, 3) := by decide +kernel
theorem dX7_layPairs_66 : decode cX7_layPairs 66 = .ok (.goto (-59), 3) := by decide +kernel
theorem dX7_layPairs_69 : decode cX7_layPairs 69 = .ok (.return_, 1) := by decide +kernel
theorem dX7_pairOf_0 : decode cX7_pairOf 0 = .ok (.iconst 1, 1) := by decide +kernel
theorem dX7_pairOf_1 : decode cX7_pairOf 1 = .ok (.istore 4, 2) := by decide +kernel
theorem dX7_pairOf_3 : decode cX7_pairOf 3 = .ok (.iload_n 3, 1) := by decide +kernel
theorem dX7_pairOf_4 : decode cX7_pairOf 4 = .ok (.iconst 1, 1) := by decide +kernel
theorem dX7_pairOf_5 : decode cX7_pairOf 5 = .ok (.iadd, 1) := by decide +kernel
theorem dX7_pairOf_6 : decode cX7_pairOf 6 = .ok (.istore 5, 2) := by decide +kernel
theorem dX7_pairOf_8 : decode cX7_pairOf 8 = .ok (.iload 5, 2) := by decide +kernel
theorem dX7_pairOf_10 : decode cX7_pairOf 10 = .ok (.iload_n 2, 1) := by decide +kernel
theorem dX7_pairOf_11 : decode cX7_pairOf 11 = .ok (.if_icmp .ge 18, 3) := by decide +kernel
theorem dX7_pairOf_14 : decode cX7_pairOf 14 = .ok (.iload 4, 2) := by decide +kernel
theorem dX7_pairOf_16 : decode cX7_pairOf 16 = .ok (.aload_n 0, 1) := by decide +kernel
theorem dX7_pairOf_17 : decode cX7_pairOf 17 = .ok (.getfield 117, 3) := by decide +kernel
theorem dX7_pairOf_20 : decode cX7_pairOf 20 = .ok (.imul, 1) := by decide +kernel
theorem dX7_pairOf_21 : decode cX7_pairOf 21 = .ok (.istore 4, 2) := by decide +kernel
theorem dX7_pairOf_23 : decode cX7_pairOf 23 = .ok (.iinc 5 1, 3) := by decide +kernel
theorem dX7_pairOf_26 : decode cX7_pairOf 26 = .ok (.goto (-18), 3) := by decide +kernel
theorem dX7_pairOf_29 : decode cX7_pairOf 29 = .ok (.iload_n 1, 1) := by decide +kernel
theorem dX7_pairOf_30 : decode cX7_pairOf 30 = .ok (.iload 4, 2) := by decide +kernel
theorem dX7_pairOf_32 : decode cX7_pairOf 32 = .ok (.idiv, 1) := by decide +kernel
theorem dX7_pairOf_33 : decode cX7_pairOf 33 = .ok (.aload_n 0, 1) := by decide +kernel
theorem dX7_pairOf_34 : decode cX7_pairOf 34 = .ok (.getfield 117, 3) := by decide +kernel
theorem dX7_pairOf_37 : decode cX7_pairOf 37 = .ok (.irem, 1) := by decide +kernel
theorem dX7_pairOf_38 : decode cX7_pairOf 38 = .ok (.ireturn, 1) := by decide +kernel
theorem dX7_isBookBy_0 : decode cX7_isBookBy 0 = .ok (.aload_n 0, 1) := by decide +kernel
theorem dX7_isBookBy_1 : decode cX7_isBookBy 1 = .ok (.invokevirtual 344, 3) := by decide +kernel
theorem dX7_isBookBy_4 : decode cX7_isBookBy 4 = .ok (.iconst 0, 1) := by decide +kernel
theorem dX7_isBookBy_5 : decode cX7_isBookBy 5 = .ok (.istore_n 3, 1) := by decide +kernel
theorem dX7_isBookBy_6 : decode cX7_isBookBy 6 = .ok (.iload_n 3, 1) := by decide +kernel
theorem dX7_isBookBy_7 : decode cX7_isBookBy 7 = .ok (.iload_n 2, 1) := by decide +kernel
theorem dX7_isBookBy_8 : decode cX7_isBookBy 8 = .ok (.if_icmp .ge 38, 3) := by decide +kernel
theorem dX7_isBookBy_11 : decode cX7_isBookBy 11 = .ok (.aload_n 0, 1) := by decide +kernel
theorem dX7_isBookBy_12 : decode cX7_isBookBy 12 = .ok (.aload_n 0, 1) := by decide +kernel
theorem dX7_isBookBy_13 : decode cX7_isBookBy 13 = .ok (.getfield 111, 3) := by decide +kernel
theorem dX7_isBookBy_16 : decode cX7_isBookBy 16 = .ok (.aload_n 0, 1) := by decide +kernel
theorem dX7_isBookBy_17 : decode cX7_isBookBy 17 = .ok (.iload_n 1, 1) := by decide +kernel
theorem dX7_isBookBy_18 : decode cX7_isBookBy 18 = .ok (.iload_n 2, 1) := by decide +kernel
theorem dX7_isBookBy_19 : decode cX7_isBookBy 19 = .ok (.iload_n 3, 1) := by decide +kernel
theorem dX7_isBookBy_20 : decode cX7_isBookBy 20 = .ok (.invokevirtual 356, 3) := by decide +kernel
theorem dX7_isBookBy_23 : decode cX7_isBookBy 23 = .ok (.iaload, 1) := by decide +kernel
theorem dX7_isBookBy_24 : decode cX7_isBookBy 24 = .ok (.aload_n 0, 1) := by decide +kernel
theorem dX7_isBookBy_25 : decode cX7_isBookBy 25 = .ok (.getfield 114, 3) := by decide +kernel
theorem dX7_isBookBy_28 : decode cX7_isBookBy 28 = .ok (.aload_n 0, 1) := by decide +kernel
theorem dX7_isBookBy_29 : decode cX7_isBookBy 29 = .ok (.iload_n 1, 1) := by decide +kernel
theorem dX7_isBookBy_30 : decode cX7_isBookBy 30 = .ok (.iload_n 2, 1) := by decide +kernel
theorem dX7_isBookBy_31 : decode cX7_isBookBy 31 = .ok (.iload_n 3, 1) := by decide +kernel
theorem dX7_isBookBy_32 : decode cX7_isBookBy 32 = .ok (.invokevirtual 356, 3) := by decide +kernel
theorem dX7_isBookBy_35 : decode cX7_isBookBy 35 = .ok (.iaload, 1) := by decide +kernel
theorem dX7_isBookBy_36 : decode cX7_isBookBy 36 = .ok (.invokevirtual 335, 3) := by decide +kernel
theorem dX7_isBookBy_39 : decode cX7_isBookBy 39 = .ok (.pop, 1) := by decide +kernel
theorem dX7_isBookBy_40 : decode cX7_isBookBy 40 = .ok (.iinc 3 1, 3) := by decide +kernel
theorem dX7_isBookBy_43 : decode cX7_isBookBy 43 = .ok (.goto (-37), 3) := by decide +kernel
theorem dX7_isBookBy_46 : decode cX7_isBookBy 46 = .ok (.aload_n 0, 1) := by decide +kernel
theorem dX7_isBookBy_47 : decode cX7_isBookBy 47 = .ok (.invokevirtual 359, 3) := by decide +kernel
theorem dX7_isBookBy_50 : decode cX7_isBookBy 50 = .ok (.bipush (-5), 2) := by decide +kernel
theorem dX7_isBookBy_52 : decode cX7_isBookBy 52 = .ok (.if_icmp .ne 7, 3) := by decide +kernel
theorem dX7_isBookBy_55 : decode cX7_isBookBy 55 = .ok (.iconst 1, 1) := by decide +kernel
theorem dX7_isBookBy_56 : decode cX7_isBookBy 56 = .ok (.goto 4, 3) := by decide +kernel
theorem dX7_isBookBy_59 : decode cX7_isBookBy 59 = .ok (.iconst 0, 1) := by decide +kernel
theorem dX7_isBookBy_60 : decode cX7_isBookBy 60 = .ok (.istore_n 3, 1) := by decide +kernel
theorem dX7_isBookBy_61 : decode cX7_isBookBy 61 = .ok (.aload_n 0, 1) := by decide +kernel
theorem dX7_isBookBy_62 : decode cX7_isBookBy 62 = .ok (.invokevirtual 347, 3) := by decide +kernel
theorem dX7_isBookBy_65 : decode cX7_isBookBy 65 = .ok (.iload_n 3, 1) := by decide +kernel
theorem dX7_isBookBy_66 : decode cX7_isBookBy 66 = .ok (.ireturn, 1) := by decide +kernel
theorem dX7_shaken_0 : decode cX7_shaken 0 = .ok (.aload_n 0, 1) := by decide +kernel
theorem dX7_shaken_1 : decode cX7_shaken 1 = .ok (.iload_n 1, 1) := by decide +kernel
theorem dX7_shaken_2 : decode cX7_shaken 2 = .ok (.iconst (-1), 1) := by decide +kernel
theorem dX7_shaken_3 : decode cX7_shaken 3 = .ok (.iconst 2, 1) := by decide +kernel
theorem dX7_shaken_4 : decode cX7_shaken 4 = .ok (.invokevirtual 221, 3) := by decide +kernel
theorem dX7_shaken_7 : decode cX7_shaken 7 = .ok (.ifCond .ne 5, 3) := by decide +kernel
theorem dX7_shaken_10 : decode cX7_shaken 10 = .ok (.iconst (-1), 1) := by decide +kernel
theorem dX7_shaken_11 : decode cX7_shaken 11 = .ok (.ireturn, 1) := by decide +kernel
theorem dX7_shaken_12 : decode cX7_shaken 12 = .ok (.aload_n 0, 1) := by decide +kernel
theorem dX7_shaken_13 : decode cX7_shaken 13 = .ok (.invokevirtual 362, 3) := by decide +kernel
theorem dX7_shaken_16 : decode cX7_shaken 16 = .ok (.iconst 1, 1) := by decide +kernel
theorem dX7_shaken_17 : decode cX7_shaken 17 = .ok (.istore_n 2, 1) := by decide +kernel
theorem dX7_shaken_18 : decode cX7_shaken 18 = .ok (.iconst 0, 1) := by decide +kernel
theorem dX7_shaken_19 : decode cX7_shaken 19 = .ok (.istore_n 3, 1) := by decide +kernel
theorem dX7_shaken_20 : decode cX7_shaken 20 = .ok (.iload_n 3, 1) := by decide +kernel
theorem dX7_shaken_21 : decode cX7_shaken 21 = .ok (.iconst 4, 1) := by decide +kernel
theorem dX7_shaken_22 : decode cX7_shaken 22 = .ok (.if_icmp .ge 91, 3) := by decide +kernel
theorem dX7_shaken_25 : decode cX7_shaken 25 = .ok (.iconst 0, 1) := by decide +kernel
theorem dX7_shaken_26 : decode cX7_shaken 26 = .ok (.istore 4, 2) := by decide +kernel
theorem dX7_shaken_28 : decode cX7_shaken 28 = .ok (.iload 4, 2) := by decide +kernel
theorem dX7_shaken_30 : decode cX7_shaken 30 = .ok (.iload_n 2, 1) := by decide +kernel
theorem dX7_shaken_31 : decode cX7_shaken 31 = .ok (.if_icmp .ge 69, 3) := by decide +kernel
theorem dX7_shaken_34 : decode cX7_shaken 34 = .ok (.aload_n 0, 1) := by decide +kernel
theorem dX7_shaken_35 : decode cX7_shaken 35 = .ok (.iload 4, 2) := by decide +kernel
theorem dX7_shaken_37 : decode cX7_shaken 37 = .ok (.iload_n 3, 1) := by decide +kernel
theorem dX7_shaken_38 : decode cX7_shaken 38 = .ok (.invokevirtual 365, 3) := by decide +kernel
theorem dX7_shaken_41 : decode cX7_shaken 41 = .ok (.ifCond .ne 6, 3) := by decide +kernel
theorem dX7_shaken_44 : decode cX7_shaken 44 = .ok (.goto 50, 3) := by decide +kernel
theorem dX7_shaken_47 : decode cX7_shaken 47 = .ok (.iload_n 1, 1) := by decide +kernel
theorem dX7_shaken_48 : decode cX7_shaken 48 = .ok (.ifCond .ge 5, 3) := by decide +kernel
theorem dX7_shaken_51 : decode cX7_shaken 51 = .ok (.iload_n 3, 1) := by decide +kernel
theorem dX7_shaken_52 : decode cX7_shaken 52 = .ok (.ireturn, 1) := by decide +kernel
theorem dX7_shaken_53 : decode cX7_shaken 53 = .ok (.iload_n 1, 1) := by decide +kernel
theorem dX7_shaken_54 : decode cX7_shaken 54 = .ok (.iload_n 3, 1) := by decide +kernel
theorem dX7_shaken_55 : decode cX7_shaken 55 = .ok (.if_icmp .ge 36, 3) := by decide +kernel
theorem dX7_shaken_58 : decode cX7_shaken 58 = .ok (.bipush 10, 2) := by decide +kernel
theorem dX7_shaken_60 : decode cX7_shaken 60 = .ok (.aload_n 0, 1) := by decide +kernel
theorem dX7_shaken_61 : decode cX7_shaken 61 = .ok (.getfield 111, 3) := by decide +kernel
theorem dX7_shaken_64 : decode cX7_shaken 64 = .ok (.aload_n 0, 1) := by decide +kernel
theorem dX7_shaken_65 : decode cX7_shaken 65 = .ok (.iload 4, 2) := by decide +kernel
theorem dX7_shaken_67 : decode cX7_shaken 67 = .ok (.iload_n 3, 1) := by decide +kernel
theorem dX7_shaken_68 : decode cX7_shaken 68 = .ok (.iload_n 1, 1) := by decide +kernel
theorem dX7_shaken_69 : decode cX7_shaken 69 = .ok (.invokevirtual 356, 3) := by decide +kernel
theorem dX7_shaken_72 : decode cX7_shaken 72 = .ok (.iaload, 1) := by decide +kernel
theorem dX7_shaken_73 : decode cX7_shaken 73 = .ok (.imul, 1) := by decide +kernel
theorem dX7_shaken_74 : decode cX7_shaken 74 = .ok (.aload_n 0, 1) := by decide +kernel
theorem dX7_shaken_75 : decode cX7_shaken 75 = .ok (.getfield 114, 3) := by decide +kernel
theorem dX7_shaken_78 : decode cX7_shaken 78 = .ok (.aload_n 0, 1) := by decide +kernel
theorem dX7_shaken_79 : decode cX7_shaken 79 = .ok (.iload 4, 2) := by decide +kernel
theorem dX7_shaken_81 : decode cX7_shaken 81 = .ok (.iload_n 3, 1) := by decide +kernel
theorem dX7_shaken_82 : decode cX7_shaken 82 = .ok (.iload_n 1, 1) := by decide +kernel
theorem dX7_shaken_83 : decode cX7_shaken 83 = .ok (.invokevirtual 356, 3) := by decide +kernel
theorem dX7_shaken_86 : decode cX7_shaken 86 = .ok (.iaload, 1) := by decide +kernel
theorem dX7_shaken_87 : decode cX7_shaken 87 = .ok (.iadd, 1) := by decide +kernel
theorem dX7_shaken_88 : decode cX7_shaken 88 = .ok (.goto 5, 3) := by decide +kernel
theorem dX7_shaken_91 : decode cX7_shaken 91 = .ok (.bipush (-5), 2) := by decide +kernel
theorem dX7_shaken_93 : decode cX7_shaken 93 = .ok (.ireturn, 1) := by decide +kernel
theorem dX7_shaken_94 : decode cX7_shaken 94 = .ok (.iinc 4 1, 3) := by decide +kernel
theorem dX7_shaken_97 : decode cX7_shaken 97 = .ok (.goto (-69), 3) := by decide +kernel
theorem dX7_shaken_100 : decode cX7_shaken 100 = .ok (.iload_n 2, 1) := by decide +kernel
theorem dX7_shaken_101 : decode cX7_shaken 101 = .ok (.aload_n 0, 1) := by decide +kernel
theorem dX7_shaken_102 : decode cX7_shaken 102 = .ok (.getfield 117, 3) := by decide +kernel
theorem dX7_shaken_105 : decode cX7_shaken 105 = .ok (.imul, 1) := by decide +kernel
theorem dX7_shaken_106 : decode cX7_shaken 106 = .ok (.istore_n 2, 1) := by decide +kernel
theorem dX7_shaken_107 : decode cX7_shaken 107 = .ok (.iinc 3 1, 3) := by decide +kernel
theorem dX7_shaken_110 : decode cX7_shaken 110 = .ok (.goto (-90), 3) := by decide +kernel
theorem dX7_shaken_113 : decode cX7_shaken 113 = .ok (.bipush (-5), 2) := by decide +kernel
theorem dX7_shaken_115 : decode cX7_shaken 115 = .ok (.ireturn, 1) := by decide +kernel
theorem dX7_see_0 : decode cX7_see 0 = .ok (.iload_n 1, 1) := by decide +kernel
theorem dX7_see_1 : decode cX7_see 1 = .ok (.iconst (-1), 1) := by decide +kernel
theorem dX7_see_2 : decode cX7_see 2 = .ok (.if_icmp .ne 10, 3) := by decide +kernel
theorem dX7_see_5 : decode cX7_see 5 = .ok (.aload_n 0, 1) := by decide +kernel
theorem dX7_see_6 : decode cX7_see 6 = .ok (.iconst 0, 1) := by decide +kernel
theorem dX7_see_7 : decode cX7_see 7 = .ok (.putfield 120, 3) := by decide +kernel
theorem dX7_see_10 : decode cX7_see 10 = .ok (.iconst 0, 1) := by decide +kernel
theorem dX7_see_11 : decode cX7_see 11 = .ok (.ireturn, 1) := by decide +kernel
theorem dX7_see_12 : decode cX7_see 12 = .ok (.aload_n 0, 1) := by decide +kernel
theorem dX7_see_13 : decode cX7_see 13 = .ok (.iload_n 1, 1) := by decide +kernel
theorem dX7_see_14 : decode cX7_see 14 = .ok (.invokevirtual 229, 3) := by decide +kernel
theorem dX7_see_17 : decode cX7_see 17 = .ok (.ifCond .eq 11, 3) := by decide +kernel
theorem dX7_see_20 : decode cX7_see 20 = .ok (.aload_n 0, 1) := by decide +kernel
theorem dX7_see_21 : decode cX7_see 21 = .ok (.iload_n 2, 1) := by decide +kernel
theorem dX7_see_22 : decode cX7_see 22 = .ok (.invokevirtual 232, 3) := by decide +kernel
theorem dX7_see_25 : decode cX7_see 25 = .ok (.ifCond .ne 5, 3) := by decide +kernel
theorem dX7_see_28 : decode cX7_see 28 = .ok (.iconst (-1), 1) := by decide +kernel
theorem dX7_see_29 : decode cX7_see 29 = .ok (.ireturn, 1) := by decide +kernel
theorem dX7_see_30 : decode cX7_see 30 = .ok (.aload_n 0, 1) := by decide +kernel
theorem dX7_see_31 : decode cX7_see 31 = .ok (.iload_n 3, 1) := by decide +kernel
theorem dX7_see_32 : decode cX7_see 32 = .ok (.invokevirtual 225, 3) := by decide +kernel
theorem dX7_see_35 : decode cX7_see 35 = .ok (.ifCond .eq 15, 3) := by decide +kernel
theorem dX7_see_38 : decode cX7_see 38 = .ok (.aload_n 0, 1) := by decide +kernel
theorem dX7_see_39 : decode cX7_see 39 = .ok (.iload 4, 2) := by decide +kernel
theorem dX7_see_41 : decode cX7_see 41 = .ok (.iconst 0, 1) := by decide +kernel
theorem dX7_see_42 : decode cX7_see 42 = .ok (.bipush 20, 2) := by decide +kernel
theorem dX7_see_44 : decode cX7_see 44 = .ok (.invokevirtual 221, 3) := by decide +kernel
theorem dX7_see_47 : decode cX7_see 47 = .ok (.ifCond .ne 6, 3) := by decide +kernel
theorem dX7_see_50 : decode cX7_see 50 = .ok (.bipush (-2), 2) := by decide +kernel
theorem dX7_see_52 : decode cX7_see 52 = .ok (.ireturn, 1) := by decide +kernel
theorem dX7_see_53 : decode cX7_see 53 = .ok (.aload_n 0, 1) := by decide +kernel
theorem dX7_see_54 : decode cX7_see 54 = .ok (.getfield 120, 3) := by decide +kernel
theorem dX7_see_57 : decode cX7_see 57 = .ok (.iconst 5, 1) := by decide +kernel
theorem dX7_see_58 : decode cX7_see 58 = .ok (.if_icmp .ne 6, 3) := by decide +kernel
theorem dX7_see_61 : decode cX7_see 61 = .ok (.bipush (-4), 2) := by decide +kernel
theorem dX7_see_63 : decode cX7_see 63 = .ok (.ireturn, 1) := by decide +kernel
theorem dX7_see_64 : decode cX7_see 64 = .ok (.aload_n 0, 1) := by decide +kernel
theorem dX7_see_65 : decode cX7_see 65 = .ok (.getfield 123, 3) := by decide +kernel
theorem dX7_see_68 : decode cX7_see 68 = .ok (.aload_n 0, 1) := by decide +kernel
theorem dX7_see_69 : decode cX7_see 69 = .ok (.getfield 120, 3) := by decide +kernel
theorem dX7_see_72 : decode cX7_see 72 = .ok (.iconst 3, 1) := by decide +kernel
theorem dX7_see_73 : decode cX7_see 73 = .ok (.iload_n 1, 1) := by decide +kernel
theorem dX7_see_74 : decode cX7_see 74 = .ok (.imul, 1) := by decide +kernel
theorem dX7_see_75 : decode cX7_see 75 = .ok (.iload_n 2, 1) := by decide +kernel
theorem dX7_see_76 : decode cX7_see 76 = .ok (.iadd, 1) := by decide +kernel
theorem dX7_see_77 : decode cX7_see 77 = .ok (.iastore, 1) := by decide +kernel
theorem dX7_see_78 : decode cX7_see 78 = .ok (.aload_n 0, 1) := by decide +kernel
theorem dX7_see_79 : decode cX7_see 79 = .ok (.getfield 126, 3) := by decide +kernel
theorem dX7_see_82 : decode cX7_see 82 = .ok (.aload_n 0, 1) := by decide +kernel
theorem dX7_see_83 : decode cX7_see 83 = .ok (.getfield 120, 3) := by decide +kernel
theorem dX7_see_86 : decode cX7_see 86 = .ok (.iload_n 3, 1) := by decide +kernel
theorem dX7_see_87 : decode cX7_see 87 = .ok (.iastore, 1) := by decide +kernel
theorem dX7_see_88 : decode cX7_see 88 = .ok (.aload_n 0, 1) := by decide +kernel
theorem dX7_see_89 : decode cX7_see 89 = .ok (.getfield 129, 3) := by decide +kernel
theorem dX7_see_92 : decode cX7_see 92 = .ok (.aload_n 0, 1) := by decide +kernel
theorem dX7_see_93 : decode cX7_see 93 = .ok (.getfield 120, 3) := by decide +kernel
theorem dX7_see_96 : decode cX7_see 96 = .ok (.iload 4, 2) := by decide +kernel
theorem dX7_see_98 : decode cX7_see 98 = .ok (.iastore, 1) := by decide +kernel
theorem dX7_see_99 : decode cX7_see 99 = .ok (.aload_n 0, 1) := by decide +kernel
theorem dX7_see_100 : decode cX7_see 100 = .ok (.dup, 1) := by decide +kernel
theorem dX7_see_101 : decode cX7_see 101 = .ok (.getfield 120, 3) := by decide +kernel
theorem dX7_see_104 : decode cX7_see 104 = .ok (.iconst 1, 1) := by decide +kernel
theorem dX7_see_105 : decode cX7_see 105 = .ok (.iadd, 1) := by decide +kernel
theorem dX7_see_106 : decode cX7_see 106 = .ok (.putfield 120, 3) := by decide +kernel
theorem dX7_see_109 : decode cX7_see 109 = .ok (.aload_n 0, 1) := by decide +kernel
theorem dX7_see_110 : decode cX7_see 110 = .ok (.getfield 120, 3) := by decide +kernel
theorem dX7_see_113 : decode cX7_see 113 = .ok (.ireturn, 1) := by decide +kernel
theorem dX7_isSeen_0 : decode cX7_isSeen 0 = .ok (.iconst 1, 1) := by decide +kernel
theorem dX7_isSeen_1 : decode cX7_isSeen 1 = .ok (.istore_n 1, 1) := by decide +kernel
theorem dX7_isSeen_2 : decode cX7_isSeen 2 = .ok (.iconst 0, 1) := by decide +kernel
theorem dX7_isSeen_3 : decode cX7_isSeen 3 = .ok (.istore_n 2, 1) := by decide +kernel
theorem dX7_isSeen_4 : decode cX7_isSeen 4 = .ok (.iload_n 2, 1) := by decide +kernel
theorem dX7_isSeen_5 : decode cX7_isSeen 5 = .ok (.aload_n 0, 1) := by decide +kernel
theorem dX7_isSeen_6 : decode cX7_isSeen 6 = .ok (.getfield 120, 3) := by decide +kernel
theorem dX7_isSeen_9 : decode cX7_isSeen 9 = .ok (.if_icmp .ge 57, 3) := by decide +kernel
theorem dX7_isSeen_12 : decode cX7_isSeen 12 = .ok (.iload_n 1, 1) := by decide +kernel
theorem dX7_isSeen_13 : decode cX7_isSeen 13 = .ok (.ifCond .eq 53, 3) := by decide +kernel
theorem dX7_isSeen_16 : decode cX7_isSeen 16 = .ok (.aload_n 0, 1) := by decide +kernel
theorem dX7_isSeen_17 : decode cX7_isSeen 17 = .ok (.invokevirtual 344, 3) := by decide +kernel
theorem dX7_isSeen_20 : decode cX7_isSeen 20 = .ok (.aload_n 0, 1) := by decide +kernel
theorem dX7_isSeen_21 : decode cX7_isSeen 21 = .ok (.aload_n 0, 1) := by decide +kernel
theorem dX7_isSeen_22 : decode cX7_isSeen 22 = .ok (.getfield 129, 3) := by decide +kernel
theorem dX7_isSeen_25 : decode cX7_isSeen 25 = .ok (.iload_n 2, 1) := by decide +kernel
theorem dX7_isSeen_26 : decode cX7_isSeen 26 = .ok (.iaload, 1) := by decide +kernel
theorem dX7_isSeen_27 : decode cX7_isSeen 27 = .ok (.invokevirtual 341, 3) := by decide +kernel
theorem dX7_isSeen_30 : decode cX7_isSeen 30 = .ok (.aload_n 0, 1) := by decide +kernel
theorem dX7_isSeen_31 : decode cX7_isSeen 31 = .ok (.getfield 29, 3) := by decide +kernel
theorem dX7_isSeen_34 : decode cX7_isSeen 34 = .ok (.aload_n 0, 1) := by decide +kernel
theorem dX7_isSeen_35 : decode cX7_isSeen 35 = .ok (.getfield 123, 3) := by decide +kernel
theorem dX7_isSeen_38 : decode cX7_isSeen 38 = .ok (.iload_n 2, 1) := by decide +kernel
theorem dX7_isSeen_39 : decode cX7_isSeen 39 = .ok (.iaload, 1) := by decide +kernel
theorem dX7_isSeen_40 : decode cX7_isSeen 40 = .ok (.iaload, 1) := by decide +kernel
theorem dX7_isSeen_41 : decode cX7_isSeen 41 = .ok (.aload_n 0, 1) := by decide +kernel
theorem dX7_isSeen_42 : decode cX7_isSeen 42 = .ok (.getfield 126, 3) := by decide +kernel
theorem dX7_isSeen_45 : decode cX7_isSeen 45 = .ok (.iload_n 2, 1) := by decide +kernel
theorem dX7_isSeen_46 : decode cX7_isSeen 46 = .ok (.iaload, 1) := by decide +kernel
theorem dX7_isSeen_47 : decode cX7_isSeen 47 = .ok (.if_icmp .ne 7, 3) := by decide +kernel
theorem dX7_isSeen_50 : decode cX7_isSeen 50 = .ok (.iconst 1, 1) := by decide +kernel
theorem dX7_isSeen_51 : decode cX7_isSeen 51 = .ok (.goto 4, 3) := by decide +kernel
theorem dX7_isSeen_54 : decode cX7_isSeen 54 = .ok (.iconst 0, 1) := by decide +kernel
theorem dX7_isSeen_55 : decode cX7_isSeen 55 = .ok (.istore_n 1, 1) := by decide +kernel
theorem dX7_isSeen_56 : decode cX7_isSeen 56 = .ok (.aload_n 0, 1) := by decide +kernel
theorem dX7_isSeen_57 : decode cX7_isSeen 57 = .ok (.invokevirtual 347, 3) := by decide +kernel
theorem dX7_isSeen_60 : decode cX7_isSeen 60 = .ok (.iinc 2 1, 3) := by decide +kernel
theorem dX7_isSeen_63 : decode cX7_isSeen 63 = .ok (.goto (-59), 3) := by decide +kernel
theorem dX7_isSeen_66 : decode cX7_isSeen 66 = .ok (.iload_n 1, 1) := by decide +kernel
theorem dX7_isSeen_67 : decode cX7_isSeen 67 = .ok (.ireturn, 1) := by decide +kernel
theorem dX7_was_0 : decode cX7_was 0 = .ok (.aload_n 0, 1) := by decide +kernel
theorem dX7_was_1 : decode cX7_was 1 = .ok (.iload_n 1, 1) := by decide +kernel
theorem dX7_was_2 : decode cX7_was 2 = .ok (.invokevirtual 229, 3) := by decide +kernel
theorem dX7_was_5 : decode cX7_was 5 = .ok (.ifCond .eq 21, 3) := by decide +kernel
theorem dX7_was_8 : decode cX7_was 8 = .ok (.aload_n 0, 1) := by decide +kernel
theorem dX7_was_9 : decode cX7_was 9 = .ok (.iload_n 2, 1) := by decide +kernel
theorem dX7_was_10 : decode cX7_was 10 = .ok (.invokevirtual 232, 3) := by decide +kernel
theorem dX7_was_13 : decode cX7_was 13 = .ok (.ifCond .eq 13, 3) := by decide +kernel
theorem dX7_was_16 : decode cX7_was 16 = .ok (.aload_n 0, 1) := by decide +kernel
theorem dX7_was_17 : decode cX7_was 17 = .ok (.iload_n 3, 1) := by decide +kernel
theorem dX7_was_18 : decode cX7_was 18 = .ok (.iconst 0, 1) := by decide +kernel
theorem dX7_was_19 : decode cX7_was 19 = .ok (.iconst 1, 1) := by decide +kernel
theorem dX7_was_20 : decode cX7_was 20 = .ok (.invokevirtual 221, 3) := by decide +kernel
theorem dX7_was_23 : decode cX7_was 23 = .ok (.ifCond .ne 5, 3) := by decide +kernel
theorem dX7_was_26 : decode cX7_was 26 = .ok (.iconst (-1), 1) := by decide +kernel
theorem dX7_was_27 : decode cX7_was 27 = .ok (.ireturn, 1) := by decide +kernel
theorem dX7_was_28 : decode cX7_was 28 = .ok (.aload_n 0, 1) := by decide +kernel
theorem dX7_was_29 : decode cX7_was 29 = .ok (.getfield 29, 3) := by decide +kernel
theorem dX7_was_32 : decode cX7_was 32 = .ok (.iconst 3, 1) := by decide +kernel
theorem dX7_was_33 : decode cX7_was 33 = .ok (.iload_n 1, 1) := by decide +kernel
theorem dX7_was_34 : decode cX7_was 34 = .ok (.imul, 1) := by decide +kernel
theorem dX7_was_35 : decode cX7_was 35 = .ok (.iload_n 2, 1) := by decide +kernel
theorem dX7_was_36 : decode cX7_was 36 = .ok (.iadd, 1) := by decide +kernel
theorem dX7_was_37 : decode cX7_was 37 = .ok (.iaload, 1) := by decide +kernel
theorem dX7_was_38 : decode cX7_was 38 = .ok (.istore 4, 2) := by decide +kernel
theorem dX7_was_40 : decode cX7_was 40 = .ok (.iconst 0, 1) := by decide +kernel
theorem dX7_was_41 : decode cX7_was 41 = .ok (.istore 5, 2) := by decide +kernel
theorem dX7_was_43 : decode cX7_was 43 = .ok (.bipush (-5), 2) := by decide +kernel
theorem dX7_was_45 : decode cX7_was 45 = .ok (.istore 6, 2) := by decide +kernel
theorem dX7_was_47 : decode cX7_was 47 = .ok (.bipush 60, 2) := by decide +kernel
theorem dX7_was_49 : decode cX7_was 49 = .ok (.istore 7, 2) := by decide +kernel
theorem dX7_was_51 : decode cX7_was 51 = .ok (.iload 7, 2) := by decide +kernel
theorem dX7_was_53 : decode cX7_was 53 = .ok (.ifCond .lt 38, 3) := by decide +kernel
theorem dX7_was_56 : decode cX7_was 56 = .ok (.aload_n 0, 1) := by decide +kernel
theorem dX7_was_57 : decode cX7_was 57 = .ok (.getfield 29, 3) := by decide +kernel
theorem dX7_was_60 : decode cX7_was 60 = .ok (.iconst 3, 1) := by decide +kernel
theorem dX7_was_61 : decode cX7_was 61 = .ok (.iload_n 1, 1) := by decide +kernel
theorem dX7_was_62 : decode cX7_was 62 = .ok (.imul, 1) := by decide +kernel
theorem dX7_was_63 : decode cX7_was 63 = .ok (.iload_n 2, 1) := by decide +kernel
theorem dX7_was_64 : decode cX7_was 64 = .ok (.iadd, 1) := by decide +kernel
theorem dX7_was_65 : decode cX7_was 65 = .ok (.iload 7, 2) := by decide +kernel
theorem dX7_was_67 : decode cX7_was 67 = .ok (.iastore, 1) := by decide +kernel
theorem dX7_was_68 : decode cX7_was 68 = .ok (.aload_n 0, 1) := by decide +kernel
theorem dX7_was_69 : decode cX7_was 69 = .ok (.invokevirtual 368, 3) := by decide +kernel
theorem dX7_was_72 : decode cX7_was 72 = .ok (.ifCond .ne 6, 3) := by decide +kernel
theorem dX7_was_75 : decode cX7_was 75 = .ok (.goto 10, 3) := by decide +kernel
theorem dX7_was_78 : decode cX7_was 78 = .ok (.iinc 5 1, 3) := by decide +kernel
theorem dX7_was_81 : decode cX7_was 81 = .ok (.iload 7, 2) := by decide +kernel
theorem dX7_was_83 : decode cX7_was 83 = .ok (.istore 6, 2) := by decide +kernel
theorem dX7_was_85 : decode cX7_was 85 = .ok (.iinc 7 (-1), 3) := by decide +kernel
theorem dX7_was_88 : decode cX7_was 88 = .ok (.goto (-37), 3) := by decide +kernel
theorem dX7_was_91 : decode cX7_was 91 = .ok (.aload_n 0, 1) := by decide +kernel
theorem dX7_was_92 : decode cX7_was 92 = .ok (.getfield 29, 3) := by decide +kernel
theorem dX7_was_95 : decode cX7_was 95 = .ok (.iconst 3, 1) := by decide +kernel
theorem dX7_was_96 : decode cX7_was 96 = .ok (.iload_n 1, 1) := by decide +kernel
theorem dX7_was_97 : decode cX7_was 97 = .ok (.imul, 1) := by decide +kernel
theorem dX7_was_98 : decode cX7_was 98 = .ok (.iload_n 2, 1) := by decide +kernel
theorem dX7_was_99 : decode cX7_was 99 = .ok (.iadd, 1) := by decide +kernel
theorem dX7_was_100 : decode cX7_was 100 = .ok (.iload 4, 2) := by decide +kernel
theorem dX7_was_102 : decode cX7_was 102 = .ok (.iastore, 1) := by decide +kernel
theorem dX7_was_103 : decode cX7_was 103 = .ok (.iload_n 3, 1) := by decide +kernel
theorem dX7_was_104 : decode cX7_was 104 = .ok (.ifCond .ne 8, 3) := by decide +kernel
theorem dX7_was_107 : decode cX7_was 107 = .ok (.iload 5, 2) := by decide +kernel
theorem dX7_was_109 : decode cX7_was 109 = .ok (.goto 5, 3) := by decide +kernel
theorem dX7_was_112 : decode cX7_was 112 = .ok (.iload 6, 2) := by decide +kernel
theorem dX7_was_114 : decode cX7_was 114 = .ok (.ireturn, 1) := by decide +kernel
theorem dX7_can_0 : decode cX7_can 0 = .ok (.aload_n 0, 1) := by decide +kernel
theorem dX7_can_1 : decode cX7_can 1 = .ok (.iload_n 1, 1) := by decide +kernel
theorem dX7_can_2 : decode cX7_can 2 = .ok (.invokevirtual 229, 3) := by decide +kernel
theorem dX7_can_5 : decode cX7_can 5 = .ok (.ifCond .eq 13, 3) := by decide +kernel
theorem dX7_can_8 : decode cX7_can 8 = .ok (.aload_n 0, 1) := by decide +kernel
theorem dX7_can_9 : decode cX7_can 9 = .ok (.iload_n 2, 1) := by decide +kernel
theorem dX7_can_10 : decode cX7_can 10 = .ok (.iconst 0, 1) := by decide +kernel
theorem dX7_can_11 : decode cX7_can 11 = .ok (.iconst 1, 1) := by decide +kernel
theorem dX7_can_12 : decode cX7_can 12 = .ok (.invokevirtual 221, 3) := by decide +kernel
theorem dX7_can_15 : decode cX7_can 15 = .ok (.ifCond .ne 5, 3) := by decide +kernel
theorem dX7_can_18 : decode cX7_can 18 = .ok (.iconst (-1), 1) := by decide +kernel
theorem dX7_can_19 : decode cX7_can 19 = .ok (.ireturn, 1) := by decide +kernel
theorem dX7_can_20 : decode cX7_can 20 = .ok (.aload_n 0, 1) := by decide +kernel
theorem dX7_can_21 : decode cX7_can 21 = .ok (.getfield 23, 3) := by decide +kernel
theorem dX7_can_24 : decode cX7_can 24 = .ok (.iload_n 1, 1) := by decide +kernel
theorem dX7_can_25 : decode cX7_can 25 = .ok (.iaload, 1) := by decide +kernel
theorem dX7_can_26 : decode cX7_can 26 = .ok (.istore_n 3, 1) := by decide +kernel
theorem dX7_can_27 : decode cX7_can 27 = .ok (.iconst 0, 1) := by decide +kernel
theorem dX7_can_28 : decode cX7_can 28 = .ok (.istore 4, 2) := by decide +kernel
theorem dX7_can_30 : decode cX7_can 30 = .ok (.bipush (-5), 2) := by decide +kernel
theorem dX7_can_32 : decode cX7_can 32 = .ok (.istore 5, 2) := by decide +kernel
theorem dX7_can_34 : decode cX7_can 34 = .ok (.bipush 9, 2) := by decide +kernel
theorem dX7_can_36 : decode cX7_can 36 = .ok (.istore 6, 2) := by decide +kernel
theorem dX7_can_38 : decode cX7_can 38 = .ok (.iload 6, 2) := by decide +kernel
theorem dX7_can_40 : decode cX7_can 40 = .ok (.ifCond .lt 34, 3) := by decide +kernel
theorem dX7_can_43 : decode cX7_can 43 = .ok (.aload_n 0, 1) := by decide +kernel
theorem dX7_can_44 : decode cX7_can 44 = .ok (.getfield 23, 3) := by decide +kernel
theorem dX7_can_47 : decode cX7_can 47 = .ok (.iload_n 1, 1) := by decide +kernel
theorem dX7_can_48 : decode cX7_can 48 = .ok (.iload 6, 2) := by decide +kernel
theorem dX7_can_50 : decode cX7_can 50 = .ok (.iastore, 1) := by decide +kernel
theorem dX7_can_51 : decode cX7_can 51 = .ok (.aload_n 0, 1) := by decide +kernel
theorem dX7_can_52 : decode cX7_can 52 = .ok (.invokevirtual 368, 3) := by decide +kernel
theorem dX7_can_55 : decode cX7_can 55 = .ok (.ifCond .ne 6, 3) := by decide +kernel
theorem dX7_can_58 : decode cX7_can 58 = .ok (.goto 10, 3) := by decide +kernel
theorem dX7_can_61 : decode cX7_can 61 = .ok (.iinc 4 1, 3) := by decide +kernel
theorem dX7_can_64 : decode cX7_can 64 = .ok (.iload 6, 2) := by decide +kernel
theorem dX7_can_66 : decode cX7_can 66 = .ok (.istore 5, 2) := by decide +kernel
theorem dX7_can_68 : decode cX7_can 68 = .ok (.iinc 6 (-1), 3) := by decide +kernel
theorem dX7_can_71 : decode cX7_can 71 = .ok (.goto (-33), 3) := by decide +kernel
theorem dX7_can_74 : decode cX7_can 74 = .ok (.aload_n 0, 1) := by decide +kernel
theorem dX7_can_75 : decode cX7_can 75 = .ok (.getfield 23, 3) := by decide +kernel
theorem dX7_can_78 : decode cX7_can 78 = .ok (.iload_n 1, 1) := by decide +kernel
theorem dX7_can_79 : decode cX7_can 79 = .ok (.iload_n 3, 1) := by decide +kernel
theorem dX7_can_80 : decode cX7_can 80 = .ok (.iastore, 1) := by decide +kernel
theorem dX7_can_81 : decode cX7_can 81 = .ok (.iload_n 2, 1) := by decide +kernel
theorem dX7_can_82 : decode cX7_can 82 = .ok (.ifCond .ne 8, 3) := by decide +kernel
theorem dX7_can_85 : decode cX7_can 85 = .ok (.iload 4, 2) := by decide +kernel
theorem dX7_can_87 : decode cX7_can 87 = .ok (.goto 5, 3) := by decide +kernel
theorem dX7_can_90 : decode cX7_can 90 = .ok (.iload 5, 2) := by decide +kernel
theorem dX7_can_92 : decode cX7_can 92 = .ok (.ireturn, 1) := by decide +kernel
theorem dX7_divisor_0 : decode cX7_divisor 0 = .ok (.iload_n 1, 1) := by decide +kernel
theorem dX7_divisor_1 : decode cX7_divisor 1 = .ok (.istore_n 3, 1) := by decide +kernel
theorem dX7_divisor_2 : decode cX7_divisor 2 = .ok (.iload_n 2, 1) := by decide +kernel
theorem dX7_divisor_3 : decode cX7_divisor 3 = .ok (.istore 4, 2) := by decide +kernel
theorem dX7_divisor_5 : decode cX7_divisor 5 = .ok (.iload 4, 2) := by decide +kernel
theorem dX7_divisor_7 : decode cX7_divisor 7 = .ok (.ifCond .eq 19, 3) := by decide +kernel
theorem dX7_divisor_10 : decode cX7_divisor 10 = .ok (.iload_n 3, 1) := by decide +kernel
theorem dX7_divisor_11 : decode cX7_divisor 11 = .ok (.iload 4, 2) := by decide +kernel
theorem dX7_divisor_13 : decode cX7_divisor 13 = .ok (.irem, 1) := by decide +kernel
theorem dX7_divisor_14 : decode cX7_divisor 14 = .ok (.istore 5, 2) := by decide +kernel
theorem dX7_divisor_16 : decode cX7_divisor 16 = .ok (.iload 4, 2) := by decide +kernel
theorem dX7_divisor_18 : decode cX7_divisor 18 = .ok (.istore_n 3, 1) := by decide +kernel
theorem dX7_divisor_19 : decode cX7_divisor 19 = .ok (.iload 5, 2) := by decide +kernel
theorem dX7_divisor_21 : decode cX7_divisor 21 = .ok (.istore 4, 2) := by decide +kernel
theorem dX7_divisor_23 : decode cX7_divisor 23 = .ok (.goto (-18), 3) := by decide +kernel
theorem dX7_divisor_26 : decode cX7_divisor 26 = .ok (.iload_n 3, 1) := by decide +kernel
theorem dX7_divisor_27 : decode cX7_divisor 27 = .ok (.ireturn, 1) := by decide +kernel
theorem dX7_lowest_0 : decode cX7_lowest 0 = .ok (.aload_n 0, 1) := by decide +kernel
theorem dX7_lowest_1 : decode cX7_lowest 1 = .ok (.iload_n 1, 1) := by decide +kernel
theorem dX7_lowest_2 : decode cX7_lowest 2 = .ok (.iload_n 2, 1) := by decide +kernel
theorem dX7_lowest_3 : decode cX7_lowest 3 = .ok (.invokevirtual 371, 3) := by decide +kernel
theorem dX7_lowest_6 : decode cX7_lowest 6 = .ok (.istore 4, 2) := by decide +kernel
theorem dX7_lowest_8 : decode cX7_lowest 8 = .ok (.iload_n 3, 1) := by decide +kernel
theorem dX7_lowest_9 : decode cX7_lowest 9 = .ok (.ifCond .ne 11, 3) := by decide +kernel
theorem dX7_lowest_12 : decode cX7_lowest 12 = .ok (.iload_n 1, 1) := by decide +kernel
theorem dX7_lowest_13 : decode cX7_lowest 13 = .ok (.iload 4, 2) := by decide +kernel
theorem dX7_lowest_15 : decode cX7_lowest 15 = .ok (.idiv, 1) := by decide +kernel
theorem dX7_lowest_16 : decode cX7_lowest 16 = .ok (.i2l, 1) := by decide +kernel
theorem dX7_lowest_17 : decode cX7_lowest 17 = .ok (.goto 8, 3) := by decide +kernel
theorem dX7_lowest_20 : decode cX7_lowest 20 = .ok (.iload_n 2, 1) := by decide +kernel
theorem dX7_lowest_21 : decode cX7_lowest 21 = .ok (.iload 4, 2) := by decide +kernel
theorem dX7_lowest_23 : decode cX7_lowest 23 = .ok (.idiv, 1) := by decide +kernel
theorem dX7_lowest_24 : decode cX7_lowest 24 = .ok (.i2l, 1) := by decide +kernel
theorem dX7_lowest_25 : decode cX7_lowest 25 = .ok (.lreturn, 1) := by decide +kernel
theorem dX7_odds_0 : decode cX7_odds 0 = .ok (.aload_n 0, 1) := by decide +kernel
theorem dX7_odds_1 : decode cX7_odds 1 = .ok (.iload_n 1, 1) := by decide +kernel
theorem dX7_odds_2 : decode cX7_odds 2 = .ok (.invokevirtual 350, 3) := by decide +kernel
theorem dX7_odds_5 : decode cX7_odds 5 = .ok (.ifCond .eq 21, 3) := by decide +kernel
theorem dX7_odds_8 : decode cX7_odds 8 = .ok (.aload_n 0, 1) := by decide +kernel
theorem dX7_odds_9 : decode cX7_odds 9 = .ok (.iload_n 2, 1) := by decide +kernel
theorem dX7_odds_10 : decode cX7_odds 10 = .ok (.iconst 0, 1) := by decide +kernel
theorem dX7_odds_11 : decode cX7_odds 11 = .ok (.iconst 1, 1) := by decide +kernel
theorem dX7_odds_12 : decode cX7_odds 12 = .ok (.invokevirtual 221, 3) := by decide +kernel
theorem dX7_odds_15 : decode cX7_odds 15 = .ok (.ifCond .eq 11, 3) := by decide +kernel
theorem dX7_odds_18 : decode cX7_odds 18 = .ok (.aload_n 0, 1) := by decide +kernel
theorem dX7_odds_19 : decode cX7_odds 19 = .ok (.getfield 7, 3) := by decide +kernel
theorem dX7_odds_22 : decode cX7_odds 22 = .ok (.iconst 2, 1) := by decide +kernel
theorem dX7_odds_23 : decode cX7_odds 23 = .ok (.if_icmp .ge 7, 3) := by decide +kernel
theorem dX7_odds_26 : decode cX7_odds 26 = .ok (.ldc2_w 374, 3) := by decide +kernel
theorem dX7_odds_29 : decode cX7_odds 29 = .ok (.lreturn, 1) := by decide +kernel
theorem dX7_odds_30 : decode cX7_odds 30 = .ok (.aload_n 0, 1) := by decide +kernel
theorem dX7_odds_31 : decode cX7_odds 31 = .ok (.invokevirtual 362, 3) := by decide +kernel
theorem dX7_odds_34 : decode cX7_odds 34 = .ok (.iconst 0, 1) := by decide +kernel
theorem dX7_odds_35 : decode cX7_odds 35 = .ok (.istore_n 3, 1) := by decide +kernel
theorem dX7_odds_36 : decode cX7_odds 36 = .ok (.iconst 0, 1) := by decide +kernel
theorem dX7_odds_37 : decode cX7_odds 37 = .ok (.istore 4, 2) := by decide +kernel
theorem dX7_odds_39 : decode cX7_odds 39 = .ok (.iload 4, 2) := by decide +kernel
theorem dX7_odds_41 : decode cX7_odds 41 = .ok (.aload_n 0, 1) := by decide +kernel
theorem dX7_odds_42 : decode cX7_odds 42 = .ok (.getfield 117, 3) := by decide +kernel
theorem dX7_odds_45 : decode cX7_odds 45 = .ok (.if_icmp .ge 39, 3) := by decide +kernel
theorem dX7_odds_48 : decode cX7_odds 48 = .ok (.iload_n 3, 1) := by decide +kernel
theorem dX7_odds_49 : decode cX7_odds 49 = .ok (.aload_n 0, 1) := by decide +kernel
theorem dX7_odds_50 : decode cX7_odds 50 = .ok (.aload_n 0, 1) := by decide +kernel
theorem dX7_odds_51 : decode cX7_odds 51 = .ok (.getfield 111, 3) := by decide +kernel
theorem dX7_odds_54 : decode cX7_odds 54 = .ok (.iload 4, 2) := by decide +kernel
theorem dX7_odds_56 : decode cX7_odds 56 = .ok (.iaload, 1) := by decide +kernel
theorem dX7_odds_57 : decode cX7_odds 57 = .ok (.aload_n 0, 1) := by decide +kernel
theorem dX7_odds_58 : decode cX7_odds 58 = .ok (.getfield 114, 3) := by decide +kernel
theorem dX7_odds_61 : decode cX7_odds 61 = .ok (.iload 4, 2) := by decide +kernel
theorem dX7_odds_63 : decode cX7_odds 63 = .ok (.iaload, 1) := by decide +kernel
theorem dX7_odds_64 : decode cX7_odds 64 = .ok (.invokevirtual 353, 3) := by decide +kernel
theorem dX7_odds_67 : decode cX7_odds 67 = .ok (.iload_n 1, 1) := by decide +kernel
theorem dX7_odds_68 : decode cX7_odds 68 = .ok (.if_icmp .lt 7, 3) := by decide +kernel
theorem dX7_odds_71 : decode cX7_odds 71 = .ok (.iconst 1, 1) := by decide +kernel
theorem dX7_odds_72 : decode cX7_odds 72 = .ok (.goto 4, 3) := by decide +kernel
theorem dX7_odds_75 : decode cX7_odds 75 = .ok (.iconst 0, 1) := by decide +kernel
theorem dX7_odds_76 : decode cX7_odds 76 = .ok (.iadd, 1) := by decide +kernel
theorem dX7_odds_77 : decode cX7_odds 77 = .ok (.istore_n 3, 1) := by decide +kernel
theorem dX7_odds_78 : decode cX7_odds 78 = .ok (.iinc 4 1, 3) := by decide +kernel
theorem dX7_odds_81 : decode cX7_odds 81 = .ok (.goto (-42), 3) := by decide +kernel
theorem dX7_odds_84 : decode cX7_odds 84 = .ok (.aload_n 0, 1) := by decide +kernel
theorem dX7_odds_85 : decode cX7_odds 85 = .ok (.iload_n 3, 1) := by decide +kernel
theorem dX7_odds_86 : decode cX7_odds 86 = .ok (.aload_n 0, 1) := by decide +kernel
theorem dX7_odds_87 : decode cX7_odds 87 = .ok (.getfield 117, 3) := by decide +kernel
theorem dX7_odds_90 : decode cX7_odds 90 = .ok (.iload_n 2, 1) := by decide +kernel
theorem dX7_odds_91 : decode cX7_odds 91 = .ok (.invokevirtual 376, 3) := by decide +kernel
theorem dX7_odds_94 : decode cX7_odds 94 = .ok (.lreturn, 1) := by decide +kernel
theorem dX7_mean_0 : decode cX7_mean 0 = .ok (.aload_n 0, 1) := by decide +kernel
theorem dX7_mean_1 : decode cX7_mean 1 = .ok (.iload_n 1, 1) := by decide +kernel
theorem dX7_mean_2 : decode cX7_mean 2 = .ok (.iconst 0, 1) := by decide +kernel
theorem dX7_mean_3 : decode cX7_mean 3 = .ok (.bipush 60, 2) := by decide +kernel
theorem dX7_mean_5 : decode cX7_mean 5 = .ok (.invokevirtual 221, 3) := by decide +kernel
theorem dX7_mean_8 : decode cX7_mean 8 = .ok (.ifCond .eq 38, 3) := by decide +kernel
theorem dX7_mean_11 : decode cX7_mean 11 = .ok (.aload_n 0, 1) := by decide +kernel
theorem dX7_mean_12 : decode cX7_mean 12 = .ok (.iload_n 2, 1) := by decide +kernel
theorem dX7_mean_13 : decode cX7_mean 13 = .ok (.iconst 0, 1) := by decide +kernel
theorem dX7_mean_14 : decode cX7_mean 14 = .ok (.iconst 1, 1) := by decide +kernel
theorem dX7_mean_15 : decode cX7_mean 15 = .ok (.invokevirtual 221, 3) := by decide +kernel
theorem dX7_mean_18 : decode cX7_mean 18 = .ok (.ifCond .eq 28, 3) := by decide +kernel
theorem dX7_mean_21 : decode cX7_mean 21 = .ok (.aload_n 0, 1) := by decide +kernel
theorem dX7_mean_22 : decode cX7_mean 22 = .ok (.getfield 7, 3) := by decide +kernel
theorem dX7_mean_25 : decode cX7_mean 25 = .ok (.ifCond .le 21, 3) := by decide +kernel
theorem dX7_mean_28 : decode cX7_mean 28 = .ok (.aload_n 0, 1) := by decide +kernel
theorem dX7_mean_29 : decode cX7_mean 29 = .ok (.aload_n 0, 1) := by decide +kernel
theorem dX7_mean_30 : decode cX7_mean 30 = .ok (.iload_n 1, 1) := by decide +kernel
theorem dX7_mean_31 : decode cX7_mean 31 = .ok (.iconst 0, 1) := by decide +kernel
theorem dX7_mean_32 : decode cX7_mean 32 = .ok (.invokevirtual 380, 3) := by decide +kernel
theorem dX7_mean_35 : decode cX7_mean 35 = .ok (.aload_n 0, 1) := by decide +kernel
theorem dX7_mean_36 : decode cX7_mean 36 = .ok (.getfield 7, 3) := by decide +kernel
theorem dX7_mean_39 : decode cX7_mean 39 = .ok (.iload_n 2, 1) := by decide +kernel
theorem dX7_mean_40 : decode cX7_mean 40 = .ok (.invokevirtual 376, 3) := by decide +kernel
theorem dX7_mean_43 : decode cX7_mean 43 = .ok (.goto 6, 3) := by decide +kernel
theorem dX7_mean_46 : decode cX7_mean 46 = .ok (.ldc2_w 374, 3) := by decide +kernel
theorem dX7_mean_49 : decode cX7_mean 49 = .ok (.lreturn, 1) := by decide +kernel
theorem dX7_fair_0 : decode cX7_fair 0 = .ok (.iload_n 1, 1) := by decide +kernel
theorem dX7_fair_1 : decode cX7_fair 1 = .ok (.iconst (-1), 1) := by decide +kernel
theorem dX7_fair_2 : decode cX7_fair 2 = .ok (.if_icmp .ne 10, 3) := by decide +kernel
theorem dX7_fair_5 : decode cX7_fair 5 = .ok (.aload_n 0, 1) := by decide +kernel
theorem dX7_fair_6 : decode cX7_fair 6 = .ok (.iconst 0, 1) := by decide +kernel
theorem dX7_fair_7 : decode cX7_fair 7 = .ok (.putfield 132, 3) := by decide +kernel
theorem dX7_fair_10 : decode cX7_fair 10 = .ok (.iconst 0, 1) := by decide +kernel
theorem dX7_fair_11 : decode cX7_fair 11 = .ok (.ireturn, 1) := by decide +kernel
theorem dX7_fair_12 : decode cX7_fair 12 = .ok (.iload_n 1, 1) := by decide +kernel
theorem dX7_fair_13 : decode cX7_fair 13 = .ok (.iconst 5, 1) := by decide +kernel
theorem dX7_fair_14 : decode cX7_fair 14 = .ok (.if_icmp .eq 21, 3) := by decide +kernel
theorem dX7_fair_17 : decode cX7_fair 17 = .ok (.aload_n 0, 1) := by decide +kernel
theorem dX7_fair_18 : decode cX7_fair 18 = .ok (.iload_n 1, 1) := by decide +kernel
theorem dX7_fair_19 : decode cX7_fair 19 = .ok (.invokevirtual 229, 3) := by decide +kernel
theorem dX7_fair_22 : decode cX7_fair 22 = .ok (.ifCond .eq 11, 3) := by decide +kernel
theorem dX7_fair_25 : decode cX7_fair 25 = .ok (.aload_n 0, 1) := by decide +kernel
theorem dX7_fair_26 : decode cX7_fair 26 = .ok (.iload_n 2, 1) := by decide +kernel
theorem dX7_fair_27 : decode cX7_fair 27 = .ok (.invokevirtual 229, 3) := by decide +kernel
theorem dX7_fair_30 : decode cX7_fair 30 = .ok (.ifCond .ne 5, 3) := by decide +kernel
theorem dX7_fair_33 : decode cX7_fair 33 = .ok (.iconst (-1), 1) := by decide +kernel
theorem dX7_fair_34 : decode cX7_fair 34 = .ok (.ireturn, 1) := by decide +kernel
theorem dX7_fair_35 : decode cX7_fair 35 = .ok (.iload_n 1, 1) := by decide +kernel
theorem dX7_fair_36 : decode cX7_fair 36 = .ok (.iconst 5, 1) := by decide +kernel
theorem dX7_fair_37 : decode cX7_fair 37 = .ok (.if_icmp .eq 11, 3) := by decide +kernel
theorem dX7_fair_40 : decode cX7_fair 40 = .ok (.iload_n 1, 1) := by decide +kernel
theorem dX7_fair_41 : decode cX7_fair 41 = .ok (.iload_n 2, 1) := by decide +kernel
theorem dX7_fair_42 : decode cX7_fair 42 = .ok (.if_icmp .ne 6, 3) := by decide +kernel
theorem dX7_fair_45 : decode cX7_fair 45 = .ok (.bipush (-2), 2) := by decide +kernel
theorem dX7_fair_47 : decode cX7_fair 47 = .ok (.ireturn, 1) := by decide +kernel
theorem dX7_fair_48 : decode cX7_fair 48 = .ok (.aload_n 0, 1) := by decide +kernel
theorem dX7_fair_49 : decode cX7_fair 49 = .ok (.getfield 132, 3) := by decide +kernel
theorem dX7_fair_52 : decode cX7_fair 52 = .ok (.bipush 10, 2) := by decide +kernel
theorem dX7_fair_54 : decode cX7_fair 54 = .ok (.if_icmp .ne 6, 3) := by decide +kernel
theorem dX7_fair_57 : decode cX7_fair 57 = .ok (.bipush (-4), 2) := by decide +kernel
theorem dX7_fair_59 : decode cX7_fair 59 = .ok (.ireturn, 1) := by decide +kernel
theorem dX7_fair_60 : decode cX7_fair 60 = .ok (.aload_n 0, 1) := by decide +kernel
theorem dX7_fair_61 : decode cX7_fair 61 = .ok (.getfield 135, 3) := by decide +kernel
theorem dX7_fair_64 : decode cX7_fair 64 = .ok (.aload_n 0, 1) := by decide +kernel
theorem dX7_fair_65 : decode cX7_fair 65 = .ok (.getfield 132, 3) := by decide +kernel
theorem dX7_fair_68 : decode cX7_fair 68 = .ok (.iload_n 1, 1) := by decide +kernel
theorem dX7_fair_69 : decode cX7_fair 69 = .ok (.iastore, 1) := by decide +kernel
theorem dX7_fair_70 : decode cX7_fair 70 = .ok (.aload_n 0, 1) := by decide +kernel
theorem dX7_fair_71 : decode cX7_fair 71 = .ok (.getfield 138, 3) := by decide +kernel
theorem dX7_fair_74 : decode cX7_fair 74 = .ok (.aload_n 0, 1) := by decide +kernel
theorem dX7_fair_75 : decode cX7_fair 75 = .ok (.getfield 132, 3) := by decide +kernel
theorem dX7_fair_78 : decode cX7_fair 78 = .ok (.iload_n 1, 1) := by decide +kernel
theorem dX7_fair_79 : decode cX7_fair 79 = .ok (.iconst 5, 1) := by decide +kernel
theorem dX7_fair_80 : decode cX7_fair 80 = .ok (.if_icmp .ne 7, 3) := by decide +kernel
theorem dX7_fair_83 : decode cX7_fair 83 = .ok (.iconst 0, 1) := by decide +kernel
theorem dX7_fair_84 : decode cX7_fair 84 = .ok (.goto 4, 3) := by decide +kernel
theorem dX7_fair_87 : decode cX7_fair 87 = .ok (.iload_n 2, 1) := by decide +kernel
theorem dX7_fair_88 : decode cX7_fair 88 = .ok (.iastore, 1) := by decide +kernel
theorem dX7_fair_89 : decode cX7_fair 89 = .ok (.aload_n 0, 1) := by decide +kernel
theorem dX7_fair_90 : decode cX7_fair 90 = .ok (.dup, 1) := by decide +kernel
theorem dX7_fair_91 : decode cX7_fair 91 = .ok (.getfield 132, 3) := by decide +kernel
theorem dX7_fair_94 : decode cX7_fair 94 = .ok (.iconst 1, 1) := by decide +kernel
theorem dX7_fair_95 : decode cX7_fair 95 = .ok (.iadd, 1) := by decide +kernel
theorem dX7_fair_96 : decode cX7_fair 96 = .ok (.putfield 132, 3) := by decide +kernel
theorem dX7_fair_99 : decode cX7_fair 99 = .ok (.aload_n 0, 1) := by decide +kernel
theorem dX7_fair_100 : decode cX7_fair 100 = .ok (.getfield 132, 3) := by decide +kernel
theorem dX7_fair_103 : decode cX7_fair 103 = .ok (.ireturn, 1) := by decide +kernel
theorem dX7_ends_0 : decode cX7_ends 0 = .ok (.aload_n 0, 1) := by decide +kernel
theorem dX7_ends_1 : decode cX7_ends 1 = .ok (.iload_n 1, 1) := by decide +kernel
theorem dX7_ends_2 : decode cX7_ends 2 = .ok (.iconst 0, 1) := by decide +kernel
theorem dX7_ends_3 : decode cX7_ends 3 = .ok (.iconst 1, 1) := by decide +kernel
theorem dX7_ends_4 : decode cX7_ends 4 = .ok (.invokevirtual 221, 3) := by decide +kernel
theorem dX7_ends_7 : decode cX7_ends 7 = .ok (.ifCond .ne 5, 3) := by decide +kernel
theorem dX7_ends_10 : decode cX7_ends 10 = .ok (.iconst (-1), 1) := by decide +kernel
theorem dX7_ends_11 : decode cX7_ends 11 = .ok (.ireturn, 1) := by decide +kernel
theorem dX7_ends_12 : decode cX7_ends 12 = .ok (.aload_n 0, 1) := by decide +kernel
theorem dX7_ends_13 : decode cX7_ends 13 = .ok (.invokevirtual 344, 3) := by decide +kernel
theorem dX7_ends_16 : decode cX7_ends 16 = .ok (.iconst 0, 1) := by decide +kernel
theorem dX7_ends_17 : decode cX7_ends 17 = .ok (.istore_n 2, 1) := by decide +kernel
theorem dX7_ends_18 : decode cX7_ends 18 = .ok (.iload_n 2, 1) := by decide +kernel
theorem dX7_ends_19 : decode cX7_ends 19 = .ok (.aload_n 0, 1) := by decide +kernel
theorem dX7_ends_20 : decode cX7_ends 20 = .ok (.getfield 132, 3) := by decide +kernel
theorem dX7_ends_23 : decode cX7_ends 23 = .ok (.if_icmp .ge 43, 3) := by decide +kernel
theorem dX7_ends_26 : decode cX7_ends 26 = .ok (.aload_n 0, 1) := by decide +kernel
theorem dX7_ends_27 : decode cX7_ends 27 = .ok (.getfield 135, 3) := by decide +kernel
theorem dX7_ends_30 : decode cX7_ends 30 = .ok (.iload_n 2, 1) := by decide +kernel
theorem dX7_ends_31 : decode cX7_ends 31 = .ok (.iaload, 1) := by decide +kernel
theorem dX7_ends_32 : decode cX7_ends 32 = .ok (.iconst 5, 1) := by decide +kernel
theorem dX7_ends_33 : decode cX7_ends 33 = .ok (.if_icmp .ne 10, 3) := by decide +kernel
theorem dX7_ends_36 : decode cX7_ends 36 = .ok (.aload_n 0, 1) := by decide +kernel
theorem dX7_ends_37 : decode cX7_ends 37 = .ok (.invokevirtual 338, 3) := by decide +kernel
theorem dX7_ends_40 : decode cX7_ends 40 = .ok (.goto 20, 3) := by decide +kernel
theorem dX7_ends_43 : decode cX7_ends 43 = .ok (.aload_n 0, 1) := by decide +kernel
theorem dX7_ends_44 : decode cX7_ends 44 = .ok (.aload_n 0, 1) := by decide +kernel
theorem dX7_ends_45 : decode cX7_ends 45 = .ok (.getfield 135, 3) := by decide +kernel
theorem dX7_ends_48 : decode cX7_ends 48 = .ok (.iload_n 2, 1) := by decide +kernel
theorem dX7_ends_49 : decode cX7_ends 49 = .ok (.iaload, 1) := by decide +kernel
theorem dX7_ends_50 : decode cX7_ends 50 = .ok (.aload_n 0, 1) := by decide +kernel
theorem dX7_ends_51 : decode cX7_ends 51 = .ok (.getfield 138, 3) := by decide +kernel
theorem dX7_ends_54 : decode cX7_ends 54 = .ok (.iload_n 2, 1) := by decide +kernel
theorem dX7_ends_55 : decode cX7_ends 55 = .ok (.iaload, 1) := by decide +kernel
theorem dX7_ends_56 : decode cX7_ends 56 = .ok (.invokevirtual 335, 3) := by decide +kernel
theorem dX7_ends_59 : decode cX7_ends 59 = .ok (.pop, 1) := by decide +kernel
theorem dX7_ends_60 : decode cX7_ends 60 = .ok (.iinc 2 1, 3) := by decide +kernel
theorem dX7_ends_63 : decode cX7_ends 63 = .ok (.goto (-45), 3) := by decide +kernel
theorem dX7_ends_66 : decode cX7_ends 66 = .ok (.iload_n 1, 1) := by decide +kernel
theorem dX7_ends_67 : decode cX7_ends 67 = .ok (.ifCond .ne 10, 3) := by decide +kernel
theorem dX7_ends_70 : decode cX7_ends 70 = .ok (.aload_n 0, 1) := by decide +kernel
theorem dX7_ends_71 : decode cX7_ends 71 = .ok (.invokevirtual 323, 3) := by decide +kernel
theorem dX7_ends_74 : decode cX7_ends 74 = .ok (.goto 7, 3) := by decide +kernel
theorem dX7_ends_77 : decode cX7_ends 77 = .ok (.aload_n 0, 1) := by decide +kernel
theorem dX7_ends_78 : decode cX7_ends 78 = .ok (.invokevirtual 326, 3) := by decide +kernel
theorem dX7_ends_81 : decode cX7_ends 81 = .ok (.istore_n 2, 1) := by decide +kernel
theorem dX7_ends_82 : decode cX7_ends 82 = .ok (.aload_n 0, 1) := by decide +kernel
theorem dX7_ends_83 : decode cX7_ends 83 = .ok (.invokevirtual 347, 3) := by decide +kernel
theorem dX7_ends_86 : decode cX7_ends 86 = .ok (.iload_n 2, 1) := by decide +kernel
theorem dX7_ends_87 : decode cX7_ends 87 = .ok (.ireturn, 1) := by decide +kernel
theorem dX7_judge_0 : decode cX7_judge 0 = .ok (.aload_n 0, 1) := by decide +kernel
theorem dX7_judge_1 : decode cX7_judge 1 = .ok (.iload_n 1, 1) := by decide +kernel
theorem dX7_judge_2 : decode cX7_judge 2 = .ok (.invokevirtual 383, 3) := by decide +kernel
theorem dX7_judge_5 : decode cX7_judge 5 = .ok (.ifCond .ne 5, 3) := by decide +kernel
theorem dX7_judge_8 : decode cX7_judge 8 = .ok (.iconst (-1), 1) := by decide +kernel
theorem dX7_judge_9 : decode cX7_judge 9 = .ok (.ireturn, 1) := by decide +kernel
theorem dX7_judge_10 : decode cX7_judge 10 = .ok (.aload_n 0, 1) := by decide +kernel
theorem dX7_judge_11 : decode cX7_judge 11 = .ok (.getfield 208, 3) := by decide +kernel
theorem dX7_judge_14 : decode cX7_judge 14 = .ok (.iload_n 1, 1) := by decide +kernel
theorem dX7_judge_15 : decode cX7_judge 15 = .ok (.iaload, 1) := by decide +kernel
theorem dX7_judge_16 : decode cX7_judge 16 = .ok (.ifCond .le 6, 3) := by decide +kernel
theorem dX7_judge_19 : decode cX7_judge 19 = .ok (.bipush (-12), 2) := by decide +kernel
theorem dX7_judge_21 : decode cX7_judge 21 = .ok (.ireturn, 1) := by decide +kernel
theorem dX7_judge_22 : decode cX7_judge 22 = .ok (.iconst 0, 1) := by decide +kernel
theorem dX7_judge_23 : decode cX7_judge 23 = .ok (.istore_n 3, 1) := by decide +kernel
theorem dX7_judge_24 : decode cX7_judge 24 = .ok (.iload_n 3, 1) := by decide +kernel
theorem dX7_judge_25 : decode cX7_judge 25 = .ok (.iconst 3, 1) := by decide +kernel
theorem dX7_judge_26 : decode cX7_judge 26 = .ok (.aload_n 0, 1) := by decide +kernel
theorem dX7_judge_27 : decode cX7_judge 27 = .ok (.getfield 7, 3) := by decide +kernel
theorem dX7_judge_30 : decode cX7_judge 30 = .ok (.imul, 1) := by decide +kernel
theorem dX7_judge_31 : decode cX7_judge 31 = .ok (.if_icmp .ge 67, 3) := by decide +kernel
theorem dX7_judge_34 : decode cX7_judge 34 = .ok (.aload_n 0, 1) := by decide +kernel
theorem dX7_judge_35 : decode cX7_judge 35 = .ok (.getfield 208, 3) := by decide +kernel
theorem dX7_judge_38 : decode cX7_judge 38 = .ok (.iload_n 1, 1) := by decide +kernel
theorem dX7_judge_39 : decode cX7_judge 39 = .ok (.iaload, 1) := by decide +kernel
theorem dX7_judge_40 : decode cX7_judge 40 = .ok (.ifCond .lt 21, 3) := by decide +kernel
theorem dX7_judge_43 : decode cX7_judge 43 = .ok (.iload_n 2, 1) := by decide +kernel
theorem dX7_judge_44 : decode cX7_judge 44 = .ok (.ifCond .lt 17, 3) := by decide +kernel
theorem dX7_judge_47 : decode cX7_judge 47 = .ok (.iload_n 2, 1) := by decide +kernel
theorem dX7_judge_48 : decode cX7_judge 48 = .ok (.aload_n 0, 1) := by decide +kernel
theorem dX7_judge_49 : decode cX7_judge 49 = .ok (.getfield 211, 3) := by decide +kernel
theorem dX7_judge_52 : decode cX7_judge 52 = .ok (.iload_n 1, 1) := by decide +kernel
theorem dX7_judge_53 : decode cX7_judge 53 = .ok (.iaload, 1) := by decide +kernel
theorem dX7_judge_54 : decode cX7_judge 54 = .ok (.iload_n 3, 1) := by decide +kernel
theorem dX7_judge_55 : decode cX7_judge 55 = .ok (.isub, 1) := by decide +kernel
theorem dX7_judge_56 : decode cX7_judge 56 = .ok (.iconst 1, 1) := by decide +kernel
theorem dX7_judge_57 : decode cX7_judge 57 = .ok (.isub, 1) := by decide +kernel
theorem dX7_judge_58 : decode cX7_judge 58 = .ok (.if_icmp .le 8, 3) := by decide +kernel
theorem dX7_judge_61 : decode cX7_judge 61 = .ok (.bipush 100, 2) := by decide +kernel
theorem dX7_judge_63 : decode cX7_judge 63 = .ok (.iload_n 3, 1) := by decide +kernel
theorem dX7_judge_64 : decode cX7_judge 64 = .ok (.iadd, 1) := by decide +kernel
theorem dX7_judge_65 : decode cX7_judge 65 = .ok (.ireturn, 1) := by decide +kernel
theorem dX7_judge_66 : decode cX7_judge 66 = .ok (.aload_n 0, 1) := by decide +kernel
theorem dX7_judge_67 : decode cX7_judge 67 = .ok (.getfield 214, 3) := by decide +kernel
theorem dX7_judge_70 : decode cX7_judge 70 = .ok (.bipush 60, 2) := by decide +kernel
theorem dX7_judge_72 : decode cX7_judge 72 = .ok (.iload_n 1, 1) := by decide +kernel
theorem dX7_judge_73 : decode cX7_judge 73 = .ok (.imul, 1) := by decide +kernel
theorem dX7_judge_74 : decode cX7_judge 74 = .ok (.iload_n 2, 1) := by decide +kernel
theorem dX7_judge_75 : decode cX7_judge 75 = .ok (.iadd, 1) := by decide +kernel
theorem dX7_judge_76 : decode cX7_judge 76 = .ok (.iload_n 3, 1) := by decide +kernel
theorem dX7_judge_77 : decode cX7_judge 77 = .ok (.iadd, 1) := by decide +kernel
theorem dX7_judge_78 : decode cX7_judge 78 = .ok (.laload, 1) := by decide +kernel
theorem dX7_judge_79 : decode cX7_judge 79 = .ok (.aload_n 0, 1) := by decide +kernel
theorem dX7_judge_80 : decode cX7_judge 80 = .ok (.getfield 29, 3) := by decide +kernel
theorem dX7_judge_83 : decode cX7_judge 83 = .ok (.iload_n 3, 1) := by decide +kernel
theorem dX7_judge_84 : decode cX7_judge 84 = .ok (.iaload, 1) := by decide +kernel
theorem dX7_judge_85 : decode cX7_judge 85 = .ok (.i2l, 1) := by decide +kernel
theorem dX7_judge_86 : decode cX7_judge 86 = .ok (.lcmp, 1) := by decide +kernel
theorem dX7_judge_87 : decode cX7_judge 87 = .ok (.ifCond .eq 5, 3) := by decide +kernel
theorem dX7_judge_90 : decode cX7_judge 90 = .ok (.iload_n 3, 1) := by decide +kernel
theorem dX7_judge_91 : decode cX7_judge 91 = .ok (.ireturn, 1) := by decide +kernel
theorem dX7_judge_92 : decode cX7_judge 92 = .ok (.iinc 3 1, 3) := by decide +kernel
theorem dX7_judge_95 : decode cX7_judge 95 = .ok (.goto (-71), 3) := by decide +kernel
theorem dX7_judge_98 : decode cX7_judge 98 = .ok (.bipush (-5), 2) := by decide +kernel
theorem dX7_judge_100 : decode cX7_judge 100 = .ok (.ireturn, 1) := by decide +kernel
theorem dX7_image_0 : decode cX7_image 0 = .ok (.aload_n 0, 1) := by decide +kernel
theorem dX7_image_1 : decode cX7_image 1 = .ok (.iconst 1, 1) := by decide +kernel
theorem dX7_image_2 : decode cX7_image 2 = .ok (.putfield 141, 3) := by decide +kernel
theorem dX7_image_5 : decode cX7_image 5 = .ok (.aload_n 0, 1) := by decide +kernel
theorem dX7_image_6 : decode cX7_image 6 = .ok (.aload_n 0, 1) := by decide +kernel
theorem dX7_image_7 : decode cX7_image 7 = .ok (.getfield 38, 3) := by decide +kernel
theorem dX7_image_10 : decode cX7_image 10 = .ok (.putfield 145, 3) := by decide +kernel
theorem dX7_image_13 : decode cX7_image 13 = .ok (.aload_n 0, 1) := by decide +kernel
theorem dX7_image_14 : decode cX7_image 14 = .ok (.aload_n 0, 1) := by decide +kernel
theorem dX7_image_15 : decode cX7_image 15 = .ok (.getfield 7, 3) := by decide +kernel
theorem dX7_image_18 : decode cX7_image 18 = .ok (.putfield 148, 3) := by decide +kernel
theorem dX7_image_21 : decode cX7_image 21 = .ok (.aload_n 0, 1) := by decide +kernel
theorem dX7_image_22 : decode cX7_image 22 = .ok (.aload_n 0, 1) := by decide +kernel
theorem dX7_image_23 : decode cX7_image 23 = .ok (.getfield 13, 3) := by decide +kernel
theorem dX7_image_26 : decode cX7_image 26 = .ok (.putfield 151, 3) := by decide +kernel
theorem dX7_image_29 : decode cX7_image 29 = .ok (.aload_n 0, 1) := by decide +kernel
theorem dX7_image_30 : decode cX7_image 30 = .ok (.aload_n 0, 1) := by decide +kernel
theorem dX7_image_31 : decode cX7_image 31 = .ok (.getfield 16, 3) := by decide +kernel
theorem dX7_image_34 : decode cX7_image 34 = .ok (.putfield 154, 3) := by decide +kernel
theorem dX7_image_37 : decode cX7_image 37 = .ok (.aload_n 0, 1) := by decide +kernel
theorem dX7_image_38 : decode cX7_image 38 = .ok (.aload_n 0, 1) := by decide +kernel
theorem dX7_image_39 : decode cX7_image 39 = .ok (.getfield 120, 3) := by decide +kernel
theorem dX7_image_42 : decode cX7_image 42 = .ok (.putfield 157, 3) := by decide +kernel
theorem dX7_image_45 : decode cX7_image 45 = .ok (.aload_n 0, 1) := by decide +kernel
theorem dX7_image_46 : decode cX7_image 46 = .ok (.aload_n 0, 1) := by decide +kernel
theorem dX7_image_47 : decode cX7_image 47 = .ok (.getfield 132, 3) := by decide +kernel
theorem dX7_image_50 : decode cX7_image 50 = .ok (.putfield 160, 3) := by decide +kernel
theorem dX7_image_53 : decode cX7_image 53 = .ok (.aload_n 0, 1) := by decide +kernel
theorem dX7_image_54 : decode cX7_image 54 = .ok (.aload_n 0, 1) := by decide +kernel
theorem dX7_image_55 : decode cX7_image 55 = .ok (.getfield 102, 3) := by decide +kernel
theorem dX7_image_58 : decode cX7_image 58 = .ok (.putfield 163, 3) := by decide +kernel
theorem dX7_image_61 : decode cX7_image 61 = .ok (.iconst 0, 1) := by decide +kernel
theorem dX7_image_62 : decode cX7_image 62 = .ok (.istore_n 1, 1) := by decide +kernel
theorem dX7_image_63 : decode cX7_image 63 = .ok (.iload_n 1, 1) := by decide +kernel
theorem dX7_image_64 : decode cX7_image 64 = .ok (.iconst 5, 1) := by decide +kernel
theorem dX7_image_65 : decode cX7_image 65 = .ok (.if_icmp .ge 81, 3) := by decide +kernel
theorem dX7_image_68 : decode cX7_image 68 = .ok (.aload_n 0, 1) := by decide +kernel
theorem dX7_image_69 : decode cX7_image 69 = .ok (.getfield 166, 3) := by decide +kernel
theorem dX7_image_72 : decode cX7_image 72 = .ok (.iload_n 1, 1) := by decide +kernel
theorem dX7_image_73 : decode cX7_image 73 = .ok (.aload_n 0, 1) := by decide +kernel
theorem dX7_image_74 : decode cX7_image 74 = .ok (.getfield 19, 3) := by decide +kernel
theorem dX7_image_77 : decode cX7_image 77 = .ok (.iload_n 1, 1) := by decide +kernel
theorem dX7_image_78 : decode cX7_image 78 = .ok (.iaload, 1) := by decide +kernel
theorem dX7_image_79 : decode cX7_image 79 = .ok (.iastore, 1) := by decide +kernel
theorem dX7_image_80 : decode cX7_image 80 = .ok (.aload_n 0, 1) := by decide +kernel
theorem dX7_image_81 : decode cX7_image 81 = .ok (.getfield 169, 3) := by decide +kernel
theorem dX7_image_84 : decode cX7_image 84 = .ok (.iload_n 1, 1) := by decide +kernel
theorem dX7_image_85 : decode cX7_image 85 = .ok (.aload_n 0, 1) := by decide +kernel
theorem dX7_image_86 : decode cX7_image 86 = .ok (.getfield 23, 3) := by decide +kernel
theorem dX7_image_89 : decode cX7_image 89 = .ok (.iload_n 1, 1) := by decide +kernel
theorem dX7_image_90 : decode cX7_image 90 = .ok (.iaload, 1) := by decide +kernel
theorem dX7_image_91 : decode cX7_image 91 = .ok (.iastore, 1) := by decide +kernel
theorem dX7_image_92 : decode cX7_image 92 = .ok (.aload_n 0, 1) := by decide +kernel
theorem dX7_image_93 : decode cX7_image 93 = .ok (.getfield 172, 3) := by decide +kernel
theorem dX7_image_96 : decode cX7_image 96 = .ok (.iload_n 1, 1) := by decide +kernel
theorem dX7_image_97 : decode cX7_image 97 = .ok (.aload_n 0, 1) := by decide +kernel
theorem dX7_image_98 : decode cX7_image 98 = .ok (.getfield 26, 3) := by decide +kernel
theorem dX7_image_101 : decode cX7_image 101 = .ok (.iload_n 1, 1) := by decide +kernel
theorem dX7_image_102 : decode cX7_image 102 = .ok (.iaload, 1) := by decide +kernel
theorem dX7_image_103 : decode cX7_image 103 = .ok (.iastore, 1) := by decide +kernel
theorem dX7_image_104 : decode cX7_image 104 = .ok (.aload_n 0, 1) := by decide +kernel
theorem dX7_image_105 : decode cX7_image 105 = .ok (.getfield 181, 3) := by decide +kernel
theorem dX7_image_108 : decode cX7_image 108 = .ok (.iload_n 1, 1) := by decide +kernel
theorem dX7_image_109 : decode cX7_image 109 = .ok (.aload_n 0, 1) := by decide +kernel
theorem dX7_image_110 : decode cX7_image 110 = .ok (.getfield 123, 3) := by decide +kernel
theorem dX7_image_113 : decode cX7_image 113 = .ok (.iload_n 1, 1) := by decide +kernel
theorem dX7_image_114 : decode cX7_image 114 = .ok (.iaload, 1) := by decide +kernel
theorem dX7_image_115 : decode cX7_image 115 = .ok (.iastore, 1) := by decide +kernel
theorem dX7_image_116 : decode cX7_image 116 = .ok (.aload_n 0, 1) := by decide +kernel
theorem dX7_image_117 : decode cX7_image 117 = .ok (.getfield 184, 3) := by decide +kernel
theorem dX7_image_120 : decode cX7_image 120 = .ok (.iload_n 1, 1) := by decide +kernel
theorem dX7_image_121 : decode cX7_image 121 = .ok (.aload_n 0, 1) := by decide +kernel
theorem dX7_image_122 : decode cX7_image 122 = .ok (.getfield 126, 3) := by decide +kernel
theorem dX7_image_125 : decode cX7_image 125 = .ok (.iload_n 1, 1) := by decide +kernel
theorem dX7_image_126 : decode cX7_image 126 = .ok (.iaload, 1) := by decide +kernel
theorem dX7_image_127 : decode cX7_image 127 = .ok (.iastore, 1) := by decide +kernel
theorem dX7_image_128 : decode cX7_image 128 = .ok (.aload_n 0, 1) := by decide +kernel
theorem dX7_image_129 : decode cX7_image 129 = .ok (.getfield 187, 3) := by decide +kernel
theorem dX7_image_132 : decode cX7_image 132 = .ok (.iload_n 1, 1) := by decide +kernel
theorem dX7_image_133 : decode cX7_image 133 = .ok (.aload_n 0, 1) := by decide +kernel
theorem dX7_image_134 : decode cX7_image 134 = .ok (.getfield 129, 3) := by decide +kernel
theorem dX7_image_137 : decode cX7_image 137 = .ok (.iload_n 1, 1) := by decide +kernel
theorem dX7_image_138 : decode cX7_image 138 = .ok (.iaload, 1) := by decide +kernel
theorem dX7_image_139 : decode cX7_image 139 = .ok (.iastore, 1) := by decide +kernel
theorem dX7_image_140 : decode cX7_image 140 = .ok (.iinc 1 1, 3) := by decide +kernel
theorem dX7_image_143 : decode cX7_image 143 = .ok (.goto (-80), 3) := by decide +kernel
theorem dX7_image_146 : decode cX7_image 146 = .ok (.iconst 0, 1) := by decide +kernel
theorem dX7_image_147 : decode cX7_image 147 = .ok (.istore_n 1, 1) := by decide +kernel
theorem dX7_image_148 : decode cX7_image 148 = .ok (.iload_n 1, 1) := by decide +kernel
theorem dX7_image_149 : decode cX7_image 149 = .ok (.bipush 15, 2) := by decide +kernel
theorem dX7_image_151 : decode cX7_image 151 = .ok (.if_icmp .ge 21, 3) := by decide +kernel
theorem dX7_image_154 : decode cX7_image 154 = .ok (.aload_n 0, 1) := by decide +kernel
theorem dX7_image_155 : decode cX7_image 155 = .ok (.getfield 175, 3) := by decide +kernel
theorem dX7_image_158 : decode cX7_image 158 = .ok (.iload_n 1, 1) := by decide +kernel
theorem dX7_image_159 : decode cX7_image 159 = .ok (.aload_n 0, 1) := by decide +kernel
theorem dX7_image_160 : decode cX7_image 160 = .ok (.getfield 29, 3) := by decide +kernel
theorem dX7_image_163 : decode cX7_image 163 = .ok (.iload_n 1, 1) := by decide +kernel
theorem dX7_image_164 : decode cX7_image 164 = .ok (.iaload, 1) := by decide +kernel
theorem dX7_image_165 : decode cX7_image 165 = .ok (.iastore, 1) := by decide +kernel
theorem dX7_image_166 : decode cX7_image 166 = .ok (.iinc 1 1, 3) := by decide +kernel
theorem dX7_image_169 : decode cX7_image 169 = .ok (.goto (-21), 3) := by decide +kernel
theorem dX7_image_172 : decode cX7_image 172 = .ok (.iconst 0, 1) := by decide +kernel
theorem dX7_image_173 : decode cX7_image 173 = .ok (.istore_n 1, 1) := by decide +kernel
theorem dX7_image_174 : decode cX7_image 174 = .ok (.iload_n 1, 1) := by decide +kernel
theorem dX7_image_175 : decode cX7_image 175 = .ok (.bipush 20, 2) := by decide +kernel
theorem dX7_image_177 : decode cX7_image 177 = .ok (.if_icmp .ge 21, 3) := by decide +kernel
theorem dX7_image_180 : decode cX7_image 180 = .ok (.aload_n 0, 1) := by decide +kernel
theorem dX7_image_181 : decode cX7_image 181 = .ok (.getfield 178, 3) := by decide +kernel
theorem dX7_image_184 : decode cX7_image 184 = .ok (.iload_n 1, 1) := by decide +kernel
theorem dX7_image_185 : decode cX7_image 185 = .ok (.aload_n 0, 1) := by decide +kernel
theorem dX7_image_186 : decode cX7_image 186 = .ok (.getfield 32, 3) := by decide +kernel
theorem dX7_image_189 : decode cX7_image 189 = .ok (.iload_n 1, 1) := by decide +kernel
theorem dX7_image_190 : decode cX7_image 190 = .ok (.iaload, 1) := by decide +kernel
theorem dX7_image_191 : decode cX7_image 191 = .ok (.iastore, 1) := by decide +kernel
theorem dX7_image_192 : decode cX7_image 192 = .ok (.iinc 1 1, 3) := by decide +kernel
theorem dX7_image_195 : decode cX7_image 195 = .ok (.goto (-21), 3) := by decide +kernel
theorem dX7_image_198 : decode cX7_image 198 = .ok (.iconst 0, 1) := by decide +kernel
theorem dX7_image_199 : decode cX7_image 199 = .ok (.istore_n 1, 1) := by decide +kernel
theorem dX7_image_200 : decode cX7_image 200 = .ok (.iload_n 1, 1) := by decide +kernel
theorem dX7_image_201 : decode cX7_image 201 = .ok (.bipush 10, 2) := by decide +kernel
theorem dX7_image_203 : decode cX7_image 203 = .ok (.if_icmp .ge 33, 3) := by decide +kernel
theorem dX7_image_206 : decode cX7_image 206 = .ok (.aload_n 0, 1) := by decide +kernel
theorem dX7_image_207 : decode cX7_image 207 = .ok (.getfield 190, 3) := by decide +kernel
theorem dX7_image_210 : decode cX7_image 210 = .ok (.iload_n 1, 1) := by decide +kernel
theorem dX7_image_211 : decode cX7_image 211 = .ok (.aload_n 0, 1) := by decide +kernel
theorem dX7_image_212 : decode cX7_image 212 = .ok (.getfield 135, 3) := by decide +kernel
theorem dX7_image_215 : decode cX7_image 215 = .ok (.iload_n 1, 1) := by decide +kernel
theorem dX7_image_216 : decode cX7_image 216 = .ok (.iaload, 1) := by decide +kernel
theorem dX7_image_217 : decode cX7_image 217 = .ok (.iastore, 1) := by decide +kernel
theorem dX7_image_218 : decode cX7_image 218 = .ok (.aload_n 0, 1) := by decide +kernel
theorem dX7_image_219 : decode cX7_image 219 = .ok (.getfield 193, 3) := by decide +kernel
theorem dX7_image_222 : decode cX7_image 222 = .ok (.iload_n 1, 1) := by decide +kernel
theorem dX7_image_223 : decode cX7_image 223 = .ok (.aload_n 0, 1) := by decide +kernel
theorem dX7_image_224 : decode cX7_image 224 = .ok (.getfield 138, 3) := by decide +kernel
theorem dX7_image_227 : decode cX7_image 227 = .ok (.iload_n 1, 1) := by decide +kernel
theorem dX7_image_228 : decode cX7_image 228 = .ok (.iaload, 1) := by decide +kernel
theorem dX7_image_229 : decode cX7_image 229 = .ok (.iastore, 1) := by decide +kernel
theorem dX7_image_230 : decode cX7_image 230 = .ok (.iinc 1 1, 3) := by decide +kernel
theorem dX7_image_233 : decode cX7_image 233 = .ok (.goto (-33), 3) := by decide +kernel
theorem dX7_image_236 : decode cX7_image 236 = .ok (.iconst 0, 1) := by decide +kernel
theorem dX7_image_237 : decode cX7_image 237 = .ok (.istore_n 1, 1) := by decide +kernel
theorem dX7_image_238 : decode cX7_image 238 = .ok (.iload_n 1, 1) := by decide +kernel
theorem dX7_image_239 : decode cX7_image 239 = .ok (.bipush 8, 2) := by decide +kernel
theorem dX7_image_241 : decode cX7_image 241 = .ok (.if_icmp .ge 33, 3) := by decide +kernel
theorem dX7_image_244 : decode cX7_image 244 = .ok (.aload_n 0, 1) := by decide +kernel
theorem dX7_image_245 : decode cX7_image 245 = .ok (.getfield 196, 3) := by decide +kernel
theorem dX7_image_248 : decode cX7_image 248 = .ok (.iload_n 1, 1) := by decide +kernel
theorem dX7_image_249 : decode cX7_image 249 = .ok (.aload_n 0, 1) := by decide +kernel
theorem dX7_image_250 : decode cX7_image 250 = .ok (.getfield 105, 3) := by decide +kernel
theorem dX7_image_253 : decode cX7_image 253 = .ok (.iload_n 1, 1) := by decide +kernel
theorem dX7_image_254 : decode cX7_image 254 = .ok (.iaload, 1) := by decide +kernel
theorem dX7_image_255 : decode cX7_image 255 = .ok (.iastore, 1) := by decide +kernel
theorem dX7_image_256 : decode cX7_image 256 = .ok (.aload_n 0, 1) := by decide +kernel
theorem dX7_image_257 : decode cX7_image 257 = .ok (.getfield 199, 3) := by decide +kernel
theorem dX7_image_260 : decode cX7_image 260 = .ok (.iload_n 1, 1) := by decide +kernel
theorem dX7_image_261 : decode cX7_image 261 = .ok (.aload_n 0, 1) := by decide +kernel
theorem dX7_image_262 : decode cX7_image 262 = .ok (.getfield 108, 3) := by decide +kernel
theorem dX7_image_265 : decode cX7_image 265 = .ok (.iload_n 1, 1) := by decide +kernel
theorem dX7_image_266 : decode cX7_image 266 = .ok (.iaload, 1) := by decide +kernel
theorem dX7_image_267 : decode cX7_image 267 = .ok (.iastore, 1) := by decide +kernel
theorem dX7_image_268 : decode cX7_image 268 = .ok (.iinc 1 1, 3) := by decide +kernel
theorem dX7_image_271 : decode cX7_image 271 = .ok (.goto (-33), 3) := by decide +kernel
theorem dX7_image_274 : decode cX7_image 274 = .ok (.aload_n 0, 1) := by decide +kernel
theorem dX7_image_275 : decode cX7_image 275 = .ok (.getfield 7, 3) := by decide +kernel
theorem dX7_image_278 : decode cX7_image 278 = .ok (.ireturn, 1) := by decide +kernel
theorem dX7_undo_0 : decode cX7_undo 0 = .ok (.aload_n 0, 1) := by decide +kernel
theorem dX7_undo_1 : decode cX7_undo 1 = .ok (.getfield 141, 3) := by decide +kernel
theorem dX7_undo_4 : decode cX7_undo 4 = .ok (.ifCond .ne 6, 3) := by decide +kernel
theorem dX7_undo_7 : decode cX7_undo 7 = .ok (.bipush (-3), 2) := by decide +kernel
theorem dX7_undo_9 : decode cX7_undo 9 = .ok (.ireturn, 1) := by decide +kernel
theorem dX7_undo_10 : decode cX7_undo 10 = .ok (.aload_n 0, 1) := by decide +kernel
theorem dX7_undo_11 : decode cX7_undo 11 = .ok (.aload_n 0, 1) := by decide +kernel
theorem dX7_undo_12 : decode cX7_undo 12 = .ok (.getfield 145, 3) := by decide +kernel
theorem dX7_undo_15 : decode cX7_undo 15 = .ok (.putfield 38, 3) := by decide +kernel
theorem dX7_undo_18 : decode cX7_undo 18 = .ok (.aload_n 0, 1) := by decide +kernel
theorem dX7_undo_19 : decode cX7_undo 19 = .ok (.aload_n 0, 1) := by decide +kernel
theorem dX7_undo_20 : decode cX7_undo 20 = .ok (.getfield 148, 3) := by decide +kernel
theorem dX7_undo_23 : decode cX7_undo 23 = .ok (.putfield 7, 3) := by decide +kernel
theorem dX7_undo_26 : decode cX7_undo 26 = .ok (.aload_n 0, 1) := by decide +kernel
theorem dX7_undo_27 : decode cX7_undo 27 = .ok (.aload_n 0, 1) := by decide +kernel
theorem dX7_undo_28 : decode cX7_undo 28 = .ok (.getfield 151, 3) := by decide +kernel
theorem dX7_undo_31 : decode cX7_undo 31 = .ok (.putfield 13, 3) := by decide +kernel
theorem dX7_undo_34 : decode cX7_undo 34 = .ok (.aload_n 0, 1) := by decide +kernel
theorem dX7_undo_35 : decode cX7_undo 35 = .ok (.aload_n 0, 1) := by decide +kernel
theorem dX7_undo_36 : decode cX7_undo 36 = .ok (.getfield 154, 3) := by decide +kernel
theorem dX7_undo_39 : decode cX7_undo 39 = .ok (.putfield 16, 3) := by decide +kernel
theorem dX7_undo_42 : decode cX7_undo 42 = .ok (.aload_n 0, 1) := by decide +kernel
theorem dX7_undo_43 : decode cX7_undo 43 = .ok (.aload_n 0, 1) := by decide +kernel
theorem dX7_undo_44 : decode cX7_undo 44 = .ok (.getfield 157, 3) := by decide +kernel
theorem dX7_undo_47 : decode cX7_undo 47 = .ok (.putfield 120, 3) := by decide +kernel
theorem dX7_undo_50 : decode cX7_undo 50 = .ok (.aload_n 0, 1) := by decide +kernel
theorem dX7_undo_51 : decode cX7_undo 51 = .ok (.aload_n 0, 1) := by decide +kernel
theorem dX7_undo_52 : decode cX7_undo 52 = .ok (.getfield 160, 3) := by decide +kernel
theorem dX7_undo_55 : decode cX7_undo 55 = .ok (.putfield 132, 3) := by decide +kernel
theorem dX7_undo_58 : decode cX7_undo 58 = .ok (.aload_n 0, 1) := by decide +kernel
theorem dX7_undo_59 : decode cX7_undo 59 = .ok (.aload_n 0, 1) := by decide +kernel
theorem dX7_undo_60 : decode cX7_undo 60 = .ok (.getfield 163, 3) := by decide +kernel
theorem dX7_undo_63 : decode cX7_undo 63 = .ok (.putfield 102, 3) := by decide +kernel
theorem dX7_undo_66 : decode cX7_undo 66 = .ok (.iconst 0, 1) := by decide +kernel
theorem dX7_undo_67 : decode cX7_undo 67 = .ok (.istore_n 1, 1) := by decide +kernel
theorem dX7_undo_68 : decode cX7_undo 68 = .ok (.iload_n 1, 1) := by decide +kernel
theorem dX7_undo_69 : decode cX7_undo 69 = .ok (.iconst 5, 1) := by decide +kernel
theorem dX7_undo_70 : decode cX7_undo 70 = .ok (.if_icmp .ge 81, 3) := by decide +kernel
theorem dX7_undo_73 : decode cX7_undo 73 = .ok (.aload_n 0, 1) := by decide +kernel
theorem dX7_undo_74 : decode cX7_undo 74 = .ok (.getfield 19, 3) := by decide +kernel
theorem dX7_undo_77 : decode cX7_undo 77 = .ok (.iload_n 1, 1) := by decide +kernel
theorem dX7_undo_78 : decode cX7_undo 78 = .ok (.aload_n 0, 1) := by decide +kernel
theorem dX7_undo_79 : decode cX7_undo 79 = .ok (.getfield 166, 3) := by decide +kernel
theorem dX7_undo_82 : decode cX7_undo 82 = .ok (.iload_n 1, 1) := by decide +kernel
theorem dX7_undo_83 : decode cX7_undo 83 = .ok (.iaload, 1) := by decide +kernel
theorem dX7_undo_84 : decode cX7_undo 84 = .ok (.iastore, 1) := by decide +kernel
theorem dX7_undo_85 : decode cX7_undo 85 = .ok (.aload_n 0, 1) := by decide +kernel
theorem dX7_undo_86 : decode cX7_undo 86 = .ok (.getfield 23, 3) := by decide +kernel
theorem dX7_undo_89 : decode cX7_undo 89 = .ok (.iload_n 1, 1) := by decide +kernel
theorem dX7_undo_90 : decode cX7_undo 90 = .ok (.aload_n 0, 1) := by decide +kernel
theorem dX7_undo_91 : decode cX7_undo 91 = .ok (.getfield 169, 3) := by decide +kernel
theorem dX7_undo_94 : decode cX7_undo 94 = .ok (.iload_n 1, 1) := by decide +kernel
theorem dX7_undo_95 : decode cX7_undo 95 = .ok (.iaload, 1) := by decide +kernel
theorem dX7_undo_96 : decode cX7_undo 96 = .ok (.iastore, 1) := by decide +kernel
theorem dX7_undo_97 : decode cX7_undo 97 = .ok (.aload_n 0, 1) := by decide +kernel
theorem dX7_undo_98 : decode cX7_undo 98 = .ok (.getfield 26, 3) := by decide +kernel
theorem dX7_undo_101 : decode cX7_undo 101 = .ok (.iload_n 1, 1) := by decide +kernel
theorem dX7_undo_102 : decode cX7_undo 102 = .ok (.aload_n 0, 1) := by decide +kernel
theorem dX7_undo_103 : decode cX7_undo 103 = .ok (.getfield 172, 3) := by decide +kernel
theorem dX7_undo_106 : decode cX7_undo 106 = .ok (.iload_n 1, 1) := by decide +kernel
theorem dX7_undo_107 : decode cX7_undo 107 = .ok (.iaload, 1) := by decide +kernel
theorem dX7_undo_108 : decode cX7_undo 108 = .ok (.iastore, 1) := by decide +kernel
theorem dX7_undo_109 : decode cX7_undo 109 = .ok (.aload_n 0, 1) := by decide +kernel
theorem dX7_undo_110 : decode cX7_undo 110 = .ok (.getfield 123, 3) := by decide +kernel
theorem dX7_undo_113 : decode cX7_undo 113 = .ok (.iload_n 1, 1) := by decide +kernel
theorem dX7_undo_114 : decode cX7_undo 114 = .ok (.aload_n 0, 1) := by decide +kernel
theorem dX7_undo_115 : decode cX7_undo 115 = .ok (.getfield 181, 3) := by decide +kernel
theorem dX7_undo_118 : decode cX7_undo 118 = .ok (.iload_n 1, 1) := by decide +kernel
theorem dX7_undo_119 : decode cX7_undo 119 = .ok (.iaload, 1) := by decide +kernel
theorem dX7_undo_120 : decode cX7_undo 120 = .ok (.iastore, 1) := by decide +kernel
theorem dX7_undo_121 : decode cX7_undo 121 = .ok (.aload_n 0, 1) := by decide +kernel
theorem dX7_undo_122 : decode cX7_undo 122 = .ok (.getfield 126, 3) := by decide +kernel
theorem dX7_undo_125 : decode cX7_undo 125 = .ok (.iload_n 1, 1) := by decide +kernel
theorem dX7_undo_126 : decode cX7_undo 126 = .ok (.aload_n 0, 1) := by decide +kernel
theorem dX7_undo_127 : decode cX7_undo 127 = .ok (.getfield 184, 3) := by decide +kernel
theorem dX7_undo_130 : decode cX7_undo 130 = .ok (.iload_n 1, 1) := by decide +kernel
theorem dX7_undo_131 : decode cX7_undo 131 = .ok (.iaload, 1) := by decide +kernel
theorem dX7_undo_132 : decode cX7_undo 132 = .ok (.iastore, 1) := by decide +kernel
theorem dX7_undo_133 : decode cX7_undo 133 = .ok (.aload_n 0, 1) := by decide +kernel
theorem dX7_undo_134 : decode cX7_undo 134 = .ok (.getfield 129, 3) := by decide +kernel
theorem dX7_undo_137 : decode cX7_undo 137 = .ok (.iload_n 1, 1) := by decide +kernel
theorem dX7_undo_138 : decode cX7_undo 138 = .ok (.aload_n 0, 1) := by decide +kernel
theorem dX7_undo_139 : decode cX7_undo 139 = .ok (.getfield 187, 3) := by decide +kernel
theorem dX7_undo_142 : decode cX7_undo 142 = .ok (.iload_n 1, 1) := by decide +kernel
theorem dX7_undo_143 : decode cX7_undo 143 = .ok (.iaload, 1) := by decide +kernel
theorem dX7_undo_144 : decode cX7_undo 144 = .ok (.iastore, 1) := by decide +kernel
theorem dX7_undo_145 : decode cX7_undo 145 = .ok (.iinc 1 1, 3) := by decide +kernel
theorem dX7_undo_148 : decode cX7_undo 148 = .ok (.goto (-80), 3) := by decide +kernel
theorem dX7_undo_151 : decode cX7_undo 151 = .ok (.iconst 0, 1) := by decide +kernel
theorem dX7_undo_152 : decode cX7_undo 152 = .ok (.istore_n 1, 1) := by decide +kernel
theorem dX7_undo_153 : decode cX7_undo 153 = .ok (.iload_n 1, 1) := by decide +kernel
theorem dX7_undo_154 : decode cX7_undo 154 = .ok (.bipush 15, 2) := by decide +kernel
theorem dX7_undo_156 : decode cX7_undo 156 = .ok (.if_icmp .ge 21, 3) := by decide +kernel
theorem dX7_undo_159 : decode cX7_undo 159 = .ok (.aload_n 0, 1) := by decide +kernel
theorem dX7_undo_160 : decode cX7_undo 160 = .ok (.getfield 29, 3) := by decide +kernel
theorem dX7_undo_163 : decode cX7_undo 163 = .ok (.iload_n 1, 1) := by decide +kernel
theorem dX7_undo_164 : decode cX7_undo 164 = .ok (.aload_n 0, 1) := by decide +kernel
theorem dX7_undo_165 : decode cX7_undo 165 = .ok (.getfield 175, 3) := by decide +kernel
theorem dX7_undo_168 : decode cX7_undo 168 = .ok (.iload_n 1, 1) := by decide +kernel
theorem dX7_undo_169 : decode cX7_undo 169 = .ok (.iaload, 1) := by decide +kernel
theorem dX7_undo_170 : decode cX7_undo 170 = .ok (.iastore, 1) := by decide +kernel
theorem dX7_undo_171 : decode cX7_undo 171 = .ok (.iinc 1 1, 3) := by decide +kernel
theorem dX7_undo_174 : decode cX7_undo 174 = .ok (.goto (-21), 3) := by decide +kernel
theorem dX7_undo_177 : decode cX7_undo 177 = .ok (.iconst 0, 1) := by decide +kernel
theorem dX7_undo_178 : decode cX7_undo 178 = .ok (.istore_n 1, 1) := by decide +kernel
theorem dX7_undo_179 : decode cX7_undo 179 = .ok (.iload_n 1, 1) := by decide +kernel
theorem dX7_undo_180 : decode cX7_undo 180 = .ok (.bipush 20, 2) := by decide +kernel
theorem dX7_undo_182 : decode cX7_undo 182 = .ok (.if_icmp .ge 21, 3) := by decide +kernel
theorem dX7_undo_185 : decode cX7_undo 185 = .ok (.aload_n 0, 1) := by decide +kernel
theorem dX7_undo_186 : decode cX7_undo 186 = .ok (.getfield 32, 3) := by decide +kernel
theorem dX7_undo_189 : decode cX7_undo 189 = .ok (.iload_n 1, 1) := by decide +kernel
theorem dX7_undo_190 : decode cX7_undo 190 = .ok (.aload_n 0, 1) := by decide +kernel
theorem dX7_undo_191 : decode cX7_undo 191 = .ok (.getfield 178, 3) := by decide +kernel
theorem dX7_undo_194 : decode cX7_undo 194 = .ok (.iload_n 1, 1) := by decide +kernel
theorem dX7_undo_195 : decode cX7_undo 195 = .ok (.iaload, 1) := by decide +kernel
theorem dX7_undo_196 : decode cX7_undo 196 = .ok (.iastore, 1) := by decide +kernel
theorem dX7_undo_197 : decode cX7_undo 197 = .ok (.iinc 1 1, 3) := by decide +kernel
theorem dX7_undo_200 : decode cX7_undo 200 = .ok (.goto (-21), 3) := by decide +kernel
theorem dX7_undo_203 : decode cX7_undo 203 = .ok (.iconst 0, 1) := by decide +kernel
theorem dX7_undo_204 : decode cX7_undo 204 = .ok (.istore_n 1, 1) := by decide +kernel
theorem dX7_undo_205 : decode cX7_undo 205 = .ok (.iload_n 1, 1) := by decide +kernel
theorem dX7_undo_206 : decode cX7_undo 206 = .ok (.bipush 10, 2) := by decide +kernel
theorem dX7_undo_208 : decode cX7_undo 208 = .ok (.if_icmp .ge 33, 3) := by decide +kernel
theorem dX7_undo_211 : decode cX7_undo 211 = .ok (.aload_n 0, 1) := by decide +kernel
theorem dX7_undo_212 : decode cX7_undo 212 = .ok (.getfield 135, 3) := by decide +kernel
theorem dX7_undo_215 : decode cX7_undo 215 = .ok (.iload_n 1, 1) := by decide +kernel
theorem dX7_undo_216 : decode cX7_undo 216 = .ok (.aload_n 0, 1) := by decide +kernel
theorem dX7_undo_217 : decode cX7_undo 217 = .ok (.getfield 190, 3) := by decide +kernel
theorem dX7_undo_220 : decode cX7_undo 220 = .ok (.iload_n 1, 1) := by decide +kernel
theorem dX7_undo_221 : decode cX7_undo 221 = .ok (.iaload, 1) := by decide +kernel
theorem dX7_undo_222 : decode cX7_undo 222 = .ok (.iastore, 1) := by decide +kernel
theorem dX7_undo_223 : decode cX7_undo 223 = .ok (.aload_n 0, 1) := by decide +kernel
theorem dX7_undo_224 : decode cX7_undo 224 = .ok (.getfield 138, 3) := by decide +kernel
theorem dX7_undo_227 : decode cX7_undo 227 = .ok (.iload_n 1, 1) := by decide +kernel
theorem dX7_undo_228 : decode cX7_undo 228 = .ok (.aload_n 0, 1) := by decide +kernel
theorem dX7_undo_229 : decode cX7_undo 229 = .ok (.getfield 193, 3) := by decide +kernel
theorem dX7_undo_232 : decode cX7_undo 232 = .ok (.iload_n 1, 1) := by decide +kernel
theorem dX7_undo_233 : decode cX7_undo 233 = .ok (.iaload, 1) := by decide +kernel
theorem dX7_undo_234 : decode cX7_undo 234 = .ok (.iastore, 1) := by decide +kernel
theorem dX7_undo_235 : decode cX7_undo 235 = .ok (.iinc 1 1, 3) := by decide +kernel
theorem dX7_undo_238 : decode cX7_undo 238 = .ok (.goto (-33), 3) := by decide +kernel
theorem dX7_undo_241 : decode cX7_undo 241 = .ok (.iconst 0, 1) := by decide +kernel
theorem dX7_undo_242 : decode cX7_undo 242 = .ok (.istore_n 1, 1) := by decide +kernel
theorem dX7_undo_243 : decode cX7_undo 243 = .ok (.iload_n 1, 1) := by decide +kernel
theorem dX7_undo_244 : decode cX7_undo 244 = .ok (.bipush 8, 2) := by decide +kernel
theorem dX7_undo_246 : decode cX7_undo 246 = .ok (.if_icmp .ge 33, 3) := by decide +kernel
theorem dX7_undo_249 : decode cX7_undo 249 = .ok (.aload_n 0, 1) := by decide +kernel
theorem dX7_undo_250 : decode cX7_undo 250 = .ok (.getfield 105, 3) := by decide +kernel
theorem dX7_undo_253 : decode cX7_undo 253 = .ok (.iload_n 1, 1) := by decide +kernel
theorem dX7_undo_254 : decode cX7_undo 254 = .ok (.aload_n 0, 1) := by decide +kernel
theorem dX7_undo_255 : decode cX7_undo 255 = .ok (.getfield 196, 3) := by decide +kernel
theorem dX7_undo_258 : decode cX7_undo 258 = .ok (.iload_n 1, 1) := by decide +kernel
theorem dX7_undo_259 : decode cX7_undo 259 = .ok (.iaload, 1) := by decide +kernel
theorem dX7_undo_260 : decode cX7_undo 260 = .ok (.iastore, 1) := by decide +kernel
theorem dX7_undo_261 : decode cX7_undo 261 = .ok (.aload_n 0, 1) := by decide +kernel
theorem dX7_undo_262 : decode cX7_undo 262 = .ok (.getfield 108, 3) := by decide +kernel
theorem dX7_undo_265 : decode cX7_undo 265 = .ok (.iload_n 1, 1) := by decide +kernel
theorem dX7_undo_266 : decode cX7_undo 266 = .ok (.aload_n 0, 1) := by decide +kernel
theorem dX7_undo_267 : decode cX7_undo 267 = .ok (.getfield 199, 3) := by decide +kernel
theorem dX7_undo_270 : decode cX7_undo 270 = .ok (.iload_n 1, 1) := by decide +kernel
theorem dX7_undo_271 : decode cX7_undo 271 = .ok (.iaload, 1) := by decide +kernel
theorem dX7_undo_272 : decode cX7_undo 272 = .ok (.iastore, 1) := by decide +kernel
theorem dX7_undo_273 : decode cX7_undo 273 = .ok (.iinc 1 1, 3) := by decide +kernel
theorem dX7_undo_276 : decode cX7_undo 276 = .ok (.goto (-33), 3) := by decide +kernel
theorem dX7_undo_279 : decode cX7_undo 279 = .ok (.aload_n 0, 1) := by decide +kernel
theorem dX7_undo_280 : decode cX7_undo 280 = .ok (.getfield 7, 3) := by decide +kernel
theorem dX7_undo_283 : decode cX7_undo 283 = .ok (.ireturn, 1) := by decide +kernel
theorem dX7_body_0 : decode cX7_body 0 = .ok (.aload_n 0, 1) := by decide +kernel
theorem dX7_body_1 : decode cX7_body 1 = .ok (.getfield 202, 3) := by decide +kernel
theorem dX7_body_4 : decode cX7_body 4 = .ok (.bipush 20, 2) := by decide +kernel
theorem dX7_body_6 : decode cX7_body 6 = .ok (.if_icmp .ge 13, 3) := by decide +kernel
theorem dX7_body_9 : decode cX7_body 9 = .ok (.aload_n 0, 1) := by decide +kernel
theorem dX7_body_10 : decode cX7_body 10 = .ok (.getfield 205, 3) := by decide +kernel
theorem dX7_body_13 : decode cX7_body 13 = .ok (.aload_n 0, 1) := by decide +kernel
theorem dX7_body_14 : decode cX7_body 14 = .ok (.getfield 202, 3) := by decide +kernel
theorem dX7_body_17 : decode cX7_body 17 = .ok (.iload_n 1, 1) := by decide +kernel
theorem dX7_body_18 : decode cX7_body 18 = .ok (.iastore, 1) := by decide +kernel
theorem dX7_body_19 : decode cX7_body 19 = .ok (.aload_n 0, 1) := by decide +kernel
theorem dX7_body_20 : decode cX7_body 20 = .ok (.dup, 1) := by decide +kernel
theorem dX7_body_21 : decode cX7_body 21 = .ok (.getfield 202, 3) := by decide +kernel
theorem dX7_body_24 : decode cX7_body 24 = .ok (.iconst 1, 1) := by decide +kernel
theorem dX7_body_25 : decode cX7_body 25 = .ok (.iadd, 1) := by decide +kernel
theorem dX7_body_26 : decode cX7_body 26 = .ok (.putfield 202, 3) := by decide +kernel
theorem dX7_body_29 : decode cX7_body 29 = .ok (.return_, 1) := by decide +kernel
theorem dX7_handLies_0 : decode cX7_handLies 0 = .ok (.aload_n 0, 1) := by decide +kernel
theorem dX7_handLies_1 : decode cX7_handLies 1 = .ok (.bipush 10, 2) := by decide +kernel
theorem dX7_handLies_3 : decode cX7_handLies 3 = .ok (.invokevirtual 386, 3) := by decide +kernel
theorem dX7_handLies_6 : decode cX7_handLies 6 = .ok (.iload_n 2, 1) := by decide +kernel
theorem dX7_handLies_7 : decode cX7_handLies 7 = .ok (.iload_n 1, 1) := by decide +kernel
theorem dX7_handLies_8 : decode cX7_handLies 8 = .ok (.iadd, 1) := by decide +kernel
theorem dX7_handLies_9 : decode cX7_handLies 9 = .ok (.ireturn, 1) := by decide +kernel
theorem dX7_liesAct_0 : decode cX7_liesAct 0 = .ok (.aload_n 0, 1) := by decide +kernel
theorem dX7_liesAct_1 : decode cX7_liesAct 1 = .ok (.getfield 19, 3) := by decide +kernel
theorem dX7_liesAct_4 : decode cX7_liesAct 4 = .ok (.iload_n 1, 1) := by decide +kernel
theorem dX7_liesAct_5 : decode cX7_liesAct 5 = .ok (.iaload, 1) := by decide +kernel
theorem dX7_liesAct_6 : decode cX7_liesAct 6 = .ok (.tableswitch 83 2 6 #[34, 83, 49, 34, 63], 34) := by decide +kernel
theorem dX7_liesAct_40 : decode cX7_liesAct 40 = .ok (.aload_n 0, 1) := by decide +kernel
theorem dX7_liesAct_41 : decode cX7_liesAct 41 = .ok (.bipush 30, 2) := by decide +kernel
theorem dX7_liesAct_43 : decode cX7_liesAct 43 = .ok (.invokevirtual 386, 3) := by decide +kernel
theorem dX7_liesAct_46 : decode cX7_liesAct 46 = .ok (.aload_n 0, 1) := by decide +kernel
theorem dX7_liesAct_47 : decode cX7_liesAct 47 = .ok (.iload_n 1, 1) := by decide +kernel
theorem dX7_liesAct_48 : decode cX7_liesAct 48 = .ok (.iload_n 2, 1) := by decide +kernel
theorem dX7_liesAct_49 : decode cX7_liesAct 49 = .ok (.iconst 3, 1) := by decide +kernel
theorem dX7_liesAct_50 : decode cX7_liesAct 50 = .ok (.imul, 1) := by decide +kernel
theorem dX7_liesAct_51 : decode cX7_liesAct 51 = .ok (.invokevirtual 389, 3) := by decide +kernel
theorem dX7_liesAct_54 : decode cX7_liesAct 54 = .ok (.ireturn, 1) := by decide +kernel
theorem dX7_liesAct_55 : decode cX7_liesAct 55 = .ok (.aload_n 0, 1) := by decide +kernel
theorem dX7_liesAct_56 : decode cX7_liesAct 56 = .ok (.bipush 50, 2) := by decide +kernel
theorem dX7_liesAct_58 : decode cX7_liesAct 58 = .ok (.invokevirtual 386, 3) := by decide +kernel
theorem dX7_liesAct_61 : decode cX7_liesAct 61 = .ok (.aload_n 0, 1) := by decide +kernel
theorem dX7_liesAct_62 : decode cX7_liesAct 62 = .ok (.iload_n 1, 1) := by decide +kernel
theorem dX7_liesAct_63 : decode cX7_liesAct 63 = .ok (.iload_n 2, 1) := by decide +kernel
theorem dX7_liesAct_64 : decode cX7_liesAct 64 = .ok (.invokevirtual 389, 3) := by decide +kernel
theorem dX7_liesAct_67 : decode cX7_liesAct 67 = .ok (.ineg, 1) := by decide +kernel
theorem dX7_liesAct_68 : decode cX7_liesAct 68 = .ok (.ireturn, 1) := by decide +kernel
theorem dX7_liesAct_69 : decode cX7_liesAct 69 = .ok (.aload_n 0, 1) := by decide +kernel
theorem dX7_liesAct_70 : decode cX7_liesAct 70 = .ok (.bipush 71, 2) := by decide +kernel
theorem dX7_liesAct_72 : decode cX7_liesAct 72 = .ok (.invokevirtual 386, 3) := by decide +kernel
theorem dX7_liesAct_75 : decode cX7_liesAct 75 = .ok (.aload_n 0, 1) := by decide +kernel
theorem dX7_liesAct_76 : decode cX7_liesAct 76 = .ok (.iload_n 1, 1) := by decide +kernel
theorem dX7_liesAct_77 : decode cX7_liesAct 77 = .ok (.iload_n 2, 1) := by decide +kernel
theorem dX7_liesAct_78 : decode cX7_liesAct 78 = .ok (.invokevirtual 389, 3) := by decide +kernel
theorem dX7_liesAct_81 : decode cX7_liesAct 81 = .ok (.aload_n 0, 1) := by decide +kernel
theorem dX7_liesAct_82 : decode cX7_liesAct 82 = .ok (.getfield 23, 3) := by decide +kernel
theorem dX7_liesAct_85 : decode cX7_liesAct 85 = .ok (.iload_n 1, 1) := by decide +kernel
theorem dX7_liesAct_86 : decode cX7_liesAct 86 = .ok (.iaload, 1) := by decide +kernel
theorem dX7_liesAct_87 : decode cX7_liesAct 87 = .ok (.ixor, 1) := by decide +kernel
theorem dX7_liesAct_88 : decode cX7_liesAct 88 = .ok (.ireturn, 1) := by decide +kernel
theorem dX7_liesAct_89 : decode cX7_liesAct 89 = .ok (.aload_n 0, 1) := by decide +kernel
theorem dX7_liesAct_90 : decode cX7_liesAct 90 = .ok (.iload_n 1, 1) := by decide +kernel
theorem dX7_liesAct_91 : decode cX7_liesAct 91 = .ok (.iload_n 2, 1) := by decide +kernel
theorem dX7_liesAct_92 : decode cX7_liesAct 92 = .ok (.invokevirtual 389, 3) := by decide +kernel
theorem dX7_liesAct_95 : decode cX7_liesAct 95 = .ok (.ireturn, 1) := by decide +kernel
theorem dX7_handReads_0 : decode cX7_handReads 0 = .ok (.aload_n 0, 1) := by decide +kernel
theorem dX7_handReads_1 : decode cX7_handReads 1 = .ok (.bipush 11, 2) := by decide +kernel
theorem dX7_handReads_3 : decode cX7_handReads 3 = .ok (.invokevirtual 386, 3) := by decide +kernel
theorem dX7_handReads_6 : decode cX7_handReads 6 = .ok (.aload_n 0, 1) := by decide +kernel
theorem dX7_handReads_7 : decode cX7_handReads 7 = .ok (.iload_n 1, 1) := by decide +kernel
theorem dX7_handReads_8 : decode cX7_handReads 8 = .ok (.iload_n 2, 1) := by decide +kernel
theorem dX7_handReads_9 : decode cX7_handReads 9 = .ok (.invokevirtual 392, 3) := by decide +kernel
theorem dX7_handReads_12 : decode cX7_handReads 12 = .ok (.aload_n 0, 1) := by decide +kernel
theorem dX7_handReads_13 : decode cX7_handReads 13 = .ok (.getfield 23, 3) := by decide +kernel
theorem dX7_handReads_16 : decode cX7_handReads 16 = .ok (.iload_n 1, 1) := by decide +kernel
theorem dX7_handReads_17 : decode cX7_handReads 17 = .ok (.iaload, 1) := by decide +kernel
theorem dX7_handReads_18 : decode cX7_handReads 18 = .ok (.isub, 1) := by decide +kernel
theorem dX7_handReads_19 : decode cX7_handReads 19 = .ok (.ireturn, 1) := by decide +kernel
theorem dX7_softReads_0 : decode cX7_softReads 0 = .ok (.aload_n 0, 1) := by decide +kernel
theorem dX7_softReads_1 : decode cX7_softReads 1 = .ok (.bipush 20, 2) := by decide +kernel
theorem dX7_softReads_3 : decode cX7_softReads 3 = .ok (.invokevirtual 386, 3) := by decide +kernel
theorem dX7_softReads_6 : decode cX7_softReads 6 = .ok (.aload_n 0, 1) := by decide +kernel
theorem dX7_softReads_7 : decode cX7_softReads 7 = .ok (.iload_n 1, 1) := by decide +kernel
theorem dX7_softReads_8 : decode cX7_softReads 8 = .ok (.iload_n 2, 1) := by decide +kernel
theorem dX7_softReads_9 : decode cX7_softReads 9 = .ok (.invokevirtual 395, 3) := by decide +kernel
theorem dX7_softReads_12 : decode cX7_softReads 12 = .ok (.bipush 6, 2) := by decide +kernel
theorem dX7_softReads_14 : decode cX7_softReads 14 = .ok (.ixor, 1) := by decide +kernel
theorem dX7_softReads_15 : decode cX7_softReads 15 = .ok (.ireturn, 1) := by decide +kernel
theorem dX7_readsAct_0 : decode cX7_readsAct 0 = .ok (.aload_n 0, 1) := by decide +kernel
theorem dX7_readsAct_1 : decode cX7_readsAct 1 = .ok (.getfield 19, 3) := by decide +kernel
theorem dX7_readsAct_4 : decode cX7_readsAct 4 = .ok (.iload_n 1, 1) := by decide +kernel
theorem dX7_readsAct_5 : decode cX7_readsAct 5 = .ok (.iaload, 1) := by decide +kernel
theorem dX7_readsAct_6 : decode cX7_readsAct 6 = .ok (.lookupswitch 78 #[(1, 34), (4, 41), (6, 56)], 34) := by decide +kernel
theorem dX7_readsAct_40 : decode cX7_readsAct 40 = .ok (.aload_n 0, 1) := by decide +kernel
theorem dX7_readsAct_41 : decode cX7_readsAct 41 = .ok (.iload_n 1, 1) := by decide +kernel
theorem dX7_readsAct_42 : decode cX7_readsAct 42 = .ok (.iload_n 2, 1) := by decide +kernel
theorem dX7_readsAct_43 : decode cX7_readsAct 43 = .ok (.invokevirtual 398, 3) := by decide +kernel
theorem dX7_readsAct_46 : decode cX7_readsAct 46 = .ok (.ireturn, 1) := by decide +kernel
theorem dX7_readsAct_47 : decode cX7_readsAct 47 = .ok (.aload_n 0, 1) := by decide +kernel
theorem dX7_readsAct_48 : decode cX7_readsAct 48 = .ok (.bipush 51, 2) := by decide +kernel
theorem dX7_readsAct_50 : decode cX7_readsAct 50 = .ok (.invokevirtual 386, 3) := by decide +kernel
theorem dX7_readsAct_53 : decode cX7_readsAct 53 = .ok (.aload_n 0, 1) := by decide +kernel
theorem dX7_readsAct_54 : decode cX7_readsAct 54 = .ok (.iload_n 1, 1) := by decide +kernel
theorem dX7_readsAct_55 : decode cX7_readsAct 55 = .ok (.iload_n 2, 1) := by decide +kernel
theorem dX7_readsAct_56 : decode cX7_readsAct 56 = .ok (.iconst 1, 1) := by decide +kernel
theorem dX7_readsAct_57 : decode cX7_readsAct 57 = .ok (.iadd, 1) := by decide +kernel
theorem dX7_readsAct_58 : decode cX7_readsAct 58 = .ok (.invokevirtual 398, 3) := by decide +kernel
theorem dX7_readsAct_61 : decode cX7_readsAct 61 = .ok (.ireturn, 1) := by decide +kernel
theorem dX7_readsAct_62 : decode cX7_readsAct 62 = .ok (.aload_n 0, 1) := by decide +kernel
theorem dX7_readsAct_63 : decode cX7_readsAct 63 = .ok (.bipush 70, 2) := by decide +kernel
theorem dX7_readsAct_65 : decode cX7_readsAct 65 = .ok (.invokevirtual 386, 3) := by decide +kernel
theorem dX7_readsAct_68 : decode cX7_readsAct 68 = .ok (.aload_n 0, 1) := by decide +kernel
theorem dX7_readsAct_69 : decode cX7_readsAct 69 = .ok (.iload_n 1, 1) := by decide +kernel
theorem dX7_readsAct_70 : decode cX7_readsAct 70 = .ok (.iload_n 2, 1) := by decide +kernel
theorem dX7_readsAct_71 : decode cX7_readsAct 71 = .ok (.invokevirtual 395, 3) := by decide +kernel
theorem dX7_readsAct_74 : decode cX7_readsAct 74 = .ok (.istore_n 3, 1) := by decide +kernel
theorem dX7_readsAct_75 : decode cX7_readsAct 75 = .ok (.iload_n 3, 1) := by decide +kernel
theorem dX7_readsAct_76 : decode cX7_readsAct 76 = .ok (.aload_n 0, 1) := by decide +kernel
theorem dX7_readsAct_77 : decode cX7_readsAct 77 = .ok (.iload_n 1, 1) := by decide +kernel
theorem dX7_readsAct_78 : decode cX7_readsAct 78 = .ok (.iconst 2, 1) := by decide +kernel
theorem dX7_readsAct_79 : decode cX7_readsAct 79 = .ok (.invokevirtual 389, 3) := by decide +kernel
theorem dX7_readsAct_82 : decode cX7_readsAct 82 = .ok (.iadd, 1) := by decide +kernel
theorem dX7_readsAct_83 : decode cX7_readsAct 83 = .ok (.ireturn, 1) := by decide +kernel
theorem dX7_readsAct_84 : decode cX7_readsAct 84 = .ok (.aload_n 0, 1) := by decide +kernel
theorem dX7_readsAct_85 : decode cX7_readsAct 85 = .ok (.iload_n 1, 1) := by decide +kernel
theorem dX7_readsAct_86 : decode cX7_readsAct 86 = .ok (.iload_n 2, 1) := by decide +kernel
theorem dX7_readsAct_87 : decode cX7_readsAct 87 = .ok (.invokevirtual 395, 3) := by decide +kernel
theorem dX7_readsAct_90 : decode cX7_readsAct 90 = .ok (.ireturn, 1) := by decide +kernel
theorem dX7_handTells_0 : decode cX7_handTells 0 = .ok (.aload_n 0, 1) := by decide +kernel
theorem dX7_handTells_1 : decode cX7_handTells 1 = .ok (.bipush 12, 2) := by decide +kernel
theorem dX7_handTells_3 : decode cX7_handTells 3 = .ok (.invokevirtual 386, 3) := by decide +kernel
theorem dX7_handTells_6 : decode cX7_handTells 6 = .ok (.aload_n 0, 1) := by decide +kernel
theorem dX7_handTells_7 : decode cX7_handTells 7 = .ok (.iload_n 1, 1) := by decide +kernel
theorem dX7_handTells_8 : decode cX7_handTells 8 = .ok (.iload_n 2, 1) := by decide +kernel
theorem dX7_handTells_9 : decode cX7_handTells 9 = .ok (.invokevirtual 401, 3) := by decide +kernel
theorem dX7_handTells_12 : decode cX7_handTells 12 = .ok (.iconst 2, 1) := by decide +kernel
theorem dX7_handTells_13 : decode cX7_handTells 13 = .ok (.imul, 1) := by decide +kernel
theorem dX7_handTells_14 : decode cX7_handTells 14 = .ok (.ireturn, 1) := by decide +kernel
theorem dX7_tellsAct_0 : decode cX7_tellsAct 0 = .ok (.aload_n 0, 1) := by decide +kernel
theorem dX7_tellsAct_1 : decode cX7_tellsAct 1 = .ok (.getfield 19, 3) := by decide +kernel
theorem dX7_tellsAct_4 : decode cX7_tellsAct 4 = .ok (.iload_n 1, 1) := by decide +kernel
theorem dX7_tellsAct_5 : decode cX7_tellsAct 5 = .ok (.iaload, 1) := by decide +kernel
theorem dX7_tellsAct_6 : decode cX7_tellsAct 6 = .ok (.tableswitch 67 3 6 #[30, 67, 52, 30], 30) := by decide +kernel
theorem dX7_tellsAct_36 : decode cX7_tellsAct 36 = .ok (.aload_n 0, 1) := by decide +kernel
theorem dX7_tellsAct_37 : decode cX7_tellsAct 37 = .ok (.bipush 40, 2) := by decide +kernel
theorem dX7_tellsAct_39 : decode cX7_tellsAct 39 = .ok (.invokevirtual 386, 3) := by decide +kernel
theorem dX7_tellsAct_42 : decode cX7_tellsAct 42 = .ok (.aload_n 0, 1) := by decide +kernel
theorem dX7_tellsAct_43 : decode cX7_tellsAct 43 = .ok (.iload_n 1, 1) := by decide +kernel
theorem dX7_tellsAct_44 : decode cX7_tellsAct 44 = .ok (.iload_n 2, 1) := by decide +kernel
theorem dX7_tellsAct_45 : decode cX7_tellsAct 45 = .ok (.invokevirtual 404, 3) := by decide +kernel
theorem dX7_tellsAct_48 : decode cX7_tellsAct 48 = .ok (.istore_n 3, 1) := by decide +kernel
theorem dX7_tellsAct_49 : decode cX7_tellsAct 49 = .ok (.iload_n 3, 1) := by decide +kernel
theorem dX7_tellsAct_50 : decode cX7_tellsAct 50 = .ok (.aload_n 0, 1) := by decide +kernel
theorem dX7_tellsAct_51 : decode cX7_tellsAct 51 = .ok (.iload_n 1, 1) := by decide +kernel
theorem dX7_tellsAct_52 : decode cX7_tellsAct 52 = .ok (.iconst 1, 1) := by decide +kernel
theorem dX7_tellsAct_53 : decode cX7_tellsAct 53 = .ok (.invokevirtual 401, 3) := by decide +kernel
theorem dX7_tellsAct_56 : decode cX7_tellsAct 56 = .ok (.iadd, 1) := by decide +kernel
theorem dX7_tellsAct_57 : decode cX7_tellsAct 57 = .ok (.ireturn, 1) := by decide +kernel
theorem dX7_tellsAct_58 : decode cX7_tellsAct 58 = .ok (.aload_n 0, 1) := by decide +kernel
theorem dX7_tellsAct_59 : decode cX7_tellsAct 59 = .ok (.bipush 60, 2) := by decide +kernel
theorem dX7_tellsAct_61 : decode cX7_tellsAct 61 = .ok (.invokevirtual 386, 3) := by decide +kernel
theorem dX7_tellsAct_64 : decode cX7_tellsAct 64 = .ok (.aload_n 0, 1) := by decide +kernel
theorem dX7_tellsAct_65 : decode cX7_tellsAct 65 = .ok (.iload_n 1, 1) := by decide +kernel
theorem dX7_tellsAct_66 : decode cX7_tellsAct 66 = .ok (.iload_n 2, 1) := by decide +kernel
theorem dX7_tellsAct_67 : decode cX7_tellsAct 67 = .ok (.iload_n 1, 1) := by decide +kernel
theorem dX7_tellsAct_68 : decode cX7_tellsAct 68 = .ok (.isub, 1) := by decide +kernel
theorem dX7_tellsAct_69 : decode cX7_tellsAct 69 = .ok (.invokevirtual 404, 3) := by decide +kernel
theorem dX7_tellsAct_72 : decode cX7_tellsAct 72 = .ok (.ireturn, 1) := by decide +kernel
theorem dX7_tellsAct_73 : decode cX7_tellsAct 73 = .ok (.aload_n 0, 1) := by decide +kernel
theorem dX7_tellsAct_74 : decode cX7_tellsAct 74 = .ok (.iload_n 1, 1) := by decide +kernel
theorem dX7_tellsAct_75 : decode cX7_tellsAct 75 = .ok (.iload_n 2, 1) := by decide +kernel
theorem dX7_tellsAct_76 : decode cX7_tellsAct 76 = .ok (.invokevirtual 404, 3) := by decide +kernel
theorem dX7_tellsAct_79 : decode cX7_tellsAct 79 = .ok (.ireturn, 1) := by decide +kernel
theorem dX7_act_0 : decode cX7_act 0 = .ok (.aload_n 0, 1) := by decide +kernel
theorem dX7_act_1 : decode cX7_act 1 = .ok (.iconst 0, 1) := by decide +kernel
theorem dX7_act_2 : decode cX7_act 2 = .ok (.putfield 202, 3) := by decide +kernel
theorem dX7_act_5 : decode cX7_act 5 = .ok (.aload_n 0, 1) := by decide +kernel
theorem dX7_act_6 : decode cX7_act 6 = .ok (.iload_n 1, 1) := by decide +kernel
theorem dX7_act_7 : decode cX7_act 7 = .ok (.invokevirtual 229, 3) := by decide +kernel
theorem dX7_act_10 : decode cX7_act 10 = .ok (.ifCond .eq 13, 3) := by decide +kernel
theorem dX7_act_13 : decode cX7_act 13 = .ok (.aload_n 0, 1) := by decide +kernel
theorem dX7_act_14 : decode cX7_act 14 = .ok (.iload_n 2, 1) := by decide +kernel
theorem dX7_act_15 : decode cX7_act 15 = .ok (.iconst 0, 1) := by decide +kernel
theorem dX7_act_16 : decode cX7_act 16 = .ok (.iconst 2, 1) := by decide +kernel
theorem dX7_act_17 : decode cX7_act 17 = .ok (.invokevirtual 221, 3) := by decide +kernel
theorem dX7_act_20 : decode cX7_act 20 = .ok (.ifCond .ne 5, 3) := by decide +kernel
theorem dX7_act_23 : decode cX7_act 23 = .ok (.iconst 0, 1) := by decide +kernel
theorem dX7_act_24 : decode cX7_act 24 = .ok (.ireturn, 1) := by decide +kernel
theorem dX7_act_25 : decode cX7_act 25 = .ok (.iload_n 2, 1) := by decide +kernel
theorem dX7_act_26 : decode cX7_act 26 = .ok (.ifCond .ne 12, 3) := by decide +kernel
theorem dX7_act_29 : decode cX7_act 29 = .ok (.aload_n 0, 1) := by decide +kernel
theorem dX7_act_30 : decode cX7_act 30 = .ok (.iload_n 1, 1) := by decide +kernel
theorem dX7_act_31 : decode cX7_act 31 = .ok (.iload_n 3, 1) := by decide +kernel
theorem dX7_act_32 : decode cX7_act 32 = .ok (.invokevirtual 392, 3) := by decide +kernel
theorem dX7_act_35 : decode cX7_act 35 = .ok (.goto 23, 3) := by decide +kernel
theorem dX7_act_38 : decode cX7_act 38 = .ok (.iload_n 2, 1) := by decide +kernel
theorem dX7_act_39 : decode cX7_act 39 = .ok (.iconst 1, 1) := by decide +kernel
theorem dX7_act_40 : decode cX7_act 40 = .ok (.if_icmp .ne 12, 3) := by decide +kernel
theorem dX7_act_43 : decode cX7_act 43 = .ok (.aload_n 0, 1) := by decide +kernel
theorem dX7_act_44 : decode cX7_act 44 = .ok (.iload_n 1, 1) := by decide +kernel
theorem dX7_act_45 : decode cX7_act 45 = .ok (.iload_n 3, 1) := by decide +kernel
theorem dX7_act_46 : decode cX7_act 46 = .ok (.invokevirtual 401, 3) := by decide +kernel
theorem dX7_act_49 : decode cX7_act 49 = .ok (.goto 9, 3) := by decide +kernel
theorem dX7_act_52 : decode cX7_act 52 = .ok (.aload_n 0, 1) := by decide +kernel
theorem dX7_act_53 : decode cX7_act 53 = .ok (.iload_n 1, 1) := by decide +kernel
theorem dX7_act_54 : decode cX7_act 54 = .ok (.iload_n 3, 1) := by decide +kernel
theorem dX7_act_55 : decode cX7_act 55 = .ok (.invokevirtual 407, 3) := by decide +kernel
theorem dX7_act_58 : decode cX7_act 58 = .ok (.ireturn, 1) := by decide +kernel
theorem dX7_trace_0 : decode cX7_trace 0 = .ok (.aload_n 0, 1) := by decide +kernel
theorem dX7_trace_1 : decode cX7_trace 1 = .ok (.iload_n 1, 1) := by decide +kernel
theorem dX7_trace_2 : decode cX7_trace 2 = .ok (.iconst 0, 1) := by decide +kernel
theorem dX7_trace_3 : decode cX7_trace 3 = .ok (.bipush 19, 2) := by decide +kernel
theorem dX7_trace_5 : decode cX7_trace 5 = .ok (.invokevirtual 221, 3) := by decide +kernel
theorem dX7_trace_8 : decode cX7_trace 8 = .ok (.ifCond .eq 20, 3) := by decide +kernel
theorem dX7_trace_11 : decode cX7_trace 11 = .ok (.iload_n 1, 1) := by decide +kernel
theorem dX7_trace_12 : decode cX7_trace 12 = .ok (.aload_n 0, 1) := by decide +kernel
theorem dX7_trace_13 : decode cX7_trace 13 = .ok (.getfield 202, 3) := by decide +kernel
theorem dX7_trace_16 : decode cX7_trace 16 = .ok (.if_icmp .ge 12, 3) := by decide +kernel
theorem dX7_trace_19 : decode cX7_trace 19 = .ok (.aload_n 0, 1) := by decide +kernel
theorem dX7_trace_20 : decode cX7_trace 20 = .ok (.getfield 205, 3) := by decide +kernel
theorem dX7_trace_23 : decode cX7_trace 23 = .ok (.iload_n 1, 1) := by decide +kernel
theorem dX7_trace_24 : decode cX7_trace 24 = .ok (.iaload, 1) := by decide +kernel
theorem dX7_trace_25 : decode cX7_trace 25 = .ok (.goto 4, 3) := by decide +kernel
theorem dX7_trace_28 : decode cX7_trace 28 = .ok (.iconst (-1), 1) := by decide +kernel
theorem dX7_trace_29 : decode cX7_trace 29 = .ok (.ireturn, 1) := by decide +kernel
theorem dX7_taken_0 : decode cX7_taken 0 = .ok (.aload_n 0, 1) := by decide +kernel
theorem dX7_taken_1 : decode cX7_taken 1 = .ok (.iload_n 2, 1) := by decide +kernel
theorem dX7_taken_2 : decode cX7_taken 2 = .ok (.iconst 0, 1) := by decide +kernel
theorem dX7_taken_3 : decode cX7_taken 3 = .ok (.bipush 6, 2) := by decide +kernel
theorem dX7_taken_5 : decode cX7_taken 5 = .ok (.invokevirtual 221, 3) := by decide +kernel
theorem dX7_taken_8 : decode cX7_taken 8 = .ok (.ifCond .ne 6, 3) := by decide +kernel
theorem dX7_taken_11 : decode cX7_taken 11 = .ok (.bipush (-2), 2) := by decide +kernel
theorem dX7_taken_13 : decode cX7_taken 13 = .ok (.ireturn, 1) := by decide +kernel
theorem dX7_taken_14 : decode cX7_taken 14 = .ok (.aload_n 0, 1) := by decide +kernel
theorem dX7_taken_15 : decode cX7_taken 15 = .ok (.iload_n 1, 1) := by decide +kernel
theorem dX7_taken_16 : decode cX7_taken 16 = .ok (.invokevirtual 229, 3) := by decide +kernel
theorem dX7_taken_19 : decode cX7_taken 19 = .ok (.ifCond .ne 6, 3) := by decide +kernel
theorem dX7_taken_22 : decode cX7_taken 22 = .ok (.bipush (-11), 2) := by decide +kernel
theorem dX7_taken_24 : decode cX7_taken 24 = .ok (.ireturn, 1) := by decide +kernel
theorem dX7_taken_25 : decode cX7_taken 25 = .ok (.aload_n 0, 1) := by decide +kernel
theorem dX7_taken_26 : decode cX7_taken 26 = .ok (.getfield 19, 3) := by decide +kernel
theorem dX7_taken_29 : decode cX7_taken 29 = .ok (.iload_n 1, 1) := by decide +kernel
theorem dX7_taken_30 : decode cX7_taken 30 = .ok (.iaload, 1) := by decide +kernel
theorem dX7_taken_31 : decode cX7_taken 31 = .ok (.istore_n 3, 1) := by decide +kernel
theorem dX7_taken_32 : decode cX7_taken 32 = .ok (.iload_n 2, 1) := by decide +kernel
theorem dX7_taken_33 : decode cX7_taken 33 = .ok (.ifCond .eq 39, 3) := by decide +kernel
theorem dX7_taken_36 : decode cX7_taken 36 = .ok (.iload_n 3, 1) := by decide +kernel
theorem dX7_taken_37 : decode cX7_taken 37 = .ok (.iload_n 2, 1) := by decide +kernel
theorem dX7_taken_38 : decode cX7_taken 38 = .ok (.if_icmp .eq 34, 3) := by decide +kernel
theorem dX7_taken_41 : decode cX7_taken 41 = .ok (.iload_n 2, 1) := by decide +kernel
theorem dX7_taken_42 : decode cX7_taken 42 = .ok (.iconst 1, 1) := by decide +kernel
theorem dX7_taken_43 : decode cX7_taken 43 = .ok (.if_icmp .ne 8, 3) := by decide +kernel
theorem dX7_taken_46 : decode cX7_taken 46 = .ok (.iload_n 3, 1) := by decide +kernel
theorem dX7_taken_47 : decode cX7_taken 47 = .ok (.iconst 4, 1) := by decide +kernel
theorem dX7_taken_48 : decode cX7_taken 48 = .ok (.if_icmp .eq 24, 3) := by decide +kernel
theorem dX7_taken_51 : decode cX7_taken 51 = .ok (.iload_n 2, 1) := by decide +kernel
theorem dX7_taken_52 : decode cX7_taken 52 = .ok (.iconst 2, 1) := by decide +kernel
theorem dX7_taken_53 : decode cX7_taken 53 = .ok (.if_icmp .ne 8, 3) := by decide +kernel
theorem dX7_taken_56 : decode cX7_taken 56 = .ok (.iload_n 3, 1) := by decide +kernel
theorem dX7_taken_57 : decode cX7_taken 57 = .ok (.iconst 5, 1) := by decide +kernel
theorem dX7_taken_58 : decode cX7_taken 58 = .ok (.if_icmp .eq 14, 3) := by decide +kernel
theorem dX7_taken_61 : decode cX7_taken 61 = .ok (.iload_n 2, 1) := by decide +kernel
theorem dX7_taken_62 : decode cX7_taken 62 = .ok (.iconst 3, 1) := by decide +kernel
theorem dX7_taken_63 : decode cX7_taken 63 = .ok (.if_icmp .ne 13, 3) := by decide +kernel
theorem dX7_taken_66 : decode cX7_taken 66 = .ok (.iload_n 3, 1) := by decide +kernel
theorem dX7_taken_67 : decode cX7_taken 67 = .ok (.bipush 6, 2) := by decide +kernel
theorem dX7_taken_69 : decode cX7_taken 69 = .ok (.if_icmp .ne 7, 3) := by decide +kernel
theorem dX7_taken_72 : decode cX7_taken 72 = .ok (.iload_n 3, 1) := by decide +kernel
theorem dX7_taken_73 : decode cX7_taken 73 = .ok (.goto 5, 3) := by decide +kernel
theorem dX7_taken_76 : decode cX7_taken 76 = .ok (.bipush (-12), 2) := by decide +kernel
theorem dX7_taken_78 : decode cX7_taken 78 = .ok (.ireturn, 1) := by decide +kernel
theorem dX7_count_0 : decode cX7_count 0 = .ok (.iload_n 1, 1) := by decide +kernel
theorem dX7_count_1 : decode cX7_count 1 = .ok (.tableswitch 78 0 6 #[43, 48, 53, 58, 63, 68, 73], 43) := by decide +kernel
theorem dX7_count_44 : decode cX7_count 44 = .ok (.aload_n 0, 1) := by decide +kernel
theorem dX7_count_45 : decode cX7_count 45 = .ok (.getfield 7, 3) := by decide +kernel
theorem dX7_count_48 : decode cX7_count 48 = .ok (.ireturn, 1) := by decide +kernel
theorem dX7_count_49 : decode cX7_count 49 = .ok (.aload_n 0, 1) := by decide +kernel
theorem dX7_count_50 : decode cX7_count 50 = .ok (.getfield 35, 3) := by decide +kernel
theorem dX7_count_53 : decode cX7_count 53 = .ok (.ireturn, 1) := by decide +kernel
theorem dX7_count_54 : decode cX7_count 54 = .ok (.aload_n 0, 1) := by decide +kernel
theorem dX7_count_55 : decode cX7_count 55 = .ok (.getfield 120, 3) := by decide +kernel
theorem dX7_count_58 : decode cX7_count 58 = .ok (.ireturn, 1) := by decide +kernel
theorem dX7_count_59 : decode cX7_count 59 = .ok (.aload_n 0, 1) := by decide +kernel
theorem dX7_count_60 : decode cX7_count 60 = .ok (.getfield 132, 3) := by decide +kernel
theorem dX7_count_63 : decode cX7_count 63 = .ok (.ireturn, 1) := by decide +kernel
theorem dX7_count_64 : decode cX7_count 64 = .ok (.aload_n 0, 1) := by decide +kernel
theorem dX7_count_65 : decode cX7_count 65 = .ok (.getfield 102, 3) := by decide +kernel
theorem dX7_count_68 : decode cX7_count 68 = .ok (.ireturn, 1) := by decide +kernel
theorem dX7_count_69 : decode cX7_count 69 = .ok (.aload_n 0, 1) := by decide +kernel
theorem dX7_count_70 : decode cX7_count 70 = .ok (.getfield 41, 3) := by decide +kernel
theorem dX7_count_73 : decode cX7_count 73 = .ok (.ireturn, 1) := by decide +kernel
theorem dX7_count_74 : decode cX7_count 74 = .ok (.aload_n 0, 1) := by decide +kernel
theorem dX7_count_75 : decode cX7_count 75 = .ok (.getfield 202, 3) := by decide +kernel
theorem dX7_count_78 : decode cX7_count 78 = .ok (.ireturn, 1) := by decide +kernel
theorem dX7_count_79 : decode cX7_count 79 = .ok (.bipush (-2), 2) := by decide +kernel
theorem dX7_count_81 : decode cX7_count 81 = .ok (.ireturn, 1) := by decide +kernel
theorem dX7_isTape_0 : decode cX7_isTape 0 = .ok (.aload_n 0, 1) := by decide +kernel
theorem dX7_isTape_1 : decode cX7_isTape 1 = .ok (.iload_n 1, 1) := by decide +kernel
theorem dX7_isTape_2 : decode cX7_isTape 2 = .ok (.iconst 0, 1) := by decide +kernel
theorem dX7_isTape_3 : decode cX7_isTape 3 = .ok (.iconst 5, 1) := by decide +kernel
theorem dX7_isTape_4 : decode cX7_isTape 4 = .ok (.invokevirtual 221, 3) := by decide +kernel
theorem dX7_isTape_7 : decode cX7_isTape 7 = .ok (.ireturn, 1) := by decide +kernel
theorem dX7_tape_0 : decode cX7_tape 0 = .ok (.aload_n 0, 1) := by decide +kernel
theorem dX7_tape_1 : decode cX7_tape 1 = .ok (.iload_n 1, 1) := by decide +kernel
theorem dX7_tape_2 : decode cX7_tape 2 = .ok (.invokevirtual 383, 3) := by decide +kernel
theorem dX7_tape_5 : decode cX7_tape 5 = .ok (.ifCond .ne 5, 3) := by decide +kernel
theorem dX7_tape_8 : decode cX7_tape 8 = .ok (.iconst (-1), 1) := by decide +kernel
theorem dX7_tape_9 : decode cX7_tape 9 = .ok (.ireturn, 1) := by decide +kernel
theorem dX7_tape_10 : decode cX7_tape 10 = .ok (.aload_n 0, 1) := by decide +kernel
theorem dX7_tape_11 : decode cX7_tape 11 = .ok (.iload_n 2, 1) := by decide +kernel
theorem dX7_tape_12 : decode cX7_tape 12 = .ok (.iconst (-1), 1) := by decide +kernel
theorem dX7_tape_13 : decode cX7_tape 13 = .ok (.iconst 4, 1) := by decide +kernel
theorem dX7_tape_14 : decode cX7_tape 14 = .ok (.invokevirtual 221, 3) := by decide +kernel
theorem dX7_tape_17 : decode cX7_tape 17 = .ok (.ifCond .eq 13, 3) := by decide +kernel
theorem dX7_tape_20 : decode cX7_tape 20 = .ok (.iload_n 2, 1) := by decide +kernel
theorem dX7_tape_21 : decode cX7_tape 21 = .ok (.ifCond .lt 12, 3) := by decide +kernel
theorem dX7_tape_24 : decode cX7_tape 24 = .ok (.iload_n 3, 1) := by decide +kernel
theorem dX7_tape_25 : decode cX7_tape 25 = .ok (.bipush 60, 2) := by decide +kernel
theorem dX7_tape_27 : decode cX7_tape 27 = .ok (.if_icmp .le 6, 3) := by decide +kernel
theorem dX7_tape_30 : decode cX7_tape 30 = .ok (.bipush (-2), 2) := by decide +kernel
theorem dX7_tape_32 : decode cX7_tape 32 = .ok (.ireturn, 1) := by decide +kernel
theorem dX7_tape_33 : decode cX7_tape 33 = .ok (.iload_n 2, 1) := by decide +kernel
theorem dX7_tape_34 : decode cX7_tape 34 = .ok (.ifCond .lt 10, 3) := by decide +kernel
theorem dX7_tape_37 : decode cX7_tape 37 = .ok (.iload_n 3, 1) := by decide +kernel
theorem dX7_tape_38 : decode cX7_tape 38 = .ok (.ifCond .ge 6, 3) := by decide +kernel
theorem dX7_tape_41 : decode cX7_tape 41 = .ok (.bipush (-14), 2) := by decide +kernel
theorem dX7_tape_43 : decode cX7_tape 43 = .ok (.ireturn, 1) := by decide +kernel
theorem dX7_tape_44 : decode cX7_tape 44 = .ok (.aload_n 0, 1) := by decide +kernel
theorem dX7_tape_45 : decode cX7_tape 45 = .ok (.getfield 208, 3) := by decide +kernel
theorem dX7_tape_48 : decode cX7_tape 48 = .ok (.iload_n 1, 1) := by decide +kernel
theorem dX7_tape_49 : decode cX7_tape 49 = .ok (.iload_n 2, 1) := by decide +kernel
theorem dX7_tape_50 : decode cX7_tape 50 = .ok (.iastore, 1) := by decide +kernel
theorem dX7_tape_51 : decode cX7_tape 51 = .ok (.aload_n 0, 1) := by decide +kernel
theorem dX7_tape_52 : decode cX7_tape 52 = .ok (.getfield 211, 3) := by decide +kernel
theorem dX7_tape_55 : decode cX7_tape 55 = .ok (.iload_n 1, 1) := by decide +kernel
theorem dX7_tape_56 : decode cX7_tape 56 = .ok (.iload_n 2, 1) := by decide +kernel
theorem dX7_tape_57 : decode cX7_tape 57 = .ok (.ifCond .ge 7, 3) := by decide +kernel
theorem dX7_tape_60 : decode cX7_tape 60 = .ok (.iconst 0, 1) := by decide +kernel
theorem dX7_tape_61 : decode cX7_tape 61 = .ok (.goto 4, 3) := by decide +kernel
theorem dX7_tape_64 : decode cX7_tape 64 = .ok (.iload_n 3, 1) := by decide +kernel
theorem dX7_tape_65 : decode cX7_tape 65 = .ok (.iastore, 1) := by decide +kernel
theorem dX7_tape_66 : decode cX7_tape 66 = .ok (.iconst 0, 1) := by decide +kernel
theorem dX7_tape_67 : decode cX7_tape 67 = .ok (.istore 4, 2) := by decide +kernel
theorem dX7_tape_69 : decode cX7_tape 69 = .ok (.iload 4, 2) := by decide +kernel
theorem dX7_tape_71 : decode cX7_tape 71 = .ok (.bipush 60, 2) := by decide +kernel
theorem dX7_tape_73 : decode cX7_tape 73 = .ok (.if_icmp .ge 22, 3) := by decide +kernel
theorem dX7_tape_76 : decode cX7_tape 76 = .ok (.aload_n 0, 1) := by decide +kernel
theorem dX7_tape_77 : decode cX7_tape 77 = .ok (.getfield 214, 3) := by decide +kernel
theorem dX7_tape_80 : decode cX7_tape 80 = .ok (.bipush 60, 2) := by decide +kernel
theorem dX7_tape_82 : decode cX7_tape 82 = .ok (.iload_n 1, 1) := by decide +kernel
theorem dX7_tape_83 : decode cX7_tape 83 = .ok (.imul, 1) := by decide +kernel
theorem dX7_tape_84 : decode cX7_tape 84 = .ok (.iload 4, 2) := by decide +kernel
theorem dX7_tape_86 : decode cX7_tape 86 = .ok (.iadd, 1) := by decide +kernel
theorem dX7_tape_87 : decode cX7_tape 87 = .ok (.lconst 0, 1) := by decide +kernel
theorem dX7_tape_88 : decode cX7_tape 88 = .ok (.lastore, 1) := by decide +kernel
theorem dX7_tape_89 : decode cX7_tape 89 = .ok (.iinc 4 1, 3) := by decide +kernel
theorem dX7_tape_92 : decode cX7_tape 92 = .ok (.goto (-23), 3) := by decide +kernel
theorem dX7_tape_95 : decode cX7_tape 95 = .ok (.iconst 1, 1) := by decide +kernel
theorem dX7_tape_96 : decode cX7_tape 96 = .ok (.ireturn, 1) := by decide +kernel
theorem dX7_narrow_0 : decode cX7_narrow 0 = .ok (.iload_n 1, 1) := by decide +kernel
theorem dX7_narrow_1 : decode cX7_narrow 1 = .ok (.ifCond .ne 10, 3) := by decide +kernel
theorem dX7_narrow_4 : decode cX7_narrow 4 = .ok (.lload_n 2, 1) := by decide +kernel
theorem dX7_narrow_5 : decode cX7_narrow 5 = .ok (.l2i, 1) := by decide +kernel
theorem dX7_narrow_6 : decode cX7_narrow 6 = .ok (.i2b, 1) := by decide +kernel
theorem dX7_narrow_7 : decode cX7_narrow 7 = .ok (.i2l, 1) := by decide +kernel
theorem dX7_narrow_8 : decode cX7_narrow 8 = .ok (.goto 46, 3) := by decide +kernel
theorem dX7_narrow_11 : decode cX7_narrow 11 = .ok (.iload_n 1, 1) := by decide +kernel
theorem dX7_narrow_12 : decode cX7_narrow 12 = .ok (.iconst 1, 1) := by decide +kernel
theorem dX7_narrow_13 : decode cX7_narrow 13 = .ok (.if_icmp .ne 10, 3) := by decide +kernel
theorem dX7_narrow_16 : decode cX7_narrow 16 = .ok (.lload_n 2, 1) := by decide +kernel
theorem dX7_narrow_17 : decode cX7_narrow 17 = .ok (.l2i, 1) := by decide +kernel
theorem dX7_narrow_18 : decode cX7_narrow 18 = .ok (.i2s, 1) := by decide +kernel
theorem dX7_narrow_19 : decode cX7_narrow 19 = .ok (.i2l, 1) := by decide +kernel
theorem dX7_narrow_20 : decode cX7_narrow 20 = .ok (.goto 34, 3) := by decide +kernel
theorem dX7_narrow_23 : decode cX7_narrow 23 = .ok (.iload_n 1, 1) := by decide +kernel
theorem dX7_narrow_24 : decode cX7_narrow 24 = .ok (.iconst 2, 1) := by decide +kernel
theorem dX7_narrow_25 : decode cX7_narrow 25 = .ok (.if_icmp .ne 9, 3) := by decide +kernel
theorem dX7_narrow_28 : decode cX7_narrow 28 = .ok (.lload_n 2, 1) := by decide +kernel
theorem dX7_narrow_29 : decode cX7_narrow 29 = .ok (.l2i, 1) := by decide +kernel
theorem dX7_narrow_30 : decode cX7_narrow 30 = .ok (.i2l, 1) := by decide +kernel
theorem dX7_narrow_31 : decode cX7_narrow 31 = .ok (.goto 23, 3) := by decide +kernel
theorem dX7_narrow_34 : decode cX7_narrow 34 = .ok (.iload_n 1, 1) := by decide +kernel
theorem dX7_narrow_35 : decode cX7_narrow 35 = .ok (.iconst 4, 1) := by decide +kernel
theorem dX7_narrow_36 : decode cX7_narrow 36 = .ok (.if_icmp .ne 17, 3) := by decide +kernel
theorem dX7_narrow_39 : decode cX7_narrow 39 = .ok (.lload_n 2, 1) := by decide +kernel
theorem dX7_narrow_40 : decode cX7_narrow 40 = .ok (.lconst 0, 1) := by decide +kernel
theorem dX7_narrow_41 : decode cX7_narrow 41 = .ok (.lcmp, 1) := by decide +kernel
theorem dX7_narrow_42 : decode cX7_narrow 42 = .ok (.ifCond .eq 7, 3) := by decide +kernel
theorem dX7_narrow_45 : decode cX7_narrow 45 = .ok (.lconst 1, 1) := by decide +kernel
theorem dX7_narrow_46 : decode cX7_narrow 46 = .ok (.goto 8, 3) := by decide +kernel
theorem dX7_narrow_49 : decode cX7_narrow 49 = .ok (.lconst 0, 1) := by decide +kernel
theorem dX7_narrow_50 : decode cX7_narrow 50 = .ok (.goto 4, 3) := by decide +kernel
theorem dX7_narrow_53 : decode cX7_narrow 53 = .ok (.lload_n 2, 1) := by decide +kernel
theorem dX7_narrow_54 : decode cX7_narrow 54 = .ok (.lreturn, 1) := by decide +kernel
theorem dX7_item_0 : decode cX7_item 0 = .ok (.aload_n 0, 1) := by decide +kernel
theorem dX7_item_1 : decode cX7_item 1 = .ok (.iload_n 1, 1) := by decide +kernel
theorem dX7_item_2 : decode cX7_item 2 = .ok (.invokevirtual 383, 3) := by decide +kernel
theorem dX7_item_5 : decode cX7_item 5 = .ok (.ifCond .ne 5, 3) := by decide +kernel
theorem dX7_item_8 : decode cX7_item 8 = .ok (.iconst (-1), 1) := by decide +kernel
theorem dX7_item_9 : decode cX7_item 9 = .ok (.ireturn, 1) := by decide +kernel
theorem dX7_item_10 : decode cX7_item 10 = .ok (.aload_n 0, 1) := by decide +kernel
theorem dX7_item_11 : decode cX7_item 11 = .ok (.getfield 208, 3) := by decide +kernel
theorem dX7_item_14 : decode cX7_item 14 = .ok (.iload_n 1, 1) := by decide +kernel
theorem dX7_item_15 : decode cX7_item 15 = .ok (.iaload, 1) := by decide +kernel
theorem dX7_item_16 : decode cX7_item 16 = .ok (.ifCond .ge 6, 3) := by decide +kernel
theorem dX7_item_19 : decode cX7_item 19 = .ok (.bipush (-11), 2) := by decide +kernel
theorem dX7_item_21 : decode cX7_item 21 = .ok (.ireturn, 1) := by decide +kernel
theorem dX7_item_22 : decode cX7_item 22 = .ok (.aload_n 0, 1) := by decide +kernel
theorem dX7_item_23 : decode cX7_item 23 = .ok (.iload_n 2, 1) := by decide +kernel
theorem dX7_item_24 : decode cX7_item 24 = .ok (.iconst 0, 1) := by decide +kernel
theorem dX7_item_25 : decode cX7_item 25 = .ok (.aload_n 0, 1) := by decide +kernel
theorem dX7_item_26 : decode cX7_item 26 = .ok (.getfield 211, 3) := by decide +kernel
theorem dX7_item_29 : decode cX7_item 29 = .ok (.iload_n 1, 1) := by decide +kernel
theorem dX7_item_30 : decode cX7_item 30 = .ok (.iaload, 1) := by decide +kernel
theorem dX7_item_31 : decode cX7_item 31 = .ok (.iconst 1, 1) := by decide +kernel
theorem dX7_item_32 : decode cX7_item 32 = .ok (.isub, 1) := by decide +kernel
theorem dX7_item_33 : decode cX7_item 33 = .ok (.invokevirtual 221, 3) := by decide +kernel
theorem dX7_item_36 : decode cX7_item 36 = .ok (.ifCond .ne 6, 3) := by decide +kernel
theorem dX7_item_39 : decode cX7_item 39 = .ok (.bipush (-13), 2) := by decide +kernel
theorem dX7_item_41 : decode cX7_item 41 = .ok (.ireturn, 1) := by decide +kernel
theorem dX7_item_42 : decode cX7_item 42 = .ok (.aload_n 0, 1) := by decide +kernel
theorem dX7_item_43 : decode cX7_item 43 = .ok (.getfield 214, 3) := by decide +kernel
theorem dX7_item_46 : decode cX7_item 46 = .ok (.bipush 60, 2) := by decide +kernel
theorem dX7_item_48 : decode cX7_item 48 = .ok (.iload_n 1, 1) := by decide +kernel
theorem dX7_item_49 : decode cX7_item 49 = .ok (.imul, 1) := by decide +kernel
theorem dX7_item_50 : decode cX7_item 50 = .ok (.iload_n 2, 1) := by decide +kernel
theorem dX7_item_51 : decode cX7_item 51 = .ok (.iadd, 1) := by decide +kernel
theorem dX7_item_52 : decode cX7_item 52 = .ok (.aload_n 0, 1) := by decide +kernel
theorem dX7_item_53 : decode cX7_item 53 = .ok (.aload_n 0, 1) := by decide +kernel
theorem dX7_item_54 : decode cX7_item 54 = .ok (.getfield 208, 3) := by decide +kernel
theorem dX7_item_57 : decode cX7_item 57 = .ok (.iload_n 1, 1) := by decide +kernel
theorem dX7_item_58 : decode cX7_item 58 = .ok (.iaload, 1) := by decide +kernel
theorem dX7_item_59 : decode cX7_item 59 = .ok (.lload_n 3, 1) := by decide +kernel
theorem dX7_item_60 : decode cX7_item 60 = .ok (.invokevirtual 410, 3) := by decide +kernel
theorem dX7_item_63 : decode cX7_item 63 = .ok (.lastore, 1) := by decide +kernel
theorem dX7_item_64 : decode cX7_item 64 = .ok (.iconst 1, 1) := by decide +kernel
theorem dX7_item_65 : decode cX7_item 65 = .ok (.ireturn, 1) := by decide +kernel
theorem dX7_read_0 : decode cX7_read 0 = .ok (.aload_n 0, 1) := by decide +kernel
theorem dX7_read_1 : decode cX7_read 1 = .ok (.iload_n 1, 1) := by decide +kernel
theorem dX7_read_2 : decode cX7_read 2 = .ok (.invokevirtual 383, 3) := by decide +kernel
theorem dX7_read_5 : decode cX7_read 5 = .ok (.ifCond .eq 29, 3) := by decide +kernel
theorem dX7_read_8 : decode cX7_read 8 = .ok (.aload_n 0, 1) := by decide +kernel
theorem dX7_read_9 : decode cX7_read 9 = .ok (.getfield 208, 3) := by decide +kernel
theorem dX7_read_12 : decode cX7_read 12 = .ok (.iload_n 1, 1) := by decide +kernel
theorem dX7_read_13 : decode cX7_read 13 = .ok (.iaload, 1) := by decide +kernel
theorem dX7_read_14 : decode cX7_read 14 = .ok (.ifCond .lt 20, 3) := by decide +kernel
theorem dX7_read_17 : decode cX7_read 17 = .ok (.aload_n 0, 1) := by decide +kernel
theorem dX7_read_18 : decode cX7_read 18 = .ok (.iload_n 2, 1) := by decide +kernel
theorem dX7_read_19 : decode cX7_read 19 = .ok (.iconst 0, 1) := by decide +kernel
theorem dX7_read_20 : decode cX7_read 20 = .ok (.aload_n 0, 1) := by decide +kernel
theorem dX7_read_21 : decode cX7_read 21 = .ok (.getfield 211, 3) := by decide +kernel
theorem dX7_read_24 : decode cX7_read 24 = .ok (.iload_n 1, 1) := by decide +kernel
theorem dX7_read_25 : decode cX7_read 25 = .ok (.iaload, 1) := by decide +kernel
theorem dX7_read_26 : decode cX7_read 26 = .ok (.iconst 1, 1) := by decide +kernel
theorem dX7_read_27 : decode cX7_read 27 = .ok (.isub, 1) := by decide +kernel
theorem dX7_read_28 : decode cX7_read 28 = .ok (.invokevirtual 221, 3) := by decide +kernel
theorem dX7_read_31 : decode cX7_read 31 = .ok (.ifCond .ne 9, 3) := by decide +kernel
theorem dX7_read_34 : decode cX7_read 34 = .ok (.ldc2_w 374, 3) := by decide +kernel
theorem dX7_read_37 : decode cX7_read 37 = .ok (.goto 14, 3) := by decide +kernel
theorem dX7_read_40 : decode cX7_read 40 = .ok (.aload_n 0, 1) := by decide +kernel
theorem dX7_read_41 : decode cX7_read 41 = .ok (.getfield 214, 3) := by decide +kernel
theorem dX7_read_44 : decode cX7_read 44 = .ok (.bipush 60, 2) := by decide +kernel
theorem dX7_read_46 : decode cX7_read 46 = .ok (.iload_n 1, 1) := by decide +kernel
theorem dX7_read_47 : decode cX7_read 47 = .ok (.imul, 1) := by decide +kernel
theorem dX7_read_48 : decode cX7_read 48 = .ok (.iload_n 2, 1) := by decide +kernel
theorem dX7_read_49 : decode cX7_read 49 = .ok (.iadd, 1) := by decide +kernel
theorem dX7_read_50 : decode cX7_read 50 = .ok (.laload, 1) := by decide +kernel
theorem dX7_read_51 : decode cX7_read 51 = .ok (.lreturn, 1) := by decide +kernel
theorem dX7_shift_0 : decode cX7_shift 0 = .ok (.aload_n 0, 1) := by decide +kernel
theorem dX7_shift_1 : decode cX7_shift 1 = .ok (.iload_n 1, 1) := by decide +kernel
theorem dX7_shift_2 : decode cX7_shift 2 = .ok (.invokevirtual 383, 3) := by decide +kernel
theorem dX7_shift_5 : decode cX7_shift 5 = .ok (.ifCond .eq 11, 3) := by decide +kernel
theorem dX7_shift_8 : decode cX7_shift 8 = .ok (.aload_n 0, 1) := by decide +kernel
theorem dX7_shift_9 : decode cX7_shift 9 = .ok (.iload_n 3, 1) := by decide +kernel
theorem dX7_shift_10 : decode cX7_shift 10 = .ok (.invokevirtual 383, 3) := by decide +kernel
theorem dX7_shift_13 : decode cX7_shift 13 = .ok (.ifCond .ne 5, 3) := by decide +kernel
theorem dX7_shift_16 : decode cX7_shift 16 = .ok (.iconst (-1), 1) := by decide +kernel
theorem dX7_shift_17 : decode cX7_shift 17 = .ok (.ireturn, 1) := by decide +kernel
theorem dX7_shift_18 : decode cX7_shift 18 = .ok (.aload_n 0, 1) := by decide +kernel
theorem dX7_shift_19 : decode cX7_shift 19 = .ok (.getfield 208, 3) := by decide +kernel
theorem dX7_shift_22 : decode cX7_shift 22 = .ok (.iload_n 1, 1) := by decide +kernel
theorem dX7_shift_23 : decode cX7_shift 23 = .ok (.iaload, 1) := by decide +kernel
theorem dX7_shift_24 : decode cX7_shift 24 = .ok (.ifCond .lt 12, 3) := by decide +kernel
theorem dX7_shift_27 : decode cX7_shift 27 = .ok (.aload_n 0, 1) := by decide +kernel
theorem dX7_shift_28 : decode cX7_shift 28 = .ok (.getfield 208, 3) := by decide +kernel
theorem dX7_shift_31 : decode cX7_shift 31 = .ok (.iload_n 3, 1) := by decide +kernel
theorem dX7_shift_32 : decode cX7_shift 32 = .ok (.iaload, 1) := by decide +kernel
theorem dX7_shift_33 : decode cX7_shift 33 = .ok (.ifCond .ge 6, 3) := by decide +kernel
theorem dX7_shift_36 : decode cX7_shift 36 = .ok (.bipush (-11), 2) := by decide +kernel
theorem dX7_shift_38 : decode cX7_shift 38 = .ok (.ireturn, 1) := by decide +kernel
theorem dX7_shift_39 : decode cX7_shift 39 = .ok (.aload_n 0, 1) := by decide +kernel
theorem dX7_shift_40 : decode cX7_shift 40 = .ok (.getfield 208, 3) := by decide +kernel
theorem dX7_shift_43 : decode cX7_shift 43 = .ok (.iload_n 1, 1) := by decide +kernel
theorem dX7_shift_44 : decode cX7_shift 44 = .ok (.iaload, 1) := by decide +kernel
theorem dX7_shift_45 : decode cX7_shift 45 = .ok (.aload_n 0, 1) := by decide +kernel
theorem dX7_shift_46 : decode cX7_shift 46 = .ok (.getfield 208, 3) := by decide +kernel
theorem dX7_shift_49 : decode cX7_shift 49 = .ok (.iload_n 3, 1) := by decide +kernel
theorem dX7_shift_50 : decode cX7_shift 50 = .ok (.iaload, 1) := by decide +kernel
theorem dX7_shift_51 : decode cX7_shift 51 = .ok (.if_icmp .eq 6, 3) := by decide +kernel
theorem dX7_shift_54 : decode cX7_shift 54 = .ok (.bipush (-12), 2) := by decide +kernel
theorem dX7_shift_56 : decode cX7_shift 56 = .ok (.ireturn, 1) := by decide +kernel
theorem dX7_shift_57 : decode cX7_shift 57 = .ok (.iload 5, 2) := by decide +kernel
theorem dX7_shift_59 : decode cX7_shift 59 = .ok (.ifCond .lt 39, 3) := by decide +kernel
theorem dX7_shift_62 : decode cX7_shift 62 = .ok (.iload_n 2, 1) := by decide +kernel
theorem dX7_shift_63 : decode cX7_shift 63 = .ok (.ifCond .lt 35, 3) := by decide +kernel
theorem dX7_shift_66 : decode cX7_shift 66 = .ok (.iload 4, 2) := by decide +kernel
theorem dX7_shift_68 : decode cX7_shift 68 = .ok (.ifCond .lt 30, 3) := by decide +kernel
theorem dX7_shift_71 : decode cX7_shift 71 = .ok (.iload_n 2, 1) := by decide +kernel
theorem dX7_shift_72 : decode cX7_shift 72 = .ok (.aload_n 0, 1) := by decide +kernel
theorem dX7_shift_73 : decode cX7_shift 73 = .ok (.getfield 211, 3) := by decide +kernel
theorem dX7_shift_76 : decode cX7_shift 76 = .ok (.iload_n 1, 1) := by decide +kernel
theorem dX7_shift_77 : decode cX7_shift 77 = .ok (.iaload, 1) := by decide +kernel
theorem dX7_shift_78 : decode cX7_shift 78 = .ok (.iload 5, 2) := by decide +kernel
theorem dX7_shift_80 : decode cX7_shift 80 = .ok (.isub, 1) := by decide +kernel
theorem dX7_shift_81 : decode cX7_shift 81 = .ok (.if_icmp .gt 17, 3) := by decide +kernel
theorem dX7_shift_84 : decode cX7_shift 84 = .ok (.iload 4, 2) := by decide +kernel
theorem dX7_shift_86 : decode cX7_shift 86 = .ok (.aload_n 0, 1) := by decide +kernel
theorem dX7_shift_87 : decode cX7_shift 87 = .ok (.getfield 211, 3) := by decide +kernel
theorem dX7_shift_90 : decode cX7_shift 90 = .ok (.iload_n 3, 1) := by decide +kernel
theorem dX7_shift_91 : decode cX7_shift 91 = .ok (.iaload, 1) := by decide +kernel
theorem dX7_shift_92 : decode cX7_shift 92 = .ok (.iload 5, 2) := by decide +kernel
theorem dX7_shift_94 : decode cX7_shift 94 = .ok (.isub, 1) := by decide +kernel
theorem dX7_shift_95 : decode cX7_shift 95 = .ok (.if_icmp .le 6, 3) := by decide +kernel
theorem dX7_shift_98 : decode cX7_shift 98 = .ok (.bipush (-13), 2) := by decide +kernel
theorem dX7_shift_100 : decode cX7_shift 100 = .ok (.ireturn, 1) := by decide +kernel
theorem dX7_shift_101 : decode cX7_shift 101 = .ok (.iconst 0, 1) := by decide +kernel
theorem dX7_shift_102 : decode cX7_shift 102 = .ok (.istore 6, 2) := by decide +kernel
theorem dX7_shift_104 : decode cX7_shift 104 = .ok (.iload 6, 2) := by decide +kernel
theorem dX7_shift_106 : decode cX7_shift 106 = .ok (.iload 5, 2) := by decide +kernel
theorem dX7_shift_108 : decode cX7_shift 108 = .ok (.if_icmp .ge 30, 3) := by decide +kernel
theorem dX7_shift_111 : decode cX7_shift 111 = .ok (.aload_n 0, 1) := by decide +kernel
theorem dX7_shift_112 : decode cX7_shift 112 = .ok (.getfield 218, 3) := by decide +kernel
theorem dX7_shift_115 : decode cX7_shift 115 = .ok (.iload 6, 2) := by decide +kernel
theorem dX7_shift_117 : decode cX7_shift 117 = .ok (.aload_n 0, 1) := by decide +kernel
theorem dX7_shift_118 : decode cX7_shift 118 = .ok (.getfield 214, 3) := by decide +kernel
theorem dX7_shift_121 : decode cX7_shift 121 = .ok (.bipush 60, 2) := by decide +kernel
theorem dX7_shift_123 : decode cX7_shift 123 = .ok (.iload_n 1, 1) := by decide +kernel
theorem dX7_shift_124 : decode cX7_shift 124 = .ok (.imul, 1) := by decide +kernel
theorem dX7_shift_125 : decode cX7_shift 125 = .ok (.iload_n 2, 1) := by decide +kernel
theorem dX7_shift_126 : decode cX7_shift 126 = .ok (.iadd, 1) := by decide +kernel
theorem dX7_shift_127 : decode cX7_shift 127 = .ok (.iload 6, 2) := by decide +kernel
theorem dX7_shift_129 : decode cX7_shift 129 = .ok (.iadd, 1) := by decide +kernel
theorem dX7_shift_130 : decode cX7_shift 130 = .ok (.laload, 1) := by decide +kernel
theorem dX7_shift_131 : decode cX7_shift 131 = .ok (.lastore, 1) := by decide +kernel
theorem dX7_shift_132 : decode cX7_shift 132 = .ok (.iinc 6 1, 3) := by decide +kernel
theorem dX7_shift_135 : decode cX7_shift 135 = .ok (.goto (-31), 3) := by decide +kernel
theorem dX7_shift_138 : decode cX7_shift 138 = .ok (.iconst 0, 1) := by decide +kernel
theorem dX7_shift_139 : decode cX7_shift 139 = .ok (.istore 6, 2) := by decide +kernel
theorem dX7_shift_141 : decode cX7_shift 141 = .ok (.iload 6, 2) := by decide +kernel
theorem dX7_shift_143 : decode cX7_shift 143 = .ok (.iload 5, 2) := by decide +kernel
theorem dX7_shift_145 : decode cX7_shift 145 = .ok (.if_icmp .ge 31, 3) := by decide +kernel
theorem dX7_shift_148 : decode cX7_shift 148 = .ok (.aload_n 0, 1) := by decide +kernel
theorem dX7_shift_149 : decode cX7_shift 149 = .ok (.getfield 214, 3) := by decide +kernel
theorem dX7_shift_152 : decode cX7_shift 152 = .ok (.bipush 60, 2) := by decide +kernel
theorem dX7_shift_154 : decode cX7_shift 154 = .ok (.iload_n 3, 1) := by decide +kernel
theorem dX7_shift_155 : decode cX7_shift 155 = .ok (.imul, 1) := by decide +kernel
theorem dX7_shift_156 : decode cX7_shift 156 = .ok (.iload 4, 2) := by decide +kernel
theorem dX7_shift_158 : decode cX7_shift 158 = .ok (.iadd, 1) := by decide +kernel
theorem dX7_shift_159 : decode cX7_shift 159 = .ok (.iload 6, 2) := by decide +kernel
theorem dX7_shift_161 : decode cX7_shift 161 = .ok (.iadd, 1) := by decide +kernel
theorem dX7_shift_162 : decode cX7_shift 162 = .ok (.aload_n 0, 1) := by decide +kernel
theorem dX7_shift_163 : decode cX7_shift 163 = .ok (.getfield 218, 3) := by decide +kernel
theorem dX7_shift_166 : decode cX7_shift 166 = .ok (.iload 6, 2) := by decide +kernel
theorem dX7_shift_168 : decode cX7_shift 168 = .ok (.laload, 1) := by decide +kernel
theorem dX7_shift_169 : decode cX7_shift 169 = .ok (.lastore, 1) := by decide +kernel
theorem dX7_shift_170 : decode cX7_shift 170 = .ok (.iinc 6 1, 3) := by decide +kernel
theorem dX7_shift_173 : decode cX7_shift 173 = .ok (.goto (-32), 3) := by decide +kernel
theorem dX7_shift_176 : decode cX7_shift 176 = .ok (.iload 5, 2) := by decide +kernel
theorem dX7_shift_178 : decode cX7_shift 178 = .ok (.ireturn, 1) := by decide +kernel
theorem dJ11_isValidCodePoint_9a6ad_0 : decode cJ11_isValidCodePoint_9a6ad 0 = .ok (.iload_n 0, 1) := by decide +kernel
theorem dJ11_isValidCodePoint_9a6ad_1 : decode cJ11_isValidCodePoint_9a6ad 1 = .ok (.bipush 16, 2) := by decide +kernel
theorem dJ11_isValidCodePoint_9a6ad_3 : decode cJ11_isValidCodePoint_9a6ad 3 = .ok (.iushr, 1) := by decide +kernel
theorem dJ11_isValidCodePoint_9a6ad_4 : decode cJ11_isValidCodePoint_9a6ad 4 = .ok (.istore_n 1, 1) := by decide +kernel
theorem dJ11_isValidCodePoint_9a6ad_5 : decode cJ11_isValidCodePoint_9a6ad 5 = .ok (.iload_n 1, 1) := by decide +kernel
theorem dJ11_isValidCodePoint_9a6ad_6 : decode cJ11_isValidCodePoint_9a6ad 6 = .ok (.bipush 17, 2) := by decide +kernel
theorem dJ11_isValidCodePoint_9a6ad_8 : decode cJ11_isValidCodePoint_9a6ad 8 = .ok (.if_icmp .ge 7, 3) := by decide +kernel
theorem dJ11_isValidCodePoint_9a6ad_11 : decode cJ11_isValidCodePoint_9a6ad 11 = .ok (.iconst 1, 1) := by decide +kernel
theorem dJ11_isValidCodePoint_9a6ad_12 : decode cJ11_isValidCodePoint_9a6ad 12 = .ok (.goto 4, 3) := by decide +kernel
theorem dJ11_isValidCodePoint_9a6ad_15 : decode cJ11_isValidCodePoint_9a6ad 15 = .ok (.iconst 0, 1) := by decide +kernel
theorem dJ11_isValidCodePoint_9a6ad_16 : decode cJ11_isValidCodePoint_9a6ad 16 = .ok (.ireturn, 1) := by decide +kernel
theorem dJ11_highSurrogate_5068e_0 : decode cJ11_highSurrogate_5068e 0 = .ok (.iload_n 0, 1) := by decide +kernel
theorem dJ11_highSurrogate_5068e_1 : decode cJ11_highSurrogate_5068e 1 = .ok (.bipush 10, 2) := by decide +kernel
theorem dJ11_highSurrogate_5068e_3 : decode cJ11_highSurrogate_5068e 3 = .ok (.iushr, 1) := by decide +kernel
theorem dJ11_highSurrogate_5068e_4 : decode cJ11_highSurrogate_5068e 4 = .ok (.ldc 110, 2) := by decide +kernel
theorem dJ11_highSurrogate_5068e_6 : decode cJ11_highSurrogate_5068e 6 = .ok (.iadd, 1) := by decide +kernel
theorem dJ11_highSurrogate_5068e_7 : decode cJ11_highSurrogate_5068e 7 = .ok (.i2c, 1) := by decide +kernel
theorem dJ11_highSurrogate_5068e_8 : decode cJ11_highSurrogate_5068e 8 = .ok (.ireturn, 1) := by decide +kernel
theorem dJ11_lowSurrogate_5068e_0 : decode cJ11_lowSurrogate_5068e 0 = .ok (.iload_n 0, 1) := by decide +kernel
theorem dJ11_lowSurrogate_5068e_1 : decode cJ11_lowSurrogate_5068e 1 = .ok (.sipush 1023, 3) := by decide +kernel
theorem dJ11_lowSurrogate_5068e_4 : decode cJ11_lowSurrogate_5068e 4 = .ok (.iand, 1) := by decide +kernel
theorem dJ11_lowSurrogate_5068e_5 : decode cJ11_lowSurrogate_5068e 5 = .ok (.ldc 76, 2) := by decide +kernel
theorem dJ11_lowSurrogate_5068e_7 : decode cJ11_lowSurrogate_5068e 7 = .ok (.iadd, 1) := by decide +kernel
theorem dJ11_lowSurrogate_5068e_8 : decode cJ11_lowSurrogate_5068e 8 = .ok (.i2c, 1) := by decide +kernel
theorem dJ11_lowSurrogate_5068e_9 : decode cJ11_lowSurrogate_5068e 9 = .ok (.ireturn, 1) := by decide +kernel
theorem dJ9_abs_0f7a4_0 : decode cJ9_abs_0f7a4 0 = .ok (.iload_n 0, 1) := by decide +kernel
theorem dJ9_abs_0f7a4_1 : decode cJ9_abs_0f7a4 1 = .ok (.ifCond .ge 8, 3) := by decide +kernel
theorem dJ9_abs_0f7a4_4 : decode cJ9_abs_0f7a4 4 = .ok (.iload_n 0, 1) := by decide +kernel
theorem dJ9_abs_0f7a4_5 : decode cJ9_abs_0f7a4 5 = .ok (.ineg, 1) := by decide +kernel
theorem dJ9_abs_0f7a4_6 : decode cJ9_abs_0f7a4 6 = .ok (.goto 4, 3) := by decide +kernel
theorem dJ9_abs_0f7a4_9 : decode cJ9_abs_0f7a4 9 = .ok (.iload_n 0, 1) := by decide +kernel
theorem dJ9_abs_0f7a4_10 : decode cJ9_abs_0f7a4 10 = .ok (.ireturn, 1) := by decide +kernel
theorem dJ9_max_7cf53_0 : decode cJ9_max_7cf53 0 = .ok (.iload_n 0, 1) := by decide +kernel
theorem dJ9_max_7cf53_1 : decode cJ9_max_7cf53 1 = .ok (.iload_n 1, 1) := by decide +kernel
theorem dJ9_max_7cf53_2 : decode cJ9_max_7cf53 2 = .ok (.if_icmp .lt 7, 3) := by decide +kernel
theorem dJ9_max_7cf53_5 : decode cJ9_max_7cf53 5 = .ok (.iload_n 0, 1) := by decide +kernel
theorem dJ9_max_7cf53_6 : decode cJ9_max_7cf53 6 = .ok (.goto 4, 3) := by decide +kernel
theorem dJ9_max_7cf53_9 : decode cJ9_max_7cf53 9 = .ok (.iload_n 1, 1) := by decide +kernel
theorem dJ9_max_7cf53_10 : decode cJ9_max_7cf53 10 = .ok (.ireturn, 1) := by decide +kernel
theorem dJ9_min_7cf53_0 : decode cJ9_min_7cf53 0 = .ok (.iload_n 0, 1) := by decide +kernel
theorem dJ9_min_7cf53_1 : decode cJ9_min_7cf53 1 = .ok (.iload_n 1, 1) := by decide +kernel
theorem dJ9_min_7cf53_2 : decode cJ9_min_7cf53 2 = .ok (.if_icmp .gt 7, 3) := by decide +kernel
theorem dJ9_min_7cf53_5 : decode cJ9_min_7cf53 5 = .ok (.iload_n 0, 1) := by decide +kernel
theorem dJ9_min_7cf53_6 : decode cJ9_min_7cf53 6 = .ok (.goto 4, 3) := by decide +kernel
theorem dJ9_min_7cf53_9 : decode cJ9_min_7cf53 9 = .ok (.iload_n 1, 1) := by decide +kernel
theorem dJ9_min_7cf53_10 : decode cJ9_min_7cf53 10 = .ok (.ireturn, 1) := by decide +kernel
theorem dJ0_length_8abf5_0 : decode cJ0_length_8abf5 0 = .ok (.aload_n 0, 1) := by decide +kernel
theorem dJ0_length_8abf5_1 : decode cJ0_length_8abf5 1 = .ok (.getfield 9, 3) := by decide +kernel
theorem dJ0_length_8abf5_4 : decode cJ0_length_8abf5 4 = .ok (.arraylength, 1) := by decide +kernel
theorem dJ0_length_8abf5_5 : decode cJ0_length_8abf5 5 = .ok (.aload_n 0, 1) := by decide +kernel
theorem dJ0_length_8abf5_6 : decode cJ0_length_8abf5 6 = .ok (.invokevirtual 335, 3) := by decide +kernel
theorem dJ0_length_8abf5_9 : decode cJ0_length_8abf5 9 = .ok (.ishr, 1) := by decide +kernel
theorem dJ0_length_8abf5_10 : decode cJ0_length_8abf5 10 = .ok (.ireturn, 1) := by decide +kernel
theorem dJ0_charAt_5068e_0 : decode cJ0_charAt_5068e 0 = .ok (.aload_n 0, 1) := by decide +kernel
theorem dJ0_charAt_5068e_1 : decode cJ0_charAt_5068e 1 = .ok (.invokevirtual 492, 3) := by decide +kernel
theorem dJ0_charAt_5068e_4 : decode cJ0_charAt_5068e 4 = .ok (.ifCond .eq 12, 3) := by decide +kernel
theorem dJ0_charAt_5068e_7 : decode cJ0_charAt_5068e 7 = .ok (.aload_n 0, 1) := by decide +kernel
theorem dJ0_charAt_5068e_8 : decode cJ0_charAt_5068e 8 = .ok (.getfield 9, 3) := by decide +kernel
theorem dJ0_charAt_5068e_11 : decode cJ0_charAt_5068e 11 = .ok (.iload_n 1, 1) := by decide +kernel
theorem dJ0_charAt_5068e_12 : decode cJ0_charAt_5068e 12 = .ok (.invokestatic 495, 3) := by decide +kernel
theorem dJ0_charAt_5068e_15 : decode cJ0_charAt_5068e 15 = .ok (.ireturn, 1) := by decide +kernel
theorem dJ0_charAt_5068e_16 : decode cJ0_charAt_5068e 16 = .ok (.aload_n 0, 1) := by decide +kernel
theorem dJ0_charAt_5068e_17 : decode cJ0_charAt_5068e 17 = .ok (.getfield 9, 3) := by decide +kernel
theorem dJ0_charAt_5068e_20 : decode cJ0_charAt_5068e 20 = .ok (.iload_n 1, 1) := by decide +kernel
theorem dJ0_charAt_5068e_21 : decode cJ0_charAt_5068e 21 = .ok (.invokestatic 498, 3) := by decide +kernel
theorem dJ0_charAt_5068e_24 : decode cJ0_charAt_5068e 24 = .ok (.ireturn, 1) := by decide +kernel
theorem dJ0_indexOf_0f7a4_0 : decode cJ0_indexOf_0f7a4 0 = .ok (.aload_n 0, 1) := by decide +kernel
theorem dJ0_indexOf_0f7a4_1 : decode cJ0_indexOf_0f7a4 1 = .ok (.iload_n 1, 1) := by decide +kernel
theorem dJ0_indexOf_0f7a4_2 : decode cJ0_indexOf_0f7a4 2 = .ok (.iconst 0, 1) := by decide +kernel
theorem dJ0_indexOf_0f7a4_3 : decode cJ0_indexOf_0f7a4 3 = .ok (.invokevirtual 633, 3) := by decide +kernel
theorem dJ0_indexOf_0f7a4_6 : decode cJ0_indexOf_0f7a4 6 = .ok (.ireturn, 1) := by decide +kernel
theorem dJ0_indexOf_7cf53_0 : decode cJ0_indexOf_7cf53 0 = .ok (.aload_n 0, 1) := by decide +kernel
theorem dJ0_indexOf_7cf53_1 : decode cJ0_indexOf_7cf53 1 = .ok (.invokevirtual 492, 3) := by decide +kernel
theorem dJ0_indexOf_7cf53_4 : decode cJ0_indexOf_7cf53 4 = .ok (.ifCond .eq 19, 3) := by decide +kernel
theorem dJ0_indexOf_7cf53_7 : decode cJ0_indexOf_7cf53 7 = .ok (.aload_n 0, 1) := by decide +kernel
theorem dJ0_indexOf_7cf53_8 : decode cJ0_indexOf_7cf53 8 = .ok (.getfield 9, 3) := by decide +kernel
theorem dJ0_indexOf_7cf53_11 : decode cJ0_indexOf_7cf53 11 = .ok (.iload_n 1, 1) := by decide +kernel
theorem dJ0_indexOf_7cf53_12 : decode cJ0_indexOf_7cf53 12 = .ok (.iload_n 2, 1) := by decide +kernel
theorem dJ0_indexOf_7cf53_13 : decode cJ0_indexOf_7cf53 13 = .ok (.aload_n 0, 1) := by decide +kernel
theorem dJ0_indexOf_7cf53_14 : decode cJ0_indexOf_7cf53 14 = .ok (.invokevirtual 505, 3) := by decide +kernel
theorem dJ0_indexOf_7cf53_17 : decode cJ0_indexOf_7cf53 17 = .ok (.invokestatic 637, 3) := by decide +kernel
theorem dJ0_indexOf_7cf53_20 : decode cJ0_indexOf_7cf53 20 = .ok (.goto 16, 3) := by decide +kernel
theorem dJ0_indexOf_7cf53_23 : decode cJ0_indexOf_7cf53 23 = .ok (.aload_n 0, 1) := by decide +kernel
theorem dJ0_indexOf_7cf53_24 : decode cJ0_indexOf_7cf53 24 = .ok (.getfield 9, 3) := by decide +kernel
theorem dJ0_indexOf_7cf53_27 : decode cJ0_indexOf_7cf53 27 = .ok (.iload_n 1, 1) := by decide +kernel
theorem dJ0_indexOf_7cf53_28 : decode cJ0_indexOf_7cf53 28 = .ok (.iload_n 2, 1) := by decide +kernel
theorem dJ0_indexOf_7cf53_29 : decode cJ0_indexOf_7cf53 29 = .ok (.aload_n 0, 1) := by decide +kernel
theorem dJ0_indexOf_7cf53_30 : decode cJ0_indexOf_7cf53 30 = .ok (.invokevirtual 505, 3) := by decide +kernel
theorem dJ0_indexOf_7cf53_33 : decode cJ0_indexOf_7cf53 33 = .ok (.invokestatic 640, 3) := by decide +kernel
theorem dJ0_indexOf_7cf53_36 : decode cJ0_indexOf_7cf53 36 = .ok (.ireturn, 1) := by decide +kernel
theorem dJ0_coder_7d493_0 : decode cJ0_coder_7d493 0 = .ok (.getstatic 38, 3) := by decide +kernel
theorem dJ0_coder_7d493_3 : decode cJ0_coder_7d493 3 = .ok (.ifCond .eq 10, 3) := by decide +kernel
theorem dJ0_coder_7d493_6 : decode cJ0_coder_7d493 6 = .ok (.aload_n 0, 1) := by decide +kernel
theorem dJ0_coder_7d493_7 : decode cJ0_coder_7d493 7 = .ok (.getfield 15, 3) := by decide +kernel
theorem dJ0_coder_7d493_10 : decode cJ0_coder_7d493 10 = .ok (.goto 4, 3) := by decide +kernel
theorem dJ0_coder_7d493_13 : decode cJ0_coder_7d493 13 = .ok (.iconst 1, 1) := by decide +kernel
theorem dJ0_coder_7d493_14 : decode cJ0_coder_7d493 14 = .ok (.ireturn, 1) := by decide +kernel
theorem dJ0_isLatin1_aae02_0 : decode cJ0_isLatin1_aae02 0 = .ok (.getstatic 38, 3) := by decide +kernel
theorem dJ0_isLatin1_aae02_3 : decode cJ0_isLatin1_aae02 3 = .ok (.ifCond .eq 14, 3) := by decide +kernel
theorem dJ0_isLatin1_aae02_6 : decode cJ0_isLatin1_aae02 6 = .ok (.aload_n 0, 1) := by decide +kernel
theorem dJ0_isLatin1_aae02_7 : decode cJ0_isLatin1_aae02 7 = .ok (.getfield 15, 3) := by decide +kernel
theorem dJ0_isLatin1_aae02_10 : decode cJ0_isLatin1_aae02 10 = .ok (.ifCond .ne 7, 3) := by decide +kernel
theorem dJ0_isLatin1_aae02_13 : decode cJ0_isLatin1_aae02 13 = .ok (.iconst 1, 1) := by decide +kernel
theorem dJ0_isLatin1_aae02_14 : decode cJ0_isLatin1_aae02 14 = .ok (.goto 4, 3) := by decide +kernel
theorem dJ0_isLatin1_aae02_17 : decode cJ0_isLatin1_aae02 17 = .ok (.iconst 0, 1) := by decide +kernel
theorem dJ0_isLatin1_aae02_18 : decode cJ0_isLatin1_aae02 18 = .ok (.ireturn, 1) := by decide +kernel
theorem dJ0_checkIndex_df160_0 : decode cJ0_checkIndex_df160 0 = .ok (.iload_n 0, 1) := by decide +kernel
theorem dJ0_checkIndex_df160_1 : decode cJ0_checkIndex_df160 1 = .ok (.iload_n 1, 1) := by decide +kernel
theorem dJ0_checkIndex_df160_2 : decode cJ0_checkIndex_df160 2 = .ok (.getstatic 1053, 3) := by decide +kernel
theorem dJ0_checkIndex_df160_5 : decode cJ0_checkIndex_df160 5 = .ok (.invokestatic 1059, 3) := by decide +kernel
theorem dJ0_checkIndex_df160_8 : decode cJ0_checkIndex_df160 8 = .ok (.pop, 1) := by decide +kernel
theorem dJ0_checkIndex_df160_9 : decode cJ0_checkIndex_df160 9 = .ok (.return_, 1) := by decide +kernel
theorem dJ0_checkBoundsBeginEnd_23922_0 : decode cJ0_checkBoundsBeginEnd_23922 0 = .ok (.iload_n 0, 1) := by decide +kernel
theorem dJ0_checkBoundsBeginEnd_23922_1 : decode cJ0_checkBoundsBeginEnd_23922 1 = .ok (.iload_n 1, 1) := by decide +kernel
theorem dJ0_checkBoundsBeginEnd_23922_2 : decode cJ0_checkBoundsBeginEnd_23922 2 = .ok (.iload_n 2, 1) := by decide +kernel
theorem dJ0_checkBoundsBeginEnd_23922_3 : decode cJ0_checkBoundsBeginEnd_23922 3 = .ok (.getstatic 1053, 3) := by decide +kernel
theorem dJ0_checkBoundsBeginEnd_23922_6 : decode cJ0_checkBoundsBeginEnd_23922 6 = .ok (.invokestatic 1062, 3) := by decide +kernel
theorem dJ0_checkBoundsBeginEnd_23922_9 : decode cJ0_checkBoundsBeginEnd_23922 9 = .ok (.pop, 1) := by decide +kernel
theorem dJ0_checkBoundsBeginEnd_23922_10 : decode cJ0_checkBoundsBeginEnd_23922 10 = .ok (.return_, 1) := by decide +kernel
theorem dJ1_charAt_3b067_0 : decode cJ1_charAt_3b067 0 = .ok (.iload_n 1, 1) := by decide +kernel
theorem dJ1_charAt_3b067_1 : decode cJ1_charAt_3b067 1 = .ok (.aload_n 0, 1) := by decide +kernel
theorem dJ1_charAt_3b067_2 : decode cJ1_charAt_3b067 2 = .ok (.arraylength, 1) := by decide +kernel
theorem dJ1_charAt_3b067_3 : decode cJ1_charAt_3b067 3 = .ok (.invokestatic 9, 3) := by decide +kernel
theorem dJ1_charAt_3b067_6 : decode cJ1_charAt_3b067 6 = .ok (.aload_n 0, 1) := by decide +kernel
theorem dJ1_charAt_3b067_7 : decode cJ1_charAt_3b067 7 = .ok (.iload_n 1, 1) := by decide +kernel
theorem dJ1_charAt_3b067_8 : decode cJ1_charAt_3b067 8 = .ok (.baload, 1) := by decide +kernel
theorem dJ1_charAt_3b067_9 : decode cJ1_charAt_3b067 9 = .ok (.sipush 255, 3) := by decide +kernel
theorem dJ1_charAt_3b067_12 : decode cJ1_charAt_3b067 12 = .ok (.iand, 1) := by decide +kernel
theorem dJ1_charAt_3b067_13 : decode cJ1_charAt_3b067 13 = .ok (.i2c, 1) := by decide +kernel
theorem dJ1_charAt_3b067_14 : decode cJ1_charAt_3b067 14 = .ok (.ireturn, 1) := by decide +kernel
theorem dJ1_canEncode_9a6ad_0 : decode cJ1_canEncode_9a6ad 0 = .ok (.iload_n 0, 1) := by decide +kernel
theorem dJ1_canEncode_9a6ad_1 : decode cJ1_canEncode_9a6ad 1 = .ok (.ifCond .lt 14, 3) := by decide +kernel
theorem dJ1_canEncode_9a6ad_4 : decode cJ1_canEncode_9a6ad 4 = .ok (.iload_n 0, 1) := by decide +kernel
theorem dJ1_canEncode_9a6ad_5 : decode cJ1_canEncode_9a6ad 5 = .ok (.sipush 255, 3) := by decide +kernel
theorem dJ1_canEncode_9a6ad_8 : decode cJ1_canEncode_9a6ad 8 = .ok (.if_icmp .gt 7, 3) := by decide +kernel
theorem dJ1_canEncode_9a6ad_11 : decode cJ1_canEncode_9a6ad 11 = .ok (.iconst 1, 1) := by decide +kernel
theorem dJ1_canEncode_9a6ad_12 : decode cJ1_canEncode_9a6ad 12 = .ok (.goto 4, 3) := by decide +kernel
theorem dJ1_canEncode_9a6ad_15 : decode cJ1_canEncode_9a6ad 15 = .ok (.iconst 0, 1) := by decide +kernel
theorem dJ1_canEncode_9a6ad_16 : decode cJ1_canEncode_9a6ad 16 = .ok (.ireturn, 1) := by decide +kernel
theorem dJ1_indexOf_4cfef_0 : decode cJ1_indexOf_4cfef 0 = .ok (.iload_n 1, 1) := by decide +kernel
theorem dJ1_indexOf_4cfef_1 : decode cJ1_indexOf_4cfef 1 = .ok (.invokestatic 88, 3) := by decide +kernel
theorem dJ1_indexOf_4cfef_4 : decode cJ1_indexOf_4cfef 4 = .ok (.ifCond .ne 5, 3) := by decide +kernel
theorem dJ1_indexOf_4cfef_7 : decode cJ1_indexOf_4cfef 7 = .ok (.iconst (-1), 1) := by decide +kernel
theorem dJ1_indexOf_4cfef_8 : decode cJ1_indexOf_4cfef 8 = .ok (.ireturn, 1) := by decide +kernel
theorem dJ1_indexOf_4cfef_9 : decode cJ1_indexOf_4cfef 9 = .ok (.iload_n 2, 1) := by decide +kernel
theorem dJ1_indexOf_4cfef_10 : decode cJ1_indexOf_4cfef 10 = .ok (.iconst 0, 1) := by decide +kernel
theorem dJ1_indexOf_4cfef_11 : decode cJ1_indexOf_4cfef 11 = .ok (.invokestatic 92, 3) := by decide +kernel
theorem dJ1_indexOf_4cfef_14 : decode cJ1_indexOf_4cfef 14 = .ok (.istore_n 2, 1) := by decide +kernel
theorem dJ1_indexOf_4cfef_15 : decode cJ1_indexOf_4cfef 15 = .ok (.iload_n 3, 1) := by decide +kernel
theorem dJ1_indexOf_4cfef_16 : decode cJ1_indexOf_4cfef 16 = .ok (.aload_n 0, 1) := by decide +kernel
theorem dJ1_indexOf_4cfef_17 : decode cJ1_indexOf_4cfef 17 = .ok (.arraylength, 1) := by decide +kernel
theorem dJ1_indexOf_4cfef_18 : decode cJ1_indexOf_4cfef 18 = .ok (.invokestatic 38, 3) := by decide +kernel
theorem dJ1_indexOf_4cfef_21 : decode cJ1_indexOf_4cfef 21 = .ok (.istore_n 3, 1) := by decide +kernel
theorem dJ1_indexOf_4cfef_22 : decode cJ1_indexOf_4cfef 22 = .ok (.iload_n 2, 1) := by decide +kernel
theorem dJ1_indexOf_4cfef_23 : decode cJ1_indexOf_4cfef 23 = .ok (.iload_n 3, 1) := by decide +kernel
theorem dJ1_indexOf_4cfef_24 : decode cJ1_indexOf_4cfef 24 = .ok (.if_icmp .lt 5, 3) := by decide +kernel
theorem dJ1_indexOf_4cfef_27 : decode cJ1_indexOf_4cfef 27 = .ok (.iconst (-1), 1) := by decide +kernel
theorem dJ1_indexOf_4cfef_28 : decode cJ1_indexOf_4cfef 28 = .ok (.ireturn, 1) := by decide +kernel
theorem dJ1_indexOf_4cfef_29 : decode cJ1_indexOf_4cfef 29 = .ok (.aload_n 0, 1) := by decide +kernel
theorem dJ1_indexOf_4cfef_30 : decode cJ1_indexOf_4cfef 30 = .ok (.iload_n 1, 1) := by decide +kernel
theorem dJ1_indexOf_4cfef_31 : decode cJ1_indexOf_4cfef 31 = .ok (.iload_n 2, 1) := by decide +kernel
theorem dJ1_indexOf_4cfef_32 : decode cJ1_indexOf_4cfef 32 = .ok (.iload_n 3, 1) := by decide +kernel
theorem dJ1_indexOf_4cfef_33 : decode cJ1_indexOf_4cfef 33 = .ok (.invokestatic 95, 3) := by decide +kernel
theorem dJ1_indexOf_4cfef_36 : decode cJ1_indexOf_4cfef 36 = .ok (.ireturn, 1) := by decide +kernel
theorem dJ1_indexOfChar_4cfef_0 : decode cJ1_indexOfChar_4cfef 0 = .ok (.iload_n 1, 1) := by decide +kernel
theorem dJ1_indexOfChar_4cfef_1 : decode cJ1_indexOfChar_4cfef 1 = .ok (.i2b, 1) := by decide +kernel
theorem dJ1_indexOfChar_4cfef_2 : decode cJ1_indexOfChar_4cfef 2 = .ok (.istore 4, 2) := by decide +kernel
theorem dJ1_indexOfChar_4cfef_4 : decode cJ1_indexOfChar_4cfef 4 = .ok (.iload_n 2, 1) := by decide +kernel
theorem dJ1_indexOfChar_4cfef_5 : decode cJ1_indexOfChar_4cfef 5 = .ok (.istore 5, 2) := by decide +kernel
theorem dJ1_indexOfChar_4cfef_7 : decode cJ1_indexOfChar_4cfef 7 = .ok (.iload 5, 2) := by decide +kernel
theorem dJ1_indexOfChar_4cfef_9 : decode cJ1_indexOfChar_4cfef 9 = .ok (.iload_n 3, 1) := by decide +kernel
theorem dJ1_indexOfChar_4cfef_10 : decode cJ1_indexOfChar_4cfef 10 = .ok (.if_icmp .ge 21, 3) := by decide +kernel
theorem dJ1_indexOfChar_4cfef_13 : decode cJ1_indexOfChar_4cfef 13 = .ok (.aload_n 0, 1) := by decide +kernel
theorem dJ1_indexOfChar_4cfef_14 : decode cJ1_indexOfChar_4cfef 14 = .ok (.iload 5, 2) := by decide +kernel
theorem dJ1_indexOfChar_4cfef_16 : decode cJ1_indexOfChar_4cfef 16 = .ok (.baload, 1) := by decide +kernel
theorem dJ1_indexOfChar_4cfef_17 : decode cJ1_indexOfChar_4cfef 17 = .ok (.iload 4, 2) := by decide +kernel
theorem dJ1_indexOfChar_4cfef_19 : decode cJ1_indexOfChar_4cfef 19 = .ok (.if_icmp .ne 6, 3) := by decide +kernel
theorem dJ1_indexOfChar_4cfef_22 : decode cJ1_indexOfChar_4cfef 22 = .ok (.iload 5, 2) := by decide +kernel
theorem dJ1_indexOfChar_4cfef_24 : decode cJ1_indexOfChar_4cfef 24 = .ok (.ireturn, 1) := by decide +kernel
theorem dJ1_indexOfChar_4cfef_25 : decode cJ1_indexOfChar_4cfef 25 = .ok (.iinc 5 1, 3) := by decide +kernel
theorem dJ1_indexOfChar_4cfef_28 : decode cJ1_indexOfChar_4cfef 28 = .ok (.goto (-21), 3) := by decide +kernel
theorem dJ1_indexOfChar_4cfef_31 : decode cJ1_indexOfChar_4cfef 31 = .ok (.iconst (-1), 1) := by decide +kernel
theorem dJ1_indexOfChar_4cfef_32 : decode cJ1_indexOfChar_4cfef 32 = .ok (.ireturn, 1) := by decide +kernel
theorem dJ2_getChar_3b067_0 : decode cJ2_getChar_3b067 0 = .ok (.getstatic 44, 3) := by decide +kernel
theorem dJ2_getChar_3b067_3 : decode cJ2_getChar_3b067 3 = .ok (.ifCond .ne 25, 3) := by decide +kernel
theorem dJ2_getChar_3b067_6 : decode cJ2_getChar_3b067 6 = .ok (.iload_n 1, 1) := by decide +kernel
theorem dJ2_getChar_3b067_7 : decode cJ2_getChar_3b067 7 = .ok (.ifCond .lt 11, 3) := by decide +kernel
theorem dJ2_getChar_3b067_10 : decode cJ2_getChar_3b067 10 = .ok (.iload_n 1, 1) := by decide +kernel
theorem dJ2_getChar_3b067_11 : decode cJ2_getChar_3b067 11 = .ok (.aload_n 0, 1) := by decide +kernel
theorem dJ2_getChar_3b067_12 : decode cJ2_getChar_3b067 12 = .ok (.invokestatic 48, 3) := by decide +kernel
theorem dJ2_getChar_3b067_15 : decode cJ2_getChar_3b067 15 = .ok (.if_icmp .lt 13, 3) := by decide +kernel
theorem dJ2_getChar_3b067_18 : decode cJ2_getChar_3b067 18 = .ok (.new 52, 3) := by decide +kernel
theorem dJ2_getChar_3b067_21 : decode cJ2_getChar_3b067 21 = .ok (.dup, 1) := by decide +kernel
theorem dJ2_getChar_3b067_22 : decode cJ2_getChar_3b067 22 = .ok (.ldc 54, 2) := by decide +kernel
theorem dJ2_getChar_3b067_24 : decode cJ2_getChar_3b067 24 = .ok (.invokespecial 56, 3) := by decide +kernel
theorem dJ2_getChar_3b067_27 : decode cJ2_getChar_3b067 27 = .ok (.athrow, 1) := by decide +kernel
theorem dJ2_getChar_3b067_28 : decode cJ2_getChar_3b067 28 = .ok (.iload_n 1, 1) := by decide +kernel
theorem dJ2_getChar_3b067_29 : decode cJ2_getChar_3b067 29 = .ok (.iconst 1, 1) := by decide +kernel
theorem dJ2_getChar_3b067_30 : decode cJ2_getChar_3b067 30 = .ok (.ishl, 1) := by decide +kernel
theorem dJ2_getChar_3b067_31 : decode cJ2_getChar_3b067 31 = .ok (.istore_n 1, 1) := by decide +kernel
theorem dJ2_getChar_3b067_32 : decode cJ2_getChar_3b067 32 = .ok (.aload_n 0, 1) := by decide +kernel
theorem dJ2_getChar_3b067_33 : decode cJ2_getChar_3b067 33 = .ok (.iload_n 1, 1) := by decide +kernel
theorem dJ2_getChar_3b067_34 : decode cJ2_getChar_3b067 34 = .ok (.iinc 1 1, 3) := by decide +kernel
theorem dJ2_getChar_3b067_37 : decode cJ2_getChar_3b067 37 = .ok (.baload, 1) := by decide +kernel
theorem dJ2_getChar_3b067_38 : decode cJ2_getChar_3b067 38 = .ok (.sipush 255, 3) := by decide +kernel
theorem dJ2_getChar_3b067_41 : decode cJ2_getChar_3b067 41 = .ok (.iand, 1) := by decide +kernel
theorem dJ2_getChar_3b067_42 : decode cJ2_getChar_3b067 42 = .ok (.getstatic 59, 3) := by decide +kernel
theorem dJ2_getChar_3b067_45 : decode cJ2_getChar_3b067 45 = .ok (.ishl, 1) := by decide +kernel
theorem dJ2_getChar_3b067_46 : decode cJ2_getChar_3b067 46 = .ok (.aload_n 0, 1) := by decide +kernel
theorem dJ2_getChar_3b067_47 : decode cJ2_getChar_3b067 47 = .ok (.iload_n 1, 1) := by decide +kernel
theorem dJ2_getChar_3b067_48 : decode cJ2_getChar_3b067 48 = .ok (.baload, 1) := by decide +kernel
theorem dJ2_getChar_3b067_49 : decode cJ2_getChar_3b067 49 = .ok (.sipush 255, 3) := by decide +kernel
theorem dJ2_getChar_3b067_52 : decode cJ2_getChar_3b067 52 = .ok (.iand, 1) := by decide +kernel
theorem dJ2_getChar_3b067_53 : decode cJ2_getChar_3b067 53 = .ok (.getstatic 63, 3) := by decide +kernel
theorem dJ2_getChar_3b067_56 : decode cJ2_getChar_3b067 56 = .ok (.ishl, 1) := by decide +kernel
theorem dJ2_getChar_3b067_57 : decode cJ2_getChar_3b067 57 = .ok (.ior, 1) := by decide +kernel
theorem dJ2_getChar_3b067_58 : decode cJ2_getChar_3b067 58 = .ok (.i2c, 1) := by decide +kernel
theorem dJ2_getChar_3b067_59 : decode cJ2_getChar_3b067 59 = .ok (.ireturn, 1) := by decide +kernel
theorem dJ2_length_9d52b_0 : decode cJ2_length_9d52b 0 = .ok (.aload_n 0, 1) := by decide +kernel
theorem dJ2_length_9d52b_1 : decode cJ2_length_9d52b 1 = .ok (.arraylength, 1) := by decide +kernel
theorem dJ2_length_9d52b_2 : decode cJ2_length_9d52b 2 = .ok (.iconst 1, 1) := by decide +kernel
theorem dJ2_length_9d52b_3 : decode cJ2_length_9d52b 3 = .ok (.ishr, 1) := by decide +kernel
theorem dJ2_length_9d52b_4 : decode cJ2_length_9d52b 4 = .ok (.ireturn, 1) := by decide +kernel
theorem dJ2_indexOf_4cfef_0 : decode cJ2_indexOf_4cfef 0 = .ok (.iload_n 2, 1) := by decide +kernel
theorem dJ2_indexOf_4cfef_1 : decode cJ2_indexOf_4cfef 1 = .ok (.iconst 0, 1) := by decide +kernel
theorem dJ2_indexOf_4cfef_2 : decode cJ2_indexOf_4cfef 2 = .ok (.invokestatic 224, 3) := by decide +kernel
theorem dJ2_indexOf_4cfef_5 : decode cJ2_indexOf_4cfef 5 = .ok (.istore_n 2, 1) := by decide +kernel
theorem dJ2_indexOf_4cfef_6 : decode cJ2_indexOf_4cfef 6 = .ok (.iload_n 3, 1) := by decide +kernel
theorem dJ2_indexOf_4cfef_7 : decode cJ2_indexOf_4cfef 7 = .ok (.aload_n 0, 1) := by decide +kernel
theorem dJ2_indexOf_4cfef_8 : decode cJ2_indexOf_4cfef 8 = .ok (.arraylength, 1) := by decide +kernel
theorem dJ2_indexOf_4cfef_9 : decode cJ2_indexOf_4cfef 9 = .ok (.iconst 1, 1) := by decide +kernel
theorem dJ2_indexOf_4cfef_10 : decode cJ2_indexOf_4cfef 10 = .ok (.ishr, 1) := by decide +kernel
theorem dJ2_indexOf_4cfef_11 : decode cJ2_indexOf_4cfef 11 = .ok (.invokestatic 183, 3) := by decide +kernel
theorem dJ2_indexOf_4cfef_14 : decode cJ2_indexOf_4cfef 14 = .ok (.istore_n 3, 1) := by decide +kernel
theorem dJ2_indexOf_4cfef_15 : decode cJ2_indexOf_4cfef 15 = .ok (.iload_n 2, 1) := by decide +kernel
theorem dJ2_indexOf_4cfef_16 : decode cJ2_indexOf_4cfef 16 = .ok (.iload_n 3, 1) := by decide +kernel
theorem dJ2_indexOf_4cfef_17 : decode cJ2_indexOf_4cfef 17 = .ok (.if_icmp .lt 5, 3) := by decide +kernel
theorem dJ2_indexOf_4cfef_20 : decode cJ2_indexOf_4cfef 20 = .ok (.iconst (-1), 1) := by decide +kernel
theorem dJ2_indexOf_4cfef_21 : decode cJ2_indexOf_4cfef 21 = .ok (.ireturn, 1) := by decide +kernel
theorem dJ2_indexOf_4cfef_22 : decode cJ2_indexOf_4cfef 22 = .ok (.iload_n 1, 1) := by decide +kernel
theorem dJ2_indexOf_4cfef_23 : decode cJ2_indexOf_4cfef 23 = .ok (.ldc 227, 2) := by decide +kernel
theorem dJ2_indexOf_4cfef_25 : decode cJ2_indexOf_4cfef 25 = .ok (.if_icmp .ge 11, 3) := by decide +kernel
theorem dJ2_indexOf_4cfef_28 : decode cJ2_indexOf_4cfef 28 = .ok (.aload_n 0, 1) := by decide +kernel
theorem dJ2_indexOf_4cfef_29 : decode cJ2_indexOf_4cfef 29 = .ok (.iload_n 1, 1) := by decide +kernel
theorem dJ2_indexOf_4cfef_30 : decode cJ2_indexOf_4cfef 30 = .ok (.iload_n 2, 1) := by decide +kernel
theorem dJ2_indexOf_4cfef_31 : decode cJ2_indexOf_4cfef 31 = .ok (.iload_n 3, 1) := by decide +kernel
theorem dJ2_indexOf_4cfef_32 : decode cJ2_indexOf_4cfef 32 = .ok (.invokestatic 228, 3) := by decide +kernel
theorem dJ2_indexOf_4cfef_35 : decode cJ2_indexOf_4cfef 35 = .ok (.ireturn, 1) := by decide +kernel
theorem dJ2_indexOf_4cfef_36 : decode cJ2_indexOf_4cfef 36 = .ok (.aload_n 0, 1) := by decide +kernel
theorem dJ2_indexOf_4cfef_37 : decode cJ2_indexOf_4cfef 37 = .ok (.iload_n 1, 1) := by decide +kernel
theorem dJ2_indexOf_4cfef_38 : decode cJ2_indexOf_4cfef 38 = .ok (.iload_n 2, 1) := by decide +kernel
theorem dJ2_indexOf_4cfef_39 : decode cJ2_indexOf_4cfef 39 = .ok (.iload_n 3, 1) := by decide +kernel
theorem dJ2_indexOf_4cfef_40 : decode cJ2_indexOf_4cfef 40 = .ok (.invokestatic 232, 3) := by decide +kernel
theorem dJ2_indexOf_4cfef_43 : decode cJ2_indexOf_4cfef 43 = .ok (.ireturn, 1) := by decide +kernel
theorem dJ2_indexOfChar_4cfef_0 : decode cJ2_indexOfChar_4cfef 0 = .ok (.iload_n 2, 1) := by decide +kernel
theorem dJ2_indexOfChar_4cfef_1 : decode cJ2_indexOfChar_4cfef 1 = .ok (.iload_n 3, 1) := by decide +kernel
theorem dJ2_indexOfChar_4cfef_2 : decode cJ2_indexOfChar_4cfef 2 = .ok (.aload_n 0, 1) := by decide +kernel
theorem dJ2_indexOfChar_4cfef_3 : decode cJ2_indexOfChar_4cfef 3 = .ok (.invokestatic 96, 3) := by decide +kernel
theorem dJ2_indexOfChar_4cfef_6 : decode cJ2_indexOfChar_4cfef 6 = .ok (.aload_n 0, 1) := by decide +kernel
theorem dJ2_indexOfChar_4cfef_7 : decode cJ2_indexOfChar_4cfef 7 = .ok (.iload_n 1, 1) := by decide +kernel
theorem dJ2_indexOfChar_4cfef_8 : decode cJ2_indexOfChar_4cfef 8 = .ok (.iload_n 2, 1) := by decide +kernel
theorem dJ2_indexOfChar_4cfef_9 : decode cJ2_indexOfChar_4cfef 9 = .ok (.iload_n 3, 1) := by decide +kernel
theorem dJ2_indexOfChar_4cfef_10 : decode cJ2_indexOfChar_4cfef 10 = .ok (.invokestatic 244, 3) := by decide +kernel
theorem dJ2_indexOfChar_4cfef_13 : decode cJ2_indexOfChar_4cfef 13 = .ok (.ireturn, 1) := by decide +kernel
theorem dJ2_indexOfCharUnsafe_4cfef_0 : decode cJ2_indexOfCharUnsafe_4cfef 0 = .ok (.iload_n 2, 1) := by decide +kernel
theorem dJ2_indexOfCharUnsafe_4cfef_1 : decode cJ2_indexOfCharUnsafe_4cfef 1 = .ok (.istore 4, 2) := by decide +kernel
theorem dJ2_indexOfCharUnsafe_4cfef_3 : decode cJ2_indexOfCharUnsafe_4cfef 3 = .ok (.iload 4, 2) := by decide +kernel
theorem dJ2_indexOfCharUnsafe_4cfef_5 : decode cJ2_indexOfCharUnsafe_4cfef 5 = .ok (.iload_n 3, 1) := by decide +kernel
theorem dJ2_indexOfCharUnsafe_4cfef_6 : decode cJ2_indexOfCharUnsafe_4cfef 6 = .ok (.if_icmp .ge 22, 3) := by decide +kernel
theorem dJ2_indexOfCharUnsafe_4cfef_9 : decode cJ2_indexOfCharUnsafe_4cfef 9 = .ok (.aload_n 0, 1) := by decide +kernel
theorem dJ2_indexOfCharUnsafe_4cfef_10 : decode cJ2_indexOfCharUnsafe_4cfef 10 = .ok (.iload 4, 2) := by decide +kernel
theorem dJ2_indexOfCharUnsafe_4cfef_12 : decode cJ2_indexOfCharUnsafe_4cfef 12 = .ok (.invokestatic 71, 3) := by decide +kernel
theorem dJ2_indexOfCharUnsafe_4cfef_15 : decode cJ2_indexOfCharUnsafe_4cfef 15 = .ok (.iload_n 1, 1) := by decide +kernel
theorem dJ2_indexOfCharUnsafe_4cfef_16 : decode cJ2_indexOfCharUnsafe_4cfef 16 = .ok (.if_icmp .ne 6, 3) := by decide +kernel
theorem dJ2_indexOfCharUnsafe_4cfef_19 : decode cJ2_indexOfCharUnsafe_4cfef 19 = .ok (.iload 4, 2) := by decide +kernel
theorem dJ2_indexOfCharUnsafe_4cfef_21 : decode cJ2_indexOfCharUnsafe_4cfef 21 = .ok (.ireturn, 1) := by decide +kernel
theorem dJ2_indexOfCharUnsafe_4cfef_22 : decode cJ2_indexOfCharUnsafe_4cfef 22 = .ok (.iinc 4 1, 3) := by decide +kernel
theorem dJ2_indexOfCharUnsafe_4cfef_25 : decode cJ2_indexOfCharUnsafe_4cfef 25 = .ok (.goto (-22), 3) := by decide +kernel
theorem dJ2_indexOfCharUnsafe_4cfef_28 : decode cJ2_indexOfCharUnsafe_4cfef 28 = .ok (.iconst (-1), 1) := by decide +kernel
theorem dJ2_indexOfCharUnsafe_4cfef_29 : decode cJ2_indexOfCharUnsafe_4cfef 29 = .ok (.ireturn, 1) := by decide +kernel
theorem dJ2_indexOfSupplementary_4cfef_0 : decode cJ2_indexOfSupplementary_4cfef 0 = .ok (.iload_n 1, 1) := by decide +kernel
theorem dJ2_indexOfSupplementary_4cfef_1 : decode cJ2_indexOfSupplementary_4cfef 1 = .ok (.invokestatic 164, 3) := by decide +kernel
theorem dJ2_indexOfSupplementary_4cfef_4 : decode cJ2_indexOfSupplementary_4cfef 4 = .ok (.ifCond .eq 65, 3) := by decide +kernel
theorem dJ2_indexOfSupplementary_4cfef_7 : decode cJ2_indexOfSupplementary_4cfef 7 = .ok (.iload_n 1, 1) := by decide +kernel
theorem dJ2_indexOfSupplementary_4cfef_8 : decode cJ2_indexOfSupplementary_4cfef 8 = .ok (.invokestatic 157, 3) := by decide +kernel
theorem dJ2_indexOfSupplementary_4cfef_11 : decode cJ2_indexOfSupplementary_4cfef 11 = .ok (.istore 4, 2) := by decide +kernel
theorem dJ2_indexOfSupplementary_4cfef_13 : decode cJ2_indexOfSupplementary_4cfef 13 = .ok (.iload_n 1, 1) := by decide +kernel
theorem dJ2_indexOfSupplementary_4cfef_14 : decode cJ2_indexOfSupplementary_4cfef 14 = .ok (.invokestatic 161, 3) := by decide +kernel
theorem dJ2_indexOfSupplementary_4cfef_17 : decode cJ2_indexOfSupplementary_4cfef 17 = .ok (.istore 5, 2) := by decide +kernel
theorem dJ2_indexOfSupplementary_4cfef_19 : decode cJ2_indexOfSupplementary_4cfef 19 = .ok (.iload_n 2, 1) := by decide +kernel
theorem dJ2_indexOfSupplementary_4cfef_20 : decode cJ2_indexOfSupplementary_4cfef 20 = .ok (.iload_n 3, 1) := by decide +kernel
theorem dJ2_indexOfSupplementary_4cfef_21 : decode cJ2_indexOfSupplementary_4cfef 21 = .ok (.aload_n 0, 1) := by decide +kernel
theorem dJ2_indexOfSupplementary_4cfef_22 : decode cJ2_indexOfSupplementary_4cfef 22 = .ok (.invokestatic 96, 3) := by decide +kernel
theorem dJ2_indexOfSupplementary_4cfef_25 : decode cJ2_indexOfSupplementary_4cfef 25 = .ok (.iload_n 2, 1) := by decide +kernel
theorem dJ2_indexOfSupplementary_4cfef_26 : decode cJ2_indexOfSupplementary_4cfef 26 = .ok (.istore 6, 2) := by decide +kernel
theorem dJ2_indexOfSupplementary_4cfef_28 : decode cJ2_indexOfSupplementary_4cfef 28 = .ok (.iload 6, 2) := by decide +kernel
theorem dJ2_indexOfSupplementary_4cfef_30 : decode cJ2_indexOfSupplementary_4cfef 30 = .ok (.iload_n 3, 1) := by decide +kernel
theorem dJ2_indexOfSupplementary_4cfef_31 : decode cJ2_indexOfSupplementary_4cfef 31 = .ok (.iconst 1, 1) := by decide +kernel
theorem dJ2_indexOfSupplementary_4cfef_32 : decode cJ2_indexOfSupplementary_4cfef 32 = .ok (.isub, 1) := by decide +kernel
theorem dJ2_indexOfSupplementary_4cfef_33 : decode cJ2_indexOfSupplementary_4cfef 33 = .ok (.if_icmp .ge 36, 3) := by decide +kernel
theorem dJ2_indexOfSupplementary_4cfef_36 : decode cJ2_indexOfSupplementary_4cfef 36 = .ok (.aload_n 0, 1) := by decide +kernel
theorem dJ2_indexOfSupplementary_4cfef_37 : decode cJ2_indexOfSupplementary_4cfef 37 = .ok (.iload 6, 2) := by decide +kernel
theorem dJ2_indexOfSupplementary_4cfef_39 : decode cJ2_indexOfSupplementary_4cfef 39 = .ok (.invokestatic 71, 3) := by decide +kernel
theorem dJ2_indexOfSupplementary_4cfef_42 : decode cJ2_indexOfSupplementary_4cfef 42 = .ok (.iload 4, 2) := by decide +kernel
theorem dJ2_indexOfSupplementary_4cfef_44 : decode cJ2_indexOfSupplementary_4cfef 44 = .ok (.if_icmp .ne 19, 3) := by decide +kernel
theorem dJ2_indexOfSupplementary_4cfef_47 : decode cJ2_indexOfSupplementary_4cfef 47 = .ok (.aload_n 0, 1) := by decide +kernel
theorem dJ2_indexOfSupplementary_4cfef_48 : decode cJ2_indexOfSupplementary_4cfef 48 = .ok (.iload 6, 2) := by decide +kernel
theorem dJ2_indexOfSupplementary_4cfef_50 : decode cJ2_indexOfSupplementary_4cfef 50 = .ok (.iconst 1, 1) := by decide +kernel
theorem dJ2_indexOfSupplementary_4cfef_51 : decode cJ2_indexOfSupplementary_4cfef 51 = .ok (.iadd, 1) := by decide +kernel
theorem dJ2_indexOfSupplementary_4cfef_52 : decode cJ2_indexOfSupplementary_4cfef 52 = .ok (.invokestatic 71, 3) := by decide +kernel
theorem dJ2_indexOfSupplementary_4cfef_55 : decode cJ2_indexOfSupplementary_4cfef 55 = .ok (.iload 5, 2) := by decide +kernel
theorem dJ2_indexOfSupplementary_4cfef_57 : decode cJ2_indexOfSupplementary_4cfef 57 = .ok (.if_icmp .ne 6, 3) := by decide +kernel
theorem dJ2_indexOfSupplementary_4cfef_60 : decode cJ2_indexOfSupplementary_4cfef 60 = .ok (.iload 6, 2) := by decide +kernel
theorem dJ2_indexOfSupplementary_4cfef_62 : decode cJ2_indexOfSupplementary_4cfef 62 = .ok (.ireturn, 1) := by decide +kernel
theorem dJ2_indexOfSupplementary_4cfef_63 : decode cJ2_indexOfSupplementary_4cfef 63 = .ok (.iinc 6 1, 3) := by decide +kernel
theorem dJ2_indexOfSupplementary_4cfef_66 : decode cJ2_indexOfSupplementary_4cfef 66 = .ok (.goto (-38), 3) := by decide +kernel
theorem dJ2_indexOfSupplementary_4cfef_69 : decode cJ2_indexOfSupplementary_4cfef 69 = .ok (.iconst (-1), 1) := by decide +kernel
theorem dJ2_indexOfSupplementary_4cfef_70 : decode cJ2_indexOfSupplementary_4cfef 70 = .ok (.ireturn, 1) := by decide +kernel
theorem dJ2_charAt_3b067_0 : decode cJ2_charAt_3b067 0 = .ok (.iload_n 1, 1) := by decide +kernel
theorem dJ2_charAt_3b067_1 : decode cJ2_charAt_3b067 1 = .ok (.aload_n 0, 1) := by decide +kernel
theorem dJ2_charAt_3b067_2 : decode cJ2_charAt_3b067 2 = .ok (.invokestatic 67, 3) := by decide +kernel
theorem dJ2_charAt_3b067_5 : decode cJ2_charAt_3b067 5 = .ok (.aload_n 0, 1) := by decide +kernel
theorem dJ2_charAt_3b067_6 : decode cJ2_charAt_3b067 6 = .ok (.iload_n 1, 1) := by decide +kernel
theorem dJ2_charAt_3b067_7 : decode cJ2_charAt_3b067 7 = .ok (.invokestatic 71, 3) := by decide +kernel
theorem dJ2_charAt_3b067_10 : decode cJ2_charAt_3b067 10 = .ok (.ireturn, 1) := by decide +kernel
theorem dJ2_checkIndex_2214a_0 : decode cJ2_checkIndex_2214a 0 = .ok (.iload_n 0, 1) := by decide +kernel
theorem dJ2_checkIndex_2214a_1 : decode cJ2_checkIndex_2214a 1 = .ok (.aload_n 1, 1) := by decide +kernel
theorem dJ2_checkIndex_2214a_2 : decode cJ2_checkIndex_2214a 2 = .ok (.invokestatic 48, 3) := by decide +kernel
theorem dJ2_checkIndex_2214a_5 : decode cJ2_checkIndex_2214a 5 = .ok (.invokestatic 414, 3) := by decide +kernel
theorem dJ2_checkIndex_2214a_8 : decode cJ2_checkIndex_2214a 8 = .ok (.return_, 1) := by decide +kernel
theorem dJ2_checkBoundsBeginEnd_d044e_0 : decode cJ2_checkBoundsBeginEnd_d044e 0 = .ok (.iload_n 0, 1) := by decide +kernel
theorem dJ2_checkBoundsBeginEnd_d044e_1 : decode cJ2_checkBoundsBeginEnd_d044e 1 = .ok (.iload_n 1, 1) := by decide +kernel
theorem dJ2_checkBoundsBeginEnd_d044e_2 : decode cJ2_checkBoundsBeginEnd_d044e 2 = .ok (.aload_n 2, 1) := by decide +kernel
theorem dJ2_checkBoundsBeginEnd_d044e_3 : decode cJ2_checkBoundsBeginEnd_d044e 3 = .ok (.invokestatic 48, 3) := by decide +kernel
theorem dJ2_checkBoundsBeginEnd_d044e_6 : decode cJ2_checkBoundsBeginEnd_d044e 6 = .ok (.invokestatic 241, 3) := by decide +kernel
theorem dJ2_checkBoundsBeginEnd_d044e_9 : decode cJ2_checkBoundsBeginEnd_d044e 9 = .ok (.return_, 1) := by decide +kernel
theorem dJ7_fill_d0a16_0 : decode cJ7_fill_d0a16 0 = .ok (.iconst 0, 1) := by decide +kernel
theorem dJ7_fill_d0a16_1 : decode cJ7_fill_d0a16 1 = .ok (.istore_n 3, 1) := by decide +kernel
theorem dJ7_fill_d0a16_2 : decode cJ7_fill_d0a16 2 = .ok (.aload_n 0, 1) := by decide +kernel
theorem dJ7_fill_d0a16_3 : decode cJ7_fill_d0a16 3 = .ok (.arraylength, 1) := by decide +kernel
theorem dJ7_fill_d0a16_4 : decode cJ7_fill_d0a16 4 = .ok (.istore 4, 2) := by decide +kernel
theorem dJ7_fill_d0a16_6 : decode cJ7_fill_d0a16 6 = .ok (.iload_n 3, 1) := by decide +kernel
theorem dJ7_fill_d0a16_7 : decode cJ7_fill_d0a16 7 = .ok (.iload 4, 2) := by decide +kernel
theorem dJ7_fill_d0a16_9 : decode cJ7_fill_d0a16 9 = .ok (.if_icmp .ge 13, 3) := by decide +kernel
theorem dJ7_fill_d0a16_12 : decode cJ7_fill_d0a16 12 = .ok (.aload_n 0, 1) := by decide +kernel
theorem dJ7_fill_d0a16_13 : decode cJ7_fill_d0a16 13 = .ok (.iload_n 3, 1) := by decide +kernel
theorem dJ7_fill_d0a16_14 : decode cJ7_fill_d0a16 14 = .ok (.lload_n 1, 1) := by decide +kernel
theorem dJ7_fill_d0a16_15 : decode cJ7_fill_d0a16 15 = .ok (.lastore, 1) := by decide +kernel
theorem dJ7_fill_d0a16_16 : decode cJ7_fill_d0a16 16 = .ok (.iinc 3 1, 3) := by decide +kernel
theorem dJ7_fill_d0a16_19 : decode cJ7_fill_d0a16 19 = .ok (.goto (-13), 3) := by decide +kernel
theorem dJ7_fill_d0a16_22 : decode cJ7_fill_d0a16 22 = .ok (.return_, 1) := by decide +kernel
theorem dJ7_copyOf_59c91_0 : decode cJ7_copyOf_59c91 0 = .ok (.iload_n 1, 1) := by decide +kernel
theorem dJ7_copyOf_59c91_1 : decode cJ7_copyOf_59c91 1 = .ok (.aload_n 0, 1) := by decide +kernel
theorem dJ7_copyOf_59c91_2 : decode cJ7_copyOf_59c91 2 = .ok (.arraylength, 1) := by decide +kernel
theorem dJ7_copyOf_59c91_3 : decode cJ7_copyOf_59c91 3 = .ok (.if_icmp .ne 11, 3) := by decide +kernel
theorem dJ7_copyOf_59c91_6 : decode cJ7_copyOf_59c91 6 = .ok (.aload_n 0, 1) := by decide +kernel
theorem dJ7_copyOf_59c91_7 : decode cJ7_copyOf_59c91 7 = .ok (.invokevirtual 316, 3) := by decide +kernel
theorem dJ7_copyOf_59c91_10 : decode cJ7_copyOf_59c91 10 = .ok (.checkcast 317, 3) := by decide +kernel
theorem dJ7_copyOf_59c91_13 : decode cJ7_copyOf_59c91 13 = .ok (.areturn, 1) := by decide +kernel
theorem dJ7_copyOf_59c91_14 : decode cJ7_copyOf_59c91 14 = .ok (.iload_n 1, 1) := by decide +kernel
theorem dJ7_copyOf_59c91_15 : decode cJ7_copyOf_59c91 15 = .ok (.newarray .int, 2) := by decide +kernel
theorem dJ7_copyOf_59c91_17 : decode cJ7_copyOf_59c91 17 = .ok (.astore_n 2, 1) := by decide +kernel
theorem dJ7_copyOf_59c91_18 : decode cJ7_copyOf_59c91 18 = .ok (.aload_n 0, 1) := by decide +kernel
theorem dJ7_copyOf_59c91_19 : decode cJ7_copyOf_59c91 19 = .ok (.iconst 0, 1) := by decide +kernel
theorem dJ7_copyOf_59c91_20 : decode cJ7_copyOf_59c91 20 = .ok (.aload_n 2, 1) := by decide +kernel
theorem dJ7_copyOf_59c91_21 : decode cJ7_copyOf_59c91 21 = .ok (.iconst 0, 1) := by decide +kernel
theorem dJ7_copyOf_59c91_22 : decode cJ7_copyOf_59c91 22 = .ok (.aload_n 0, 1) := by decide +kernel
theorem dJ7_copyOf_59c91_23 : decode cJ7_copyOf_59c91 23 = .ok (.arraylength, 1) := by decide +kernel
theorem dJ7_copyOf_59c91_24 : decode cJ7_copyOf_59c91 24 = .ok (.iload_n 1, 1) := by decide +kernel
theorem dJ7_copyOf_59c91_25 : decode cJ7_copyOf_59c91 25 = .ok (.invokestatic 304, 3) := by decide +kernel
theorem dJ7_copyOf_59c91_28 : decode cJ7_copyOf_59c91 28 = .ok (.invokestatic 150, 3) := by decide +kernel
theorem dJ7_copyOf_59c91_31 : decode cJ7_copyOf_59c91 31 = .ok (.aload_n 2, 1) := by decide +kernel
theorem dJ7_copyOf_59c91_32 : decode cJ7_copyOf_59c91 32 = .ok (.areturn, 1) := by decide +kernel
theorem dJ3_checkIndex_8e157_0 : decode cJ3_checkIndex_8e157 0 = .ok (.iload_n 0, 1) := by decide +kernel
theorem dJ3_checkIndex_8e157_1 : decode cJ3_checkIndex_8e157 1 = .ok (.ifCond .lt 8, 3) := by decide +kernel
theorem dJ3_checkIndex_8e157_4 : decode cJ3_checkIndex_8e157 4 = .ok (.iload_n 0, 1) := by decide +kernel
theorem dJ3_checkIndex_8e157_5 : decode cJ3_checkIndex_8e157 5 = .ok (.iload_n 1, 1) := by decide +kernel
theorem dJ3_checkIndex_8e157_6 : decode cJ3_checkIndex_8e157 6 = .ok (.if_icmp .lt 10, 3) := by decide +kernel
theorem dJ3_checkIndex_8e157_9 : decode cJ3_checkIndex_8e157 9 = .ok (.aload_n 2, 1) := by decide +kernel
theorem dJ3_checkIndex_8e157_10 : decode cJ3_checkIndex_8e157 10 = .ok (.iload_n 0, 1) := by decide +kernel
theorem dJ3_checkIndex_8e157_11 : decode cJ3_checkIndex_8e157 11 = .ok (.iload_n 1, 1) := by decide +kernel
theorem dJ3_checkIndex_8e157_12 : decode cJ3_checkIndex_8e157 12 = .ok (.invokestatic 95, 3) := by decide +kernel
theorem dJ3_checkIndex_8e157_15 : decode cJ3_checkIndex_8e157 15 = .ok (.athrow, 1) := by decide +kernel
theorem dJ3_checkIndex_8e157_16 : decode cJ3_checkIndex_8e157 16 = .ok (.iload_n 0, 1) := by decide +kernel
theorem dJ3_checkIndex_8e157_17 : decode cJ3_checkIndex_8e157 17 = .ok (.ireturn, 1) := by decide +kernel
theorem dJ3_checkFromToIndex_8c36e_0 : decode cJ3_checkFromToIndex_8c36e 0 = .ok (.iload_n 0, 1) := by decide +kernel
theorem dJ3_checkFromToIndex_8c36e_1 : decode cJ3_checkFromToIndex_8c36e 1 = .ok (.ifCond .lt 13, 3) := by decide +kernel
theorem dJ3_checkFromToIndex_8c36e_4 : decode cJ3_checkFromToIndex_8c36e 4 = .ok (.iload_n 0, 1) := by decide +kernel
theorem dJ3_checkFromToIndex_8c36e_5 : decode cJ3_checkFromToIndex_8c36e 5 = .ok (.iload_n 1, 1) := by decide +kernel
theorem dJ3_checkFromToIndex_8c36e_6 : decode cJ3_checkFromToIndex_8c36e 6 = .ok (.if_icmp .gt 8, 3) := by decide +kernel
theorem dJ3_checkFromToIndex_8c36e_9 : decode cJ3_checkFromToIndex_8c36e 9 = .ok (.iload_n 1, 1) := by decide +kernel
theorem dJ3_checkFromToIndex_8c36e_10 : decode cJ3_checkFromToIndex_8c36e 10 = .ok (.iload_n 2, 1) := by decide +kernel
theorem dJ3_checkFromToIndex_8c36e_11 : decode cJ3_checkFromToIndex_8c36e 11 = .ok (.if_icmp .le 11, 3) := by decide +kernel
theorem dJ3_checkFromToIndex_8c36e_14 : decode cJ3_checkFromToIndex_8c36e 14 = .ok (.aload_n 3, 1) := by decide +kernel
theorem dJ3_checkFromToIndex_8c36e_15 : decode cJ3_checkFromToIndex_8c36e 15 = .ok (.iload_n 0, 1) := by decide +kernel
theorem dJ3_checkFromToIndex_8c36e_16 : decode cJ3_checkFromToIndex_8c36e 16 = .ok (.iload_n 1, 1) := by decide +kernel
theorem dJ3_checkFromToIndex_8c36e_17 : decode cJ3_checkFromToIndex_8c36e 17 = .ok (.iload_n 2, 1) := by decide +kernel
theorem dJ3_checkFromToIndex_8c36e_18 : decode cJ3_checkFromToIndex_8c36e 18 = .ok (.invokestatic 99, 3) := by decide +kernel
theorem dJ3_checkFromToIndex_8c36e_21 : decode cJ3_checkFromToIndex_8c36e 21 = .ok (.athrow, 1) := by decide +kernel
theorem dJ3_checkFromToIndex_8c36e_22 : decode cJ3_checkFromToIndex_8c36e 22 = .ok (.iload_n 0, 1) := by decide +kernel
theorem dJ3_checkFromToIndex_8c36e_23 : decode cJ3_checkFromToIndex_8c36e 23 = .ok (.ireturn, 1) := by decide +kernel
theorem dL_law_0 : decode cL_law 0 = .ok (.new 7, 3) := by decide +kernel
theorem dL_law_3 : decode cL_law 3 = .ok (.dup, 1) := by decide +kernel
theorem dL_law_4 : decode cL_law 4 = .ok (.invokespecial 9, 3) := by decide +kernel
theorem dL_law_7 : decode cL_law 7 = .ok (.astore_n 1, 1) := by decide +kernel
theorem dL_law_8 : decode cL_law 8 = .ok (.new 10, 3) := by decide +kernel
theorem dL_law_11 : decode cL_law 11 = .ok (.dup, 1) := by decide +kernel
theorem dL_law_12 : decode cL_law 12 = .ok (.invokespecial 12, 3) := by decide +kernel
theorem dL_law_15 : decode cL_law 15 = .ok (.astore_n 2, 1) := by decide +kernel
theorem dL_law_16 : decode cL_law 16 = .ok (.iconst 0, 1) := by decide +kernel
theorem dL_law_17 : decode cL_law 17 = .ok (.istore_n 3, 1) := by decide +kernel
theorem dL_law_18 : decode cL_law 18 = .ok (.iload_n 3, 1) := by decide +kernel
theorem dL_law_19 : decode cL_law 19 = .ok (.aload_n 0, 1) := by decide +kernel
theorem dL_law_20 : decode cL_law 20 = .ok (.arraylength, 1) := by decide +kernel
theorem dL_law_21 : decode cL_law 21 = .ok (.bipush 6, 2) := by decide +kernel
theorem dL_law_23 : decode cL_law 23 = .ok (.isub, 1) := by decide +kernel
theorem dL_law_24 : decode cL_law 24 = .ok (.if_icmp .gt 1402, 3) := by decide +kernel
theorem dL_law_27 : decode cL_law 27 = .ok (.aload_n 0, 1) := by decide +kernel
theorem dL_law_28 : decode cL_law 28 = .ok (.iload_n 3, 1) := by decide +kernel
theorem dL_law_29 : decode cL_law 29 = .ok (.iaload, 1) := by decide +kernel
theorem dL_law_30 : decode cL_law 30 = .ok (.bipush 63, 2) := by decide +kernel
theorem dL_law_32 : decode cL_law 32 = .ok (.iand, 1) := by decide +kernel
theorem dL_law_33 : decode cL_law 33 = .ok (.tableswitch 1387 0 36 #[163, 206, 239, 282, 325, 348, 391, 424, 447, 460, 483, 506, 539, 572, 605, 648, 661, 704, 717, 740, 793, 836, 869, 903, 937, 970, 993, 1026, 1039, 1052, 1095, 1118, 1151, 1174, 1217, 1290, 1324], 163) := by decide +kernel
theorem dL_law_196 : decode cL_law 196 = .ok (.aload_n 1, 1) := by decide +kernel
theorem dL_law_197 : decode cL_law 197 = .ok (.aload_n 0, 1) := by decide +kernel
theorem dL_law_198 : decode cL_law 198 = .ok (.iload_n 3, 1) := by decide +kernel
theorem dL_law_199 : decode cL_law 199 = .ok (.iconst 1, 1) := by decide +kernel
theorem dL_law_200 : decode cL_law 200 = .ok (.iadd, 1) := by decide +kernel
theorem dL_law_201 : decode cL_law 201 = .ok (.iaload, 1) := by decide +kernel
theorem dL_law_202 : decode cL_law 202 = .ok (.aload_n 0, 1) := by decide +kernel
theorem dL_law_203 : decode cL_law 203 = .ok (.iload_n 3, 1) := by decide +kernel
theorem dL_law_204 : decode cL_law 204 = .ok (.iconst 2, 1) := by decide +kernel
theorem dL_law_205 : decode cL_law 205 = .ok (.iadd, 1) := by decide +kernel
theorem dL_law_206 : decode cL_law 206 = .ok (.iaload, 1) := by decide +kernel
theorem dL_law_207 : decode cL_law 207 = .ok (.aload_n 0, 1) := by decide +kernel
theorem dL_law_208 : decode cL_law 208 = .ok (.iload_n 3, 1) := by decide +kernel
theorem dL_law_209 : decode cL_law 209 = .ok (.iconst 3, 1) := by decide +kernel
theorem dL_law_210 : decode cL_law 210 = .ok (.iadd, 1) := by decide +kernel
theorem dL_law_211 : decode cL_law 211 = .ok (.iaload, 1) := by decide +kernel
theorem dL_law_212 : decode cL_law 212 = .ok (.invokevirtual 13, 3) := by decide +kernel
theorem dL_law_215 : decode cL_law 215 = .ok (.aload_n 2, 1) := by decide +kernel
theorem dL_law_216 : decode cL_law 216 = .ok (.aload_n 0, 1) := by decide +kernel
theorem dL_law_217 : decode cL_law 217 = .ok (.iload_n 3, 1) := by decide +kernel
theorem dL_law_218 : decode cL_law 218 = .ok (.iconst 1, 1) := by decide +kernel
theorem dL_law_219 : decode cL_law 219 = .ok (.iadd, 1) := by decide +kernel
theorem dL_law_220 : decode cL_law 220 = .ok (.iaload, 1) := by decide +kernel
theorem dL_law_221 : decode cL_law 221 = .ok (.aload_n 0, 1) := by decide +kernel
theorem dL_law_222 : decode cL_law 222 = .ok (.iload_n 3, 1) := by decide +kernel
theorem dL_law_223 : decode cL_law 223 = .ok (.iconst 2, 1) := by decide +kernel
theorem dL_law_224 : decode cL_law 224 = .ok (.iadd, 1) := by decide +kernel
theorem dL_law_225 : decode cL_law 225 = .ok (.iaload, 1) := by decide +kernel
theorem dL_law_226 : decode cL_law 226 = .ok (.aload_n 0, 1) := by decide +kernel
theorem dL_law_227 : decode cL_law 227 = .ok (.iload_n 3, 1) := by decide +kernel
theorem dL_law_228 : decode cL_law 228 = .ok (.iconst 3, 1) := by decide +kernel
theorem dL_law_229 : decode cL_law 229 = .ok (.iadd, 1) := by decide +kernel
theorem dL_law_230 : decode cL_law 230 = .ok (.iaload, 1) := by decide +kernel
theorem dL_law_231 : decode cL_law 231 = .ok (.invokevirtual 17, 3) := by decide +kernel
theorem dL_law_234 : decode cL_law 234 = .ok (.if_icmp .eq 1186, 3) := by decide +kernel
theorem dL_law_237 : decode cL_law 237 = .ok (.iconst 0, 1) := by decide +kernel
theorem dL_law_238 : decode cL_law 238 = .ok (.ireturn, 1) := by decide +kernel
theorem dL_law_239 : decode cL_law 239 = .ok (.aload_n 1, 1) := by decide +kernel
theorem dL_law_240 : decode cL_law 240 = .ok (.aload_n 0, 1) := by decide +kernel
theorem dL_law_241 : decode cL_law 241 = .ok (.iload_n 3, 1) := by decide +kernel
theorem dL_law_242 : decode cL_law 242 = .ok (.iconst 1, 1) := by decide +kernel
theorem dL_law_243 : decode cL_law 243 = .ok (.iadd, 1) := by decide +kernel
theorem dL_law_244 : decode cL_law 244 = .ok (.iaload, 1) := by decide +kernel
theorem dL_law_245 : decode cL_law 245 = .ok (.aload_n 0, 1) := by decide +kernel
theorem dL_law_246 : decode cL_law 246 = .ok (.iload_n 3, 1) := by decide +kernel
theorem dL_law_247 : decode cL_law 247 = .ok (.iconst 2, 1) := by decide +kernel
theorem dL_law_248 : decode cL_law 248 = .ok (.iadd, 1) := by decide +kernel
theorem dL_law_249 : decode cL_law 249 = .ok (.iaload, 1) := by decide +kernel
theorem dL_law_250 : decode cL_law 250 = .ok (.invokevirtual 18, 3) := by decide +kernel
theorem dL_law_253 : decode cL_law 253 = .ok (.aload_n 2, 1) := by decide +kernel
theorem dL_law_254 : decode cL_law 254 = .ok (.aload_n 0, 1) := by decide +kernel
theorem dL_law_255 : decode cL_law 255 = .ok (.iload_n 3, 1) := by decide +kernel
theorem dL_law_256 : decode cL_law 256 = .ok (.iconst 1, 1) := by decide +kernel
theorem dL_law_257 : decode cL_law 257 = .ok (.iadd, 1) := by decide +kernel
theorem dL_law_258 : decode cL_law 258 = .ok (.iaload, 1) := by decide +kernel
theorem dL_law_259 : decode cL_law 259 = .ok (.aload_n 0, 1) := by decide +kernel
theorem dL_law_260 : decode cL_law 260 = .ok (.iload_n 3, 1) := by decide +kernel
theorem dL_law_261 : decode cL_law 261 = .ok (.iconst 2, 1) := by decide +kernel
theorem dL_law_262 : decode cL_law 262 = .ok (.iadd, 1) := by decide +kernel
theorem dL_law_263 : decode cL_law 263 = .ok (.iaload, 1) := by decide +kernel
theorem dL_law_264 : decode cL_law 264 = .ok (.invokevirtual 22, 3) := by decide +kernel
theorem dL_law_267 : decode cL_law 267 = .ok (.if_icmp .eq 1153, 3) := by decide +kernel
theorem dL_law_270 : decode cL_law 270 = .ok (.iconst 0, 1) := by decide +kernel
theorem dL_law_271 : decode cL_law 271 = .ok (.ireturn, 1) := by decide +kernel
theorem dL_law_272 : decode cL_law 272 = .ok (.aload_n 1, 1) := by decide +kernel
theorem dL_law_273 : decode cL_law 273 = .ok (.aload_n 0, 1) := by decide +kernel
theorem dL_law_274 : decode cL_law 274 = .ok (.iload_n 3, 1) := by decide +kernel
theorem dL_law_275 : decode cL_law 275 = .ok (.iconst 1, 1) := by decide +kernel
theorem dL_law_276 : decode cL_law 276 = .ok (.iadd, 1) := by decide +kernel
theorem dL_law_277 : decode cL_law 277 = .ok (.iaload, 1) := by decide +kernel
theorem dL_law_278 : decode cL_law 278 = .ok (.aload_n 0, 1) := by decide +kernel
theorem dL_law_279 : decode cL_law 279 = .ok (.iload_n 3, 1) := by decide +kernel
theorem dL_law_280 : decode cL_law 280 = .ok (.iconst 2, 1) := by decide +kernel
theorem dL_law_281 : decode cL_law 281 = .ok (.iadd, 1) := by decide +kernel
theorem dL_law_282 : decode cL_law 282 = .ok (.iaload, 1) := by decide +kernel
theorem dL_law_283 : decode cL_law 283 = .ok (.aload_n 0, 1) := by decide +kernel
theorem dL_law_284 : decode cL_law 284 = .ok (.iload_n 3, 1) := by decide +kernel
theorem dL_law_285 : decode cL_law 285 = .ok (.iconst 3, 1) := by decide +kernel
theorem dL_law_286 : decode cL_law 286 = .ok (.iadd, 1) := by decide +kernel
theorem dL_law_287 : decode cL_law 287 = .ok (.iaload, 1) := by decide +kernel
theorem dL_law_288 : decode cL_law 288 = .ok (.invokevirtual 23, 3) := by decide +kernel
theorem dL_law_291 : decode cL_law 291 = .ok (.aload_n 2, 1) := by decide +kernel
theorem dL_law_292 : decode cL_law 292 = .ok (.aload_n 0, 1) := by decide +kernel
theorem dL_law_293 : decode cL_law 293 = .ok (.iload_n 3, 1) := by decide +kernel
theorem dL_law_294 : decode cL_law 294 = .ok (.iconst 1, 1) := by decide +kernel
theorem dL_law_295 : decode cL_law 295 = .ok (.iadd, 1) := by decide +kernel
theorem dL_law_296 : decode cL_law 296 = .ok (.iaload, 1) := by decide +kernel
theorem dL_law_297 : decode cL_law 297 = .ok (.aload_n 0, 1) := by decide +kernel
theorem dL_law_298 : decode cL_law 298 = .ok (.iload_n 3, 1) := by decide +kernel
theorem dL_law_299 : decode cL_law 299 = .ok (.iconst 2, 1) := by decide +kernel
theorem dL_law_300 : decode cL_law 300 = .ok (.iadd, 1) := by decide +kernel
theorem dL_law_301 : decode cL_law 301 = .ok (.iaload, 1) := by decide +kernel
theorem dL_law_302 : decode cL_law 302 = .ok (.aload_n 0, 1) := by decide +kernel
theorem dL_law_303 : decode cL_law 303 = .ok (.iload_n 3, 1) := by decide +kernel
theorem dL_law_304 : decode cL_law 304 = .ok (.iconst 3, 1) := by decide +kernel
theorem dL_law_305 : decode cL_law 305 = .ok (.iadd, 1) := by decide +kernel
theorem dL_law_306 : decode cL_law 306 = .ok (.iaload, 1) := by decide +kernel
theorem dL_law_307 : decode cL_law 307 = .ok (.invokevirtual 26, 3) := by decide +kernel
theorem dL_law_310 : decode cL_law 310 = .ok (.if_icmp .eq 1110, 3) := by decide +kernel
theorem dL_law_313 : decode cL_law 313 = .ok (.iconst 0, 1) := by decide +kernel
theorem dL_law_314 : decode cL_law 314 = .ok (.ireturn, 1) := by decide +kernel
theorem dL_law_315 : decode cL_law 315 = .ok (.aload_n 1, 1) := by decide +kernel
theorem dL_law_316 : decode cL_law 316 = .ok (.aload_n 0, 1) := by decide +kernel
theorem dL_law_317 : decode cL_law 317 = .ok (.iload_n 3, 1) := by decide +kernel
theorem dL_law_318 : decode cL_law 318 = .ok (.iconst 1, 1) := by decide +kernel
theorem dL_law_319 : decode cL_law 319 = .ok (.iadd, 1) := by decide +kernel
theorem dL_law_320 : decode cL_law 320 = .ok (.iaload, 1) := by decide +kernel
theorem dL_law_321 : decode cL_law 321 = .ok (.aload_n 0, 1) := by decide +kernel
theorem dL_law_322 : decode cL_law 322 = .ok (.iload_n 3, 1) := by decide +kernel
theorem dL_law_323 : decode cL_law 323 = .ok (.iconst 2, 1) := by decide +kernel
theorem dL_law_324 : decode cL_law 324 = .ok (.iadd, 1) := by decide +kernel
theorem dL_law_325 : decode cL_law 325 = .ok (.iaload, 1) := by decide +kernel
theorem dL_law_326 : decode cL_law 326 = .ok (.aload_n 0, 1) := by decide +kernel
theorem dL_law_327 : decode cL_law 327 = .ok (.iload_n 3, 1) := by decide +kernel
theorem dL_law_328 : decode cL_law 328 = .ok (.iconst 3, 1) := by decide +kernel
theorem dL_law_329 : decode cL_law 329 = .ok (.iadd, 1) := by decide +kernel
theorem dL_law_330 : decode cL_law 330 = .ok (.iaload, 1) := by decide +kernel
theorem dL_law_331 : decode cL_law 331 = .ok (.invokevirtual 27, 3) := by decide +kernel
theorem dL_law_334 : decode cL_law 334 = .ok (.aload_n 2, 1) := by decide +kernel
theorem dL_law_335 : decode cL_law 335 = .ok (.aload_n 0, 1) := by decide +kernel
theorem dL_law_336 : decode cL_law 336 = .ok (.iload_n 3, 1) := by decide +kernel
theorem dL_law_337 : decode cL_law 337 = .ok (.iconst 1, 1) := by decide +kernel
theorem dL_law_338 : decode cL_law 338 = .ok (.iadd, 1) := by decide +kernel
theorem dL_law_339 : decode cL_law 339 = .ok (.iaload, 1) := by decide +kernel
theorem dL_law_340 : decode cL_law 340 = .ok (.aload_n 0, 1) := by decide +kernel
theorem dL_law_341 : decode cL_law 341 = .ok (.iload_n 3, 1) := by decide +kernel
theorem dL_law_342 : decode cL_law 342 = .ok (.iconst 2, 1) := by decide +kernel
theorem dL_law_343 : decode cL_law 343 = .ok (.iadd, 1) := by decide +kernel
theorem dL_law_344 : decode cL_law 344 = .ok (.iaload, 1) := by decide +kernel
theorem dL_law_345 : decode cL_law 345 = .ok (.aload_n 0, 1) := by decide +kernel
theorem dL_law_346 : decode cL_law 346 = .ok (.iload_n 3, 1) := by decide +kernel
theorem dL_law_347 : decode cL_law 347 = .ok (.iconst 3, 1) := by decide +kernel
theorem dL_law_348 : decode cL_law 348 = .ok (.iadd, 1) := by decide +kernel
theorem dL_law_349 : decode cL_law 349 = .ok (.iaload, 1) := by decide +kernel
theorem dL_law_350 : decode cL_law 350 = .ok (.invokevirtual 30, 3) := by decide +kernel
theorem dL_law_353 : decode cL_law 353 = .ok (.if_icmp .eq 1067, 3) := by decide +kernel
theorem dL_law_356 : decode cL_law 356 = .ok (.iconst 0, 1) := by decide +kernel
theorem dL_law_357 : decode cL_law 357 = .ok (.ireturn, 1) := by decide +kernel
theorem dL_law_358 : decode cL_law 358 = .ok (.aload_n 1, 1) := by decide +kernel
theorem dL_law_359 : decode cL_law 359 = .ok (.aload_n 0, 1) := by decide +kernel
theorem dL_law_360 : decode cL_law 360 = .ok (.iload_n 3, 1) := by decide +kernel
theorem dL_law_361 : decode cL_law 361 = .ok (.iconst 1, 1) := by decide +kernel
theorem dL_law_362 : decode cL_law 362 = .ok (.iadd, 1) := by decide +kernel
theorem dL_law_363 : decode cL_law 363 = .ok (.iaload, 1) := by decide +kernel
theorem dL_law_364 : decode cL_law 364 = .ok (.invokevirtual 31, 3) := by decide +kernel
theorem dL_law_367 : decode cL_law 367 = .ok (.aload_n 2, 1) := by decide +kernel
theorem dL_law_368 : decode cL_law 368 = .ok (.aload_n 0, 1) := by decide +kernel
theorem dL_law_369 : decode cL_law 369 = .ok (.iload_n 3, 1) := by decide +kernel
theorem dL_law_370 : decode cL_law 370 = .ok (.iconst 1, 1) := by decide +kernel
theorem dL_law_371 : decode cL_law 371 = .ok (.iadd, 1) := by decide +kernel
theorem dL_law_372 : decode cL_law 372 = .ok (.iaload, 1) := by decide +kernel
theorem dL_law_373 : decode cL_law 373 = .ok (.invokevirtual 35, 3) := by decide +kernel
theorem dL_law_376 : decode cL_law 376 = .ok (.if_icmp .eq 1044, 3) := by decide +kernel
theorem dL_law_379 : decode cL_law 379 = .ok (.iconst 0, 1) := by decide +kernel
theorem dL_law_380 : decode cL_law 380 = .ok (.ireturn, 1) := by decide +kernel
theorem dL_law_381 : decode cL_law 381 = .ok (.aload_n 1, 1) := by decide +kernel
theorem dL_law_382 : decode cL_law 382 = .ok (.aload_n 0, 1) := by decide +kernel
theorem dL_law_383 : decode cL_law 383 = .ok (.iload_n 3, 1) := by decide +kernel
theorem dL_law_384 : decode cL_law 384 = .ok (.iconst 1, 1) := by decide +kernel
theorem dL_law_385 : decode cL_law 385 = .ok (.iadd, 1) := by decide +kernel
theorem dL_law_386 : decode cL_law 386 = .ok (.iaload, 1) := by decide +kernel
theorem dL_law_387 : decode cL_law 387 = .ok (.aload_n 0, 1) := by decide +kernel
theorem dL_law_388 : decode cL_law 388 = .ok (.iload_n 3, 1) := by decide +kernel
theorem dL_law_389 : decode cL_law 389 = .ok (.iconst 2, 1) := by decide +kernel
theorem dL_law_390 : decode cL_law 390 = .ok (.iadd, 1) := by decide +kernel
theorem dL_law_391 : decode cL_law 391 = .ok (.iaload, 1) := by decide +kernel
theorem dL_law_392 : decode cL_law 392 = .ok (.aload_n 0, 1) := by decide +kernel
theorem dL_law_393 : decode cL_law 393 = .ok (.iload_n 3, 1) := by decide +kernel
theorem dL_law_394 : decode cL_law 394 = .ok (.iconst 3, 1) := by decide +kernel
theorem dL_law_395 : decode cL_law 395 = .ok (.iadd, 1) := by decide +kernel
theorem dL_law_396 : decode cL_law 396 = .ok (.iaload, 1) := by decide +kernel
theorem dL_law_397 : decode cL_law 397 = .ok (.invokevirtual 36, 3) := by decide +kernel
theorem dL_law_400 : decode cL_law 400 = .ok (.aload_n 2, 1) := by decide +kernel
theorem dL_law_401 : decode cL_law 401 = .ok (.aload_n 0, 1) := by decide +kernel
theorem dL_law_402 : decode cL_law 402 = .ok (.iload_n 3, 1) := by decide +kernel
theorem dL_law_403 : decode cL_law 403 = .ok (.iconst 1, 1) := by decide +kernel
theorem dL_law_404 : decode cL_law 404 = .ok (.iadd, 1) := by decide +kernel
theorem dL_law_405 : decode cL_law 405 = .ok (.iaload, 1) := by decide +kernel
theorem dL_law_406 : decode cL_law 406 = .ok (.aload_n 0, 1) := by decide +kernel
theorem dL_law_407 : decode cL_law 407 = .ok (.iload_n 3, 1) := by decide +kernel
theorem dL_law_408 : decode cL_law 408 = .ok (.iconst 2, 1) := by decide +kernel
theorem dL_law_409 : decode cL_law 409 = .ok (.iadd, 1) := by decide +kernel
theorem dL_law_410 : decode cL_law 410 = .ok (.iaload, 1) := by decide +kernel
theorem dL_law_411 : decode cL_law 411 = .ok (.aload_n 0, 1) := by decide +kernel
theorem dL_law_412 : decode cL_law 412 = .ok (.iload_n 3, 1) := by decide +kernel
theorem dL_law_413 : decode cL_law 413 = .ok (.iconst 3, 1) := by decide +kernel
theorem dL_law_414 : decode cL_law 414 = .ok (.iadd, 1) := by decide +kernel
theorem dL_law_415 : decode cL_law 415 = .ok (.iaload, 1) := by decide +kernel
theorem dL_law_416 : decode cL_law 416 = .ok (.invokevirtual 39, 3) := by decide +kernel
theorem dL_law_419 : decode cL_law 419 = .ok (.if_icmp .eq 1001, 3) := by decide +kernel
theorem dL_law_422 : decode cL_law 422 = .ok (.iconst 0, 1) := by decide +kernel
theorem dL_law_423 : decode cL_law 423 = .ok (.ireturn, 1) := by decide +kernel
theorem dL_law_424 : decode cL_law 424 = .ok (.aload_n 1, 1) := by decide +kernel
theorem dL_law_425 : decode cL_law 425 = .ok (.aload_n 0, 1) := by decide +kernel
theorem dL_law_426 : decode cL_law 426 = .ok (.iload_n 3, 1) := by decide +kernel
theorem dL_law_427 : decode cL_law 427 = .ok (.iconst 1, 1) := by decide +kernel
theorem dL_law_428 : decode cL_law 428 = .ok (.iadd, 1) := by decide +kernel
theorem dL_law_429 : decode cL_law 429 = .ok (.iaload, 1) := by decide +kernel
theorem dL_law_430 : decode cL_law 430 = .ok (.aload_n 0, 1) := by decide +kernel
theorem dL_law_431 : decode cL_law 431 = .ok (.iload_n 3, 1) := by decide +kernel
theorem dL_law_432 : decode cL_law 432 = .ok (.iconst 2, 1) := by decide +kernel
theorem dL_law_433 : decode cL_law 433 = .ok (.iadd, 1) := by decide +kernel
theorem dL_law_434 : decode cL_law 434 = .ok (.iaload, 1) := by decide +kernel
theorem dL_law_435 : decode cL_law 435 = .ok (.invokevirtual 40, 3) := by decide +kernel
theorem dL_law_438 : decode cL_law 438 = .ok (.aload_n 2, 1) := by decide +kernel
theorem dL_law_439 : decode cL_law 439 = .ok (.aload_n 0, 1) := by decide +kernel
theorem dL_law_440 : decode cL_law 440 = .ok (.iload_n 3, 1) := by decide +kernel
theorem dL_law_441 : decode cL_law 441 = .ok (.iconst 1, 1) := by decide +kernel
theorem dL_law_442 : decode cL_law 442 = .ok (.iadd, 1) := by decide +kernel
theorem dL_law_443 : decode cL_law 443 = .ok (.iaload, 1) := by decide +kernel
theorem dL_law_444 : decode cL_law 444 = .ok (.aload_n 0, 1) := by decide +kernel
theorem dL_law_445 : decode cL_law 445 = .ok (.iload_n 3, 1) := by decide +kernel
theorem dL_law_446 : decode cL_law 446 = .ok (.iconst 2, 1) := by decide +kernel
theorem dL_law_447 : decode cL_law 447 = .ok (.iadd, 1) := by decide +kernel
theorem dL_law_448 : decode cL_law 448 = .ok (.iaload, 1) := by decide +kernel
theorem dL_law_449 : decode cL_law 449 = .ok (.invokevirtual 43, 3) := by decide +kernel
theorem dL_law_452 : decode cL_law 452 = .ok (.if_icmp .eq 968, 3) := by decide +kernel
theorem dL_law_455 : decode cL_law 455 = .ok (.iconst 0, 1) := by decide +kernel
theorem dL_law_456 : decode cL_law 456 = .ok (.ireturn, 1) := by decide +kernel
theorem dL_law_457 : decode cL_law 457 = .ok (.aload_n 1, 1) := by decide +kernel
theorem dL_law_458 : decode cL_law 458 = .ok (.aload_n 0, 1) := by decide +kernel
theorem dL_law_459 : decode cL_law 459 = .ok (.iload_n 3, 1) := by decide +kernel
theorem dL_law_460 : decode cL_law 460 = .ok (.iconst 1, 1) := by decide +kernel
theorem dL_law_461 : decode cL_law 461 = .ok (.iadd, 1) := by decide +kernel
theorem dL_law_462 : decode cL_law 462 = .ok (.iaload, 1) := by decide +kernel
theorem dL_law_463 : decode cL_law 463 = .ok (.invokevirtual 44, 3) := by decide +kernel
theorem dL_law_466 : decode cL_law 466 = .ok (.aload_n 2, 1) := by decide +kernel
theorem dL_law_467 : decode cL_law 467 = .ok (.aload_n 0, 1) := by decide +kernel
theorem dL_law_468 : decode cL_law 468 = .ok (.iload_n 3, 1) := by decide +kernel
theorem dL_law_469 : decode cL_law 469 = .ok (.iconst 1, 1) := by decide +kernel
theorem dL_law_470 : decode cL_law 470 = .ok (.iadd, 1) := by decide +kernel
theorem dL_law_471 : decode cL_law 471 = .ok (.iaload, 1) := by decide +kernel
theorem dL_law_472 : decode cL_law 472 = .ok (.invokevirtual 47, 3) := by decide +kernel
theorem dL_law_475 : decode cL_law 475 = .ok (.if_icmp .eq 945, 3) := by decide +kernel
theorem dL_law_478 : decode cL_law 478 = .ok (.iconst 0, 1) := by decide +kernel
theorem dL_law_479 : decode cL_law 479 = .ok (.ireturn, 1) := by decide +kernel
theorem dL_law_480 : decode cL_law 480 = .ok (.aload_n 1, 1) := by decide +kernel
theorem dL_law_481 : decode cL_law 481 = .ok (.invokevirtual 48, 3) := by decide +kernel
theorem dL_law_484 : decode cL_law 484 = .ok (.aload_n 2, 1) := by decide +kernel
theorem dL_law_485 : decode cL_law 485 = .ok (.invokevirtual 52, 3) := by decide +kernel
theorem dL_law_488 : decode cL_law 488 = .ok (.if_icmp .eq 932, 3) := by decide +kernel
theorem dL_law_491 : decode cL_law 491 = .ok (.iconst 0, 1) := by decide +kernel
theorem dL_law_492 : decode cL_law 492 = .ok (.ireturn, 1) := by decide +kernel
theorem dL_law_493 : decode cL_law 493 = .ok (.aload_n 1, 1) := by decide +kernel
theorem dL_law_494 : decode cL_law 494 = .ok (.aload_n 0, 1) := by decide +kernel
theorem dL_law_495 : decode cL_law 495 = .ok (.iload_n 3, 1) := by decide +kernel
theorem dL_law_496 : decode cL_law 496 = .ok (.iconst 1, 1) := by decide +kernel
theorem dL_law_497 : decode cL_law 497 = .ok (.iadd, 1) := by decide +kernel
theorem dL_law_498 : decode cL_law 498 = .ok (.iaload, 1) := by decide +kernel
theorem dL_law_499 : decode cL_law 499 = .ok (.invokevirtual 53, 3) := by decide +kernel
theorem dL_law_502 : decode cL_law 502 = .ok (.aload_n 2, 1) := by decide +kernel
theorem dL_law_503 : decode cL_law 503 = .ok (.aload_n 0, 1) := by decide +kernel
theorem dL_law_504 : decode cL_law 504 = .ok (.iload_n 3, 1) := by decide +kernel
theorem dL_law_505 : decode cL_law 505 = .ok (.iconst 1, 1) := by decide +kernel
theorem dL_law_506 : decode cL_law 506 = .ok (.iadd, 1) := by decide +kernel
theorem dL_law_507 : decode cL_law 507 = .ok (.iaload, 1) := by decide +kernel
theorem dL_law_508 : decode cL_law 508 = .ok (.invokevirtual 56, 3) := by decide +kernel
theorem dL_law_511 : decode cL_law 511 = .ok (.if_icmp .eq 909, 3) := by decide +kernel
theorem dL_law_514 : decode cL_law 514 = .ok (.iconst 0, 1) := by decide +kernel
theorem dL_law_515 : decode cL_law 515 = .ok (.ireturn, 1) := by decide +kernel
theorem dL_law_516 : decode cL_law 516 = .ok (.aload_n 1, 1) := by decide +kernel
theorem dL_law_517 : decode cL_law 517 = .ok (.aload_n 0, 1) := by decide +kernel
theorem dL_law_518 : decode cL_law 518 = .ok (.iload_n 3, 1) := by decide +kernel
theorem dL_law_519 : decode cL_law 519 = .ok (.iconst 1, 1) := by decide +kernel
theorem dL_law_520 : decode cL_law 520 = .ok (.iadd, 1) := by decide +kernel
theorem dL_law_521 : decode cL_law 521 = .ok (.iaload, 1) := by decide +kernel
theorem dL_law_522 : decode cL_law 522 = .ok (.invokevirtual 57, 3) := by decide +kernel
theorem dL_law_525 : decode cL_law 525 = .ok (.aload_n 2, 1) := by decide +kernel
theorem dL_law_526 : decode cL_law 526 = .ok (.aload_n 0, 1) := by decide +kernel
theorem dL_law_527 : decode cL_law 527 = .ok (.iload_n 3, 1) := by decide +kernel
theorem dL_law_528 : decode cL_law 528 = .ok (.iconst 1, 1) := by decide +kernel
theorem dL_law_529 : decode cL_law 529 = .ok (.iadd, 1) := by decide +kernel
theorem dL_law_530 : decode cL_law 530 = .ok (.iaload, 1) := by decide +kernel
theorem dL_law_531 : decode cL_law 531 = .ok (.invokevirtual 60, 3) := by decide +kernel
theorem dL_law_534 : decode cL_law 534 = .ok (.if_icmp .eq 886, 3) := by decide +kernel
theorem dL_law_537 : decode cL_law 537 = .ok (.iconst 0, 1) := by decide +kernel
theorem dL_law_538 : decode cL_law 538 = .ok (.ireturn, 1) := by decide +kernel
theorem dL_law_539 : decode cL_law 539 = .ok (.aload_n 1, 1) := by decide +kernel
theorem dL_law_540 : decode cL_law 540 = .ok (.aload_n 0, 1) := by decide +kernel
theorem dL_law_541 : decode cL_law 541 = .ok (.iload_n 3, 1) := by decide +kernel
theorem dL_law_542 : decode cL_law 542 = .ok (.iconst 1, 1) := by decide +kernel
theorem dL_law_543 : decode cL_law 543 = .ok (.iadd, 1) := by decide +kernel
theorem dL_law_544 : decode cL_law 544 = .ok (.iaload, 1) := by decide +kernel
theorem dL_law_545 : decode cL_law 545 = .ok (.aload_n 0, 1) := by decide +kernel
theorem dL_law_546 : decode cL_law 546 = .ok (.iload_n 3, 1) := by decide +kernel
theorem dL_law_547 : decode cL_law 547 = .ok (.iconst 2, 1) := by decide +kernel
theorem dL_law_548 : decode cL_law 548 = .ok (.iadd, 1) := by decide +kernel
theorem dL_law_549 : decode cL_law 549 = .ok (.iaload, 1) := by decide +kernel
theorem dL_law_550 : decode cL_law 550 = .ok (.invokevirtual 61, 3) := by decide +kernel
theorem dL_law_553 : decode cL_law 553 = .ok (.aload_n 2, 1) := by decide +kernel
theorem dL_law_554 : decode cL_law 554 = .ok (.aload_n 0, 1) := by decide +kernel
theorem dL_law_555 : decode cL_law 555 = .ok (.iload_n 3, 1) := by decide +kernel
theorem dL_law_556 : decode cL_law 556 = .ok (.iconst 1, 1) := by decide +kernel
theorem dL_law_557 : decode cL_law 557 = .ok (.iadd, 1) := by decide +kernel
theorem dL_law_558 : decode cL_law 558 = .ok (.iaload, 1) := by decide +kernel
theorem dL_law_559 : decode cL_law 559 = .ok (.aload_n 0, 1) := by decide +kernel
theorem dL_law_560 : decode cL_law 560 = .ok (.iload_n 3, 1) := by decide +kernel
theorem dL_law_561 : decode cL_law 561 = .ok (.iconst 2, 1) := by decide +kernel
theorem dL_law_562 : decode cL_law 562 = .ok (.iadd, 1) := by decide +kernel
theorem dL_law_563 : decode cL_law 563 = .ok (.iaload, 1) := by decide +kernel
theorem dL_law_564 : decode cL_law 564 = .ok (.invokevirtual 64, 3) := by decide +kernel
theorem dL_law_567 : decode cL_law 567 = .ok (.if_icmp .eq 853, 3) := by decide +kernel
theorem dL_law_570 : decode cL_law 570 = .ok (.iconst 0, 1) := by decide +kernel
theorem dL_law_571 : decode cL_law 571 = .ok (.ireturn, 1) := by decide +kernel
theorem dL_law_572 : decode cL_law 572 = .ok (.aload_n 1, 1) := by decide +kernel
theorem dL_law_573 : decode cL_law 573 = .ok (.aload_n 0, 1) := by decide +kernel
theorem dL_law_574 : decode cL_law 574 = .ok (.iload_n 3, 1) := by decide +kernel
theorem dL_law_575 : decode cL_law 575 = .ok (.iconst 1, 1) := by decide +kernel
theorem dL_law_576 : decode cL_law 576 = .ok (.iadd, 1) := by decide +kernel
theorem dL_law_577 : decode cL_law 577 = .ok (.iaload, 1) := by decide +kernel
theorem dL_law_578 : decode cL_law 578 = .ok (.aload_n 0, 1) := by decide +kernel
theorem dL_law_579 : decode cL_law 579 = .ok (.iload_n 3, 1) := by decide +kernel
theorem dL_law_580 : decode cL_law 580 = .ok (.iconst 2, 1) := by decide +kernel
theorem dL_law_581 : decode cL_law 581 = .ok (.iadd, 1) := by decide +kernel
theorem dL_law_582 : decode cL_law 582 = .ok (.iaload, 1) := by decide +kernel
theorem dL_law_583 : decode cL_law 583 = .ok (.invokevirtual 65, 3) := by decide +kernel
theorem dL_law_586 : decode cL_law 586 = .ok (.aload_n 2, 1) := by decide +kernel
theorem dL_law_587 : decode cL_law 587 = .ok (.aload_n 0, 1) := by decide +kernel
theorem dL_law_588 : decode cL_law 588 = .ok (.iload_n 3, 1) := by decide +kernel
theorem dL_law_589 : decode cL_law 589 = .ok (.iconst 1, 1) := by decide +kernel
theorem dL_law_590 : decode cL_law 590 = .ok (.iadd, 1) := by decide +kernel
theorem dL_law_591 : decode cL_law 591 = .ok (.iaload, 1) := by decide +kernel
theorem dL_law_592 : decode cL_law 592 = .ok (.aload_n 0, 1) := by decide +kernel
theorem dL_law_593 : decode cL_law 593 = .ok (.iload_n 3, 1) := by decide +kernel
theorem dL_law_594 : decode cL_law 594 = .ok (.iconst 2, 1) := by decide +kernel
theorem dL_law_595 : decode cL_law 595 = .ok (.iadd, 1) := by decide +kernel
theorem dL_law_596 : decode cL_law 596 = .ok (.iaload, 1) := by decide +kernel
theorem dL_law_597 : decode cL_law 597 = .ok (.invokevirtual 68, 3) := by decide +kernel
theorem dL_law_600 : decode cL_law 600 = .ok (.if_icmp .eq 820, 3) := by decide +kernel
theorem dL_law_603 : decode cL_law 603 = .ok (.iconst 0, 1) := by decide +kernel
theorem dL_law_604 : decode cL_law 604 = .ok (.ireturn, 1) := by decide +kernel
theorem dL_law_605 : decode cL_law 605 = .ok (.aload_n 1, 1) := by decide +kernel
theorem dL_law_606 : decode cL_law 606 = .ok (.aload_n 0, 1) := by decide +kernel
theorem dL_law_607 : decode cL_law 607 = .ok (.iload_n 3, 1) := by decide +kernel
theorem dL_law_608 : decode cL_law 608 = .ok (.iconst 1, 1) := by decide +kernel
theorem dL_law_609 : decode cL_law 609 = .ok (.iadd, 1) := by decide +kernel
theorem dL_law_610 : decode cL_law 610 = .ok (.iaload, 1) := by decide +kernel
theorem dL_law_611 : decode cL_law 611 = .ok (.aload_n 0, 1) := by decide +kernel
theorem dL_law_612 : decode cL_law 612 = .ok (.iload_n 3, 1) := by decide +kernel
theorem dL_law_613 : decode cL_law 613 = .ok (.iconst 2, 1) := by decide +kernel
theorem dL_law_614 : decode cL_law 614 = .ok (.iadd, 1) := by decide +kernel
theorem dL_law_615 : decode cL_law 615 = .ok (.iaload, 1) := by decide +kernel
theorem dL_law_616 : decode cL_law 616 = .ok (.invokevirtual 69, 3) := by decide +kernel
theorem dL_law_619 : decode cL_law 619 = .ok (.aload_n 2, 1) := by decide +kernel
theorem dL_law_620 : decode cL_law 620 = .ok (.aload_n 0, 1) := by decide +kernel
theorem dL_law_621 : decode cL_law 621 = .ok (.iload_n 3, 1) := by decide +kernel
theorem dL_law_622 : decode cL_law 622 = .ok (.iconst 1, 1) := by decide +kernel
theorem dL_law_623 : decode cL_law 623 = .ok (.iadd, 1) := by decide +kernel
theorem dL_law_624 : decode cL_law 624 = .ok (.iaload, 1) := by decide +kernel
theorem dL_law_625 : decode cL_law 625 = .ok (.aload_n 0, 1) := by decide +kernel
theorem dL_law_626 : decode cL_law 626 = .ok (.iload_n 3, 1) := by decide +kernel
theorem dL_law_627 : decode cL_law 627 = .ok (.iconst 2, 1) := by decide +kernel
theorem dL_law_628 : decode cL_law 628 = .ok (.iadd, 1) := by decide +kernel
theorem dL_law_629 : decode cL_law 629 = .ok (.iaload, 1) := by decide +kernel
theorem dL_law_630 : decode cL_law 630 = .ok (.invokevirtual 72, 3) := by decide +kernel
theorem dL_law_633 : decode cL_law 633 = .ok (.if_icmp .eq 787, 3) := by decide +kernel
theorem dL_law_636 : decode cL_law 636 = .ok (.iconst 0, 1) := by decide +kernel
theorem dL_law_637 : decode cL_law 637 = .ok (.ireturn, 1) := by decide +kernel
theorem dL_law_638 : decode cL_law 638 = .ok (.aload_n 1, 1) := by decide +kernel
theorem dL_law_639 : decode cL_law 639 = .ok (.aload_n 0, 1) := by decide +kernel
theorem dL_law_640 : decode cL_law 640 = .ok (.iload_n 3, 1) := by decide +kernel
theorem dL_law_641 : decode cL_law 641 = .ok (.iconst 1, 1) := by decide +kernel
theorem dL_law_642 : decode cL_law 642 = .ok (.iadd, 1) := by decide +kernel
theorem dL_law_643 : decode cL_law 643 = .ok (.iaload, 1) := by decide +kernel
theorem dL_law_644 : decode cL_law 644 = .ok (.aload_n 0, 1) := by decide +kernel
theorem dL_law_645 : decode cL_law 645 = .ok (.iload_n 3, 1) := by decide +kernel
theorem dL_law_646 : decode cL_law 646 = .ok (.iconst 2, 1) := by decide +kernel
theorem dL_law_647 : decode cL_law 647 = .ok (.iadd, 1) := by decide +kernel
theorem dL_law_648 : decode cL_law 648 = .ok (.iaload, 1) := by decide +kernel
theorem dL_law_649 : decode cL_law 649 = .ok (.aload_n 0, 1) := by decide +kernel
theorem dL_law_650 : decode cL_law 650 = .ok (.iload_n 3, 1) := by decide +kernel
theorem dL_law_651 : decode cL_law 651 = .ok (.iconst 3, 1) := by decide +kernel
theorem dL_law_652 : decode cL_law 652 = .ok (.iadd, 1) := by decide +kernel
theorem dL_law_653 : decode cL_law 653 = .ok (.iaload, 1) := by decide +kernel
theorem dL_law_654 : decode cL_law 654 = .ok (.invokevirtual 73, 3) := by decide +kernel
theorem dL_law_657 : decode cL_law 657 = .ok (.aload_n 2, 1) := by decide +kernel
theorem dL_law_658 : decode cL_law 658 = .ok (.aload_n 0, 1) := by decide +kernel
theorem dL_law_659 : decode cL_law 659 = .ok (.iload_n 3, 1) := by decide +kernel
theorem dL_law_660 : decode cL_law 660 = .ok (.iconst 1, 1) := by decide +kernel
theorem dL_law_661 : decode cL_law 661 = .ok (.iadd, 1) := by decide +kernel
theorem dL_law_662 : decode cL_law 662 = .ok (.iaload, 1) := by decide +kernel
theorem dL_law_663 : decode cL_law 663 = .ok (.aload_n 0, 1) := by decide +kernel
theorem dL_law_664 : decode cL_law 664 = .ok (.iload_n 3, 1) := by decide +kernel
theorem dL_law_665 : decode cL_law 665 = .ok (.iconst 2, 1) := by decide +kernel
theorem dL_law_666 : decode cL_law 666 = .ok (.iadd, 1) := by decide +kernel
theorem dL_law_667 : decode cL_law 667 = .ok (.iaload, 1) := by decide +kernel
theorem dL_law_668 : decode cL_law 668 = .ok (.aload_n 0, 1) := by decide +kernel
theorem dL_law_669 : decode cL_law 669 = .ok (.iload_n 3, 1) := by decide +kernel
theorem dL_law_670 : decode cL_law 670 = .ok (.iconst 3, 1) := by decide +kernel
theorem dL_law_671 : decode cL_law 671 = .ok (.iadd, 1) := by decide +kernel
theorem dL_law_672 : decode cL_law 672 = .ok (.iaload, 1) := by decide +kernel
theorem dL_law_673 : decode cL_law 673 = .ok (.invokevirtual 76, 3) := by decide +kernel
theorem dL_law_676 : decode cL_law 676 = .ok (.if_icmp .eq 744, 3) := by decide +kernel
theorem dL_law_679 : decode cL_law 679 = .ok (.iconst 0, 1) := by decide +kernel
theorem dL_law_680 : decode cL_law 680 = .ok (.ireturn, 1) := by decide +kernel
theorem dL_law_681 : decode cL_law 681 = .ok (.aload_n 1, 1) := by decide +kernel
theorem dL_law_682 : decode cL_law 682 = .ok (.invokevirtual 77, 3) := by decide +kernel
theorem dL_law_685 : decode cL_law 685 = .ok (.aload_n 2, 1) := by decide +kernel
theorem dL_law_686 : decode cL_law 686 = .ok (.invokevirtual 80, 3) := by decide +kernel
theorem dL_law_689 : decode cL_law 689 = .ok (.if_icmp .eq 731, 3) := by decide +kernel
theorem dL_law_692 : decode cL_law 692 = .ok (.iconst 0, 1) := by decide +kernel
theorem dL_law_693 : decode cL_law 693 = .ok (.ireturn, 1) := by decide +kernel
theorem dL_law_694 : decode cL_law 694 = .ok (.aload_n 1, 1) := by decide +kernel
theorem dL_law_695 : decode cL_law 695 = .ok (.aload_n 0, 1) := by decide +kernel
theorem dL_law_696 : decode cL_law 696 = .ok (.iload_n 3, 1) := by decide +kernel
theorem dL_law_697 : decode cL_law 697 = .ok (.iconst 1, 1) := by decide +kernel
theorem dL_law_698 : decode cL_law 698 = .ok (.iadd, 1) := by decide +kernel
theorem dL_law_699 : decode cL_law 699 = .ok (.iaload, 1) := by decide +kernel
theorem dL_law_700 : decode cL_law 700 = .ok (.aload_n 0, 1) := by decide +kernel
theorem dL_law_701 : decode cL_law 701 = .ok (.iload_n 3, 1) := by decide +kernel
theorem dL_law_702 : decode cL_law 702 = .ok (.iconst 2, 1) := by decide +kernel
theorem dL_law_703 : decode cL_law 703 = .ok (.iadd, 1) := by decide +kernel
theorem dL_law_704 : decode cL_law 704 = .ok (.iaload, 1) := by decide +kernel
theorem dL_law_705 : decode cL_law 705 = .ok (.aload_n 0, 1) := by decide +kernel
theorem dL_law_706 : decode cL_law 706 = .ok (.iload_n 3, 1) := by decide +kernel
theorem dL_law_707 : decode cL_law 707 = .ok (.iconst 3, 1) := by decide +kernel
theorem dL_law_708 : decode cL_law 708 = .ok (.iadd, 1) := by decide +kernel
theorem dL_law_709 : decode cL_law 709 = .ok (.iaload, 1) := by decide +kernel
theorem dL_law_710 : decode cL_law 710 = .ok (.invokevirtual 81, 3) := by decide +kernel
theorem dL_law_713 : decode cL_law 713 = .ok (.aload_n 2, 1) := by decide +kernel
theorem dL_law_714 : decode cL_law 714 = .ok (.aload_n 0, 1) := by decide +kernel
theorem dL_law_715 : decode cL_law 715 = .ok (.iload_n 3, 1) := by decide +kernel
theorem dL_law_716 : decode cL_law 716 = .ok (.iconst 1, 1) := by decide +kernel
theorem dL_law_717 : decode cL_law 717 = .ok (.iadd, 1) := by decide +kernel
theorem dL_law_718 : decode cL_law 718 = .ok (.iaload, 1) := by decide +kernel
theorem dL_law_719 : decode cL_law 719 = .ok (.aload_n 0, 1) := by decide +kernel
theorem dL_law_720 : decode cL_law 720 = .ok (.iload_n 3, 1) := by decide +kernel
theorem dL_law_721 : decode cL_law 721 = .ok (.iconst 2, 1) := by decide +kernel
theorem dL_law_722 : decode cL_law 722 = .ok (.iadd, 1) := by decide +kernel
theorem dL_law_723 : decode cL_law 723 = .ok (.iaload, 1) := by decide +kernel
theorem dL_law_724 : decode cL_law 724 = .ok (.aload_n 0, 1) := by decide +kernel
theorem dL_law_725 : decode cL_law 725 = .ok (.iload_n 3, 1) := by decide +kernel
theorem dL_law_726 : decode cL_law 726 = .ok (.iconst 3, 1) := by decide +kernel
theorem dL_law_727 : decode cL_law 727 = .ok (.iadd, 1) := by decide +kernel
theorem dL_law_728 : decode cL_law 728 = .ok (.iaload, 1) := by decide +kernel
theorem dL_law_729 : decode cL_law 729 = .ok (.invokevirtual 84, 3) := by decide +kernel
theorem dL_law_732 : decode cL_law 732 = .ok (.if_icmp .eq 688, 3) := by decide +kernel
theorem dL_law_735 : decode cL_law 735 = .ok (.iconst 0, 1) := by decide +kernel
theorem dL_law_736 : decode cL_law 736 = .ok (.ireturn, 1) := by decide +kernel
theorem dL_law_737 : decode cL_law 737 = .ok (.aload_n 1, 1) := by decide +kernel
theorem dL_law_738 : decode cL_law 738 = .ok (.invokevirtual 85, 3) := by decide +kernel
theorem dL_law_741 : decode cL_law 741 = .ok (.aload_n 2, 1) := by decide +kernel
theorem dL_law_742 : decode cL_law 742 = .ok (.invokevirtual 88, 3) := by decide +kernel
theorem dL_law_745 : decode cL_law 745 = .ok (.if_icmp .eq 675, 3) := by decide +kernel
theorem dL_law_748 : decode cL_law 748 = .ok (.iconst 0, 1) := by decide +kernel
theorem dL_law_749 : decode cL_law 749 = .ok (.ireturn, 1) := by decide +kernel
theorem dL_law_750 : decode cL_law 750 = .ok (.aload_n 1, 1) := by decide +kernel
theorem dL_law_751 : decode cL_law 751 = .ok (.aload_n 0, 1) := by decide +kernel
theorem dL_law_752 : decode cL_law 752 = .ok (.iload_n 3, 1) := by decide +kernel
theorem dL_law_753 : decode cL_law 753 = .ok (.iconst 1, 1) := by decide +kernel
theorem dL_law_754 : decode cL_law 754 = .ok (.iadd, 1) := by decide +kernel
theorem dL_law_755 : decode cL_law 755 = .ok (.iaload, 1) := by decide +kernel
theorem dL_law_756 : decode cL_law 756 = .ok (.invokevirtual 89, 3) := by decide +kernel
theorem dL_law_759 : decode cL_law 759 = .ok (.aload_n 2, 1) := by decide +kernel
theorem dL_law_760 : decode cL_law 760 = .ok (.aload_n 0, 1) := by decide +kernel
theorem dL_law_761 : decode cL_law 761 = .ok (.iload_n 3, 1) := by decide +kernel
theorem dL_law_762 : decode cL_law 762 = .ok (.iconst 1, 1) := by decide +kernel
theorem dL_law_763 : decode cL_law 763 = .ok (.iadd, 1) := by decide +kernel
theorem dL_law_764 : decode cL_law 764 = .ok (.iaload, 1) := by decide +kernel
theorem dL_law_765 : decode cL_law 765 = .ok (.invokevirtual 92, 3) := by decide +kernel
theorem dL_law_768 : decode cL_law 768 = .ok (.if_icmp .eq 652, 3) := by decide +kernel
theorem dL_law_771 : decode cL_law 771 = .ok (.iconst 0, 1) := by decide +kernel
theorem dL_law_772 : decode cL_law 772 = .ok (.ireturn, 1) := by decide +kernel
theorem dL_law_773 : decode cL_law 773 = .ok (.aload_n 1, 1) := by decide +kernel
theorem dL_law_774 : decode cL_law 774 = .ok (.aload_n 0, 1) := by decide +kernel
theorem dL_law_775 : decode cL_law 775 = .ok (.iload_n 3, 1) := by decide +kernel
theorem dL_law_776 : decode cL_law 776 = .ok (.iconst 1, 1) := by decide +kernel
theorem dL_law_777 : decode cL_law 777 = .ok (.iadd, 1) := by decide +kernel
theorem dL_law_778 : decode cL_law 778 = .ok (.iaload, 1) := by decide +kernel
theorem dL_law_779 : decode cL_law 779 = .ok (.aload_n 0, 1) := by decide +kernel
theorem dL_law_780 : decode cL_law 780 = .ok (.iload_n 3, 1) := by decide +kernel
theorem dL_law_781 : decode cL_law 781 = .ok (.iconst 2, 1) := by decide +kernel
theorem dL_law_782 : decode cL_law 782 = .ok (.iadd, 1) := by decide +kernel
theorem dL_law_783 : decode cL_law 783 = .ok (.iaload, 1) := by decide +kernel
theorem dL_law_784 : decode cL_law 784 = .ok (.aload_n 0, 1) := by decide +kernel
theorem dL_law_785 : decode cL_law 785 = .ok (.iload_n 3, 1) := by decide +kernel
theorem dL_law_786 : decode cL_law 786 = .ok (.iconst 3, 1) := by decide +kernel
theorem dL_law_787 : decode cL_law 787 = .ok (.iadd, 1) := by decide +kernel
theorem dL_law_788 : decode cL_law 788 = .ok (.iaload, 1) := by decide +kernel
theorem dL_law_789 : decode cL_law 789 = .ok (.aload_n 0, 1) := by decide +kernel
theorem dL_law_790 : decode cL_law 790 = .ok (.iload_n 3, 1) := by decide +kernel
theorem dL_law_791 : decode cL_law 791 = .ok (.iconst 4, 1) := by decide +kernel
theorem dL_law_792 : decode cL_law 792 = .ok (.iadd, 1) := by decide +kernel
theorem dL_law_793 : decode cL_law 793 = .ok (.iaload, 1) := by decide +kernel
theorem dL_law_794 : decode cL_law 794 = .ok (.invokevirtual 93, 3) := by decide +kernel
theorem dL_law_797 : decode cL_law 797 = .ok (.aload_n 2, 1) := by decide +kernel
theorem dL_law_798 : decode cL_law 798 = .ok (.aload_n 0, 1) := by decide +kernel
theorem dL_law_799 : decode cL_law 799 = .ok (.iload_n 3, 1) := by decide +kernel
theorem dL_law_800 : decode cL_law 800 = .ok (.iconst 1, 1) := by decide +kernel
theorem dL_law_801 : decode cL_law 801 = .ok (.iadd, 1) := by decide +kernel
theorem dL_law_802 : decode cL_law 802 = .ok (.iaload, 1) := by decide +kernel
theorem dL_law_803 : decode cL_law 803 = .ok (.aload_n 0, 1) := by decide +kernel
theorem dL_law_804 : decode cL_law 804 = .ok (.iload_n 3, 1) := by decide +kernel
theorem dL_law_805 : decode cL_law 805 = .ok (.iconst 2, 1) := by decide +kernel
theorem dL_law_806 : decode cL_law 806 = .ok (.iadd, 1) := by decide +kernel
theorem dL_law_807 : decode cL_law 807 = .ok (.iaload, 1) := by decide +kernel
theorem dL_law_808 : decode cL_law 808 = .ok (.aload_n 0, 1) := by decide +kernel
theorem dL_law_809 : decode cL_law 809 = .ok (.iload_n 3, 1) := by decide +kernel
theorem dL_law_810 : decode cL_law 810 = .ok (.iconst 3, 1) := by decide +kernel
theorem dL_law_811 : decode cL_law 811 = .ok (.iadd, 1) := by decide +kernel
theorem dL_law_812 : decode cL_law 812 = .ok (.iaload, 1) := by decide +kernel
theorem dL_law_813 : decode cL_law 813 = .ok (.aload_n 0, 1) := by decide +kernel
theorem dL_law_814 : decode cL_law 814 = .ok (.iload_n 3, 1) := by decide +kernel
theorem dL_law_815 : decode cL_law 815 = .ok (.iconst 4, 1) := by decide +kernel
theorem dL_law_816 : decode cL_law 816 = .ok (.iadd, 1) := by decide +kernel
theorem dL_law_817 : decode cL_law 817 = .ok (.iaload, 1) := by decide +kernel
theorem dL_law_818 : decode cL_law 818 = .ok (.invokevirtual 97, 3) := by decide +kernel
theorem dL_law_821 : decode cL_law 821 = .ok (.if_icmp .eq 599, 3) := by decide +kernel
theorem dL_law_824 : decode cL_law 824 = .ok (.iconst 0, 1) := by decide +kernel
theorem dL_law_825 : decode cL_law 825 = .ok (.ireturn, 1) := by decide +kernel
theorem dL_law_826 : decode cL_law 826 = .ok (.aload_n 1, 1) := by decide +kernel
theorem dL_law_827 : decode cL_law 827 = .ok (.aload_n 0, 1) := by decide +kernel
theorem dL_law_828 : decode cL_law 828 = .ok (.iload_n 3, 1) := by decide +kernel
theorem dL_law_829 : decode cL_law 829 = .ok (.iconst 1, 1) := by decide +kernel
theorem dL_law_830 : decode cL_law 830 = .ok (.iadd, 1) := by decide +kernel
theorem dL_law_831 : decode cL_law 831 = .ok (.iaload, 1) := by decide +kernel
theorem dL_law_832 : decode cL_law 832 = .ok (.aload_n 0, 1) := by decide +kernel
theorem dL_law_833 : decode cL_law 833 = .ok (.iload_n 3, 1) := by decide +kernel
theorem dL_law_834 : decode cL_law 834 = .ok (.iconst 2, 1) := by decide +kernel
theorem dL_law_835 : decode cL_law 835 = .ok (.iadd, 1) := by decide +kernel
theorem dL_law_836 : decode cL_law 836 = .ok (.iaload, 1) := by decide +kernel
theorem dL_law_837 : decode cL_law 837 = .ok (.aload_n 0, 1) := by decide +kernel
theorem dL_law_838 : decode cL_law 838 = .ok (.iload_n 3, 1) := by decide +kernel
theorem dL_law_839 : decode cL_law 839 = .ok (.iconst 3, 1) := by decide +kernel
theorem dL_law_840 : decode cL_law 840 = .ok (.iadd, 1) := by decide +kernel
theorem dL_law_841 : decode cL_law 841 = .ok (.iaload, 1) := by decide +kernel
theorem dL_law_842 : decode cL_law 842 = .ok (.invokevirtual 98, 3) := by decide +kernel
theorem dL_law_845 : decode cL_law 845 = .ok (.aload_n 2, 1) := by decide +kernel
theorem dL_law_846 : decode cL_law 846 = .ok (.aload_n 0, 1) := by decide +kernel
theorem dL_law_847 : decode cL_law 847 = .ok (.iload_n 3, 1) := by decide +kernel
theorem dL_law_848 : decode cL_law 848 = .ok (.iconst 1, 1) := by decide +kernel
theorem dL_law_849 : decode cL_law 849 = .ok (.iadd, 1) := by decide +kernel
theorem dL_law_850 : decode cL_law 850 = .ok (.iaload, 1) := by decide +kernel
theorem dL_law_851 : decode cL_law 851 = .ok (.aload_n 0, 1) := by decide +kernel
theorem dL_law_852 : decode cL_law 852 = .ok (.iload_n 3, 1) := by decide +kernel
theorem dL_law_853 : decode cL_law 853 = .ok (.iconst 2, 1) := by decide +kernel
theorem dL_law_854 : decode cL_law 854 = .ok (.iadd, 1) := by decide +kernel
theorem dL_law_855 : decode cL_law 855 = .ok (.iaload, 1) := by decide +kernel
theorem dL_law_856 : decode cL_law 856 = .ok (.aload_n 0, 1) := by decide +kernel
theorem dL_law_857 : decode cL_law 857 = .ok (.iload_n 3, 1) := by decide +kernel
theorem dL_law_858 : decode cL_law 858 = .ok (.iconst 3, 1) := by decide +kernel
theorem dL_law_859 : decode cL_law 859 = .ok (.iadd, 1) := by decide +kernel
theorem dL_law_860 : decode cL_law 860 = .ok (.iaload, 1) := by decide +kernel
theorem dL_law_861 : decode cL_law 861 = .ok (.invokevirtual 101, 3) := by decide +kernel
theorem dL_law_864 : decode cL_law 864 = .ok (.if_icmp .eq 556, 3) := by decide +kernel
theorem dL_law_867 : decode cL_law 867 = .ok (.iconst 0, 1) := by decide +kernel
theorem dL_law_868 : decode cL_law 868 = .ok (.ireturn, 1) := by decide +kernel
theorem dL_law_869 : decode cL_law 869 = .ok (.aload_n 1, 1) := by decide +kernel
theorem dL_law_870 : decode cL_law 870 = .ok (.aload_n 0, 1) := by decide +kernel
theorem dL_law_871 : decode cL_law 871 = .ok (.iload_n 3, 1) := by decide +kernel
theorem dL_law_872 : decode cL_law 872 = .ok (.iconst 1, 1) := by decide +kernel
theorem dL_law_873 : decode cL_law 873 = .ok (.iadd, 1) := by decide +kernel
theorem dL_law_874 : decode cL_law 874 = .ok (.iaload, 1) := by decide +kernel
theorem dL_law_875 : decode cL_law 875 = .ok (.aload_n 0, 1) := by decide +kernel
theorem dL_law_876 : decode cL_law 876 = .ok (.iload_n 3, 1) := by decide +kernel
theorem dL_law_877 : decode cL_law 877 = .ok (.iconst 2, 1) := by decide +kernel
theorem dL_law_878 : decode cL_law 878 = .ok (.iadd, 1) := by decide +kernel
theorem dL_law_879 : decode cL_law 879 = .ok (.iaload, 1) := by decide +kernel
theorem dL_law_880 : decode cL_law 880 = .ok (.invokevirtual 102, 3) := by decide +kernel
theorem dL_law_883 : decode cL_law 883 = .ok (.aload_n 2, 1) := by decide +kernel
theorem dL_law_884 : decode cL_law 884 = .ok (.aload_n 0, 1) := by decide +kernel
theorem dL_law_885 : decode cL_law 885 = .ok (.iload_n 3, 1) := by decide +kernel
theorem dL_law_886 : decode cL_law 886 = .ok (.iconst 1, 1) := by decide +kernel
theorem dL_law_887 : decode cL_law 887 = .ok (.iadd, 1) := by decide +kernel
theorem dL_law_888 : decode cL_law 888 = .ok (.iaload, 1) := by decide +kernel
theorem dL_law_889 : decode cL_law 889 = .ok (.aload_n 0, 1) := by decide +kernel
theorem dL_law_890 : decode cL_law 890 = .ok (.iload_n 3, 1) := by decide +kernel
theorem dL_law_891 : decode cL_law 891 = .ok (.iconst 2, 1) := by decide +kernel
theorem dL_law_892 : decode cL_law 892 = .ok (.iadd, 1) := by decide +kernel
theorem dL_law_893 : decode cL_law 893 = .ok (.iaload, 1) := by decide +kernel
theorem dL_law_894 : decode cL_law 894 = .ok (.invokevirtual 105, 3) := by decide +kernel
theorem dL_law_897 : decode cL_law 897 = .ok (.if_icmp .eq 523, 3) := by decide +kernel
theorem dL_law_900 : decode cL_law 900 = .ok (.iconst 0, 1) := by decide +kernel
theorem dL_law_901 : decode cL_law 901 = .ok (.ireturn, 1) := by decide +kernel
theorem dL_law_902 : decode cL_law 902 = .ok (.aload_n 1, 1) := by decide +kernel
theorem dL_law_903 : decode cL_law 903 = .ok (.aload_n 0, 1) := by decide +kernel
theorem dL_law_904 : decode cL_law 904 = .ok (.iload_n 3, 1) := by decide +kernel
theorem dL_law_905 : decode cL_law 905 = .ok (.iconst 1, 1) := by decide +kernel
theorem dL_law_906 : decode cL_law 906 = .ok (.iadd, 1) := by decide +kernel
theorem dL_law_907 : decode cL_law 907 = .ok (.iaload, 1) := by decide +kernel
theorem dL_law_908 : decode cL_law 908 = .ok (.aload_n 0, 1) := by decide +kernel
theorem dL_law_909 : decode cL_law 909 = .ok (.iload_n 3, 1) := by decide +kernel
theorem dL_law_910 : decode cL_law 910 = .ok (.iconst 2, 1) := by decide +kernel
theorem dL_law_911 : decode cL_law 911 = .ok (.iadd, 1) := by decide +kernel
theorem dL_law_912 : decode cL_law 912 = .ok (.iaload, 1) := by decide +kernel
theorem dL_law_913 : decode cL_law 913 = .ok (.invokevirtual 106, 3) := by decide +kernel
theorem dL_law_916 : decode cL_law 916 = .ok (.aload_n 2, 1) := by decide +kernel
theorem dL_law_917 : decode cL_law 917 = .ok (.aload_n 0, 1) := by decide +kernel
theorem dL_law_918 : decode cL_law 918 = .ok (.iload_n 3, 1) := by decide +kernel
theorem dL_law_919 : decode cL_law 919 = .ok (.iconst 1, 1) := by decide +kernel
theorem dL_law_920 : decode cL_law 920 = .ok (.iadd, 1) := by decide +kernel
theorem dL_law_921 : decode cL_law 921 = .ok (.iaload, 1) := by decide +kernel
theorem dL_law_922 : decode cL_law 922 = .ok (.aload_n 0, 1) := by decide +kernel
theorem dL_law_923 : decode cL_law 923 = .ok (.iload_n 3, 1) := by decide +kernel
theorem dL_law_924 : decode cL_law 924 = .ok (.iconst 2, 1) := by decide +kernel
theorem dL_law_925 : decode cL_law 925 = .ok (.iadd, 1) := by decide +kernel
theorem dL_law_926 : decode cL_law 926 = .ok (.iaload, 1) := by decide +kernel
theorem dL_law_927 : decode cL_law 927 = .ok (.invokevirtual 110, 3) := by decide +kernel
theorem dL_law_930 : decode cL_law 930 = .ok (.lcmp, 1) := by decide +kernel
theorem dL_law_931 : decode cL_law 931 = .ok (.ifCond .eq 489, 3) := by decide +kernel
theorem dL_law_934 : decode cL_law 934 = .ok (.iconst 0, 1) := by decide +kernel
theorem dL_law_935 : decode cL_law 935 = .ok (.ireturn, 1) := by decide +kernel
theorem dL_law_936 : decode cL_law 936 = .ok (.aload_n 1, 1) := by decide +kernel
theorem dL_law_937 : decode cL_law 937 = .ok (.aload_n 0, 1) := by decide +kernel
theorem dL_law_938 : decode cL_law 938 = .ok (.iload_n 3, 1) := by decide +kernel
theorem dL_law_939 : decode cL_law 939 = .ok (.iconst 1, 1) := by decide +kernel
theorem dL_law_940 : decode cL_law 940 = .ok (.iadd, 1) := by decide +kernel
theorem dL_law_941 : decode cL_law 941 = .ok (.iaload, 1) := by decide +kernel
theorem dL_law_942 : decode cL_law 942 = .ok (.aload_n 0, 1) := by decide +kernel
theorem dL_law_943 : decode cL_law 943 = .ok (.iload_n 3, 1) := by decide +kernel
theorem dL_law_944 : decode cL_law 944 = .ok (.iconst 2, 1) := by decide +kernel
theorem dL_law_945 : decode cL_law 945 = .ok (.iadd, 1) := by decide +kernel
theorem dL_law_946 : decode cL_law 946 = .ok (.iaload, 1) := by decide +kernel
theorem dL_law_947 : decode cL_law 947 = .ok (.invokevirtual 111, 3) := by decide +kernel
theorem dL_law_950 : decode cL_law 950 = .ok (.aload_n 2, 1) := by decide +kernel
theorem dL_law_951 : decode cL_law 951 = .ok (.aload_n 0, 1) := by decide +kernel
theorem dL_law_952 : decode cL_law 952 = .ok (.iload_n 3, 1) := by decide +kernel
theorem dL_law_953 : decode cL_law 953 = .ok (.iconst 1, 1) := by decide +kernel
theorem dL_law_954 : decode cL_law 954 = .ok (.iadd, 1) := by decide +kernel
theorem dL_law_955 : decode cL_law 955 = .ok (.iaload, 1) := by decide +kernel
theorem dL_law_956 : decode cL_law 956 = .ok (.aload_n 0, 1) := by decide +kernel
theorem dL_law_957 : decode cL_law 957 = .ok (.iload_n 3, 1) := by decide +kernel
theorem dL_law_958 : decode cL_law 958 = .ok (.iconst 2, 1) := by decide +kernel
theorem dL_law_959 : decode cL_law 959 = .ok (.iadd, 1) := by decide +kernel
theorem dL_law_960 : decode cL_law 960 = .ok (.iaload, 1) := by decide +kernel
theorem dL_law_961 : decode cL_law 961 = .ok (.invokevirtual 114, 3) := by decide +kernel
theorem dL_law_964 : decode cL_law 964 = .ok (.lcmp, 1) := by decide +kernel
theorem dL_law_965 : decode cL_law 965 = .ok (.ifCond .eq 455, 3) := by decide +kernel
theorem dL_law_968 : decode cL_law 968 = .ok (.iconst 0, 1) := by decide +kernel
theorem dL_law_969 : decode cL_law 969 = .ok (.ireturn, 1) := by decide +kernel
theorem dL_law_970 : decode cL_law 970 = .ok (.aload_n 1, 1) := by decide +kernel
theorem dL_law_971 : decode cL_law 971 = .ok (.aload_n 0, 1) := by decide +kernel
theorem dL_law_972 : decode cL_law 972 = .ok (.iload_n 3, 1) := by decide +kernel
theorem dL_law_973 : decode cL_law 973 = .ok (.iconst 1, 1) := by decide +kernel
theorem dL_law_974 : decode cL_law 974 = .ok (.iadd, 1) := by decide +kernel
theorem dL_law_975 : decode cL_law 975 = .ok (.iaload, 1) := by decide +kernel
theorem dL_law_976 : decode cL_law 976 = .ok (.aload_n 0, 1) := by decide +kernel
theorem dL_law_977 : decode cL_law 977 = .ok (.iload_n 3, 1) := by decide +kernel
theorem dL_law_978 : decode cL_law 978 = .ok (.iconst 2, 1) := by decide +kernel
theorem dL_law_979 : decode cL_law 979 = .ok (.iadd, 1) := by decide +kernel
theorem dL_law_980 : decode cL_law 980 = .ok (.iaload, 1) := by decide +kernel
theorem dL_law_981 : decode cL_law 981 = .ok (.invokevirtual 115, 3) := by decide +kernel
theorem dL_law_984 : decode cL_law 984 = .ok (.aload_n 2, 1) := by decide +kernel
theorem dL_law_985 : decode cL_law 985 = .ok (.aload_n 0, 1) := by decide +kernel
theorem dL_law_986 : decode cL_law 986 = .ok (.iload_n 3, 1) := by decide +kernel
theorem dL_law_987 : decode cL_law 987 = .ok (.iconst 1, 1) := by decide +kernel
theorem dL_law_988 : decode cL_law 988 = .ok (.iadd, 1) := by decide +kernel
theorem dL_law_989 : decode cL_law 989 = .ok (.iaload, 1) := by decide +kernel
theorem dL_law_990 : decode cL_law 990 = .ok (.aload_n 0, 1) := by decide +kernel
theorem dL_law_991 : decode cL_law 991 = .ok (.iload_n 3, 1) := by decide +kernel
theorem dL_law_992 : decode cL_law 992 = .ok (.iconst 2, 1) := by decide +kernel
theorem dL_law_993 : decode cL_law 993 = .ok (.iadd, 1) := by decide +kernel
theorem dL_law_994 : decode cL_law 994 = .ok (.iaload, 1) := by decide +kernel
theorem dL_law_995 : decode cL_law 995 = .ok (.invokevirtual 118, 3) := by decide +kernel
theorem dL_law_998 : decode cL_law 998 = .ok (.if_icmp .eq 422, 3) := by decide +kernel
theorem dL_law_1001 : decode cL_law 1001 = .ok (.iconst 0, 1) := by decide +kernel
theorem dL_law_1002 : decode cL_law 1002 = .ok (.ireturn, 1) := by decide +kernel
theorem dL_law_1003 : decode cL_law 1003 = .ok (.aload_n 1, 1) := by decide +kernel
theorem dL_law_1004 : decode cL_law 1004 = .ok (.aload_n 0, 1) := by decide +kernel
theorem dL_law_1005 : decode cL_law 1005 = .ok (.iload_n 3, 1) := by decide +kernel
theorem dL_law_1006 : decode cL_law 1006 = .ok (.iconst 1, 1) := by decide +kernel
theorem dL_law_1007 : decode cL_law 1007 = .ok (.iadd, 1) := by decide +kernel
theorem dL_law_1008 : decode cL_law 1008 = .ok (.iaload, 1) := by decide +kernel
theorem dL_law_1009 : decode cL_law 1009 = .ok (.invokevirtual 119, 3) := by decide +kernel
theorem dL_law_1012 : decode cL_law 1012 = .ok (.aload_n 2, 1) := by decide +kernel
theorem dL_law_1013 : decode cL_law 1013 = .ok (.aload_n 0, 1) := by decide +kernel
theorem dL_law_1014 : decode cL_law 1014 = .ok (.iload_n 3, 1) := by decide +kernel
theorem dL_law_1015 : decode cL_law 1015 = .ok (.iconst 1, 1) := by decide +kernel
theorem dL_law_1016 : decode cL_law 1016 = .ok (.iadd, 1) := by decide +kernel
theorem dL_law_1017 : decode cL_law 1017 = .ok (.iaload, 1) := by decide +kernel
theorem dL_law_1018 : decode cL_law 1018 = .ok (.invokevirtual 122, 3) := by decide +kernel
theorem dL_law_1021 : decode cL_law 1021 = .ok (.if_icmp .eq 399, 3) := by decide +kernel
theorem dL_law_1024 : decode cL_law 1024 = .ok (.iconst 0, 1) := by decide +kernel
theorem dL_law_1025 : decode cL_law 1025 = .ok (.ireturn, 1) := by decide +kernel
theorem dL_law_1026 : decode cL_law 1026 = .ok (.aload_n 1, 1) := by decide +kernel
theorem dL_law_1027 : decode cL_law 1027 = .ok (.aload_n 0, 1) := by decide +kernel
theorem dL_law_1028 : decode cL_law 1028 = .ok (.iload_n 3, 1) := by decide +kernel
theorem dL_law_1029 : decode cL_law 1029 = .ok (.iconst 1, 1) := by decide +kernel
theorem dL_law_1030 : decode cL_law 1030 = .ok (.iadd, 1) := by decide +kernel
theorem dL_law_1031 : decode cL_law 1031 = .ok (.iaload, 1) := by decide +kernel
theorem dL_law_1032 : decode cL_law 1032 = .ok (.aload_n 0, 1) := by decide +kernel
theorem dL_law_1033 : decode cL_law 1033 = .ok (.iload_n 3, 1) := by decide +kernel
theorem dL_law_1034 : decode cL_law 1034 = .ok (.iconst 2, 1) := by decide +kernel
theorem dL_law_1035 : decode cL_law 1035 = .ok (.iadd, 1) := by decide +kernel
theorem dL_law_1036 : decode cL_law 1036 = .ok (.iaload, 1) := by decide +kernel
theorem dL_law_1037 : decode cL_law 1037 = .ok (.invokevirtual 123, 3) := by decide +kernel
theorem dL_law_1040 : decode cL_law 1040 = .ok (.aload_n 2, 1) := by decide +kernel
theorem dL_law_1041 : decode cL_law 1041 = .ok (.aload_n 0, 1) := by decide +kernel
theorem dL_law_1042 : decode cL_law 1042 = .ok (.iload_n 3, 1) := by decide +kernel
theorem dL_law_1043 : decode cL_law 1043 = .ok (.iconst 1, 1) := by decide +kernel
theorem dL_law_1044 : decode cL_law 1044 = .ok (.iadd, 1) := by decide +kernel
theorem dL_law_1045 : decode cL_law 1045 = .ok (.iaload, 1) := by decide +kernel
theorem dL_law_1046 : decode cL_law 1046 = .ok (.aload_n 0, 1) := by decide +kernel
theorem dL_law_1047 : decode cL_law 1047 = .ok (.iload_n 3, 1) := by decide +kernel
theorem dL_law_1048 : decode cL_law 1048 = .ok (.iconst 2, 1) := by decide +kernel
theorem dL_law_1049 : decode cL_law 1049 = .ok (.iadd, 1) := by decide +kernel
theorem dL_law_1050 : decode cL_law 1050 = .ok (.iaload, 1) := by decide +kernel
theorem dL_law_1051 : decode cL_law 1051 = .ok (.invokevirtual 126, 3) := by decide +kernel
theorem dL_law_1054 : decode cL_law 1054 = .ok (.if_icmp .eq 366, 3) := by decide +kernel
theorem dL_law_1057 : decode cL_law 1057 = .ok (.iconst 0, 1) := by decide +kernel
theorem dL_law_1058 : decode cL_law 1058 = .ok (.ireturn, 1) := by decide +kernel
theorem dL_law_1059 : decode cL_law 1059 = .ok (.aload_n 1, 1) := by decide +kernel
theorem dL_law_1060 : decode cL_law 1060 = .ok (.invokevirtual 127, 3) := by decide +kernel
theorem dL_law_1063 : decode cL_law 1063 = .ok (.aload_n 2, 1) := by decide +kernel
theorem dL_law_1064 : decode cL_law 1064 = .ok (.invokevirtual 130, 3) := by decide +kernel
theorem dL_law_1067 : decode cL_law 1067 = .ok (.if_icmp .eq 353, 3) := by decide +kernel
theorem dL_law_1070 : decode cL_law 1070 = .ok (.iconst 0, 1) := by decide +kernel
theorem dL_law_1071 : decode cL_law 1071 = .ok (.ireturn, 1) := by decide +kernel
theorem dL_law_1072 : decode cL_law 1072 = .ok (.aload_n 1, 1) := by decide +kernel
theorem dL_law_1073 : decode cL_law 1073 = .ok (.invokevirtual 131, 3) := by decide +kernel
theorem dL_law_1076 : decode cL_law 1076 = .ok (.aload_n 2, 1) := by decide +kernel
theorem dL_law_1077 : decode cL_law 1077 = .ok (.invokevirtual 134, 3) := by decide +kernel
theorem dL_law_1080 : decode cL_law 1080 = .ok (.if_icmp .eq 340, 3) := by decide +kernel
theorem dL_law_1083 : decode cL_law 1083 = .ok (.iconst 0, 1) := by decide +kernel
theorem dL_law_1084 : decode cL_law 1084 = .ok (.ireturn, 1) := by decide +kernel
theorem dL_law_1085 : decode cL_law 1085 = .ok (.aload_n 1, 1) := by decide +kernel
theorem dL_law_1086 : decode cL_law 1086 = .ok (.aload_n 0, 1) := by decide +kernel
theorem dL_law_1087 : decode cL_law 1087 = .ok (.iload_n 3, 1) := by decide +kernel
theorem dL_law_1088 : decode cL_law 1088 = .ok (.iconst 1, 1) := by decide +kernel
theorem dL_law_1089 : decode cL_law 1089 = .ok (.iadd, 1) := by decide +kernel
theorem dL_law_1090 : decode cL_law 1090 = .ok (.iaload, 1) := by decide +kernel
theorem dL_law_1091 : decode cL_law 1091 = .ok (.aload_n 0, 1) := by decide +kernel
theorem dL_law_1092 : decode cL_law 1092 = .ok (.iload_n 3, 1) := by decide +kernel
theorem dL_law_1093 : decode cL_law 1093 = .ok (.iconst 2, 1) := by decide +kernel
theorem dL_law_1094 : decode cL_law 1094 = .ok (.iadd, 1) := by decide +kernel
theorem dL_law_1095 : decode cL_law 1095 = .ok (.iaload, 1) := by decide +kernel
theorem dL_law_1096 : decode cL_law 1096 = .ok (.aload_n 0, 1) := by decide +kernel
theorem dL_law_1097 : decode cL_law 1097 = .ok (.iload_n 3, 1) := by decide +kernel
theorem dL_law_1098 : decode cL_law 1098 = .ok (.iconst 3, 1) := by decide +kernel
theorem dL_law_1099 : decode cL_law 1099 = .ok (.iadd, 1) := by decide +kernel
theorem dL_law_1100 : decode cL_law 1100 = .ok (.iaload, 1) := by decide +kernel
theorem dL_law_1101 : decode cL_law 1101 = .ok (.invokevirtual 135, 3) := by decide +kernel
theorem dL_law_1104 : decode cL_law 1104 = .ok (.aload_n 2, 1) := by decide +kernel
theorem dL_law_1105 : decode cL_law 1105 = .ok (.aload_n 0, 1) := by decide +kernel
theorem dL_law_1106 : decode cL_law 1106 = .ok (.iload_n 3, 1) := by decide +kernel
theorem dL_law_1107 : decode cL_law 1107 = .ok (.iconst 1, 1) := by decide +kernel
theorem dL_law_1108 : decode cL_law 1108 = .ok (.iadd, 1) := by decide +kernel
theorem dL_law_1109 : decode cL_law 1109 = .ok (.iaload, 1) := by decide +kernel
theorem dL_law_1110 : decode cL_law 1110 = .ok (.aload_n 0, 1) := by decide +kernel
theorem dL_law_1111 : decode cL_law 1111 = .ok (.iload_n 3, 1) := by decide +kernel
theorem dL_law_1112 : decode cL_law 1112 = .ok (.iconst 2, 1) := by decide +kernel
theorem dL_law_1113 : decode cL_law 1113 = .ok (.iadd, 1) := by decide +kernel
theorem dL_law_1114 : decode cL_law 1114 = .ok (.iaload, 1) := by decide +kernel
theorem dL_law_1115 : decode cL_law 1115 = .ok (.aload_n 0, 1) := by decide +kernel
theorem dL_law_1116 : decode cL_law 1116 = .ok (.iload_n 3, 1) := by decide +kernel
theorem dL_law_1117 : decode cL_law 1117 = .ok (.iconst 3, 1) := by decide +kernel
theorem dL_law_1118 : decode cL_law 1118 = .ok (.iadd, 1) := by decide +kernel
theorem dL_law_1119 : decode cL_law 1119 = .ok (.iaload, 1) := by decide +kernel
theorem dL_law_1120 : decode cL_law 1120 = .ok (.invokevirtual 138, 3) := by decide +kernel
theorem dL_law_1123 : decode cL_law 1123 = .ok (.if_icmp .eq 297, 3) := by decide +kernel
theorem dL_law_1126 : decode cL_law 1126 = .ok (.iconst 0, 1) := by decide +kernel
theorem dL_law_1127 : decode cL_law 1127 = .ok (.ireturn, 1) := by decide +kernel
theorem dL_law_1128 : decode cL_law 1128 = .ok (.aload_n 1, 1) := by decide +kernel
theorem dL_law_1129 : decode cL_law 1129 = .ok (.aload_n 0, 1) := by decide +kernel
theorem dL_law_1130 : decode cL_law 1130 = .ok (.iload_n 3, 1) := by decide +kernel
theorem dL_law_1131 : decode cL_law 1131 = .ok (.iconst 1, 1) := by decide +kernel
theorem dL_law_1132 : decode cL_law 1132 = .ok (.iadd, 1) := by decide +kernel
theorem dL_law_1133 : decode cL_law 1133 = .ok (.iaload, 1) := by decide +kernel
theorem dL_law_1134 : decode cL_law 1134 = .ok (.invokevirtual 139, 3) := by decide +kernel
theorem dL_law_1137 : decode cL_law 1137 = .ok (.aload_n 2, 1) := by decide +kernel
theorem dL_law_1138 : decode cL_law 1138 = .ok (.aload_n 0, 1) := by decide +kernel
theorem dL_law_1139 : decode cL_law 1139 = .ok (.iload_n 3, 1) := by decide +kernel
theorem dL_law_1140 : decode cL_law 1140 = .ok (.iconst 1, 1) := by decide +kernel
theorem dL_law_1141 : decode cL_law 1141 = .ok (.iadd, 1) := by decide +kernel
theorem dL_law_1142 : decode cL_law 1142 = .ok (.iaload, 1) := by decide +kernel
theorem dL_law_1143 : decode cL_law 1143 = .ok (.invokevirtual 142, 3) := by decide +kernel
theorem dL_law_1146 : decode cL_law 1146 = .ok (.if_icmp .eq 274, 3) := by decide +kernel
theorem dL_law_1149 : decode cL_law 1149 = .ok (.iconst 0, 1) := by decide +kernel
theorem dL_law_1150 : decode cL_law 1150 = .ok (.ireturn, 1) := by decide +kernel
theorem dL_law_1151 : decode cL_law 1151 = .ok (.aload_n 1, 1) := by decide +kernel
theorem dL_law_1152 : decode cL_law 1152 = .ok (.aload_n 0, 1) := by decide +kernel
theorem dL_law_1153 : decode cL_law 1153 = .ok (.iload_n 3, 1) := by decide +kernel
theorem dL_law_1154 : decode cL_law 1154 = .ok (.iconst 1, 1) := by decide +kernel
theorem dL_law_1155 : decode cL_law 1155 = .ok (.iadd, 1) := by decide +kernel
theorem dL_law_1156 : decode cL_law 1156 = .ok (.iaload, 1) := by decide +kernel
theorem dL_law_1157 : decode cL_law 1157 = .ok (.aload_n 0, 1) := by decide +kernel
theorem dL_law_1158 : decode cL_law 1158 = .ok (.iload_n 3, 1) := by decide +kernel
theorem dL_law_1159 : decode cL_law 1159 = .ok (.iconst 2, 1) := by decide +kernel
theorem dL_law_1160 : decode cL_law 1160 = .ok (.iadd, 1) := by decide +kernel
theorem dL_law_1161 : decode cL_law 1161 = .ok (.iaload, 1) := by decide +kernel
theorem dL_law_1162 : decode cL_law 1162 = .ok (.invokevirtual 143, 3) := by decide +kernel
theorem dL_law_1165 : decode cL_law 1165 = .ok (.aload_n 2, 1) := by decide +kernel
theorem dL_law_1166 : decode cL_law 1166 = .ok (.aload_n 0, 1) := by decide +kernel
theorem dL_law_1167 : decode cL_law 1167 = .ok (.iload_n 3, 1) := by decide +kernel
theorem dL_law_1168 : decode cL_law 1168 = .ok (.iconst 1, 1) := by decide +kernel
theorem dL_law_1169 : decode cL_law 1169 = .ok (.iadd, 1) := by decide +kernel
theorem dL_law_1170 : decode cL_law 1170 = .ok (.iaload, 1) := by decide +kernel
theorem dL_law_1171 : decode cL_law 1171 = .ok (.aload_n 0, 1) := by decide +kernel
theorem dL_law_1172 : decode cL_law 1172 = .ok (.iload_n 3, 1) := by decide +kernel
theorem dL_law_1173 : decode cL_law 1173 = .ok (.iconst 2, 1) := by decide +kernel
theorem dL_law_1174 : decode cL_law 1174 = .ok (.iadd, 1) := by decide +kernel
theorem dL_law_1175 : decode cL_law 1175 = .ok (.iaload, 1) := by decide +kernel
theorem dL_law_1176 : decode cL_law 1176 = .ok (.invokevirtual 146, 3) := by decide +kernel
theorem dL_law_1179 : decode cL_law 1179 = .ok (.if_icmp .eq 241, 3) := by decide +kernel
theorem dL_law_1182 : decode cL_law 1182 = .ok (.iconst 0, 1) := by decide +kernel
theorem dL_law_1183 : decode cL_law 1183 = .ok (.ireturn, 1) := by decide +kernel
theorem dL_law_1184 : decode cL_law 1184 = .ok (.aload_n 1, 1) := by decide +kernel
theorem dL_law_1185 : decode cL_law 1185 = .ok (.aload_n 0, 1) := by decide +kernel
theorem dL_law_1186 : decode cL_law 1186 = .ok (.iload_n 3, 1) := by decide +kernel
theorem dL_law_1187 : decode cL_law 1187 = .ok (.iconst 1, 1) := by decide +kernel
theorem dL_law_1188 : decode cL_law 1188 = .ok (.iadd, 1) := by decide +kernel
theorem dL_law_1189 : decode cL_law 1189 = .ok (.iaload, 1) := by decide +kernel
theorem dL_law_1190 : decode cL_law 1190 = .ok (.invokevirtual 147, 3) := by decide +kernel
theorem dL_law_1193 : decode cL_law 1193 = .ok (.aload_n 2, 1) := by decide +kernel
theorem dL_law_1194 : decode cL_law 1194 = .ok (.aload_n 0, 1) := by decide +kernel
theorem dL_law_1195 : decode cL_law 1195 = .ok (.iload_n 3, 1) := by decide +kernel
theorem dL_law_1196 : decode cL_law 1196 = .ok (.iconst 1, 1) := by decide +kernel
theorem dL_law_1197 : decode cL_law 1197 = .ok (.iadd, 1) := by decide +kernel
theorem dL_law_1198 : decode cL_law 1198 = .ok (.iaload, 1) := by decide +kernel
theorem dL_law_1199 : decode cL_law 1199 = .ok (.invokevirtual 150, 3) := by decide +kernel
theorem dL_law_1202 : decode cL_law 1202 = .ok (.if_icmp .eq 218, 3) := by decide +kernel
theorem dL_law_1205 : decode cL_law 1205 = .ok (.iconst 0, 1) := by decide +kernel
theorem dL_law_1206 : decode cL_law 1206 = .ok (.ireturn, 1) := by decide +kernel
theorem dL_law_1207 : decode cL_law 1207 = .ok (.aload_n 1, 1) := by decide +kernel
theorem dL_law_1208 : decode cL_law 1208 = .ok (.aload_n 0, 1) := by decide +kernel
theorem dL_law_1209 : decode cL_law 1209 = .ok (.iload_n 3, 1) := by decide +kernel
theorem dL_law_1210 : decode cL_law 1210 = .ok (.iconst 1, 1) := by decide +kernel
theorem dL_law_1211 : decode cL_law 1211 = .ok (.iadd, 1) := by decide +kernel
theorem dL_law_1212 : decode cL_law 1212 = .ok (.iaload, 1) := by decide +kernel
theorem dL_law_1213 : decode cL_law 1213 = .ok (.aload_n 0, 1) := by decide +kernel
theorem dL_law_1214 : decode cL_law 1214 = .ok (.iload_n 3, 1) := by decide +kernel
theorem dL_law_1215 : decode cL_law 1215 = .ok (.iconst 2, 1) := by decide +kernel
theorem dL_law_1216 : decode cL_law 1216 = .ok (.iadd, 1) := by decide +kernel
theorem dL_law_1217 : decode cL_law 1217 = .ok (.iaload, 1) := by decide +kernel
theorem dL_law_1218 : decode cL_law 1218 = .ok (.aload_n 0, 1) := by decide +kernel
theorem dL_law_1219 : decode cL_law 1219 = .ok (.iload_n 3, 1) := by decide +kernel
theorem dL_law_1220 : decode cL_law 1220 = .ok (.iconst 3, 1) := by decide +kernel
theorem dL_law_1221 : decode cL_law 1221 = .ok (.iadd, 1) := by decide +kernel
theorem dL_law_1222 : decode cL_law 1222 = .ok (.iaload, 1) := by decide +kernel
theorem dL_law_1223 : decode cL_law 1223 = .ok (.invokevirtual 151, 3) := by decide +kernel
theorem dL_law_1226 : decode cL_law 1226 = .ok (.aload_n 2, 1) := by decide +kernel
theorem dL_law_1227 : decode cL_law 1227 = .ok (.aload_n 0, 1) := by decide +kernel
theorem dL_law_1228 : decode cL_law 1228 = .ok (.iload_n 3, 1) := by decide +kernel
theorem dL_law_1229 : decode cL_law 1229 = .ok (.iconst 1, 1) := by decide +kernel
theorem dL_law_1230 : decode cL_law 1230 = .ok (.iadd, 1) := by decide +kernel
theorem dL_law_1231 : decode cL_law 1231 = .ok (.iaload, 1) := by decide +kernel
theorem dL_law_1232 : decode cL_law 1232 = .ok (.aload_n 0, 1) := by decide +kernel
theorem dL_law_1233 : decode cL_law 1233 = .ok (.iload_n 3, 1) := by decide +kernel
theorem dL_law_1234 : decode cL_law 1234 = .ok (.iconst 2, 1) := by decide +kernel
theorem dL_law_1235 : decode cL_law 1235 = .ok (.iadd, 1) := by decide +kernel
theorem dL_law_1236 : decode cL_law 1236 = .ok (.iaload, 1) := by decide +kernel
theorem dL_law_1237 : decode cL_law 1237 = .ok (.aload_n 0, 1) := by decide +kernel
theorem dL_law_1238 : decode cL_law 1238 = .ok (.iload_n 3, 1) := by decide +kernel
theorem dL_law_1239 : decode cL_law 1239 = .ok (.iconst 3, 1) := by decide +kernel
theorem dL_law_1240 : decode cL_law 1240 = .ok (.iadd, 1) := by decide +kernel
theorem dL_law_1241 : decode cL_law 1241 = .ok (.iaload, 1) := by decide +kernel
theorem dL_law_1242 : decode cL_law 1242 = .ok (.invokevirtual 154, 3) := by decide +kernel
theorem dL_law_1245 : decode cL_law 1245 = .ok (.if_icmp .eq 175, 3) := by decide +kernel
theorem dL_law_1248 : decode cL_law 1248 = .ok (.iconst 0, 1) := by decide +kernel
theorem dL_law_1249 : decode cL_law 1249 = .ok (.ireturn, 1) := by decide +kernel
theorem dL_law_1250 : decode cL_law 1250 = .ok (.aload_n 1, 1) := by decide +kernel
theorem dL_law_1251 : decode cL_law 1251 = .ok (.aload_n 0, 1) := by decide +kernel
theorem dL_law_1252 : decode cL_law 1252 = .ok (.iload_n 3, 1) := by decide +kernel
theorem dL_law_1253 : decode cL_law 1253 = .ok (.iconst 1, 1) := by decide +kernel
theorem dL_law_1254 : decode cL_law 1254 = .ok (.iadd, 1) := by decide +kernel
theorem dL_law_1255 : decode cL_law 1255 = .ok (.iaload, 1) := by decide +kernel
theorem dL_law_1256 : decode cL_law 1256 = .ok (.aload_n 0, 1) := by decide +kernel
theorem dL_law_1257 : decode cL_law 1257 = .ok (.iload_n 3, 1) := by decide +kernel
theorem dL_law_1258 : decode cL_law 1258 = .ok (.iconst 2, 1) := by decide +kernel
theorem dL_law_1259 : decode cL_law 1259 = .ok (.iadd, 1) := by decide +kernel
theorem dL_law_1260 : decode cL_law 1260 = .ok (.iaload, 1) := by decide +kernel
theorem dL_law_1261 : decode cL_law 1261 = .ok (.aload_n 0, 1) := by decide +kernel
theorem dL_law_1262 : decode cL_law 1262 = .ok (.iload_n 3, 1) := by decide +kernel
theorem dL_law_1263 : decode cL_law 1263 = .ok (.iconst 3, 1) := by decide +kernel
theorem dL_law_1264 : decode cL_law 1264 = .ok (.iadd, 1) := by decide +kernel
theorem dL_law_1265 : decode cL_law 1265 = .ok (.iaload, 1) := by decide +kernel
theorem dL_law_1266 : decode cL_law 1266 = .ok (.i2l, 1) := by decide +kernel
theorem dL_law_1267 : decode cL_law 1267 = .ok (.bipush 32, 2) := by decide +kernel
theorem dL_law_1269 : decode cL_law 1269 = .ok (.lshl, 1) := by decide +kernel
theorem dL_law_1270 : decode cL_law 1270 = .ok (.aload_n 0, 1) := by decide +kernel
theorem dL_law_1271 : decode cL_law 1271 = .ok (.iload_n 3, 1) := by decide +kernel
theorem dL_law_1272 : decode cL_law 1272 = .ok (.iconst 4, 1) := by decide +kernel
theorem dL_law_1273 : decode cL_law 1273 = .ok (.iadd, 1) := by decide +kernel
theorem dL_law_1274 : decode cL_law 1274 = .ok (.iaload, 1) := by decide +kernel
theorem dL_law_1275 : decode cL_law 1275 = .ok (.i2l, 1) := by decide +kernel
theorem dL_law_1276 : decode cL_law 1276 = .ok (.ldc2_w 155, 3) := by decide +kernel
theorem dL_law_1279 : decode cL_law 1279 = .ok (.land, 1) := by decide +kernel
theorem dL_law_1280 : decode cL_law 1280 = .ok (.lor, 1) := by decide +kernel
theorem dL_law_1281 : decode cL_law 1281 = .ok (.invokevirtual 157, 3) := by decide +kernel
theorem dL_law_1284 : decode cL_law 1284 = .ok (.aload_n 2, 1) := by decide +kernel
theorem dL_law_1285 : decode cL_law 1285 = .ok (.aload_n 0, 1) := by decide +kernel
theorem dL_law_1286 : decode cL_law 1286 = .ok (.iload_n 3, 1) := by decide +kernel
theorem dL_law_1287 : decode cL_law 1287 = .ok (.iconst 1, 1) := by decide +kernel
theorem dL_law_1288 : decode cL_law 1288 = .ok (.iadd, 1) := by decide +kernel
theorem dL_law_1289 : decode cL_law 1289 = .ok (.iaload, 1) := by decide +kernel
theorem dL_law_1290 : decode cL_law 1290 = .ok (.aload_n 0, 1) := by decide +kernel
theorem dL_law_1291 : decode cL_law 1291 = .ok (.iload_n 3, 1) := by decide +kernel
theorem dL_law_1292 : decode cL_law 1292 = .ok (.iconst 2, 1) := by decide +kernel
theorem dL_law_1293 : decode cL_law 1293 = .ok (.iadd, 1) := by decide +kernel
theorem dL_law_1294 : decode cL_law 1294 = .ok (.iaload, 1) := by decide +kernel
theorem dL_law_1295 : decode cL_law 1295 = .ok (.aload_n 0, 1) := by decide +kernel
theorem dL_law_1296 : decode cL_law 1296 = .ok (.iload_n 3, 1) := by decide +kernel
theorem dL_law_1297 : decode cL_law 1297 = .ok (.iconst 3, 1) := by decide +kernel
theorem dL_law_1298 : decode cL_law 1298 = .ok (.iadd, 1) := by decide +kernel
theorem dL_law_1299 : decode cL_law 1299 = .ok (.iaload, 1) := by decide +kernel
theorem dL_law_1300 : decode cL_law 1300 = .ok (.i2l, 1) := by decide +kernel
theorem dL_law_1301 : decode cL_law 1301 = .ok (.bipush 32, 2) := by decide +kernel
theorem dL_law_1303 : decode cL_law 1303 = .ok (.lshl, 1) := by decide +kernel
theorem dL_law_1304 : decode cL_law 1304 = .ok (.aload_n 0, 1) := by decide +kernel
theorem dL_law_1305 : decode cL_law 1305 = .ok (.iload_n 3, 1) := by decide +kernel
theorem dL_law_1306 : decode cL_law 1306 = .ok (.iconst 4, 1) := by decide +kernel
theorem dL_law_1307 : decode cL_law 1307 = .ok (.iadd, 1) := by decide +kernel
theorem dL_law_1308 : decode cL_law 1308 = .ok (.iaload, 1) := by decide +kernel
theorem dL_law_1309 : decode cL_law 1309 = .ok (.i2l, 1) := by decide +kernel
theorem dL_law_1310 : decode cL_law 1310 = .ok (.ldc2_w 155, 3) := by decide +kernel
theorem dL_law_1313 : decode cL_law 1313 = .ok (.land, 1) := by decide +kernel
theorem dL_law_1314 : decode cL_law 1314 = .ok (.lor, 1) := by decide +kernel
theorem dL_law_1315 : decode cL_law 1315 = .ok (.invokevirtual 161, 3) := by decide +kernel
theorem dL_law_1318 : decode cL_law 1318 = .ok (.if_icmp .eq 102, 3) := by decide +kernel
theorem dL_law_1321 : decode cL_law 1321 = .ok (.iconst 0, 1) := by decide +kernel
theorem dL_law_1322 : decode cL_law 1322 = .ok (.ireturn, 1) := by decide +kernel
theorem dL_law_1323 : decode cL_law 1323 = .ok (.aload_n 1, 1) := by decide +kernel
theorem dL_law_1324 : decode cL_law 1324 = .ok (.aload_n 0, 1) := by decide +kernel
theorem dL_law_1325 : decode cL_law 1325 = .ok (.iload_n 3, 1) := by decide +kernel
theorem dL_law_1326 : decode cL_law 1326 = .ok (.iconst 1, 1) := by decide +kernel
theorem dL_law_1327 : decode cL_law 1327 = .ok (.iadd, 1) := by decide +kernel
theorem dL_law_1328 : decode cL_law 1328 = .ok (.iaload, 1) := by decide +kernel
theorem dL_law_1329 : decode cL_law 1329 = .ok (.aload_n 0, 1) := by decide +kernel
theorem dL_law_1330 : decode cL_law 1330 = .ok (.iload_n 3, 1) := by decide +kernel
theorem dL_law_1331 : decode cL_law 1331 = .ok (.iconst 2, 1) := by decide +kernel
theorem dL_law_1332 : decode cL_law 1332 = .ok (.iadd, 1) := by decide +kernel
theorem dL_law_1333 : decode cL_law 1333 = .ok (.iaload, 1) := by decide +kernel
theorem dL_law_1334 : decode cL_law 1334 = .ok (.invokevirtual 162, 3) := by decide +kernel
theorem dL_law_1337 : decode cL_law 1337 = .ok (.aload_n 2, 1) := by decide +kernel
theorem dL_law_1338 : decode cL_law 1338 = .ok (.aload_n 0, 1) := by decide +kernel
theorem dL_law_1339 : decode cL_law 1339 = .ok (.iload_n 3, 1) := by decide +kernel
theorem dL_law_1340 : decode cL_law 1340 = .ok (.iconst 1, 1) := by decide +kernel
theorem dL_law_1341 : decode cL_law 1341 = .ok (.iadd, 1) := by decide +kernel
theorem dL_law_1342 : decode cL_law 1342 = .ok (.iaload, 1) := by decide +kernel
theorem dL_law_1343 : decode cL_law 1343 = .ok (.aload_n 0, 1) := by decide +kernel
theorem dL_law_1344 : decode cL_law 1344 = .ok (.iload_n 3, 1) := by decide +kernel
theorem dL_law_1345 : decode cL_law 1345 = .ok (.iconst 2, 1) := by decide +kernel
theorem dL_law_1346 : decode cL_law 1346 = .ok (.iadd, 1) := by decide +kernel
theorem dL_law_1347 : decode cL_law 1347 = .ok (.iaload, 1) := by decide +kernel
theorem dL_law_1348 : decode cL_law 1348 = .ok (.invokevirtual 165, 3) := by decide +kernel
theorem dL_law_1351 : decode cL_law 1351 = .ok (.lcmp, 1) := by decide +kernel
theorem dL_law_1352 : decode cL_law 1352 = .ok (.ifCond .eq 68, 3) := by decide +kernel
theorem dL_law_1355 : decode cL_law 1355 = .ok (.iconst 0, 1) := by decide +kernel
theorem dL_law_1356 : decode cL_law 1356 = .ok (.ireturn, 1) := by decide +kernel
theorem dL_law_1357 : decode cL_law 1357 = .ok (.aload_n 1, 1) := by decide +kernel
theorem dL_law_1358 : decode cL_law 1358 = .ok (.aload_n 0, 1) := by decide +kernel
theorem dL_law_1359 : decode cL_law 1359 = .ok (.iload_n 3, 1) := by decide +kernel
theorem dL_law_1360 : decode cL_law 1360 = .ok (.iconst 1, 1) := by decide +kernel
theorem dL_law_1361 : decode cL_law 1361 = .ok (.iadd, 1) := by decide +kernel
theorem dL_law_1362 : decode cL_law 1362 = .ok (.iaload, 1) := by decide +kernel
theorem dL_law_1363 : decode cL_law 1363 = .ok (.aload_n 0, 1) := by decide +kernel
theorem dL_law_1364 : decode cL_law 1364 = .ok (.iload_n 3, 1) := by decide +kernel
theorem dL_law_1365 : decode cL_law 1365 = .ok (.iconst 2, 1) := by decide +kernel
theorem dL_law_1366 : decode cL_law 1366 = .ok (.iadd, 1) := by decide +kernel
theorem dL_law_1367 : decode cL_law 1367 = .ok (.iaload, 1) := by decide +kernel
theorem dL_law_1368 : decode cL_law 1368 = .ok (.aload_n 0, 1) := by decide +kernel
theorem dL_law_1369 : decode cL_law 1369 = .ok (.iload_n 3, 1) := by decide +kernel
theorem dL_law_1370 : decode cL_law 1370 = .ok (.iconst 3, 1) := by decide +kernel
theorem dL_law_1371 : decode cL_law 1371 = .ok (.iadd, 1) := by decide +kernel
theorem dL_law_1372 : decode cL_law 1372 = .ok (.iaload, 1) := by decide +kernel
theorem dL_law_1373 : decode cL_law 1373 = .ok (.aload_n 0, 1) := by decide +kernel
theorem dL_law_1374 : decode cL_law 1374 = .ok (.iload_n 3, 1) := by decide +kernel
theorem dL_law_1375 : decode cL_law 1375 = .ok (.iconst 4, 1) := by decide +kernel
theorem dL_law_1376 : decode cL_law 1376 = .ok (.iadd, 1) := by decide +kernel
theorem dL_law_1377 : decode cL_law 1377 = .ok (.iaload, 1) := by decide +kernel
theorem dL_law_1378 : decode cL_law 1378 = .ok (.aload_n 0, 1) := by decide +kernel
theorem dL_law_1379 : decode cL_law 1379 = .ok (.iload_n 3, 1) := by decide +kernel
theorem dL_law_1380 : decode cL_law 1380 = .ok (.iconst 5, 1) := by decide +kernel
theorem dL_law_1381 : decode cL_law 1381 = .ok (.iadd, 1) := by decide +kernel
theorem dL_law_1382 : decode cL_law 1382 = .ok (.iaload, 1) := by decide +kernel
theorem dL_law_1383 : decode cL_law 1383 = .ok (.invokevirtual 166, 3) := by decide +kernel
theorem dL_law_1386 : decode cL_law 1386 = .ok (.aload_n 2, 1) := by decide +kernel
theorem dL_law_1387 : decode cL_law 1387 = .ok (.aload_n 0, 1) := by decide +kernel
theorem dL_law_1388 : decode cL_law 1388 = .ok (.iload_n 3, 1) := by decide +kernel
theorem dL_law_1389 : decode cL_law 1389 = .ok (.iconst 1, 1) := by decide +kernel
theorem dL_law_1390 : decode cL_law 1390 = .ok (.iadd, 1) := by decide +kernel
theorem dL_law_1391 : decode cL_law 1391 = .ok (.iaload, 1) := by decide +kernel
theorem dL_law_1392 : decode cL_law 1392 = .ok (.aload_n 0, 1) := by decide +kernel
theorem dL_law_1393 : decode cL_law 1393 = .ok (.iload_n 3, 1) := by decide +kernel
theorem dL_law_1394 : decode cL_law 1394 = .ok (.iconst 2, 1) := by decide +kernel
theorem dL_law_1395 : decode cL_law 1395 = .ok (.iadd, 1) := by decide +kernel
theorem dL_law_1396 : decode cL_law 1396 = .ok (.iaload, 1) := by decide +kernel
theorem dL_law_1397 : decode cL_law 1397 = .ok (.aload_n 0, 1) := by decide +kernel
theorem dL_law_1398 : decode cL_law 1398 = .ok (.iload_n 3, 1) := by decide +kernel
theorem dL_law_1399 : decode cL_law 1399 = .ok (.iconst 3, 1) := by decide +kernel
theorem dL_law_1400 : decode cL_law 1400 = .ok (.iadd, 1) := by decide +kernel
theorem dL_law_1401 : decode cL_law 1401 = .ok (.iaload, 1) := by decide +kernel
theorem dL_law_1402 : decode cL_law 1402 = .ok (.aload_n 0, 1) := by decide +kernel
theorem dL_law_1403 : decode cL_law 1403 = .ok (.iload_n 3, 1) := by decide +kernel
theorem dL_law_1404 : decode cL_law 1404 = .ok (.iconst 4, 1) := by decide +kernel
theorem dL_law_1405 : decode cL_law 1405 = .ok (.iadd, 1) := by decide +kernel
theorem dL_law_1406 : decode cL_law 1406 = .ok (.iaload, 1) := by decide +kernel
theorem dL_law_1407 : decode cL_law 1407 = .ok (.aload_n 0, 1) := by decide +kernel
theorem dL_law_1408 : decode cL_law 1408 = .ok (.iload_n 3, 1) := by decide +kernel
theorem dL_law_1409 : decode cL_law 1409 = .ok (.iconst 5, 1) := by decide +kernel
theorem dL_law_1410 : decode cL_law 1410 = .ok (.iadd, 1) := by decide +kernel
theorem dL_law_1411 : decode cL_law 1411 = .ok (.iaload, 1) := by decide +kernel
theorem dL_law_1412 : decode cL_law 1412 = .ok (.invokevirtual 170, 3) := by decide +kernel
theorem dL_law_1415 : decode cL_law 1415 = .ok (.if_icmp .eq 5, 3) := by decide +kernel
theorem dL_law_1418 : decode cL_law 1418 = .ok (.iconst 0, 1) := by decide +kernel
theorem dL_law_1419 : decode cL_law 1419 = .ok (.ireturn, 1) := by decide +kernel
theorem dL_law_1420 : decode cL_law 1420 = .ok (.iinc 3 6, 3) := by decide +kernel
theorem dL_law_1423 : decode cL_law 1423 = .ok (.goto (-1405), 3) := by decide +kernel
theorem dL_law_1426 : decode cL_law 1426 = .ok (.iconst 1, 1) := by decide +kernel
theorem dL_law_1427 : decode cL_law 1427 = .ok (.ireturn, 1) := by decide +kernel
