theorem dX0_init_0 : decode cX0_init 0 = .ok (.aload_n 0, 1) := by decide +kernel
theorem dX0_init_1 : decode cX0_init 1 = .ok (.invokespecial 3, 3) := by decide +kernel
theorem dX0_init_4 : decode cX0_init 4 = .ok (.aload_n 0, 1) := by decide +kernel
theorem dX0_init_5 : decode cX0_init 5 = .ok (.bipush 16, 2) := by decide +kernel
theorem dX0_init_7 : decode cX0_init 7 = .ok (.newarray .int, 2) := by decide +kernel
theorem dX0_init_9 : decode cX0_init 9 = .ok (.putfield 9, 3) := by decide +kernel
theorem dX0_init_12 : decode cX0_init 12 = .ok (.aload_n 0, 1) := by decide +kernel
theorem dX0_init_13 : decode cX0_init 13 = .ok (.aload_n 1, 1) := by decide +kernel
theorem dX0_init_14 : decode cX0_init 14 = .ok (.putfield 15, 3) := by decide +kernel
theorem dX0_init_17 : decode cX0_init 17 = .ok (.return_, 1) := by decide +kernel
theorem dX0_start_0 : decode cX0_start 0 = .ok (.aload_n 0, 1) := by decide +kernel
theorem dX0_start_1 : decode cX0_start 1 = .ok (.iconst 0, 1) := by decide +kernel
theorem dX0_start_2 : decode cX0_start 2 = .ok (.putfield 19, 3) := by decide +kernel
theorem dX0_start_5 : decode cX0_start 5 = .ok (.aload_n 0, 1) := by decide +kernel
theorem dX0_start_6 : decode cX0_start 6 = .ok (.iload_n 1, 1) := by decide +kernel
theorem dX0_start_7 : decode cX0_start 7 = .ok (.iload_n 2, 1) := by decide +kernel
theorem dX0_start_8 : decode cX0_start 8 = .ok (.iconst 0, 1) := by decide +kernel
theorem dX0_start_9 : decode cX0_start 9 = .ok (.invokevirtual 23, 3) := by decide +kernel
theorem dX0_start_12 : decode cX0_start 12 = .ok (.ireturn, 1) := by decide +kernel
theorem dX0_answer_0 : decode cX0_answer 0 = .ok (.aload_n 0, 1) := by decide +kernel
theorem dX0_answer_1 : decode cX0_answer 1 = .ok (.getfield 15, 3) := by decide +kernel
theorem dX0_answer_4 : decode cX0_answer 4 = .ok (.getfield 27, 3) := by decide +kernel
theorem dX0_answer_7 : decode cX0_answer 7 = .ok (.iload_n 2, 1) := by decide +kernel
theorem dX0_answer_8 : decode cX0_answer 8 = .ok (.iaload, 1) := by decide +kernel
theorem dX0_answer_9 : decode cX0_answer 9 = .ok (.istore 4, 2) := by decide +kernel
theorem dX0_answer_11 : decode cX0_answer 11 = .ok (.aload_n 0, 1) := by decide +kernel
theorem dX0_answer_12 : decode cX0_answer 12 = .ok (.iload_n 1, 1) := by decide +kernel
theorem dX0_answer_13 : decode cX0_answer 13 = .ok (.ifCond .ne 12, 3) := by decide +kernel
theorem dX0_answer_16 : decode cX0_answer 16 = .ok (.getstatic 32, 3) := by decide +kernel
theorem dX0_answer_19 : decode cX0_answer 19 = .ok (.iload 4, 2) := by decide +kernel
theorem dX0_answer_21 : decode cX0_answer 21 = .ok (.iaload, 1) := by decide +kernel
theorem dX0_answer_22 : decode cX0_answer 22 = .ok (.goto 9, 3) := by decide +kernel
theorem dX0_answer_25 : decode cX0_answer 25 = .ok (.getstatic 35, 3) := by decide +kernel
theorem dX0_answer_28 : decode cX0_answer 28 = .ok (.iload 4, 2) := by decide +kernel
theorem dX0_answer_30 : decode cX0_answer 30 = .ok (.iaload, 1) := by decide +kernel
theorem dX0_answer_31 : decode cX0_answer 31 = .ok (.iload_n 2, 1) := by decide +kernel
theorem dX0_answer_32 : decode cX0_answer 32 = .ok (.iload_n 3, 1) := by decide +kernel
theorem dX0_answer_33 : decode cX0_answer 33 = .ok (.iconst 1, 1) := by decide +kernel
theorem dX0_answer_34 : decode cX0_answer 34 = .ok (.iadd, 1) := by decide +kernel
theorem dX0_answer_35 : decode cX0_answer 35 = .ok (.invokevirtual 38, 3) := by decide +kernel
theorem dX0_answer_38 : decode cX0_answer 38 = .ok (.ireturn, 1) := by decide +kernel
theorem dX0_body_0 : decode cX0_body 0 = .ok (.iload_n 3, 1) := by decide +kernel
theorem dX0_body_1 : decode cX0_body 1 = .ok (.bipush 20, 2) := by decide +kernel
theorem dX0_body_3 : decode cX0_body 3 = .ok (.if_icmp .le 5, 3) := by decide +kernel
theorem dX0_body_6 : decode cX0_body 6 = .ok (.iconst 0, 1) := by decide +kernel
theorem dX0_body_7 : decode cX0_body 7 = .ok (.ireturn, 1) := by decide +kernel
theorem dX0_body_8 : decode cX0_body 8 = .ok (.aload_n 0, 1) := by decide +kernel
theorem dX0_body_9 : decode cX0_body 9 = .ok (.iload_n 1, 1) := by decide +kernel
theorem dX0_body_10 : decode cX0_body 10 = .ok (.invokevirtual 41, 3) := by decide +kernel
theorem dX0_body_13 : decode cX0_body 13 = .ok (.iload_n 1, 1) := by decide +kernel
theorem dX0_body_14 : decode cX0_body 14 = .ok (.tableswitch 216 10 24 #[74, 84, 105, 117, 131, 216, 216, 216, 216, 216, 144, 146, 167, 182, 203], 74) := by decide +kernel
theorem dX0_body_88 : decode cX0_body 88 = .ok (.aload_n 0, 1) := by decide +kernel
theorem dX0_body_89 : decode cX0_body 89 = .ok (.getfield 15, 3) := by decide +kernel
theorem dX0_body_92 : decode cX0_body 92 = .ok (.getfield 45, 3) := by decide +kernel
theorem dX0_body_95 : decode cX0_body 95 = .ok (.iload_n 2, 1) := by decide +kernel
theorem dX0_body_96 : decode cX0_body 96 = .ok (.iaload, 1) := by decide +kernel
theorem dX0_body_97 : decode cX0_body 97 = .ok (.ireturn, 1) := by decide +kernel
theorem dX0_body_98 : decode cX0_body 98 = .ok (.aload_n 0, 1) := by decide +kernel
theorem dX0_body_99 : decode cX0_body 99 = .ok (.bipush 10, 2) := by decide +kernel
theorem dX0_body_101 : decode cX0_body 101 = .ok (.iload_n 2, 1) := by decide +kernel
theorem dX0_body_102 : decode cX0_body 102 = .ok (.iload_n 3, 1) := by decide +kernel
theorem dX0_body_103 : decode cX0_body 103 = .ok (.iconst 1, 1) := by decide +kernel
theorem dX0_body_104 : decode cX0_body 104 = .ok (.iadd, 1) := by decide +kernel
theorem dX0_body_105 : decode cX0_body 105 = .ok (.invokevirtual 38, 3) := by decide +kernel
theorem dX0_body_108 : decode cX0_body 108 = .ok (.aload_n 0, 1) := by decide +kernel
theorem dX0_body_109 : decode cX0_body 109 = .ok (.iconst 1, 1) := by decide +kernel
theorem dX0_body_110 : decode cX0_body 110 = .ok (.iload_n 2, 1) := by decide +kernel
theorem dX0_body_111 : decode cX0_body 111 = .ok (.iload_n 3, 1) := by decide +kernel
theorem dX0_body_112 : decode cX0_body 112 = .ok (.iconst 1, 1) := by decide +kernel
theorem dX0_body_113 : decode cX0_body 113 = .ok (.iadd, 1) := by decide +kernel
theorem dX0_body_114 : decode cX0_body 114 = .ok (.invokevirtual 23, 3) := by decide +kernel
theorem dX0_body_117 : decode cX0_body 117 = .ok (.iadd, 1) := by decide +kernel
theorem dX0_body_118 : decode cX0_body 118 = .ok (.ireturn, 1) := by decide +kernel
theorem dX0_body_119 : decode cX0_body 119 = .ok (.aload_n 0, 1) := by decide +kernel
theorem dX0_body_120 : decode cX0_body 120 = .ok (.bipush 11, 2) := by decide +kernel
theorem dX0_body_122 : decode cX0_body 122 = .ok (.iload_n 2, 1) := by decide +kernel
theorem dX0_body_123 : decode cX0_body 123 = .ok (.iload_n 3, 1) := by decide +kernel
theorem dX0_body_124 : decode cX0_body 124 = .ok (.iconst 1, 1) := by decide +kernel
theorem dX0_body_125 : decode cX0_body 125 = .ok (.iadd, 1) := by decide +kernel
theorem dX0_body_126 : decode cX0_body 126 = .ok (.invokevirtual 38, 3) := by decide +kernel
theorem dX0_body_129 : decode cX0_body 129 = .ok (.ineg, 1) := by decide +kernel
theorem dX0_body_130 : decode cX0_body 130 = .ok (.ireturn, 1) := by decide +kernel
theorem dX0_body_131 : decode cX0_body 131 = .ok (.aload_n 0, 1) := by decide +kernel
theorem dX0_body_132 : decode cX0_body 132 = .ok (.bipush 10, 2) := by decide +kernel
theorem dX0_body_134 : decode cX0_body 134 = .ok (.iload_n 2, 1) := by decide +kernel
theorem dX0_body_135 : decode cX0_body 135 = .ok (.iload_n 3, 1) := by decide +kernel
theorem dX0_body_136 : decode cX0_body 136 = .ok (.iconst 1, 1) := by decide +kernel
theorem dX0_body_137 : decode cX0_body 137 = .ok (.iadd, 1) := by decide +kernel
theorem dX0_body_138 : decode cX0_body 138 = .ok (.invokevirtual 38, 3) := by decide +kernel
theorem dX0_body_141 : decode cX0_body 141 = .ok (.bipush 100, 2) := by decide +kernel
theorem dX0_body_143 : decode cX0_body 143 = .ok (.isub, 1) := by decide +kernel
theorem dX0_body_144 : decode cX0_body 144 = .ok (.ireturn, 1) := by decide +kernel
theorem dX0_body_145 : decode cX0_body 145 = .ok (.iconst 2, 1) := by decide +kernel
theorem dX0_body_146 : decode cX0_body 146 = .ok (.aload_n 0, 1) := by decide +kernel
theorem dX0_body_147 : decode cX0_body 147 = .ok (.bipush 13, 2) := by decide +kernel
theorem dX0_body_149 : decode cX0_body 149 = .ok (.iload_n 2, 1) := by decide +kernel
theorem dX0_body_150 : decode cX0_body 150 = .ok (.iload_n 3, 1) := by decide +kernel
theorem dX0_body_151 : decode cX0_body 151 = .ok (.iconst 1, 1) := by decide +kernel
theorem dX0_body_152 : decode cX0_body 152 = .ok (.iadd, 1) := by decide +kernel
theorem dX0_body_153 : decode cX0_body 153 = .ok (.invokevirtual 38, 3) := by decide +kernel
theorem dX0_body_156 : decode cX0_body 156 = .ok (.imul, 1) := by decide +kernel
theorem dX0_body_157 : decode cX0_body 157 = .ok (.ireturn, 1) := by decide +kernel
theorem dX0_body_158 : decode cX0_body 158 = .ok (.iload_n 2, 1) := by decide +kernel
theorem dX0_body_159 : decode cX0_body 159 = .ok (.ireturn, 1) := by decide +kernel
theorem dX0_body_160 : decode cX0_body 160 = .ok (.aload_n 0, 1) := by decide +kernel
theorem dX0_body_161 : decode cX0_body 161 = .ok (.bipush 20, 2) := by decide +kernel
theorem dX0_body_163 : decode cX0_body 163 = .ok (.iload_n 2, 1) := by decide +kernel
theorem dX0_body_164 : decode cX0_body 164 = .ok (.iload_n 3, 1) := by decide +kernel
theorem dX0_body_165 : decode cX0_body 165 = .ok (.iconst 1, 1) := by decide +kernel
theorem dX0_body_166 : decode cX0_body 166 = .ok (.iadd, 1) := by decide +kernel
theorem dX0_body_167 : decode cX0_body 167 = .ok (.invokevirtual 38, 3) := by decide +kernel
theorem dX0_body_170 : decode cX0_body 170 = .ok (.aload_n 0, 1) := by decide +kernel
theorem dX0_body_171 : decode cX0_body 171 = .ok (.getfield 15, 3) := by decide +kernel
theorem dX0_body_174 : decode cX0_body 174 = .ok (.getfield 48, 3) := by decide +kernel
theorem dX0_body_177 : decode cX0_body 177 = .ok (.iload_n 2, 1) := by decide +kernel
theorem dX0_body_178 : decode cX0_body 178 = .ok (.iaload, 1) := by decide +kernel
theorem dX0_body_179 : decode cX0_body 179 = .ok (.iadd, 1) := by decide +kernel
theorem dX0_body_180 : decode cX0_body 180 = .ok (.ireturn, 1) := by decide +kernel
theorem dX0_body_181 : decode cX0_body 181 = .ok (.aload_n 0, 1) := by decide +kernel
theorem dX0_body_182 : decode cX0_body 182 = .ok (.bipush 21, 2) := by decide +kernel
theorem dX0_body_184 : decode cX0_body 184 = .ok (.iload_n 2, 1) := by decide +kernel
theorem dX0_body_185 : decode cX0_body 185 = .ok (.iload_n 3, 1) := by decide +kernel
theorem dX0_body_186 : decode cX0_body 186 = .ok (.iconst 1, 1) := by decide +kernel
theorem dX0_body_187 : decode cX0_body 187 = .ok (.iadd, 1) := by decide +kernel
theorem dX0_body_188 : decode cX0_body 188 = .ok (.invokevirtual 38, 3) := by decide +kernel
theorem dX0_body_191 : decode cX0_body 191 = .ok (.sipush 1000, 3) := by decide +kernel
theorem dX0_body_194 : decode cX0_body 194 = .ok (.isub, 1) := by decide +kernel
theorem dX0_body_195 : decode cX0_body 195 = .ok (.ireturn, 1) := by decide +kernel
theorem dX0_body_196 : decode cX0_body 196 = .ok (.aload_n 0, 1) := by decide +kernel
theorem dX0_body_197 : decode cX0_body 197 = .ok (.bipush 20, 2) := by decide +kernel
theorem dX0_body_199 : decode cX0_body 199 = .ok (.iload_n 2, 1) := by decide +kernel
theorem dX0_body_200 : decode cX0_body 200 = .ok (.iload_n 3, 1) := by decide +kernel
theorem dX0_body_201 : decode cX0_body 201 = .ok (.iconst 1, 1) := by decide +kernel
theorem dX0_body_202 : decode cX0_body 202 = .ok (.iadd, 1) := by decide +kernel
theorem dX0_body_203 : decode cX0_body 203 = .ok (.invokevirtual 38, 3) := by decide +kernel
theorem dX0_body_206 : decode cX0_body 206 = .ok (.aload_n 0, 1) := by decide +kernel
theorem dX0_body_207 : decode cX0_body 207 = .ok (.iconst 0, 1) := by decide +kernel
theorem dX0_body_208 : decode cX0_body 208 = .ok (.iload_n 2, 1) := by decide +kernel
theorem dX0_body_209 : decode cX0_body 209 = .ok (.iload_n 3, 1) := by decide +kernel
theorem dX0_body_210 : decode cX0_body 210 = .ok (.iconst 1, 1) := by decide +kernel
theorem dX0_body_211 : decode cX0_body 211 = .ok (.iadd, 1) := by decide +kernel
theorem dX0_body_212 : decode cX0_body 212 = .ok (.invokevirtual 23, 3) := by decide +kernel
theorem dX0_body_215 : decode cX0_body 215 = .ok (.isub, 1) := by decide +kernel
theorem dX0_body_216 : decode cX0_body 216 = .ok (.ireturn, 1) := by decide +kernel
theorem dX0_body_217 : decode cX0_body 217 = .ok (.iconst 2, 1) := by decide +kernel
theorem dX0_body_218 : decode cX0_body 218 = .ok (.aload_n 0, 1) := by decide +kernel
theorem dX0_body_219 : decode cX0_body 219 = .ok (.bipush 21, 2) := by decide +kernel
theorem dX0_body_221 : decode cX0_body 221 = .ok (.iload_n 2, 1) := by decide +kernel
theorem dX0_body_222 : decode cX0_body 222 = .ok (.iload_n 3, 1) := by decide +kernel
theorem dX0_body_223 : decode cX0_body 223 = .ok (.iconst 1, 1) := by decide +kernel
theorem dX0_body_224 : decode cX0_body 224 = .ok (.iadd, 1) := by decide +kernel
theorem dX0_body_225 : decode cX0_body 225 = .ok (.invokevirtual 38, 3) := by decide +kernel
theorem dX0_body_228 : decode cX0_body 228 = .ok (.imul, 1) := by decide +kernel
theorem dX0_body_229 : decode cX0_body 229 = .ok (.ireturn, 1) := by decide +kernel
theorem dX0_body_230 : decode cX0_body 230 = .ok (.iconst 0, 1) := by decide +kernel
theorem dX0_body_231 : decode cX0_body 231 = .ok (.ireturn, 1) := by decide +kernel
theorem dX0_leave_0 : decode cX0_leave 0 = .ok (.aload_n 0, 1) := by decide +kernel
theorem dX0_leave_1 : decode cX0_leave 1 = .ok (.getfield 19, 3) := by decide +kernel
theorem dX0_leave_4 : decode cX0_leave 4 = .ok (.bipush 16, 2) := by decide +kernel
theorem dX0_leave_6 : decode cX0_leave 6 = .ok (.if_icmp .ge 23, 3) := by decide +kernel
theorem dX0_leave_9 : decode cX0_leave 9 = .ok (.aload_n 0, 1) := by decide +kernel
theorem dX0_leave_10 : decode cX0_leave 10 = .ok (.getfield 9, 3) := by decide +kernel
theorem dX0_leave_13 : decode cX0_leave 13 = .ok (.aload_n 0, 1) := by decide +kernel
theorem dX0_leave_14 : decode cX0_leave 14 = .ok (.getfield 19, 3) := by decide +kernel
theorem dX0_leave_17 : decode cX0_leave 17 = .ok (.iload_n 1, 1) := by decide +kernel
theorem dX0_leave_18 : decode cX0_leave 18 = .ok (.iastore, 1) := by decide +kernel
theorem dX0_leave_19 : decode cX0_leave 19 = .ok (.aload_n 0, 1) := by decide +kernel
theorem dX0_leave_20 : decode cX0_leave 20 = .ok (.dup, 1) := by decide +kernel
theorem dX0_leave_21 : decode cX0_leave 21 = .ok (.getfield 19, 3) := by decide +kernel
theorem dX0_leave_24 : decode cX0_leave 24 = .ok (.iconst 1, 1) := by decide +kernel
theorem dX0_leave_25 : decode cX0_leave 25 = .ok (.iadd, 1) := by decide +kernel
theorem dX0_leave_26 : decode cX0_leave 26 = .ok (.putfield 19, 3) := by decide +kernel
theorem dX0_leave_29 : decode cX0_leave 29 = .ok (.return_, 1) := by decide +kernel
theorem dX1_init_0 : decode cX1_init 0 = .ok (.aload_n 0, 1) := by decide +kernel
theorem dX1_init_1 : decode cX1_init 1 = .ok (.invokespecial 3, 3) := by decide +kernel
theorem dX1_init_4 : decode cX1_init 4 = .ok (.aload_n 0, 1) := by decide +kernel
theorem dX1_init_5 : decode cX1_init 5 = .ok (.bipush 24, 2) := by decide +kernel
theorem dX1_init_7 : decode cX1_init 7 = .ok (.anewarray 9, 3) := by decide +kernel
theorem dX1_init_10 : decode cX1_init 10 = .ok (.putfield 11, 3) := by decide +kernel
theorem dX1_init_13 : decode cX1_init 13 = .ok (.iconst 0, 1) := by decide +kernel
theorem dX1_init_14 : decode cX1_init 14 = .ok (.istore_n 1, 1) := by decide +kernel
theorem dX1_init_15 : decode cX1_init 15 = .ok (.iload_n 1, 1) := by decide +kernel
theorem dX1_init_16 : decode cX1_init 16 = .ok (.bipush 24, 2) := by decide +kernel
theorem dX1_init_18 : decode cX1_init 18 = .ok (.if_icmp .ge 22, 3) := by decide +kernel
theorem dX1_init_21 : decode cX1_init 21 = .ok (.aload_n 0, 1) := by decide +kernel
theorem dX1_init_22 : decode cX1_init 22 = .ok (.getfield 11, 3) := by decide +kernel
theorem dX1_init_25 : decode cX1_init 25 = .ok (.iload_n 1, 1) := by decide +kernel
theorem dX1_init_26 : decode cX1_init 26 = .ok (.new 9, 3) := by decide +kernel
theorem dX1_init_29 : decode cX1_init 29 = .ok (.dup, 1) := by decide +kernel
theorem dX1_init_30 : decode cX1_init 30 = .ok (.invokespecial 17, 3) := by decide +kernel
theorem dX1_init_33 : decode cX1_init 33 = .ok (.aastore, 1) := by decide +kernel
theorem dX1_init_34 : decode cX1_init 34 = .ok (.iinc 1 1, 3) := by decide +kernel
theorem dX1_init_37 : decode cX1_init 37 = .ok (.goto (-22), 3) := by decide +kernel
theorem dX1_init_40 : decode cX1_init 40 = .ok (.return_, 1) := by decide +kernel
theorem dX1_keep_0 : decode cX1_keep 0 = .ok (.aload_n 0, 1) := by decide +kernel
theorem dX1_keep_1 : decode cX1_keep 1 = .ok (.getfield 11, 3) := by decide +kernel
theorem dX1_keep_4 : decode cX1_keep 4 = .ok (.aload_n 0, 1) := by decide +kernel
theorem dX1_keep_5 : decode cX1_keep 5 = .ok (.getfield 18, 3) := by decide +kernel
theorem dX1_keep_8 : decode cX1_keep 8 = .ok (.aaload, 1) := by decide +kernel
theorem dX1_keep_9 : decode cX1_keep 9 = .ok (.aload_n 1, 1) := by decide +kernel
theorem dX1_keep_10 : decode cX1_keep 10 = .ok (.invokevirtual 22, 3) := by decide +kernel
theorem dX1_keep_13 : decode cX1_keep 13 = .ok (.aload_n 0, 1) := by decide +kernel
theorem dX1_keep_14 : decode cX1_keep 14 = .ok (.aload_n 0, 1) := by decide +kernel
theorem dX1_keep_15 : decode cX1_keep 15 = .ok (.getfield 18, 3) := by decide +kernel
theorem dX1_keep_18 : decode cX1_keep 18 = .ok (.iconst 1, 1) := by decide +kernel
theorem dX1_keep_19 : decode cX1_keep 19 = .ok (.iadd, 1) := by decide +kernel
theorem dX1_keep_20 : decode cX1_keep 20 = .ok (.bipush 24, 2) := by decide +kernel
theorem dX1_keep_22 : decode cX1_keep 22 = .ok (.if_icmp .ge 12, 3) := by decide +kernel
theorem dX1_keep_25 : decode cX1_keep 25 = .ok (.aload_n 0, 1) := by decide +kernel
theorem dX1_keep_26 : decode cX1_keep 26 = .ok (.getfield 18, 3) := by decide +kernel
theorem dX1_keep_29 : decode cX1_keep 29 = .ok (.iconst 1, 1) := by decide +kernel
theorem dX1_keep_30 : decode cX1_keep 30 = .ok (.iadd, 1) := by decide +kernel
theorem dX1_keep_31 : decode cX1_keep 31 = .ok (.goto 4, 3) := by decide +kernel
theorem dX1_keep_34 : decode cX1_keep 34 = .ok (.iconst 0, 1) := by decide +kernel
theorem dX1_keep_35 : decode cX1_keep 35 = .ok (.putfield 18, 3) := by decide +kernel
theorem dX1_keep_38 : decode cX1_keep 38 = .ok (.aload_n 0, 1) := by decide +kernel
theorem dX1_keep_39 : decode cX1_keep 39 = .ok (.bipush 24, 2) := by decide +kernel
theorem dX1_keep_41 : decode cX1_keep 41 = .ok (.aload_n 0, 1) := by decide +kernel
theorem dX1_keep_42 : decode cX1_keep 42 = .ok (.getfield 26, 3) := by decide +kernel
theorem dX1_keep_45 : decode cX1_keep 45 = .ok (.iconst 1, 1) := by decide +kernel
theorem dX1_keep_46 : decode cX1_keep 46 = .ok (.iadd, 1) := by decide +kernel
theorem dX1_keep_47 : decode cX1_keep 47 = .ok (.invokestatic 29, 3) := by decide +kernel
theorem dX1_keep_50 : decode cX1_keep 50 = .ok (.putfield 26, 3) := by decide +kernel
theorem dX1_keep_53 : decode cX1_keep 53 = .ok (.return_, 1) := by decide +kernel
theorem dX1_bringBack_0 : decode cX1_bringBack 0 = .ok (.aload_n 0, 1) := by decide +kernel
theorem dX1_bringBack_1 : decode cX1_bringBack 1 = .ok (.aload_n 0, 1) := by decide +kernel
theorem dX1_bringBack_2 : decode cX1_bringBack 2 = .ok (.getfield 18, 3) := by decide +kernel
theorem dX1_bringBack_5 : decode cX1_bringBack 5 = .ok (.ifCond .le 12, 3) := by decide +kernel
theorem dX1_bringBack_8 : decode cX1_bringBack 8 = .ok (.aload_n 0, 1) := by decide +kernel
theorem dX1_bringBack_9 : decode cX1_bringBack 9 = .ok (.getfield 18, 3) := by decide +kernel
theorem dX1_bringBack_12 : decode cX1_bringBack 12 = .ok (.iconst 1, 1) := by decide +kernel
theorem dX1_bringBack_13 : decode cX1_bringBack 13 = .ok (.isub, 1) := by decide +kernel
theorem dX1_bringBack_14 : decode cX1_bringBack 14 = .ok (.goto 5, 3) := by decide +kernel
theorem dX1_bringBack_17 : decode cX1_bringBack 17 = .ok (.bipush 23, 2) := by decide +kernel
theorem dX1_bringBack_19 : decode cX1_bringBack 19 = .ok (.putfield 18, 3) := by decide +kernel
theorem dX1_bringBack_22 : decode cX1_bringBack 22 = .ok (.aload_n 1, 1) := by decide +kernel
theorem dX1_bringBack_23 : decode cX1_bringBack 23 = .ok (.aload_n 0, 1) := by decide +kernel
theorem dX1_bringBack_24 : decode cX1_bringBack 24 = .ok (.getfield 11, 3) := by decide +kernel
theorem dX1_bringBack_27 : decode cX1_bringBack 27 = .ok (.aload_n 0, 1) := by decide +kernel
theorem dX1_bringBack_28 : decode cX1_bringBack 28 = .ok (.getfield 18, 3) := by decide +kernel
theorem dX1_bringBack_31 : decode cX1_bringBack 31 = .ok (.aaload, 1) := by decide +kernel
theorem dX1_bringBack_32 : decode cX1_bringBack 32 = .ok (.invokevirtual 22, 3) := by decide +kernel
theorem dX1_bringBack_35 : decode cX1_bringBack 35 = .ok (.aload_n 0, 1) := by decide +kernel
theorem dX1_bringBack_36 : decode cX1_bringBack 36 = .ok (.dup, 1) := by decide +kernel
theorem dX1_bringBack_37 : decode cX1_bringBack 37 = .ok (.getfield 26, 3) := by decide +kernel
theorem dX1_bringBack_40 : decode cX1_bringBack 40 = .ok (.iconst 1, 1) := by decide +kernel
theorem dX1_bringBack_41 : decode cX1_bringBack 41 = .ok (.isub, 1) := by decide +kernel
theorem dX1_bringBack_42 : decode cX1_bringBack 42 = .ok (.putfield 26, 3) := by decide +kernel
theorem dX1_bringBack_45 : decode cX1_bringBack 45 = .ok (.return_, 1) := by decide +kernel
theorem dX1_forget_0 : decode cX1_forget 0 = .ok (.aload_n 0, 1) := by decide +kernel
theorem dX1_forget_1 : decode cX1_forget 1 = .ok (.iconst 0, 1) := by decide +kernel
theorem dX1_forget_2 : decode cX1_forget 2 = .ok (.putfield 26, 3) := by decide +kernel
theorem dX1_forget_5 : decode cX1_forget 5 = .ok (.return_, 1) := by decide +kernel
theorem dX2_init_0 : decode cX2_init 0 = .ok (.aload_n 0, 1) := by decide +kernel
theorem dX2_init_1 : decode cX2_init 1 = .ok (.invokespecial 3, 3) := by decide +kernel
theorem dX2_init_4 : decode cX2_init 4 = .ok (.aload_n 0, 1) := by decide +kernel
theorem dX2_init_5 : decode cX2_init 5 = .ok (.bipush 40, 2) := by decide +kernel
theorem dX2_init_7 : decode cX2_init 7 = .ok (.newarray .int, 2) := by decide +kernel
theorem dX2_init_9 : decode cX2_init 9 = .ok (.putfield 9, 3) := by decide +kernel
theorem dX2_init_12 : decode cX2_init 12 = .ok (.return_, 1) := by decide +kernel
theorem dX2_startOver_0 : decode cX2_startOver 0 = .ok (.aload_n 0, 1) := by decide +kernel
theorem dX2_startOver_1 : decode cX2_startOver 1 = .ok (.iconst 1, 1) := by decide +kernel
theorem dX2_startOver_2 : decode cX2_startOver 2 = .ok (.putfield 15, 3) := by decide +kernel
theorem dX2_startOver_5 : decode cX2_startOver 5 = .ok (.aload_n 0, 1) := by decide +kernel
theorem dX2_startOver_6 : decode cX2_startOver 6 = .ok (.iload_n 1, 1) := by decide +kernel
theorem dX2_startOver_7 : decode cX2_startOver 7 = .ok (.putfield 19, 3) := by decide +kernel
theorem dX2_startOver_10 : decode cX2_startOver 10 = .ok (.aload_n 0, 1) := by decide +kernel
theorem dX2_startOver_11 : decode cX2_startOver 11 = .ok (.iload_n 2, 1) := by decide +kernel
theorem dX2_startOver_12 : decode cX2_startOver 12 = .ok (.putfield 23, 3) := by decide +kernel
theorem dX2_startOver_15 : decode cX2_startOver 15 = .ok (.aload_n 0, 1) := by decide +kernel
theorem dX2_startOver_16 : decode cX2_startOver 16 = .ok (.getfield 9, 3) := by decide +kernel
theorem dX2_startOver_19 : decode cX2_startOver 19 = .ok (.iconst 0, 1) := by decide +kernel
theorem dX2_startOver_20 : decode cX2_startOver 20 = .ok (.invokestatic 26, 3) := by decide +kernel
theorem dX2_startOver_23 : decode cX2_startOver 23 = .ok (.return_, 1) := by decide +kernel
theorem dX2_holds_0 : decode cX2_holds 0 = .ok (.iload_n 1, 1) := by decide +kernel
theorem dX2_holds_1 : decode cX2_holds 1 = .ok (.ifCond .lt 29, 3) := by decide +kernel
theorem dX2_holds_4 : decode cX2_holds 4 = .ok (.iload_n 2, 1) := by decide +kernel
theorem dX2_holds_5 : decode cX2_holds 5 = .ok (.ifCond .lt 25, 3) := by decide +kernel
theorem dX2_holds_8 : decode cX2_holds 8 = .ok (.iload_n 1, 1) := by decide +kernel
theorem dX2_holds_9 : decode cX2_holds 9 = .ok (.aload_n 0, 1) := by decide +kernel
theorem dX2_holds_10 : decode cX2_holds 10 = .ok (.getfield 23, 3) := by decide +kernel
theorem dX2_holds_13 : decode cX2_holds 13 = .ok (.if_icmp .gt 17, 3) := by decide +kernel
theorem dX2_holds_16 : decode cX2_holds 16 = .ok (.iload_n 2, 1) := by decide +kernel
theorem dX2_holds_17 : decode cX2_holds 17 = .ok (.aload_n 0, 1) := by decide +kernel
theorem dX2_holds_18 : decode cX2_holds 18 = .ok (.getfield 23, 3) := by decide +kernel
theorem dX2_holds_21 : decode cX2_holds 21 = .ok (.iload_n 1, 1) := by decide +kernel
theorem dX2_holds_22 : decode cX2_holds 22 = .ok (.isub, 1) := by decide +kernel
theorem dX2_holds_23 : decode cX2_holds 23 = .ok (.if_icmp .gt 7, 3) := by decide +kernel
theorem dX2_holds_26 : decode cX2_holds 26 = .ok (.iconst 1, 1) := by decide +kernel
theorem dX2_holds_27 : decode cX2_holds 27 = .ok (.goto 4, 3) := by decide +kernel
theorem dX2_holds_30 : decode cX2_holds 30 = .ok (.iconst 0, 1) := by decide +kernel
theorem dX2_holds_31 : decode cX2_holds 31 = .ok (.ireturn, 1) := by decide +kernel
theorem dX2_put_0 : decode cX2_put 0 = .ok (.aload_n 0, 1) := by decide +kernel
theorem dX2_put_1 : decode cX2_put 1 = .ok (.getfield 9, 3) := by decide +kernel
theorem dX2_put_4 : decode cX2_put 4 = .ok (.iload_n 1, 1) := by decide +kernel
theorem dX2_put_5 : decode cX2_put 5 = .ok (.aload_n 0, 1) := by decide +kernel
theorem dX2_put_6 : decode cX2_put 6 = .ok (.iload_n 2, 1) := by decide +kernel
theorem dX2_put_7 : decode cX2_put 7 = .ok (.invokevirtual 32, 3) := by decide +kernel
theorem dX2_put_10 : decode cX2_put 10 = .ok (.iastore, 1) := by decide +kernel
theorem dX2_put_11 : decode cX2_put 11 = .ok (.aload_n 0, 1) := by decide +kernel
theorem dX2_put_12 : decode cX2_put 12 = .ok (.getfield 9, 3) := by decide +kernel
theorem dX2_put_15 : decode cX2_put 15 = .ok (.iload_n 1, 1) := by decide +kernel
theorem dX2_put_16 : decode cX2_put 16 = .ok (.iaload, 1) := by decide +kernel
theorem dX2_put_17 : decode cX2_put 17 = .ok (.ireturn, 1) := by decide +kernel
theorem dX2_cut_0 : decode cX2_cut 0 = .ok (.aload_n 0, 1) := by decide +kernel
theorem dX2_cut_1 : decode cX2_cut 1 = .ok (.getfield 19, 3) := by decide +kernel
theorem dX2_cut_4 : decode cX2_cut 4 = .ok (.lookupswitch 34 #[(0, 28), (1, 31)], 28) := by decide +kernel
theorem dX2_cut_32 : decode cX2_cut 32 = .ok (.iload_n 1, 1) := by decide +kernel
theorem dX2_cut_33 : decode cX2_cut 33 = .ok (.i2b, 1) := by decide +kernel
theorem dX2_cut_34 : decode cX2_cut 34 = .ok (.ireturn, 1) := by decide +kernel
theorem dX2_cut_35 : decode cX2_cut 35 = .ok (.iload_n 1, 1) := by decide +kernel
theorem dX2_cut_36 : decode cX2_cut 36 = .ok (.i2s, 1) := by decide +kernel
theorem dX2_cut_37 : decode cX2_cut 37 = .ok (.ireturn, 1) := by decide +kernel
theorem dX2_cut_38 : decode cX2_cut 38 = .ok (.iload_n 1, 1) := by decide +kernel
theorem dX2_cut_39 : decode cX2_cut 39 = .ok (.ireturn, 1) := by decide +kernel
theorem dX3_init_0 : decode cX3_init 0 = .ok (.aload_n 0, 1) := by decide +kernel
theorem dX3_init_1 : decode cX3_init 1 = .ok (.invokespecial 3, 3) := by decide +kernel
theorem dX3_init_4 : decode cX3_init 4 = .ok (.aload_n 0, 1) := by decide +kernel
theorem dX3_init_5 : decode cX3_init 5 = .ok (.new 9, 3) := by decide +kernel
theorem dX3_init_8 : decode cX3_init 8 = .ok (.dup, 1) := by decide +kernel
theorem dX3_init_9 : decode cX3_init 9 = .ok (.invokespecial 11, 3) := by decide +kernel
theorem dX3_init_12 : decode cX3_init 12 = .ok (.putfield 12, 3) := by decide +kernel
theorem dX3_init_15 : decode cX3_init 15 = .ok (.aload_n 0, 1) := by decide +kernel
theorem dX3_init_16 : decode cX3_init 16 = .ok (.bipush 13, 2) := by decide +kernel
theorem dX3_init_18 : decode cX3_init 18 = .ok (.anewarray 9, 3) := by decide +kernel
theorem dX3_init_21 : decode cX3_init 21 = .ok (.putfield 18, 3) := by decide +kernel
theorem dX3_init_24 : decode cX3_init 24 = .ok (.aload_n 0, 1) := by decide +kernel
theorem dX3_init_25 : decode cX3_init 25 = .ok (.aload_n 1, 1) := by decide +kernel
theorem dX3_init_26 : decode cX3_init 26 = .ok (.putfield 22, 3) := by decide +kernel
theorem dX3_init_29 : decode cX3_init 29 = .ok (.iconst 0, 1) := by decide +kernel
theorem dX3_init_30 : decode cX3_init 30 = .ok (.istore_n 2, 1) := by decide +kernel
theorem dX3_init_31 : decode cX3_init 31 = .ok (.iload_n 2, 1) := by decide +kernel
theorem dX3_init_32 : decode cX3_init 32 = .ok (.bipush 12, 2) := by decide +kernel
theorem dX3_init_34 : decode cX3_init 34 = .ok (.if_icmp .gt 22, 3) := by decide +kernel
theorem dX3_init_37 : decode cX3_init 37 = .ok (.aload_n 0, 1) := by decide +kernel
theorem dX3_init_38 : decode cX3_init 38 = .ok (.getfield 18, 3) := by decide +kernel
theorem dX3_init_41 : decode cX3_init 41 = .ok (.iload_n 2, 1) := by decide +kernel
theorem dX3_init_42 : decode cX3_init 42 = .ok (.new 9, 3) := by decide +kernel
theorem dX3_init_45 : decode cX3_init 45 = .ok (.dup, 1) := by decide +kernel
theorem dX3_init_46 : decode cX3_init 46 = .ok (.invokespecial 11, 3) := by decide +kernel
theorem dX3_init_49 : decode cX3_init 49 = .ok (.aastore, 1) := by decide +kernel
theorem dX3_init_50 : decode cX3_init 50 = .ok (.iinc 2 1, 3) := by decide +kernel
theorem dX3_init_53 : decode cX3_init 53 = .ok (.goto (-22), 3) := by decide +kernel
theorem dX3_init_56 : decode cX3_init 56 = .ok (.return_, 1) := by decide +kernel
theorem dX3_tryAhead_0 : decode cX3_tryAhead 0 = .ok (.aload_n 0, 1) := by decide +kernel
theorem dX3_tryAhead_1 : decode cX3_tryAhead 1 = .ok (.getfield 12, 3) := by decide +kernel
theorem dX3_tryAhead_4 : decode cX3_tryAhead 4 = .ok (.aload_n 0, 1) := by decide +kernel
theorem dX3_tryAhead_5 : decode cX3_tryAhead 5 = .ok (.getfield 22, 3) := by decide +kernel
theorem dX3_tryAhead_8 : decode cX3_tryAhead 8 = .ok (.invokevirtual 25, 3) := by decide +kernel
theorem dX3_tryAhead_11 : decode cX3_tryAhead 11 = .ok (.aload_n 0, 1) := by decide +kernel
theorem dX3_tryAhead_12 : decode cX3_tryAhead 12 = .ok (.getfield 12, 3) := by decide +kernel
theorem dX3_tryAhead_15 : decode cX3_tryAhead 15 = .ok (.iload_n 1, 1) := by decide +kernel
theorem dX3_tryAhead_16 : decode cX3_tryAhead 16 = .ok (.invokevirtual 29, 3) := by decide +kernel
theorem dX3_tryAhead_19 : decode cX3_tryAhead 19 = .ok (.return_, 1) := by decide +kernel
theorem dX3_toothAhead_0 : decode cX3_toothAhead 0 = .ok (.aload_n 0, 1) := by decide +kernel
theorem dX3_toothAhead_1 : decode cX3_toothAhead 1 = .ok (.iload_n 2, 1) := by decide +kernel
theorem dX3_toothAhead_2 : decode cX3_toothAhead 2 = .ok (.invokevirtual 33, 3) := by decide +kernel
theorem dX3_toothAhead_5 : decode cX3_toothAhead 5 = .ok (.iload_n 3, 1) := by decide +kernel
theorem dX3_toothAhead_6 : decode cX3_toothAhead 6 = .ok (.lookupswitch 46 #[(0, 26), (1, 36)], 26) := by decide +kernel
theorem dX3_toothAhead_32 : decode cX3_toothAhead 32 = .ok (.aload_n 0, 1) := by decide +kernel
theorem dX3_toothAhead_33 : decode cX3_toothAhead 33 = .ok (.getfield 12, 3) := by decide +kernel
theorem dX3_toothAhead_36 : decode cX3_toothAhead 36 = .ok (.getfield 36, 3) := by decide +kernel
theorem dX3_toothAhead_39 : decode cX3_toothAhead 39 = .ok (.iload_n 1, 1) := by decide +kernel
theorem dX3_toothAhead_40 : decode cX3_toothAhead 40 = .ok (.iaload, 1) := by decide +kernel
theorem dX3_toothAhead_41 : decode cX3_toothAhead 41 = .ok (.ireturn, 1) := by decide +kernel
theorem dX3_toothAhead_42 : decode cX3_toothAhead 42 = .ok (.aload_n 0, 1) := by decide +kernel
theorem dX3_toothAhead_43 : decode cX3_toothAhead 43 = .ok (.getfield 12, 3) := by decide +kernel
theorem dX3_toothAhead_46 : decode cX3_toothAhead 46 = .ok (.getfield 40, 3) := by decide +kernel
theorem dX3_toothAhead_49 : decode cX3_toothAhead 49 = .ok (.iload_n 1, 1) := by decide +kernel
theorem dX3_toothAhead_50 : decode cX3_toothAhead 50 = .ok (.iaload, 1) := by decide +kernel
theorem dX3_toothAhead_51 : decode cX3_toothAhead 51 = .ok (.ireturn, 1) := by decide +kernel
theorem dX3_toothAhead_52 : decode cX3_toothAhead 52 = .ok (.aload_n 0, 1) := by decide +kernel
theorem dX3_toothAhead_53 : decode cX3_toothAhead 53 = .ok (.getfield 12, 3) := by decide +kernel
theorem dX3_toothAhead_56 : decode cX3_toothAhead 56 = .ok (.iload_n 1, 1) := by decide +kernel
theorem dX3_toothAhead_57 : decode cX3_toothAhead 57 = .ok (.invokevirtual 43, 3) := by decide +kernel
theorem dX3_toothAhead_60 : decode cX3_toothAhead 60 = .ok (.ifCond .eq 7, 3) := by decide +kernel
theorem dX3_toothAhead_63 : decode cX3_toothAhead 63 = .ok (.iconst 1, 1) := by decide +kernel
theorem dX3_toothAhead_64 : decode cX3_toothAhead 64 = .ok (.goto 4, 3) := by decide +kernel
theorem dX3_toothAhead_67 : decode cX3_toothAhead 67 = .ok (.iconst 0, 1) := by decide +kernel
theorem dX3_toothAhead_68 : decode cX3_toothAhead 68 = .ok (.ireturn, 1) := by decide +kernel
theorem dX3_boxAhead_0 : decode cX3_boxAhead 0 = .ok (.aload_n 0, 1) := by decide +kernel
theorem dX3_boxAhead_1 : decode cX3_boxAhead 1 = .ok (.iload_n 1, 1) := by decide +kernel
theorem dX3_boxAhead_2 : decode cX3_boxAhead 2 = .ok (.invokevirtual 33, 3) := by decide +kernel
theorem dX3_boxAhead_5 : decode cX3_boxAhead 5 = .ok (.iload_n 2, 1) := by decide +kernel
theorem dX3_boxAhead_6 : decode cX3_boxAhead 6 = .ok (.tableswitch 50 0 2 #[26, 34, 42], 26) := by decide +kernel
theorem dX3_boxAhead_32 : decode cX3_boxAhead 32 = .ok (.aload_n 0, 1) := by decide +kernel
theorem dX3_boxAhead_33 : decode cX3_boxAhead 33 = .ok (.getfield 12, 3) := by decide +kernel
theorem dX3_boxAhead_36 : decode cX3_boxAhead 36 = .ok (.invokevirtual 47, 3) := by decide +kernel
theorem dX3_boxAhead_39 : decode cX3_boxAhead 39 = .ok (.ireturn, 1) := by decide +kernel
theorem dX3_boxAhead_40 : decode cX3_boxAhead 40 = .ok (.aload_n 0, 1) := by decide +kernel
theorem dX3_boxAhead_41 : decode cX3_boxAhead 41 = .ok (.getfield 12, 3) := by decide +kernel
theorem dX3_boxAhead_44 : decode cX3_boxAhead 44 = .ok (.invokevirtual 51, 3) := by decide +kernel
theorem dX3_boxAhead_47 : decode cX3_boxAhead 47 = .ok (.ireturn, 1) := by decide +kernel
theorem dX3_boxAhead_48 : decode cX3_boxAhead 48 = .ok (.aload_n 0, 1) := by decide +kernel
theorem dX3_boxAhead_49 : decode cX3_boxAhead 49 = .ok (.getfield 12, 3) := by decide +kernel
theorem dX3_boxAhead_52 : decode cX3_boxAhead 52 = .ok (.getfield 54, 3) := by decide +kernel
theorem dX3_boxAhead_55 : decode cX3_boxAhead 55 = .ok (.ireturn, 1) := by decide +kernel
theorem dX3_boxAhead_56 : decode cX3_boxAhead 56 = .ok (.aload_n 0, 1) := by decide +kernel
theorem dX3_boxAhead_57 : decode cX3_boxAhead 57 = .ok (.getfield 12, 3) := by decide +kernel
theorem dX3_boxAhead_60 : decode cX3_boxAhead 60 = .ok (.getfield 58, 3) := by decide +kernel
theorem dX3_boxAhead_63 : decode cX3_boxAhead 63 = .ok (.ireturn, 1) := by decide +kernel
theorem dX3_firstTick_0 : decode cX3_firstTick 0 = .ok (.aload_n 0, 1) := by decide +kernel
theorem dX3_firstTick_1 : decode cX3_firstTick 1 = .ok (.getfield 12, 3) := by decide +kernel
theorem dX3_firstTick_4 : decode cX3_firstTick 4 = .ok (.aload_n 0, 1) := by decide +kernel
theorem dX3_firstTick_5 : decode cX3_firstTick 5 = .ok (.getfield 22, 3) := by decide +kernel
theorem dX3_firstTick_8 : decode cX3_firstTick 8 = .ok (.invokevirtual 25, 3) := by decide +kernel
theorem dX3_firstTick_11 : decode cX3_firstTick 11 = .ok (.iconst 0, 1) := by decide +kernel
theorem dX3_firstTick_12 : decode cX3_firstTick 12 = .ok (.istore_n 3, 1) := by decide +kernel
theorem dX3_firstTick_13 : decode cX3_firstTick 13 = .ok (.iload_n 3, 1) := by decide +kernel
theorem dX3_firstTick_14 : decode cX3_firstTick 14 = .ok (.bipush 60, 2) := by decide +kernel
theorem dX3_firstTick_16 : decode cX3_firstTick 16 = .ok (.if_icmp .gt 58, 3) := by decide +kernel
theorem dX3_firstTick_19 : decode cX3_firstTick 19 = .ok (.iload_n 2, 1) := by decide +kernel
theorem dX3_firstTick_20 : decode cX3_firstTick 20 = .ok (.ifCond .ne 23, 3) := by decide +kernel
theorem dX3_firstTick_23 : decode cX3_firstTick 23 = .ok (.aload_n 0, 1) := by decide +kernel
theorem dX3_firstTick_24 : decode cX3_firstTick 24 = .ok (.getfield 12, 3) := by decide +kernel
theorem dX3_firstTick_27 : decode cX3_firstTick 27 = .ok (.getfield 36, 3) := by decide +kernel
theorem dX3_firstTick_30 : decode cX3_firstTick 30 = .ok (.iload_n 1, 1) := by decide +kernel
theorem dX3_firstTick_31 : decode cX3_firstTick 31 = .ok (.iaload, 1) := by decide +kernel
theorem dX3_firstTick_32 : decode cX3_firstTick 32 = .ok (.ifCond .le 7, 3) := by decide +kernel
theorem dX3_firstTick_35 : decode cX3_firstTick 35 = .ok (.iconst 1, 1) := by decide +kernel
theorem dX3_firstTick_36 : decode cX3_firstTick 36 = .ok (.goto 15, 3) := by decide +kernel
theorem dX3_firstTick_39 : decode cX3_firstTick 39 = .ok (.iconst 0, 1) := by decide +kernel
theorem dX3_firstTick_40 : decode cX3_firstTick 40 = .ok (.goto 11, 3) := by decide +kernel
theorem dX3_firstTick_43 : decode cX3_firstTick 43 = .ok (.aload_n 0, 1) := by decide +kernel
theorem dX3_firstTick_44 : decode cX3_firstTick 44 = .ok (.getfield 12, 3) := by decide +kernel
theorem dX3_firstTick_47 : decode cX3_firstTick 47 = .ok (.iload_n 1, 1) := by decide +kernel
theorem dX3_firstTick_48 : decode cX3_firstTick 48 = .ok (.invokevirtual 43, 3) := by decide +kernel
theorem dX3_firstTick_51 : decode cX3_firstTick 51 = .ok (.istore 4, 2) := by decide +kernel
theorem dX3_firstTick_53 : decode cX3_firstTick 53 = .ok (.iload 4, 2) := by decide +kernel
theorem dX3_firstTick_55 : decode cX3_firstTick 55 = .ok (.ifCond .eq 5, 3) := by decide +kernel
theorem dX3_firstTick_58 : decode cX3_firstTick 58 = .ok (.iload_n 3, 1) := by decide +kernel
theorem dX3_firstTick_59 : decode cX3_firstTick 59 = .ok (.ireturn, 1) := by decide +kernel
theorem dX3_firstTick_60 : decode cX3_firstTick 60 = .ok (.aload_n 0, 1) := by decide +kernel
theorem dX3_firstTick_61 : decode cX3_firstTick 61 = .ok (.getfield 12, 3) := by decide +kernel
theorem dX3_firstTick_64 : decode cX3_firstTick 64 = .ok (.invokevirtual 61, 3) := by decide +kernel
theorem dX3_firstTick_67 : decode cX3_firstTick 67 = .ok (.pop, 1) := by decide +kernel
theorem dX3_firstTick_68 : decode cX3_firstTick 68 = .ok (.iinc 3 1, 3) := by decide +kernel
theorem dX3_firstTick_71 : decode cX3_firstTick 71 = .ok (.goto (-58), 3) := by decide +kernel
theorem dX3_firstTick_74 : decode cX3_firstTick 74 = .ok (.ldc 64, 2) := by decide +kernel
theorem dX3_firstTick_76 : decode cX3_firstTick 76 = .ok (.ireturn, 1) := by decide +kernel
theorem dX3_firstStop_0 : decode cX3_firstStop 0 = .ok (.aload_n 0, 1) := by decide +kernel
theorem dX3_firstStop_1 : decode cX3_firstStop 1 = .ok (.getfield 12, 3) := by decide +kernel
theorem dX3_firstStop_4 : decode cX3_firstStop 4 = .ok (.aload_n 0, 1) := by decide +kernel
theorem dX3_firstStop_5 : decode cX3_firstStop 5 = .ok (.getfield 22, 3) := by decide +kernel
theorem dX3_firstStop_8 : decode cX3_firstStop 8 = .ok (.invokevirtual 25, 3) := by decide +kernel
theorem dX3_firstStop_11 : decode cX3_firstStop 11 = .ok (.iconst 0, 1) := by decide +kernel
theorem dX3_firstStop_12 : decode cX3_firstStop 12 = .ok (.istore_n 1, 1) := by decide +kernel
theorem dX3_firstStop_13 : decode cX3_firstStop 13 = .ok (.iload_n 1, 1) := by decide +kernel
theorem dX3_firstStop_14 : decode cX3_firstStop 14 = .ok (.bipush 60, 2) := by decide +kernel
theorem dX3_firstStop_16 : decode cX3_firstStop 16 = .ok (.if_icmp .gt 29, 3) := by decide +kernel
theorem dX3_firstStop_19 : decode cX3_firstStop 19 = .ok (.aload_n 0, 1) := by decide +kernel
theorem dX3_firstStop_20 : decode cX3_firstStop 20 = .ok (.getfield 12, 3) := by decide +kernel
theorem dX3_firstStop_23 : decode cX3_firstStop 23 = .ok (.getfield 58, 3) := by decide +kernel
theorem dX3_firstStop_26 : decode cX3_firstStop 26 = .ok (.ifCond .ne 5, 3) := by decide +kernel
theorem dX3_firstStop_29 : decode cX3_firstStop 29 = .ok (.iload_n 1, 1) := by decide +kernel
theorem dX3_firstStop_30 : decode cX3_firstStop 30 = .ok (.ireturn, 1) := by decide +kernel
theorem dX3_firstStop_31 : decode cX3_firstStop 31 = .ok (.aload_n 0, 1) := by decide +kernel
theorem dX3_firstStop_32 : decode cX3_firstStop 32 = .ok (.getfield 12, 3) := by decide +kernel
theorem dX3_firstStop_35 : decode cX3_firstStop 35 = .ok (.invokevirtual 61, 3) := by decide +kernel
theorem dX3_firstStop_38 : decode cX3_firstStop 38 = .ok (.pop, 1) := by decide +kernel
theorem dX3_firstStop_39 : decode cX3_firstStop 39 = .ok (.iinc 1 1, 3) := by decide +kernel
theorem dX3_firstStop_42 : decode cX3_firstStop 42 = .ok (.goto (-29), 3) := by decide +kernel
theorem dX3_firstStop_45 : decode cX3_firstStop 45 = .ok (.ldc 64, 2) := by decide +kernel
theorem dX3_firstStop_47 : decode cX3_firstStop 47 = .ok (.ireturn, 1) := by decide +kernel
theorem dX3_loudestPin_0 : decode cX3_loudestPin 0 = .ok (.iconst 0, 1) := by decide +kernel
theorem dX3_loudestPin_1 : decode cX3_loudestPin 1 = .ok (.istore_n 3, 1) := by decide +kernel
theorem dX3_loudestPin_2 : decode cX3_loudestPin 2 = .ok (.iconst (-1), 1) := by decide +kernel
theorem dX3_loudestPin_3 : decode cX3_loudestPin 3 = .ok (.istore 4, 2) := by decide +kernel
theorem dX3_loudestPin_5 : decode cX3_loudestPin 5 = .ok (.iconst 0, 1) := by decide +kernel
theorem dX3_loudestPin_6 : decode cX3_loudestPin 6 = .ok (.istore 5, 2) := by decide +kernel
theorem dX3_loudestPin_8 : decode cX3_loudestPin 8 = .ok (.iload 5, 2) := by decide +kernel
theorem dX3_loudestPin_10 : decode cX3_loudestPin 10 = .ok (.aload_n 0, 1) := by decide +kernel
theorem dX3_loudestPin_11 : decode cX3_loudestPin 11 = .ok (.getfield 22, 3) := by decide +kernel
theorem dX3_loudestPin_14 : decode cX3_loudestPin 14 = .ok (.getfield 65, 3) := by decide +kernel
theorem dX3_loudestPin_17 : decode cX3_loudestPin 17 = .ok (.if_icmp .ge 82, 3) := by decide +kernel
theorem dX3_loudestPin_20 : decode cX3_loudestPin 20 = .ok (.iconst 0, 1) := by decide +kernel
theorem dX3_loudestPin_21 : decode cX3_loudestPin 21 = .ok (.istore 6, 2) := by decide +kernel
theorem dX3_loudestPin_23 : decode cX3_loudestPin 23 = .ok (.iload 6, 2) := by decide +kernel
theorem dX3_loudestPin_25 : decode cX3_loudestPin 25 = .ok (.aload_n 0, 1) := by decide +kernel
theorem dX3_loudestPin_26 : decode cX3_loudestPin 26 = .ok (.getfield 22, 3) := by decide +kernel
theorem dX3_loudestPin_29 : decode cX3_loudestPin 29 = .ok (.getfield 68, 3) := by decide +kernel
theorem dX3_loudestPin_32 : decode cX3_loudestPin 32 = .ok (.if_icmp .ge 61, 3) := by decide +kernel
theorem dX3_loudestPin_35 : decode cX3_loudestPin 35 = .ok (.aload_n 0, 1) := by decide +kernel
theorem dX3_loudestPin_36 : decode cX3_loudestPin 36 = .ok (.getfield 12, 3) := by decide +kernel
theorem dX3_loudestPin_39 : decode cX3_loudestPin 39 = .ok (.aload_n 0, 1) := by decide +kernel
theorem dX3_loudestPin_40 : decode cX3_loudestPin 40 = .ok (.getfield 22, 3) := by decide +kernel
theorem dX3_loudestPin_43 : decode cX3_loudestPin 43 = .ok (.invokevirtual 25, 3) := by decide +kernel
theorem dX3_loudestPin_46 : decode cX3_loudestPin 46 = .ok (.aload_n 0, 1) := by decide +kernel
theorem dX3_loudestPin_47 : decode cX3_loudestPin 47 = .ok (.getfield 12, 3) := by decide +kernel
theorem dX3_loudestPin_50 : decode cX3_loudestPin 50 = .ok (.iload 5, 2) := by decide +kernel
theorem dX3_loudestPin_52 : decode cX3_loudestPin 52 = .ok (.iload 6, 2) := by decide +kernel
theorem dX3_loudestPin_54 : decode cX3_loudestPin 54 = .ok (.invokevirtual 71, 3) := by decide +kernel
theorem dX3_loudestPin_57 : decode cX3_loudestPin 57 = .ok (.aload_n 0, 1) := by decide +kernel
theorem dX3_loudestPin_58 : decode cX3_loudestPin 58 = .ok (.getfield 12, 3) := by decide +kernel
theorem dX3_loudestPin_61 : decode cX3_loudestPin 61 = .ok (.iload_n 1, 1) := by decide +kernel
theorem dX3_loudestPin_62 : decode cX3_loudestPin 62 = .ok (.invokevirtual 75, 3) := by decide +kernel
theorem dX3_loudestPin_65 : decode cX3_loudestPin 65 = .ok (.istore 7, 2) := by decide +kernel
theorem dX3_loudestPin_67 : decode cX3_loudestPin 67 = .ok (.iload 7, 2) := by decide +kernel
theorem dX3_loudestPin_69 : decode cX3_loudestPin 69 = .ok (.iload 4, 2) := by decide +kernel
theorem dX3_loudestPin_71 : decode cX3_loudestPin 71 = .ok (.if_icmp .le 16, 3) := by decide +kernel
theorem dX3_loudestPin_74 : decode cX3_loudestPin 74 = .ok (.iload 7, 2) := by decide +kernel
theorem dX3_loudestPin_76 : decode cX3_loudestPin 76 = .ok (.istore 4, 2) := by decide +kernel
theorem dX3_loudestPin_78 : decode cX3_loudestPin 78 = .ok (.bipush 10, 2) := by decide +kernel
theorem dX3_loudestPin_80 : decode cX3_loudestPin 80 = .ok (.iload 5, 2) := by decide +kernel
theorem dX3_loudestPin_82 : decode cX3_loudestPin 82 = .ok (.imul, 1) := by decide +kernel
theorem dX3_loudestPin_83 : decode cX3_loudestPin 83 = .ok (.iload 6, 2) := by decide +kernel
theorem dX3_loudestPin_85 : decode cX3_loudestPin 85 = .ok (.iadd, 1) := by decide +kernel
theorem dX3_loudestPin_86 : decode cX3_loudestPin 86 = .ok (.istore_n 3, 1) := by decide +kernel
theorem dX3_loudestPin_87 : decode cX3_loudestPin 87 = .ok (.iinc 6 1, 3) := by decide +kernel
theorem dX3_loudestPin_90 : decode cX3_loudestPin 90 = .ok (.goto (-67), 3) := by decide +kernel
theorem dX3_loudestPin_93 : decode cX3_loudestPin 93 = .ok (.iinc 5 1, 3) := by decide +kernel
theorem dX3_loudestPin_96 : decode cX3_loudestPin 96 = .ok (.goto (-88), 3) := by decide +kernel
theorem dX3_loudestPin_99 : decode cX3_loudestPin 99 = .ok (.iload_n 2, 1) := by decide +kernel
theorem dX3_loudestPin_100 : decode cX3_loudestPin 100 = .ok (.ifCond .ne 7, 3) := by decide +kernel
theorem dX3_loudestPin_103 : decode cX3_loudestPin 103 = .ok (.iload_n 3, 1) := by decide +kernel
theorem dX3_loudestPin_104 : decode cX3_loudestPin 104 = .ok (.goto 5, 3) := by decide +kernel
theorem dX3_loudestPin_107 : decode cX3_loudestPin 107 = .ok (.iload 4, 2) := by decide +kernel
theorem dX3_loudestPin_109 : decode cX3_loudestPin 109 = .ok (.ireturn, 1) := by decide +kernel
theorem dX3_loudestColumn_0 : decode cX3_loudestColumn 0 = .ok (.iconst 0, 1) := by decide +kernel
theorem dX3_loudestColumn_1 : decode cX3_loudestColumn 1 = .ok (.istore_n 3, 1) := by decide +kernel
theorem dX3_loudestColumn_2 : decode cX3_loudestColumn 2 = .ok (.iconst (-1), 1) := by decide +kernel
theorem dX3_loudestColumn_3 : decode cX3_loudestColumn 3 = .ok (.istore 4, 2) := by decide +kernel
theorem dX3_loudestColumn_5 : decode cX3_loudestColumn 5 = .ok (.iconst 0, 1) := by decide +kernel
theorem dX3_loudestColumn_6 : decode cX3_loudestColumn 6 = .ok (.istore 5, 2) := by decide +kernel
theorem dX3_loudestColumn_8 : decode cX3_loudestColumn 8 = .ok (.iload 5, 2) := by decide +kernel
theorem dX3_loudestColumn_10 : decode cX3_loudestColumn 10 = .ok (.aload_n 0, 1) := by decide +kernel
theorem dX3_loudestColumn_11 : decode cX3_loudestColumn 11 = .ok (.getfield 22, 3) := by decide +kernel
theorem dX3_loudestColumn_14 : decode cX3_loudestColumn 14 = .ok (.getfield 65, 3) := by decide +kernel
theorem dX3_loudestColumn_17 : decode cX3_loudestColumn 17 = .ok (.if_icmp .ge 53, 3) := by decide +kernel
theorem dX3_loudestColumn_20 : decode cX3_loudestColumn 20 = .ok (.aload_n 0, 1) := by decide +kernel
theorem dX3_loudestColumn_21 : decode cX3_loudestColumn 21 = .ok (.getfield 12, 3) := by decide +kernel
theorem dX3_loudestColumn_24 : decode cX3_loudestColumn 24 = .ok (.aload_n 0, 1) := by decide +kernel
theorem dX3_loudestColumn_25 : decode cX3_loudestColumn 25 = .ok (.getfield 22, 3) := by decide +kernel
theorem dX3_loudestColumn_28 : decode cX3_loudestColumn 28 = .ok (.invokevirtual 25, 3) := by decide +kernel
theorem dX3_loudestColumn_31 : decode cX3_loudestColumn 31 = .ok (.aload_n 0, 1) := by decide +kernel
theorem dX3_loudestColumn_32 : decode cX3_loudestColumn 32 = .ok (.getfield 12, 3) := by decide +kernel
theorem dX3_loudestColumn_35 : decode cX3_loudestColumn 35 = .ok (.iload 5, 2) := by decide +kernel
theorem dX3_loudestColumn_37 : decode cX3_loudestColumn 37 = .ok (.putfield 54, 3) := by decide +kernel
theorem dX3_loudestColumn_40 : decode cX3_loudestColumn 40 = .ok (.aload_n 0, 1) := by decide +kernel
theorem dX3_loudestColumn_41 : decode cX3_loudestColumn 41 = .ok (.getfield 12, 3) := by decide +kernel
theorem dX3_loudestColumn_44 : decode cX3_loudestColumn 44 = .ok (.iload_n 1, 1) := by decide +kernel
theorem dX3_loudestColumn_45 : decode cX3_loudestColumn 45 = .ok (.invokevirtual 75, 3) := by decide +kernel
theorem dX3_loudestColumn_48 : decode cX3_loudestColumn 48 = .ok (.istore 6, 2) := by decide +kernel
theorem dX3_loudestColumn_50 : decode cX3_loudestColumn 50 = .ok (.iload 6, 2) := by decide +kernel
theorem dX3_loudestColumn_52 : decode cX3_loudestColumn 52 = .ok (.iload 4, 2) := by decide +kernel
theorem dX3_loudestColumn_54 : decode cX3_loudestColumn 54 = .ok (.if_icmp .le 10, 3) := by decide +kernel
theorem dX3_loudestColumn_57 : decode cX3_loudestColumn 57 = .ok (.iload 6, 2) := by decide +kernel
theorem dX3_loudestColumn_59 : decode cX3_loudestColumn 59 = .ok (.istore 4, 2) := by decide +kernel
theorem dX3_loudestColumn_61 : decode cX3_loudestColumn 61 = .ok (.iload 5, 2) := by decide +kernel
theorem dX3_loudestColumn_63 : decode cX3_loudestColumn 63 = .ok (.istore_n 3, 1) := by decide +kernel
theorem dX3_loudestColumn_64 : decode cX3_loudestColumn 64 = .ok (.iinc 5 1, 3) := by decide +kernel
theorem dX3_loudestColumn_67 : decode cX3_loudestColumn 67 = .ok (.goto (-59), 3) := by decide +kernel
theorem dX3_loudestColumn_70 : decode cX3_loudestColumn 70 = .ok (.iload_n 2, 1) := by decide +kernel
theorem dX3_loudestColumn_71 : decode cX3_loudestColumn 71 = .ok (.ifCond .ne 7, 3) := by decide +kernel
theorem dX3_loudestColumn_74 : decode cX3_loudestColumn 74 = .ok (.iload_n 3, 1) := by decide +kernel
theorem dX3_loudestColumn_75 : decode cX3_loudestColumn 75 = .ok (.goto 5, 3) := by decide +kernel
theorem dX3_loudestColumn_78 : decode cX3_loudestColumn 78 = .ok (.iload 4, 2) := by decide +kernel
theorem dX3_loudestColumn_80 : decode cX3_loudestColumn 80 = .ok (.ireturn, 1) := by decide +kernel
theorem dX3_leastSpring_0 : decode cX3_leastSpring 0 = .ok (.iconst 0, 1) := by decide +kernel
theorem dX3_leastSpring_1 : decode cX3_leastSpring 1 = .ok (.istore_n 2, 1) := by decide +kernel
theorem dX3_leastSpring_2 : decode cX3_leastSpring 2 = .ok (.iload_n 2, 1) := by decide +kernel
theorem dX3_leastSpring_3 : decode cX3_leastSpring 3 = .ok (.bipush 99, 2) := by decide +kernel
theorem dX3_leastSpring_5 : decode cX3_leastSpring 5 = .ok (.if_icmp .gt 71, 3) := by decide +kernel
theorem dX3_leastSpring_8 : decode cX3_leastSpring 8 = .ok (.aload_n 0, 1) := by decide +kernel
theorem dX3_leastSpring_9 : decode cX3_leastSpring 9 = .ok (.getfield 12, 3) := by decide +kernel
theorem dX3_leastSpring_12 : decode cX3_leastSpring 12 = .ok (.aload_n 0, 1) := by decide +kernel
theorem dX3_leastSpring_13 : decode cX3_leastSpring 13 = .ok (.getfield 22, 3) := by decide +kernel
theorem dX3_leastSpring_16 : decode cX3_leastSpring 16 = .ok (.invokevirtual 25, 3) := by decide +kernel
theorem dX3_leastSpring_19 : decode cX3_leastSpring 19 = .ok (.aload_n 0, 1) := by decide +kernel
theorem dX3_leastSpring_20 : decode cX3_leastSpring 20 = .ok (.getfield 12, 3) := by decide +kernel
theorem dX3_leastSpring_23 : decode cX3_leastSpring 23 = .ok (.iload_n 2, 1) := by decide +kernel
theorem dX3_leastSpring_24 : decode cX3_leastSpring 24 = .ok (.putfield 58, 3) := by decide +kernel
theorem dX3_leastSpring_27 : decode cX3_leastSpring 27 = .ok (.iconst 0, 1) := by decide +kernel
theorem dX3_leastSpring_28 : decode cX3_leastSpring 28 = .ok (.istore_n 3, 1) := by decide +kernel
theorem dX3_leastSpring_29 : decode cX3_leastSpring 29 = .ok (.iload_n 3, 1) := by decide +kernel
theorem dX3_leastSpring_30 : decode cX3_leastSpring 30 = .ok (.iload_n 1, 1) := by decide +kernel
theorem dX3_leastSpring_31 : decode cX3_leastSpring 31 = .ok (.if_icmp .ge 27, 3) := by decide +kernel
theorem dX3_leastSpring_34 : decode cX3_leastSpring 34 = .ok (.aload_n 0, 1) := by decide +kernel
theorem dX3_leastSpring_35 : decode cX3_leastSpring 35 = .ok (.getfield 12, 3) := by decide +kernel
theorem dX3_leastSpring_38 : decode cX3_leastSpring 38 = .ok (.getfield 58, 3) := by decide +kernel
theorem dX3_leastSpring_41 : decode cX3_leastSpring 41 = .ok (.ifCond .le 17, 3) := by decide +kernel
theorem dX3_leastSpring_44 : decode cX3_leastSpring 44 = .ok (.aload_n 0, 1) := by decide +kernel
theorem dX3_leastSpring_45 : decode cX3_leastSpring 45 = .ok (.getfield 12, 3) := by decide +kernel
theorem dX3_leastSpring_48 : decode cX3_leastSpring 48 = .ok (.invokevirtual 61, 3) := by decide +kernel
theorem dX3_leastSpring_51 : decode cX3_leastSpring 51 = .ok (.pop, 1) := by decide +kernel
theorem dX3_leastSpring_52 : decode cX3_leastSpring 52 = .ok (.iinc 3 1, 3) := by decide +kernel
theorem dX3_leastSpring_55 : decode cX3_leastSpring 55 = .ok (.goto (-26), 3) := by decide +kernel
theorem dX3_leastSpring_58 : decode cX3_leastSpring 58 = .ok (.aload_n 0, 1) := by decide +kernel
theorem dX3_leastSpring_59 : decode cX3_leastSpring 59 = .ok (.getfield 12, 3) := by decide +kernel
theorem dX3_leastSpring_62 : decode cX3_leastSpring 62 = .ok (.getfield 58, 3) := by decide +kernel
theorem dX3_leastSpring_65 : decode cX3_leastSpring 65 = .ok (.ifCond .le 5, 3) := by decide +kernel
theorem dX3_leastSpring_68 : decode cX3_leastSpring 68 = .ok (.iload_n 2, 1) := by decide +kernel
theorem dX3_leastSpring_69 : decode cX3_leastSpring 69 = .ok (.ireturn, 1) := by decide +kernel
theorem dX3_leastSpring_70 : decode cX3_leastSpring 70 = .ok (.iinc 2 1, 3) := by decide +kernel
theorem dX3_leastSpring_73 : decode cX3_leastSpring 73 = .ok (.goto (-71), 3) := by decide +kernel
theorem dX3_leastSpring_76 : decode cX3_leastSpring 76 = .ok (.ldc 64, 2) := by decide +kernel
theorem dX3_leastSpring_78 : decode cX3_leastSpring 78 = .ok (.ireturn, 1) := by decide +kernel
theorem dX3_columnsOfTune_0 : decode cX3_columnsOfTune 0 = .ok (.iconst 0, 1) := by decide +kernel
theorem dX3_columnsOfTune_1 : decode cX3_columnsOfTune 1 = .ok (.istore 4, 2) := by decide +kernel
theorem dX3_columnsOfTune_3 : decode cX3_columnsOfTune 3 = .ok (.iconst 0, 1) := by decide +kernel
theorem dX3_columnsOfTune_4 : decode cX3_columnsOfTune 4 = .ok (.istore 5, 2) := by decide +kernel
theorem dX3_columnsOfTune_6 : decode cX3_columnsOfTune 6 = .ok (.iload 5, 2) := by decide +kernel
theorem dX3_columnsOfTune_8 : decode cX3_columnsOfTune 8 = .ok (.aload_n 0, 1) := by decide +kernel
theorem dX3_columnsOfTune_9 : decode cX3_columnsOfTune 9 = .ok (.getfield 22, 3) := by decide +kernel
theorem dX3_columnsOfTune_12 : decode cX3_columnsOfTune 12 = .ok (.getfield 65, 3) := by decide +kernel
theorem dX3_columnsOfTune_15 : decode cX3_columnsOfTune 15 = .ok (.if_icmp .ge 30, 3) := by decide +kernel
theorem dX3_columnsOfTune_18 : decode cX3_columnsOfTune 18 = .ok (.aload_n 0, 1) := by decide +kernel
theorem dX3_columnsOfTune_19 : decode cX3_columnsOfTune 19 = .ok (.iload 5, 2) := by decide +kernel
theorem dX3_columnsOfTune_21 : decode cX3_columnsOfTune 21 = .ok (.aload_n 1, 1) := by decide +kernel
theorem dX3_columnsOfTune_22 : decode cX3_columnsOfTune 22 = .ok (.iload_n 2, 1) := by decide +kernel
theorem dX3_columnsOfTune_23 : decode cX3_columnsOfTune 23 = .ok (.iload_n 3, 1) := by decide +kernel
theorem dX3_columnsOfTune_24 : decode cX3_columnsOfTune 24 = .ok (.invokevirtual 79, 3) := by decide +kernel
theorem dX3_columnsOfTune_27 : decode cX3_columnsOfTune 27 = .ok (.ifCond .eq 12, 3) := by decide +kernel
theorem dX3_columnsOfTune_30 : decode cX3_columnsOfTune 30 = .ok (.iload 4, 2) := by decide +kernel
theorem dX3_columnsOfTune_32 : decode cX3_columnsOfTune 32 = .ok (.iconst 1, 1) := by decide +kernel
theorem dX3_columnsOfTune_33 : decode cX3_columnsOfTune 33 = .ok (.iload 5, 2) := by decide +kernel
theorem dX3_columnsOfTune_35 : decode cX3_columnsOfTune 35 = .ok (.ishl, 1) := by decide +kernel
theorem dX3_columnsOfTune_36 : decode cX3_columnsOfTune 36 = .ok (.ior, 1) := by decide +kernel
theorem dX3_columnsOfTune_37 : decode cX3_columnsOfTune 37 = .ok (.istore 4, 2) := by decide +kernel
theorem dX3_columnsOfTune_39 : decode cX3_columnsOfTune 39 = .ok (.iinc 5 1, 3) := by decide +kernel
theorem dX3_columnsOfTune_42 : decode cX3_columnsOfTune 42 = .ok (.goto (-36), 3) := by decide +kernel
theorem dX3_columnsOfTune_45 : decode cX3_columnsOfTune 45 = .ok (.iload 4, 2) := by decide +kernel
theorem dX3_columnsOfTune_47 : decode cX3_columnsOfTune 47 = .ok (.ireturn, 1) := by decide +kernel
theorem dX3_standsFrom_0 : decode cX3_standsFrom 0 = .ok (.iconst 1, 1) := by decide +kernel
theorem dX3_standsFrom_1 : decode cX3_standsFrom 1 = .ok (.aload_n 0, 1) := by decide +kernel
theorem dX3_standsFrom_2 : decode cX3_standsFrom 2 = .ok (.getfield 22, 3) := by decide +kernel
theorem dX3_standsFrom_5 : decode cX3_standsFrom 5 = .ok (.getfield 68, 3) := by decide +kernel
theorem dX3_standsFrom_8 : decode cX3_standsFrom 8 = .ok (.ishl, 1) := by decide +kernel
theorem dX3_standsFrom_9 : decode cX3_standsFrom 9 = .ok (.iconst 1, 1) := by decide +kernel
theorem dX3_standsFrom_10 : decode cX3_standsFrom 10 = .ok (.isub, 1) := by decide +kernel
theorem dX3_standsFrom_11 : decode cX3_standsFrom 11 = .ok (.istore 5, 2) := by decide +kernel
theorem dX3_standsFrom_13 : decode cX3_standsFrom 13 = .ok (.iload_n 1, 1) := by decide +kernel
theorem dX3_standsFrom_14 : decode cX3_standsFrom 14 = .ok (.istore 6, 2) := by decide +kernel
theorem dX3_standsFrom_16 : decode cX3_standsFrom 16 = .ok (.iload_n 3, 1) := by decide +kernel
theorem dX3_standsFrom_17 : decode cX3_standsFrom 17 = .ok (.istore 7, 2) := by decide +kernel
theorem dX3_standsFrom_19 : decode cX3_standsFrom 19 = .ok (.iload 7, 2) := by decide +kernel
theorem dX3_standsFrom_21 : decode cX3_standsFrom 21 = .ok (.iload_n 3, 1) := by decide +kernel
theorem dX3_standsFrom_22 : decode cX3_standsFrom 22 = .ok (.iload 4, 2) := by decide +kernel
theorem dX3_standsFrom_24 : decode cX3_standsFrom 24 = .ok (.iadd, 1) := by decide +kernel
theorem dX3_standsFrom_25 : decode cX3_standsFrom 25 = .ok (.if_icmp .ge 58, 3) := by decide +kernel
theorem dX3_standsFrom_28 : decode cX3_standsFrom 28 = .ok (.aload_n 0, 1) := by decide +kernel
theorem dX3_standsFrom_29 : decode cX3_standsFrom 29 = .ok (.getfield 22, 3) := by decide +kernel
theorem dX3_standsFrom_32 : decode cX3_standsFrom 32 = .ok (.getfield 83, 3) := by decide +kernel
theorem dX3_standsFrom_35 : decode cX3_standsFrom 35 = .ok (.iload 6, 2) := by decide +kernel
theorem dX3_standsFrom_37 : decode cX3_standsFrom 37 = .ok (.iaload, 1) := by decide +kernel
theorem dX3_standsFrom_38 : decode cX3_standsFrom 38 = .ok (.iload 5, 2) := by decide +kernel
theorem dX3_standsFrom_40 : decode cX3_standsFrom 40 = .ok (.iand, 1) := by decide +kernel
theorem dX3_standsFrom_41 : decode cX3_standsFrom 41 = .ok (.aload_n 2, 1) := by decide +kernel
theorem dX3_standsFrom_42 : decode cX3_standsFrom 42 = .ok (.getfield 86, 3) := by decide +kernel
theorem dX3_standsFrom_45 : decode cX3_standsFrom 45 = .ok (.iload 7, 2) := by decide +kernel
theorem dX3_standsFrom_47 : decode cX3_standsFrom 47 = .ok (.iaload, 1) := by decide +kernel
theorem dX3_standsFrom_48 : decode cX3_standsFrom 48 = .ok (.if_icmp .eq 5, 3) := by decide +kernel
theorem dX3_standsFrom_51 : decode cX3_standsFrom 51 = .ok (.iconst 0, 1) := by decide +kernel
theorem dX3_standsFrom_52 : decode cX3_standsFrom 52 = .ok (.ireturn, 1) := by decide +kernel
theorem dX3_standsFrom_53 : decode cX3_standsFrom 53 = .ok (.iload 6, 2) := by decide +kernel
theorem dX3_standsFrom_55 : decode cX3_standsFrom 55 = .ok (.iconst 1, 1) := by decide +kernel
theorem dX3_standsFrom_56 : decode cX3_standsFrom 56 = .ok (.iadd, 1) := by decide +kernel
theorem dX3_standsFrom_57 : decode cX3_standsFrom 57 = .ok (.aload_n 0, 1) := by decide +kernel
theorem dX3_standsFrom_58 : decode cX3_standsFrom 58 = .ok (.getfield 22, 3) := by decide +kernel
theorem dX3_standsFrom_61 : decode cX3_standsFrom 61 = .ok (.getfield 65, 3) := by decide +kernel
theorem dX3_standsFrom_64 : decode cX3_standsFrom 64 = .ok (.if_icmp .ge 10, 3) := by decide +kernel
theorem dX3_standsFrom_67 : decode cX3_standsFrom 67 = .ok (.iload 6, 2) := by decide +kernel
theorem dX3_standsFrom_69 : decode cX3_standsFrom 69 = .ok (.iconst 1, 1) := by decide +kernel
theorem dX3_standsFrom_70 : decode cX3_standsFrom 70 = .ok (.iadd, 1) := by decide +kernel
theorem dX3_standsFrom_71 : decode cX3_standsFrom 71 = .ok (.goto 4, 3) := by decide +kernel
theorem dX3_standsFrom_74 : decode cX3_standsFrom 74 = .ok (.iconst 0, 1) := by decide +kernel
theorem dX3_standsFrom_75 : decode cX3_standsFrom 75 = .ok (.istore 6, 2) := by decide +kernel
theorem dX3_standsFrom_77 : decode cX3_standsFrom 77 = .ok (.iinc 7 1, 3) := by decide +kernel
theorem dX3_standsFrom_80 : decode cX3_standsFrom 80 = .ok (.goto (-61), 3) := by decide +kernel
theorem dX3_standsFrom_83 : decode cX3_standsFrom 83 = .ok (.iconst 1, 1) := by decide +kernel
theorem dX3_standsFrom_84 : decode cX3_standsFrom 84 = .ok (.ireturn, 1) := by decide +kernel
theorem dX3_setsThatRing_0 : decode cX3_setsThatRing 0 = .ok (.aload_n 0, 1) := by decide +kernel
theorem dX3_setsThatRing_1 : decode cX3_setsThatRing 1 = .ok (.getfield 22, 3) := by decide +kernel
theorem dX3_setsThatRing_4 : decode cX3_setsThatRing 4 = .ok (.invokevirtual 51, 3) := by decide +kernel
theorem dX3_setsThatRing_7 : decode cX3_setsThatRing 7 = .ok (.istore_n 3, 1) := by decide +kernel
theorem dX3_setsThatRing_8 : decode cX3_setsThatRing 8 = .ok (.iconst 0, 1) := by decide +kernel
theorem dX3_setsThatRing_9 : decode cX3_setsThatRing 9 = .ok (.istore 4, 2) := by decide +kernel
theorem dX3_setsThatRing_11 : decode cX3_setsThatRing 11 = .ok (.iload_n 3, 1) := by decide +kernel
theorem dX3_setsThatRing_12 : decode cX3_setsThatRing 12 = .ok (.istore 5, 2) := by decide +kernel
theorem dX3_setsThatRing_14 : decode cX3_setsThatRing 14 = .ok (.iconst 0, 1) := by decide +kernel
theorem dX3_setsThatRing_15 : decode cX3_setsThatRing 15 = .ok (.istore 6, 2) := by decide +kernel
theorem dX3_setsThatRing_17 : decode cX3_setsThatRing 17 = .ok (.iconst 0, 1) := by decide +kernel
theorem dX3_setsThatRing_18 : decode cX3_setsThatRing 18 = .ok (.istore 7, 2) := by decide +kernel
theorem dX3_setsThatRing_20 : decode cX3_setsThatRing 20 = .ok (.iload 7, 2) := by decide +kernel
theorem dX3_setsThatRing_22 : decode cX3_setsThatRing 22 = .ok (.iconst 1, 1) := by decide +kernel
theorem dX3_setsThatRing_23 : decode cX3_setsThatRing 23 = .ok (.aload_n 0, 1) := by decide +kernel
theorem dX3_setsThatRing_24 : decode cX3_setsThatRing 24 = .ok (.getfield 22, 3) := by decide +kernel
theorem dX3_setsThatRing_27 : decode cX3_setsThatRing 27 = .ok (.getfield 68, 3) := by decide +kernel
theorem dX3_setsThatRing_30 : decode cX3_setsThatRing 30 = .ok (.ishl, 1) := by decide +kernel
theorem dX3_setsThatRing_31 : decode cX3_setsThatRing 31 = .ok (.if_icmp .ge 45, 3) := by decide +kernel
theorem dX3_setsThatRing_34 : decode cX3_setsThatRing 34 = .ok (.iload 7, 2) := by decide +kernel
theorem dX3_setsThatRing_36 : decode cX3_setsThatRing 36 = .ok (.iload_n 3, 1) := by decide +kernel
theorem dX3_setsThatRing_37 : decode cX3_setsThatRing 37 = .ok (.iconst (-1), 1) := by decide +kernel
theorem dX3_setsThatRing_38 : decode cX3_setsThatRing 38 = .ok (.ixor, 1) := by decide +kernel
theorem dX3_setsThatRing_39 : decode cX3_setsThatRing 39 = .ok (.iand, 1) := by decide +kernel
theorem dX3_setsThatRing_40 : decode cX3_setsThatRing 40 = .ok (.ifCond .ne 30, 3) := by decide +kernel
theorem dX3_setsThatRing_43 : decode cX3_setsThatRing 43 = .ok (.aload_n 0, 1) := by decide +kernel
theorem dX3_setsThatRing_44 : decode cX3_setsThatRing 44 = .ok (.iload 7, 2) := by decide +kernel
theorem dX3_setsThatRing_46 : decode cX3_setsThatRing 46 = .ok (.invokevirtual 91, 3) := by decide +kernel
theorem dX3_setsThatRing_49 : decode cX3_setsThatRing 49 = .ok (.iload_n 1, 1) := by decide +kernel
theorem dX3_setsThatRing_50 : decode cX3_setsThatRing 50 = .ok (.if_icmp .ne 20, 3) := by decide +kernel
theorem dX3_setsThatRing_53 : decode cX3_setsThatRing 53 = .ok (.iinc 4 1, 3) := by decide +kernel
theorem dX3_setsThatRing_56 : decode cX3_setsThatRing 56 = .ok (.iload 5, 2) := by decide +kernel
theorem dX3_setsThatRing_58 : decode cX3_setsThatRing 58 = .ok (.iload 7, 2) := by decide +kernel
theorem dX3_setsThatRing_60 : decode cX3_setsThatRing 60 = .ok (.iand, 1) := by decide +kernel
theorem dX3_setsThatRing_61 : decode cX3_setsThatRing 61 = .ok (.istore 5, 2) := by decide +kernel
theorem dX3_setsThatRing_63 : decode cX3_setsThatRing 63 = .ok (.iload 6, 2) := by decide +kernel
theorem dX3_setsThatRing_65 : decode cX3_setsThatRing 65 = .ok (.iload 7, 2) := by decide +kernel
theorem dX3_setsThatRing_67 : decode cX3_setsThatRing 67 = .ok (.ior, 1) := by decide +kernel
theorem dX3_setsThatRing_68 : decode cX3_setsThatRing 68 = .ok (.istore 6, 2) := by decide +kernel
theorem dX3_setsThatRing_70 : decode cX3_setsThatRing 70 = .ok (.iinc 7 1, 3) := by decide +kernel
theorem dX3_setsThatRing_73 : decode cX3_setsThatRing 73 = .ok (.goto (-53), 3) := by decide +kernel
theorem dX3_setsThatRing_76 : decode cX3_setsThatRing 76 = .ok (.iload_n 2, 1) := by decide +kernel
theorem dX3_setsThatRing_77 : decode cX3_setsThatRing 77 = .ok (.lookupswitch 42 #[(0, 27), (1, 30)], 27) := by decide +kernel
theorem dX3_setsThatRing_104 : decode cX3_setsThatRing 104 = .ok (.iload 4, 2) := by decide +kernel
theorem dX3_setsThatRing_106 : decode cX3_setsThatRing 106 = .ok (.ireturn, 1) := by decide +kernel
theorem dX3_setsThatRing_107 : decode cX3_setsThatRing 107 = .ok (.iload 4, 2) := by decide +kernel
theorem dX3_setsThatRing_109 : decode cX3_setsThatRing 109 = .ok (.ifCond .ne 7, 3) := by decide +kernel
theorem dX3_setsThatRing_112 : decode cX3_setsThatRing 112 = .ok (.iconst 0, 1) := by decide +kernel
theorem dX3_setsThatRing_113 : decode cX3_setsThatRing 113 = .ok (.goto 5, 3) := by decide +kernel
theorem dX3_setsThatRing_116 : decode cX3_setsThatRing 116 = .ok (.iload 5, 2) := by decide +kernel
theorem dX3_setsThatRing_118 : decode cX3_setsThatRing 118 = .ok (.ireturn, 1) := by decide +kernel
theorem dX3_setsThatRing_119 : decode cX3_setsThatRing 119 = .ok (.iload 6, 2) := by decide +kernel
theorem dX3_setsThatRing_121 : decode cX3_setsThatRing 121 = .ok (.ireturn, 1) := by decide +kernel
theorem dX3_loudOf_0 : decode cX3_loudOf 0 = .ok (.iconst 0, 1) := by decide +kernel
theorem dX3_loudOf_1 : decode cX3_loudOf 1 = .ok (.istore_n 2, 1) := by decide +kernel
theorem dX3_loudOf_2 : decode cX3_loudOf 2 = .ok (.iconst 0, 1) := by decide +kernel
theorem dX3_loudOf_3 : decode cX3_loudOf 3 = .ok (.istore_n 3, 1) := by decide +kernel
theorem dX3_loudOf_4 : decode cX3_loudOf 4 = .ok (.iload_n 3, 1) := by decide +kernel
theorem dX3_loudOf_5 : decode cX3_loudOf 5 = .ok (.aload_n 0, 1) := by decide +kernel
theorem dX3_loudOf_6 : decode cX3_loudOf 6 = .ok (.getfield 22, 3) := by decide +kernel
theorem dX3_loudOf_9 : decode cX3_loudOf 9 = .ok (.getfield 68, 3) := by decide +kernel
theorem dX3_loudOf_12 : decode cX3_loudOf 12 = .ok (.if_icmp .ge 30, 3) := by decide +kernel
theorem dX3_loudOf_15 : decode cX3_loudOf 15 = .ok (.iload_n 1, 1) := by decide +kernel
theorem dX3_loudOf_16 : decode cX3_loudOf 16 = .ok (.iload_n 3, 1) := by decide +kernel
theorem dX3_loudOf_17 : decode cX3_loudOf 17 = .ok (.ishr, 1) := by decide +kernel
theorem dX3_loudOf_18 : decode cX3_loudOf 18 = .ok (.iconst 1, 1) := by decide +kernel
theorem dX3_loudOf_19 : decode cX3_loudOf 19 = .ok (.iand, 1) := by decide +kernel
theorem dX3_loudOf_20 : decode cX3_loudOf 20 = .ok (.iconst 1, 1) := by decide +kernel
theorem dX3_loudOf_21 : decode cX3_loudOf 21 = .ok (.if_icmp .ne 15, 3) := by decide +kernel
theorem dX3_loudOf_24 : decode cX3_loudOf 24 = .ok (.iload_n 2, 1) := by decide +kernel
theorem dX3_loudOf_25 : decode cX3_loudOf 25 = .ok (.aload_n 0, 1) := by decide +kernel
theorem dX3_loudOf_26 : decode cX3_loudOf 26 = .ok (.getfield 22, 3) := by decide +kernel
theorem dX3_loudOf_29 : decode cX3_loudOf 29 = .ok (.getfield 36, 3) := by decide +kernel
theorem dX3_loudOf_32 : decode cX3_loudOf 32 = .ok (.iload_n 3, 1) := by decide +kernel
theorem dX3_loudOf_33 : decode cX3_loudOf 33 = .ok (.iaload, 1) := by decide +kernel
theorem dX3_loudOf_34 : decode cX3_loudOf 34 = .ok (.iadd, 1) := by decide +kernel
theorem dX3_loudOf_35 : decode cX3_loudOf 35 = .ok (.istore_n 2, 1) := by decide +kernel
theorem dX3_loudOf_36 : decode cX3_loudOf 36 = .ok (.iinc 3 1, 3) := by decide +kernel
theorem dX3_loudOf_39 : decode cX3_loudOf 39 = .ok (.goto (-35), 3) := by decide +kernel
theorem dX3_loudOf_42 : decode cX3_loudOf 42 = .ok (.iload_n 2, 1) := by decide +kernel
theorem dX3_loudOf_43 : decode cX3_loudOf 43 = .ok (.ireturn, 1) := by decide +kernel
theorem dX3_wear_0 : decode cX3_wear 0 = .ok (.aload_n 0, 1) := by decide +kernel
theorem dX3_wear_1 : decode cX3_wear 1 = .ok (.getfield 22, 3) := by decide +kernel
theorem dX3_wear_4 : decode cX3_wear 4 = .ok (.iload_n 1, 1) := by decide +kernel
theorem dX3_wear_5 : decode cX3_wear 5 = .ok (.invokevirtual 43, 3) := by decide +kernel
theorem dX3_wear_8 : decode cX3_wear 8 = .ok (.ifCond .eq 7, 3) := by decide +kernel
theorem dX3_wear_11 : decode cX3_wear 11 = .ok (.iconst 0, 1) := by decide +kernel
theorem dX3_wear_12 : decode cX3_wear 12 = .ok (.goto 12, 3) := by decide +kernel
theorem dX3_wear_15 : decode cX3_wear 15 = .ok (.aload_n 0, 1) := by decide +kernel
theorem dX3_wear_16 : decode cX3_wear 16 = .ok (.getfield 22, 3) := by decide +kernel
theorem dX3_wear_19 : decode cX3_wear 19 = .ok (.getfield 40, 3) := by decide +kernel
theorem dX3_wear_22 : decode cX3_wear 22 = .ok (.iload_n 1, 1) := by decide +kernel
theorem dX3_wear_23 : decode cX3_wear 23 = .ok (.iaload, 1) := by decide +kernel
theorem dX3_wear_24 : decode cX3_wear 24 = .ok (.ireturn, 1) := by decide +kernel
theorem dX3_oilFor_0 : decode cX3_oilFor 0 = .ok (.iconst 0, 1) := by decide +kernel
theorem dX3_oilFor_1 : decode cX3_oilFor 1 = .ok (.istore_n 3, 1) := by decide +kernel
theorem dX3_oilFor_2 : decode cX3_oilFor 2 = .ok (.iconst 0, 1) := by decide +kernel
theorem dX3_oilFor_3 : decode cX3_oilFor 3 = .ok (.istore 4, 2) := by decide +kernel
theorem dX3_oilFor_5 : decode cX3_oilFor 5 = .ok (.iload 4, 2) := by decide +kernel
theorem dX3_oilFor_7 : decode cX3_oilFor 7 = .ok (.aload_n 0, 1) := by decide +kernel
theorem dX3_oilFor_8 : decode cX3_oilFor 8 = .ok (.getfield 22, 3) := by decide +kernel
theorem dX3_oilFor_11 : decode cX3_oilFor 11 = .ok (.getfield 68, 3) := by decide +kernel
theorem dX3_oilFor_14 : decode cX3_oilFor 14 = .ok (.if_icmp .ge 18, 3) := by decide +kernel
theorem dX3_oilFor_17 : decode cX3_oilFor 17 = .ok (.iload_n 3, 1) := by decide +kernel
theorem dX3_oilFor_18 : decode cX3_oilFor 18 = .ok (.aload_n 0, 1) := by decide +kernel
theorem dX3_oilFor_19 : decode cX3_oilFor 19 = .ok (.iload 4, 2) := by decide +kernel
theorem dX3_oilFor_21 : decode cX3_oilFor 21 = .ok (.invokevirtual 94, 3) := by decide +kernel
theorem dX3_oilFor_24 : decode cX3_oilFor 24 = .ok (.iadd, 1) := by decide +kernel
theorem dX3_oilFor_25 : decode cX3_oilFor 25 = .ok (.istore_n 3, 1) := by decide +kernel
theorem dX3_oilFor_26 : decode cX3_oilFor 26 = .ok (.iinc 4 1, 3) := by decide +kernel
theorem dX3_oilFor_29 : decode cX3_oilFor 29 = .ok (.goto (-24), 3) := by decide +kernel
theorem dX3_oilFor_32 : decode cX3_oilFor 32 = .ok (.iload_n 3, 1) := by decide +kernel
theorem dX3_oilFor_33 : decode cX3_oilFor 33 = .ok (.ifCond .eq 11, 3) := by decide +kernel
theorem dX3_oilFor_36 : decode cX3_oilFor 36 = .ok (.aload_n 0, 1) := by decide +kernel
theorem dX3_oilFor_37 : decode cX3_oilFor 37 = .ok (.iload_n 1, 1) := by decide +kernel
theorem dX3_oilFor_38 : decode cX3_oilFor 38 = .ok (.invokevirtual 94, 3) := by decide +kernel
theorem dX3_oilFor_41 : decode cX3_oilFor 41 = .ok (.ifCond .ne 5, 3) := by decide +kernel
theorem dX3_oilFor_44 : decode cX3_oilFor 44 = .ok (.iconst 0, 1) := by decide +kernel
theorem dX3_oilFor_45 : decode cX3_oilFor 45 = .ok (.ireturn, 1) := by decide +kernel
theorem dX3_oilFor_46 : decode cX3_oilFor 46 = .ok (.iload_n 2, 1) := by decide +kernel
theorem dX3_oilFor_47 : decode cX3_oilFor 47 = .ok (.istore 4, 2) := by decide +kernel
theorem dX3_oilFor_49 : decode cX3_oilFor 49 = .ok (.iconst 0, 1) := by decide +kernel
theorem dX3_oilFor_50 : decode cX3_oilFor 50 = .ok (.istore 5, 2) := by decide +kernel
theorem dX3_oilFor_52 : decode cX3_oilFor 52 = .ok (.iconst 0, 1) := by decide +kernel
theorem dX3_oilFor_53 : decode cX3_oilFor 53 = .ok (.istore 6, 2) := by decide +kernel
theorem dX3_oilFor_55 : decode cX3_oilFor 55 = .ok (.iload 6, 2) := by decide +kernel
theorem dX3_oilFor_57 : decode cX3_oilFor 57 = .ok (.aload_n 0, 1) := by decide +kernel
theorem dX3_oilFor_58 : decode cX3_oilFor 58 = .ok (.getfield 22, 3) := by decide +kernel
theorem dX3_oilFor_61 : decode cX3_oilFor 61 = .ok (.getfield 68, 3) := by decide +kernel
theorem dX3_oilFor_64 : decode cX3_oilFor 64 = .ok (.if_icmp .ge 42, 3) := by decide +kernel
theorem dX3_oilFor_67 : decode cX3_oilFor 67 = .ok (.iload 4, 2) := by decide +kernel
theorem dX3_oilFor_69 : decode cX3_oilFor 69 = .ok (.iload_n 2, 1) := by decide +kernel
theorem dX3_oilFor_70 : decode cX3_oilFor 70 = .ok (.aload_n 0, 1) := by decide +kernel
theorem dX3_oilFor_71 : decode cX3_oilFor 71 = .ok (.iload 6, 2) := by decide +kernel
theorem dX3_oilFor_73 : decode cX3_oilFor 73 = .ok (.invokevirtual 94, 3) := by decide +kernel
theorem dX3_oilFor_76 : decode cX3_oilFor 76 = .ok (.imul, 1) := by decide +kernel
theorem dX3_oilFor_77 : decode cX3_oilFor 77 = .ok (.iload_n 3, 1) := by decide +kernel
theorem dX3_oilFor_78 : decode cX3_oilFor 78 = .ok (.idiv, 1) := by decide +kernel
theorem dX3_oilFor_79 : decode cX3_oilFor 79 = .ok (.isub, 1) := by decide +kernel
theorem dX3_oilFor_80 : decode cX3_oilFor 80 = .ok (.istore 4, 2) := by decide +kernel
theorem dX3_oilFor_82 : decode cX3_oilFor 82 = .ok (.iload 6, 2) := by decide +kernel
theorem dX3_oilFor_84 : decode cX3_oilFor 84 = .ok (.iload_n 1, 1) := by decide +kernel
theorem dX3_oilFor_85 : decode cX3_oilFor 85 = .ok (.if_icmp .ge 15, 3) := by decide +kernel
theorem dX3_oilFor_88 : decode cX3_oilFor 88 = .ok (.aload_n 0, 1) := by decide +kernel
theorem dX3_oilFor_89 : decode cX3_oilFor 89 = .ok (.iload 6, 2) := by decide +kernel
theorem dX3_oilFor_91 : decode cX3_oilFor 91 = .ok (.invokevirtual 94, 3) := by decide +kernel
theorem dX3_oilFor_94 : decode cX3_oilFor 94 = .ok (.ifCond .le 6, 3) := by decide +kernel
theorem dX3_oilFor_97 : decode cX3_oilFor 97 = .ok (.iinc 5 1, 3) := by decide +kernel
theorem dX3_oilFor_100 : decode cX3_oilFor 100 = .ok (.iinc 6 1, 3) := by decide +kernel
theorem dX3_oilFor_103 : decode cX3_oilFor 103 = .ok (.goto (-48), 3) := by decide +kernel
theorem dX3_oilFor_106 : decode cX3_oilFor 106 = .ok (.iload_n 2, 1) := by decide +kernel
theorem dX3_oilFor_107 : decode cX3_oilFor 107 = .ok (.aload_n 0, 1) := by decide +kernel
theorem dX3_oilFor_108 : decode cX3_oilFor 108 = .ok (.iload_n 1, 1) := by decide +kernel
theorem dX3_oilFor_109 : decode cX3_oilFor 109 = .ok (.invokevirtual 94, 3) := by decide +kernel
theorem dX3_oilFor_112 : decode cX3_oilFor 112 = .ok (.imul, 1) := by decide +kernel
theorem dX3_oilFor_113 : decode cX3_oilFor 113 = .ok (.iload_n 3, 1) := by decide +kernel
theorem dX3_oilFor_114 : decode cX3_oilFor 114 = .ok (.idiv, 1) := by decide +kernel
theorem dX3_oilFor_115 : decode cX3_oilFor 115 = .ok (.iload 5, 2) := by decide +kernel
theorem dX3_oilFor_117 : decode cX3_oilFor 117 = .ok (.iload 4, 2) := by decide +kernel
theorem dX3_oilFor_119 : decode cX3_oilFor 119 = .ok (.if_icmp .ge 7, 3) := by decide +kernel
theorem dX3_oilFor_122 : decode cX3_oilFor 122 = .ok (.iconst 1, 1) := by decide +kernel
theorem dX3_oilFor_123 : decode cX3_oilFor 123 = .ok (.goto 4, 3) := by decide +kernel
theorem dX3_oilFor_126 : decode cX3_oilFor 126 = .ok (.iconst 0, 1) := by decide +kernel
theorem dX3_oilFor_127 : decode cX3_oilFor 127 = .ok (.iadd, 1) := by decide +kernel
theorem dX3_oilFor_128 : decode cX3_oilFor 128 = .ok (.ireturn, 1) := by decide +kernel
theorem dX3_outcomeOfTurns_0 : decode cX3_outcomeOfTurns 0 = .ok (.aload_n 0, 1) := by decide +kernel
theorem dX3_outcomeOfTurns_1 : decode cX3_outcomeOfTurns 1 = .ok (.iconst 0, 1) := by decide +kernel
theorem dX3_outcomeOfTurns_2 : decode cX3_outcomeOfTurns 2 = .ok (.iload_n 1, 1) := by decide +kernel
theorem dX3_outcomeOfTurns_3 : decode cX3_outcomeOfTurns 3 = .ok (.iload_n 2, 1) := by decide +kernel
theorem dX3_outcomeOfTurns_4 : decode cX3_outcomeOfTurns 4 = .ok (.iconst 0, 1) := by decide +kernel
theorem dX3_outcomeOfTurns_5 : decode cX3_outcomeOfTurns 5 = .ok (.iconst 0, 1) := by decide +kernel
theorem dX3_outcomeOfTurns_6 : decode cX3_outcomeOfTurns 6 = .ok (.invokevirtual 97, 3) := by decide +kernel
theorem dX3_outcomeOfTurns_9 : decode cX3_outcomeOfTurns 9 = .ok (.ireturn, 1) := by decide +kernel
theorem dX3_outcome_0 : decode cX3_outcome 0 = .ok (.iload_n 1, 1) := by decide +kernel
theorem dX3_outcome_1 : decode cX3_outcome 1 = .ok (.iload_n 2, 1) := by decide +kernel
theorem dX3_outcome_2 : decode cX3_outcome 2 = .ok (.if_icmp .lt 13, 3) := by decide +kernel
theorem dX3_outcome_5 : decode cX3_outcome 5 = .ok (.aload_n 0, 1) := by decide +kernel
theorem dX3_outcome_6 : decode cX3_outcome 6 = .ok (.iload_n 3, 1) := by decide +kernel
theorem dX3_outcome_7 : decode cX3_outcome 7 = .ok (.iload 4, 2) := by decide +kernel
theorem dX3_outcome_9 : decode cX3_outcome 9 = .ok (.iload 5, 2) := by decide +kernel
theorem dX3_outcome_11 : decode cX3_outcome 11 = .ok (.invokevirtual 101, 3) := by decide +kernel
theorem dX3_outcome_14 : decode cX3_outcome 14 = .ok (.ireturn, 1) := by decide +kernel
theorem dX3_outcome_15 : decode cX3_outcome 15 = .ok (.aload_n 0, 1) := by decide +kernel
theorem dX3_outcome_16 : decode cX3_outcome 16 = .ok (.iload_n 1, 1) := by decide +kernel
theorem dX3_outcome_17 : decode cX3_outcome 17 = .ok (.iconst 1, 1) := by decide +kernel
theorem dX3_outcome_18 : decode cX3_outcome 18 = .ok (.iadd, 1) := by decide +kernel
theorem dX3_outcome_19 : decode cX3_outcome 19 = .ok (.iload_n 2, 1) := by decide +kernel
theorem dX3_outcome_20 : decode cX3_outcome 20 = .ok (.iload_n 3, 1) := by decide +kernel
theorem dX3_outcome_21 : decode cX3_outcome 21 = .ok (.iload 4, 2) := by decide +kernel
theorem dX3_outcome_23 : decode cX3_outcome 23 = .ok (.iload 5, 2) := by decide +kernel
theorem dX3_outcome_25 : decode cX3_outcome 25 = .ok (.invokevirtual 97, 3) := by decide +kernel
theorem dX3_outcome_28 : decode cX3_outcome 28 = .ok (.istore 6, 2) := by decide +kernel
theorem dX3_outcome_30 : decode cX3_outcome 30 = .ok (.iload_n 1, 1) := by decide +kernel
theorem dX3_outcome_31 : decode cX3_outcome 31 = .ok (.iconst 2, 1) := by decide +kernel
theorem dX3_outcome_32 : decode cX3_outcome 32 = .ok (.irem, 1) := by decide +kernel
theorem dX3_outcome_33 : decode cX3_outcome 33 = .ok (.ifCond .ne 30, 3) := by decide +kernel
theorem dX3_outcome_36 : decode cX3_outcome 36 = .ok (.iload 6, 2) := by decide +kernel
theorem dX3_outcome_38 : decode cX3_outcome 38 = .ok (.aload_n 0, 1) := by decide +kernel
theorem dX3_outcome_39 : decode cX3_outcome 39 = .ok (.iload_n 1, 1) := by decide +kernel
theorem dX3_outcome_40 : decode cX3_outcome 40 = .ok (.iconst 1, 1) := by decide +kernel
theorem dX3_outcome_41 : decode cX3_outcome 41 = .ok (.iadd, 1) := by decide +kernel
theorem dX3_outcome_42 : decode cX3_outcome 42 = .ok (.iload_n 2, 1) := by decide +kernel
theorem dX3_outcome_43 : decode cX3_outcome 43 = .ok (.iload_n 3, 1) := by decide +kernel
theorem dX3_outcome_44 : decode cX3_outcome 44 = .ok (.iload 4, 2) := by decide +kernel
theorem dX3_outcome_46 : decode cX3_outcome 46 = .ok (.iload 5, 2) := by decide +kernel
theorem dX3_outcome_48 : decode cX3_outcome 48 = .ok (.ifCond .ne 7, 3) := by decide +kernel
theorem dX3_outcome_51 : decode cX3_outcome 51 = .ok (.iconst 1, 1) := by decide +kernel
theorem dX3_outcome_52 : decode cX3_outcome 52 = .ok (.goto 4, 3) := by decide +kernel
theorem dX3_outcome_55 : decode cX3_outcome 55 = .ok (.iconst 0, 1) := by decide +kernel
theorem dX3_outcome_56 : decode cX3_outcome 56 = .ok (.invokevirtual 97, 3) := by decide +kernel
theorem dX3_outcome_59 : decode cX3_outcome 59 = .ok (.invokestatic 105, 3) := by decide +kernel
theorem dX3_outcome_62 : decode cX3_outcome 62 = .ok (.ireturn, 1) := by decide +kernel
theorem dX3_outcome_63 : decode cX3_outcome 63 = .ok (.iload 6, 2) := by decide +kernel
theorem dX3_outcome_65 : decode cX3_outcome 65 = .ok (.aload_n 0, 1) := by decide +kernel
theorem dX3_outcome_66 : decode cX3_outcome 66 = .ok (.iload_n 1, 1) := by decide +kernel
theorem dX3_outcome_67 : decode cX3_outcome 67 = .ok (.iconst 1, 1) := by decide +kernel
theorem dX3_outcome_68 : decode cX3_outcome 68 = .ok (.iadd, 1) := by decide +kernel
theorem dX3_outcome_69 : decode cX3_outcome 69 = .ok (.iload_n 2, 1) := by decide +kernel
theorem dX3_outcome_70 : decode cX3_outcome 70 = .ok (.iload_n 3, 1) := by decide +kernel
theorem dX3_outcome_71 : decode cX3_outcome 71 = .ok (.iload 4, 2) := by decide +kernel
theorem dX3_outcome_73 : decode cX3_outcome 73 = .ok (.iconst 2, 1) := by decide +kernel
theorem dX3_outcome_74 : decode cX3_outcome 74 = .ok (.iadd, 1) := by decide +kernel
theorem dX3_outcome_75 : decode cX3_outcome 75 = .ok (.iload 5, 2) := by decide +kernel
theorem dX3_outcome_77 : decode cX3_outcome 77 = .ok (.invokevirtual 97, 3) := by decide +kernel
theorem dX3_outcome_80 : decode cX3_outcome 80 = .ok (.invokestatic 111, 3) := by decide +kernel
theorem dX3_outcome_83 : decode cX3_outcome 83 = .ok (.ireturn, 1) := by decide +kernel
theorem dX3_loudBehindTurns_0 : decode cX3_loudBehindTurns 0 = .ok (.aload_n 0, 1) := by decide +kernel
theorem dX3_loudBehindTurns_1 : decode cX3_loudBehindTurns 1 = .ok (.getfield 12, 3) := by decide +kernel
theorem dX3_loudBehindTurns_4 : decode cX3_loudBehindTurns 4 = .ok (.aload_n 0, 1) := by decide +kernel
theorem dX3_loudBehindTurns_5 : decode cX3_loudBehindTurns 5 = .ok (.getfield 22, 3) := by decide +kernel
theorem dX3_loudBehindTurns_8 : decode cX3_loudBehindTurns 8 = .ok (.invokevirtual 25, 3) := by decide +kernel
theorem dX3_loudBehindTurns_11 : decode cX3_loudBehindTurns 11 = .ok (.aload_n 0, 1) := by decide +kernel
theorem dX3_loudBehindTurns_12 : decode cX3_loudBehindTurns 12 = .ok (.getfield 12, 3) := by decide +kernel
theorem dX3_loudBehindTurns_15 : decode cX3_loudBehindTurns 15 = .ok (.iload_n 2, 1) := by decide +kernel
theorem dX3_loudBehindTurns_16 : decode cX3_loudBehindTurns 16 = .ok (.invokevirtual 114, 3) := by decide +kernel
theorem dX3_loudBehindTurns_19 : decode cX3_loudBehindTurns 19 = .ok (.iload_n 3, 1) := by decide +kernel
theorem dX3_loudBehindTurns_20 : decode cX3_loudBehindTurns 20 = .ok (.ifCond .eq 18, 3) := by decide +kernel
theorem dX3_loudBehindTurns_23 : decode cX3_loudBehindTurns 23 = .ok (.aload_n 0, 1) := by decide +kernel
theorem dX3_loudBehindTurns_24 : decode cX3_loudBehindTurns 24 = .ok (.getfield 12, 3) := by decide +kernel
theorem dX3_loudBehindTurns_27 : decode cX3_loudBehindTurns 27 = .ok (.aload_n 0, 1) := by decide +kernel
theorem dX3_loudBehindTurns_28 : decode cX3_loudBehindTurns 28 = .ok (.getfield 12, 3) := by decide +kernel
theorem dX3_loudBehindTurns_31 : decode cX3_loudBehindTurns 31 = .ok (.invokevirtual 117, 3) := by decide +kernel
theorem dX3_loudBehindTurns_34 : decode cX3_loudBehindTurns 34 = .ok (.iconst 0, 1) := by decide +kernel
theorem dX3_loudBehindTurns_35 : decode cX3_loudBehindTurns 35 = .ok (.invokevirtual 71, 3) := by decide +kernel
theorem dX3_loudBehindTurns_38 : decode cX3_loudBehindTurns 38 = .ok (.aload_n 0, 1) := by decide +kernel
theorem dX3_loudBehindTurns_39 : decode cX3_loudBehindTurns 39 = .ok (.getfield 12, 3) := by decide +kernel
theorem dX3_loudBehindTurns_42 : decode cX3_loudBehindTurns 42 = .ok (.iload_n 1, 1) := by decide +kernel
theorem dX3_loudBehindTurns_43 : decode cX3_loudBehindTurns 43 = .ok (.invokevirtual 29, 3) := by decide +kernel
theorem dX3_loudBehindTurns_46 : decode cX3_loudBehindTurns 46 = .ok (.aload_n 0, 1) := by decide +kernel
theorem dX3_loudBehindTurns_47 : decode cX3_loudBehindTurns 47 = .ok (.getfield 12, 3) := by decide +kernel
theorem dX3_loudBehindTurns_50 : decode cX3_loudBehindTurns 50 = .ok (.invokevirtual 47, 3) := by decide +kernel
theorem dX3_loudBehindTurns_53 : decode cX3_loudBehindTurns 53 = .ok (.ireturn, 1) := by decide +kernel
theorem dX3_whatFits_0 : decode cX3_whatFits 0 = .ok (.iload_n 2, 1) := by decide +kernel
theorem dX3_whatFits_1 : decode cX3_whatFits 1 = .ok (.tableswitch 59 0 2 #[27, 38, 49], 27) := by decide +kernel
theorem dX3_whatFits_28 : decode cX3_whatFits 28 = .ok (.aload_n 0, 1) := by decide +kernel
theorem dX3_whatFits_29 : decode cX3_whatFits 29 = .ok (.iload_n 1, 1) := by decide +kernel
theorem dX3_whatFits_30 : decode cX3_whatFits 30 = .ok (.aload_n 3, 1) := by decide +kernel
theorem dX3_whatFits_31 : decode cX3_whatFits 31 = .ok (.iload 4, 2) := by decide +kernel
theorem dX3_whatFits_33 : decode cX3_whatFits 33 = .ok (.iload 5, 2) := by decide +kernel
theorem dX3_whatFits_35 : decode cX3_whatFits 35 = .ok (.invokevirtual 120, 3) := by decide +kernel
theorem dX3_whatFits_38 : decode cX3_whatFits 38 = .ok (.ireturn, 1) := by decide +kernel
theorem dX3_whatFits_39 : decode cX3_whatFits 39 = .ok (.aload_n 0, 1) := by decide +kernel
theorem dX3_whatFits_40 : decode cX3_whatFits 40 = .ok (.iload_n 1, 1) := by decide +kernel
theorem dX3_whatFits_41 : decode cX3_whatFits 41 = .ok (.aload_n 3, 1) := by decide +kernel
theorem dX3_whatFits_42 : decode cX3_whatFits 42 = .ok (.iload 4, 2) := by decide +kernel
theorem dX3_whatFits_44 : decode cX3_whatFits 44 = .ok (.iload 5, 2) := by decide +kernel
theorem dX3_whatFits_46 : decode cX3_whatFits 46 = .ok (.invokevirtual 124, 3) := by decide +kernel
theorem dX3_whatFits_49 : decode cX3_whatFits 49 = .ok (.ireturn, 1) := by decide +kernel
theorem dX3_whatFits_50 : decode cX3_whatFits 50 = .ok (.aload_n 0, 1) := by decide +kernel
theorem dX3_whatFits_51 : decode cX3_whatFits 51 = .ok (.aload_n 3, 1) := by decide +kernel
theorem dX3_whatFits_52 : decode cX3_whatFits 52 = .ok (.iload 4, 2) := by decide +kernel
theorem dX3_whatFits_54 : decode cX3_whatFits 54 = .ok (.iload 5, 2) := by decide +kernel
theorem dX3_whatFits_56 : decode cX3_whatFits 56 = .ok (.invokevirtual 127, 3) := by decide +kernel
theorem dX3_whatFits_59 : decode cX3_whatFits 59 = .ok (.ireturn, 1) := by decide +kernel
theorem dX3_whatFits_60 : decode cX3_whatFits 60 = .ok (.aload_n 0, 1) := by decide +kernel
theorem dX3_whatFits_61 : decode cX3_whatFits 61 = .ok (.iload_n 2, 1) := by decide +kernel
theorem dX3_whatFits_62 : decode cX3_whatFits 62 = .ok (.aload_n 3, 1) := by decide +kernel
theorem dX3_whatFits_63 : decode cX3_whatFits 63 = .ok (.iload 4, 2) := by decide +kernel
theorem dX3_whatFits_65 : decode cX3_whatFits 65 = .ok (.iload 5, 2) := by decide +kernel
theorem dX3_whatFits_67 : decode cX3_whatFits 67 = .ok (.invokevirtual 131, 3) := by decide +kernel
theorem dX3_whatFits_70 : decode cX3_whatFits 70 = .ok (.ireturn, 1) := by decide +kernel
theorem dX3_kindsThatFit_0 : decode cX3_kindsThatFit 0 = .ok (.iconst 0, 1) := by decide +kernel
theorem dX3_kindsThatFit_1 : decode cX3_kindsThatFit 1 = .ok (.istore 5, 2) := by decide +kernel
theorem dX3_kindsThatFit_3 : decode cX3_kindsThatFit 3 = .ok (.iconst 1, 1) := by decide +kernel
theorem dX3_kindsThatFit_4 : decode cX3_kindsThatFit 4 = .ok (.istore 6, 2) := by decide +kernel
theorem dX3_kindsThatFit_6 : decode cX3_kindsThatFit 6 = .ok (.iload 6, 2) := by decide +kernel
theorem dX3_kindsThatFit_8 : decode cX3_kindsThatFit 8 = .ok (.iconst 5, 1) := by decide +kernel
theorem dX3_kindsThatFit_9 : decode cX3_kindsThatFit 9 = .ok (.if_icmp .gt 51, 3) := by decide +kernel
theorem dX3_kindsThatFit_12 : decode cX3_kindsThatFit 12 = .ok (.aload_n 0, 1) := by decide +kernel
theorem dX3_kindsThatFit_13 : decode cX3_kindsThatFit 13 = .ok (.getfield 12, 3) := by decide +kernel
theorem dX3_kindsThatFit_16 : decode cX3_kindsThatFit 16 = .ok (.aload_n 0, 1) := by decide +kernel
theorem dX3_kindsThatFit_17 : decode cX3_kindsThatFit 17 = .ok (.getfield 22, 3) := by decide +kernel
theorem dX3_kindsThatFit_20 : decode cX3_kindsThatFit 20 = .ok (.invokevirtual 25, 3) := by decide +kernel
theorem dX3_kindsThatFit_23 : decode cX3_kindsThatFit 23 = .ok (.aload_n 0, 1) := by decide +kernel
theorem dX3_kindsThatFit_24 : decode cX3_kindsThatFit 24 = .ok (.getfield 12, 3) := by decide +kernel
theorem dX3_kindsThatFit_27 : decode cX3_kindsThatFit 27 = .ok (.getfield 134, 3) := by decide +kernel
theorem dX3_kindsThatFit_30 : decode cX3_kindsThatFit 30 = .ok (.iload_n 1, 1) := by decide +kernel
theorem dX3_kindsThatFit_31 : decode cX3_kindsThatFit 31 = .ok (.iload 6, 2) := by decide +kernel
theorem dX3_kindsThatFit_33 : decode cX3_kindsThatFit 33 = .ok (.iastore, 1) := by decide +kernel
theorem dX3_kindsThatFit_34 : decode cX3_kindsThatFit 34 = .ok (.aload_n 0, 1) := by decide +kernel
theorem dX3_kindsThatFit_35 : decode cX3_kindsThatFit 35 = .ok (.aload_n 2, 1) := by decide +kernel
theorem dX3_kindsThatFit_36 : decode cX3_kindsThatFit 36 = .ok (.iload_n 3, 1) := by decide +kernel
theorem dX3_kindsThatFit_37 : decode cX3_kindsThatFit 37 = .ok (.iload 4, 2) := by decide +kernel
theorem dX3_kindsThatFit_39 : decode cX3_kindsThatFit 39 = .ok (.invokevirtual 137, 3) := by decide +kernel
theorem dX3_kindsThatFit_42 : decode cX3_kindsThatFit 42 = .ok (.ifCond .eq 12, 3) := by decide +kernel
theorem dX3_kindsThatFit_45 : decode cX3_kindsThatFit 45 = .ok (.iload 5, 2) := by decide +kernel
theorem dX3_kindsThatFit_47 : decode cX3_kindsThatFit 47 = .ok (.iconst 1, 1) := by decide +kernel
theorem dX3_kindsThatFit_48 : decode cX3_kindsThatFit 48 = .ok (.iload 6, 2) := by decide +kernel
theorem dX3_kindsThatFit_50 : decode cX3_kindsThatFit 50 = .ok (.ishl, 1) := by decide +kernel
theorem dX3_kindsThatFit_51 : decode cX3_kindsThatFit 51 = .ok (.ior, 1) := by decide +kernel
theorem dX3_kindsThatFit_52 : decode cX3_kindsThatFit 52 = .ok (.istore 5, 2) := by decide +kernel
theorem dX3_kindsThatFit_54 : decode cX3_kindsThatFit 54 = .ok (.iinc 6 1, 3) := by decide +kernel
theorem dX3_kindsThatFit_57 : decode cX3_kindsThatFit 57 = .ok (.goto (-51), 3) := by decide +kernel
theorem dX3_kindsThatFit_60 : decode cX3_kindsThatFit 60 = .ok (.iload 5, 2) := by decide +kernel
theorem dX3_kindsThatFit_62 : decode cX3_kindsThatFit 62 = .ok (.ireturn, 1) := by decide +kernel
theorem dX3_tuningsThatFit_0 : decode cX3_tuningsThatFit 0 = .ok (.iconst 0, 1) := by decide +kernel
theorem dX3_tuningsThatFit_1 : decode cX3_tuningsThatFit 1 = .ok (.istore 5, 2) := by decide +kernel
theorem dX3_tuningsThatFit_3 : decode cX3_tuningsThatFit 3 = .ok (.iconst 1, 1) := by decide +kernel
theorem dX3_tuningsThatFit_4 : decode cX3_tuningsThatFit 4 = .ok (.istore 6, 2) := by decide +kernel
theorem dX3_tuningsThatFit_6 : decode cX3_tuningsThatFit 6 = .ok (.iload 6, 2) := by decide +kernel
theorem dX3_tuningsThatFit_8 : decode cX3_tuningsThatFit 8 = .ok (.bipush 9, 2) := by decide +kernel
theorem dX3_tuningsThatFit_10 : decode cX3_tuningsThatFit 10 = .ok (.if_icmp .gt 51, 3) := by decide +kernel
theorem dX3_tuningsThatFit_13 : decode cX3_tuningsThatFit 13 = .ok (.aload_n 0, 1) := by decide +kernel
theorem dX3_tuningsThatFit_14 : decode cX3_tuningsThatFit 14 = .ok (.getfield 12, 3) := by decide +kernel
theorem dX3_tuningsThatFit_17 : decode cX3_tuningsThatFit 17 = .ok (.aload_n 0, 1) := by decide +kernel
theorem dX3_tuningsThatFit_18 : decode cX3_tuningsThatFit 18 = .ok (.getfield 22, 3) := by decide +kernel
theorem dX3_tuningsThatFit_21 : decode cX3_tuningsThatFit 21 = .ok (.invokevirtual 25, 3) := by decide +kernel
theorem dX3_tuningsThatFit_24 : decode cX3_tuningsThatFit 24 = .ok (.aload_n 0, 1) := by decide +kernel
theorem dX3_tuningsThatFit_25 : decode cX3_tuningsThatFit 25 = .ok (.getfield 12, 3) := by decide +kernel
theorem dX3_tuningsThatFit_28 : decode cX3_tuningsThatFit 28 = .ok (.getfield 141, 3) := by decide +kernel
theorem dX3_tuningsThatFit_31 : decode cX3_tuningsThatFit 31 = .ok (.iload_n 1, 1) := by decide +kernel
theorem dX3_tuningsThatFit_32 : decode cX3_tuningsThatFit 32 = .ok (.iload 6, 2) := by decide +kernel
theorem dX3_tuningsThatFit_34 : decode cX3_tuningsThatFit 34 = .ok (.iastore, 1) := by decide +kernel
theorem dX3_tuningsThatFit_35 : decode cX3_tuningsThatFit 35 = .ok (.aload_n 0, 1) := by decide +kernel
theorem dX3_tuningsThatFit_36 : decode cX3_tuningsThatFit 36 = .ok (.aload_n 2, 1) := by decide +kernel
theorem dX3_tuningsThatFit_37 : decode cX3_tuningsThatFit 37 = .ok (.iload_n 3, 1) := by decide +kernel
theorem dX3_tuningsThatFit_38 : decode cX3_tuningsThatFit 38 = .ok (.iload 4, 2) := by decide +kernel
theorem dX3_tuningsThatFit_40 : decode cX3_tuningsThatFit 40 = .ok (.invokevirtual 137, 3) := by decide +kernel
theorem dX3_tuningsThatFit_43 : decode cX3_tuningsThatFit 43 = .ok (.ifCond .eq 12, 3) := by decide +kernel
theorem dX3_tuningsThatFit_46 : decode cX3_tuningsThatFit 46 = .ok (.iload 5, 2) := by decide +kernel
theorem dX3_tuningsThatFit_48 : decode cX3_tuningsThatFit 48 = .ok (.iconst 1, 1) := by decide +kernel
theorem dX3_tuningsThatFit_49 : decode cX3_tuningsThatFit 49 = .ok (.iload 6, 2) := by decide +kernel
theorem dX3_tuningsThatFit_51 : decode cX3_tuningsThatFit 51 = .ok (.ishl, 1) := by decide +kernel
theorem dX3_tuningsThatFit_52 : decode cX3_tuningsThatFit 52 = .ok (.ior, 1) := by decide +kernel
theorem dX3_tuningsThatFit_53 : decode cX3_tuningsThatFit 53 = .ok (.istore 5, 2) := by decide +kernel
theorem dX3_tuningsThatFit_55 : decode cX3_tuningsThatFit 55 = .ok (.iinc 6 1, 3) := by decide +kernel
theorem dX3_tuningsThatFit_58 : decode cX3_tuningsThatFit 58 = .ok (.goto (-52), 3) := by decide +kernel
theorem dX3_tuningsThatFit_61 : decode cX3_tuningsThatFit 61 = .ok (.iload 5, 2) := by decide +kernel
theorem dX3_tuningsThatFit_63 : decode cX3_tuningsThatFit 63 = .ok (.ireturn, 1) := by decide +kernel
theorem dX3_columnsThatFit_0 : decode cX3_columnsThatFit 0 = .ok (.iconst 0, 1) := by decide +kernel
theorem dX3_columnsThatFit_1 : decode cX3_columnsThatFit 1 = .ok (.istore 4, 2) := by decide +kernel
theorem dX3_columnsThatFit_3 : decode cX3_columnsThatFit 3 = .ok (.iconst 0, 1) := by decide +kernel
theorem dX3_columnsThatFit_4 : decode cX3_columnsThatFit 4 = .ok (.istore 5, 2) := by decide +kernel
theorem dX3_columnsThatFit_6 : decode cX3_columnsThatFit 6 = .ok (.iload 5, 2) := by decide +kernel
theorem dX3_columnsThatFit_8 : decode cX3_columnsThatFit 8 = .ok (.aload_n 0, 1) := by decide +kernel
theorem dX3_columnsThatFit_9 : decode cX3_columnsThatFit 9 = .ok (.getfield 22, 3) := by decide +kernel
theorem dX3_columnsThatFit_12 : decode cX3_columnsThatFit 12 = .ok (.getfield 65, 3) := by decide +kernel
theorem dX3_columnsThatFit_15 : decode cX3_columnsThatFit 15 = .ok (.if_icmp .ge 48, 3) := by decide +kernel
theorem dX3_columnsThatFit_18 : decode cX3_columnsThatFit 18 = .ok (.aload_n 0, 1) := by decide +kernel
theorem dX3_columnsThatFit_19 : decode cX3_columnsThatFit 19 = .ok (.getfield 12, 3) := by decide +kernel
theorem dX3_columnsThatFit_22 : decode cX3_columnsThatFit 22 = .ok (.aload_n 0, 1) := by decide +kernel
theorem dX3_columnsThatFit_23 : decode cX3_columnsThatFit 23 = .ok (.getfield 22, 3) := by decide +kernel
theorem dX3_columnsThatFit_26 : decode cX3_columnsThatFit 26 = .ok (.invokevirtual 25, 3) := by decide +kernel
theorem dX3_columnsThatFit_29 : decode cX3_columnsThatFit 29 = .ok (.aload_n 0, 1) := by decide +kernel
theorem dX3_columnsThatFit_30 : decode cX3_columnsThatFit 30 = .ok (.getfield 12, 3) := by decide +kernel
theorem dX3_columnsThatFit_33 : decode cX3_columnsThatFit 33 = .ok (.iload 5, 2) := by decide +kernel
theorem dX3_columnsThatFit_35 : decode cX3_columnsThatFit 35 = .ok (.putfield 54, 3) := by decide +kernel
theorem dX3_columnsThatFit_38 : decode cX3_columnsThatFit 38 = .ok (.aload_n 0, 1) := by decide +kernel
theorem dX3_columnsThatFit_39 : decode cX3_columnsThatFit 39 = .ok (.aload_n 1, 1) := by decide +kernel
theorem dX3_columnsThatFit_40 : decode cX3_columnsThatFit 40 = .ok (.iload_n 2, 1) := by decide +kernel
theorem dX3_columnsThatFit_41 : decode cX3_columnsThatFit 41 = .ok (.iload_n 3, 1) := by decide +kernel
theorem dX3_columnsThatFit_42 : decode cX3_columnsThatFit 42 = .ok (.invokevirtual 137, 3) := by decide +kernel
theorem dX3_columnsThatFit_45 : decode cX3_columnsThatFit 45 = .ok (.ifCond .eq 12, 3) := by decide +kernel
theorem dX3_columnsThatFit_48 : decode cX3_columnsThatFit 48 = .ok (.iload 4, 2) := by decide +kernel
theorem dX3_columnsThatFit_50 : decode cX3_columnsThatFit 50 = .ok (.iconst 1, 1) := by decide +kernel
theorem dX3_columnsThatFit_51 : decode cX3_columnsThatFit 51 = .ok (.iload 5, 2) := by decide +kernel
theorem dX3_columnsThatFit_53 : decode cX3_columnsThatFit 53 = .ok (.ishl, 1) := by decide +kernel
theorem dX3_columnsThatFit_54 : decode cX3_columnsThatFit 54 = .ok (.ior, 1) := by decide +kernel
theorem dX3_columnsThatFit_55 : decode cX3_columnsThatFit 55 = .ok (.istore 4, 2) := by decide +kernel
theorem dX3_columnsThatFit_57 : decode cX3_columnsThatFit 57 = .ok (.iinc 5 1, 3) := by decide +kernel
theorem dX3_columnsThatFit_60 : decode cX3_columnsThatFit 60 = .ok (.goto (-54), 3) := by decide +kernel
theorem dX3_columnsThatFit_63 : decode cX3_columnsThatFit 63 = .ok (.iload 4, 2) := by decide +kernel
theorem dX3_columnsThatFit_65 : decode cX3_columnsThatFit 65 = .ok (.ireturn, 1) := by decide +kernel
theorem dX3_springsThatFit_0 : decode cX3_springsThatFit 0 = .ok (.iconst 0, 1) := by decide +kernel
theorem dX3_springsThatFit_1 : decode cX3_springsThatFit 1 = .ok (.istore 5, 2) := by decide +kernel
theorem dX3_springsThatFit_3 : decode cX3_springsThatFit 3 = .ok (.ldc 64, 2) := by decide +kernel
theorem dX3_springsThatFit_5 : decode cX3_springsThatFit 5 = .ok (.istore 6, 2) := by decide +kernel
theorem dX3_springsThatFit_7 : decode cX3_springsThatFit 7 = .ok (.iconst 0, 1) := by decide +kernel
theorem dX3_springsThatFit_8 : decode cX3_springsThatFit 8 = .ok (.istore 7, 2) := by decide +kernel
theorem dX3_springsThatFit_10 : decode cX3_springsThatFit 10 = .ok (.iload 7, 2) := by decide +kernel
theorem dX3_springsThatFit_12 : decode cX3_springsThatFit 12 = .ok (.bipush 99, 2) := by decide +kernel
theorem dX3_springsThatFit_14 : decode cX3_springsThatFit 14 = .ok (.if_icmp .gt 57, 3) := by decide +kernel
theorem dX3_springsThatFit_17 : decode cX3_springsThatFit 17 = .ok (.aload_n 0, 1) := by decide +kernel
theorem dX3_springsThatFit_18 : decode cX3_springsThatFit 18 = .ok (.getfield 12, 3) := by decide +kernel
theorem dX3_springsThatFit_21 : decode cX3_springsThatFit 21 = .ok (.aload_n 0, 1) := by decide +kernel
theorem dX3_springsThatFit_22 : decode cX3_springsThatFit 22 = .ok (.getfield 22, 3) := by decide +kernel
theorem dX3_springsThatFit_25 : decode cX3_springsThatFit 25 = .ok (.invokevirtual 25, 3) := by decide +kernel
theorem dX3_springsThatFit_28 : decode cX3_springsThatFit 28 = .ok (.aload_n 0, 1) := by decide +kernel
theorem dX3_springsThatFit_29 : decode cX3_springsThatFit 29 = .ok (.getfield 12, 3) := by decide +kernel
theorem dX3_springsThatFit_32 : decode cX3_springsThatFit 32 = .ok (.iload 7, 2) := by decide +kernel
theorem dX3_springsThatFit_34 : decode cX3_springsThatFit 34 = .ok (.putfield 58, 3) := by decide +kernel
theorem dX3_springsThatFit_37 : decode cX3_springsThatFit 37 = .ok (.aload_n 0, 1) := by decide +kernel
theorem dX3_springsThatFit_38 : decode cX3_springsThatFit 38 = .ok (.aload_n 2, 1) := by decide +kernel
theorem dX3_springsThatFit_39 : decode cX3_springsThatFit 39 = .ok (.iload_n 3, 1) := by decide +kernel
theorem dX3_springsThatFit_40 : decode cX3_springsThatFit 40 = .ok (.iload 4, 2) := by decide +kernel
theorem dX3_springsThatFit_42 : decode cX3_springsThatFit 42 = .ok (.invokevirtual 137, 3) := by decide +kernel
theorem dX3_springsThatFit_45 : decode cX3_springsThatFit 45 = .ok (.ifCond .eq 20, 3) := by decide +kernel
theorem dX3_springsThatFit_48 : decode cX3_springsThatFit 48 = .ok (.iload 5, 2) := by decide +kernel
theorem dX3_springsThatFit_50 : decode cX3_springsThatFit 50 = .ok (.ifCond .ne 8, 3) := by decide +kernel
theorem dX3_springsThatFit_53 : decode cX3_springsThatFit 53 = .ok (.iload 7, 2) := by decide +kernel
theorem dX3_springsThatFit_55 : decode cX3_springsThatFit 55 = .ok (.goto 5, 3) := by decide +kernel
theorem dX3_springsThatFit_58 : decode cX3_springsThatFit 58 = .ok (.iload 6, 2) := by decide +kernel
theorem dX3_springsThatFit_60 : decode cX3_springsThatFit 60 = .ok (.istore 6, 2) := by decide +kernel
theorem dX3_springsThatFit_62 : decode cX3_springsThatFit 62 = .ok (.iinc 5 1, 3) := by decide +kernel
theorem dX3_springsThatFit_65 : decode cX3_springsThatFit 65 = .ok (.iinc 7 1, 3) := by decide +kernel
theorem dX3_springsThatFit_68 : decode cX3_springsThatFit 68 = .ok (.goto (-58), 3) := by decide +kernel
theorem dX3_springsThatFit_71 : decode cX3_springsThatFit 71 = .ok (.iload_n 1, 1) := by decide +kernel
theorem dX3_springsThatFit_72 : decode cX3_springsThatFit 72 = .ok (.iconst 3, 1) := by decide +kernel
theorem dX3_springsThatFit_73 : decode cX3_springsThatFit 73 = .ok (.if_icmp .ne 8, 3) := by decide +kernel
theorem dX3_springsThatFit_76 : decode cX3_springsThatFit 76 = .ok (.iload 5, 2) := by decide +kernel
theorem dX3_springsThatFit_78 : decode cX3_springsThatFit 78 = .ok (.goto 5, 3) := by decide +kernel
theorem dX3_springsThatFit_81 : decode cX3_springsThatFit 81 = .ok (.iload 6, 2) := by decide +kernel
theorem dX3_springsThatFit_83 : decode cX3_springsThatFit 83 = .ok (.ireturn, 1) := by decide +kernel
theorem dX3_trialIsHeardAs_0 : decode cX3_trialIsHeardAs 0 = .ok (.iload_n 2, 1) := by decide +kernel
theorem dX3_trialIsHeardAs_1 : decode cX3_trialIsHeardAs 1 = .ok (.istore 4, 2) := by decide +kernel
theorem dX3_trialIsHeardAs_3 : decode cX3_trialIsHeardAs 3 = .ok (.iload 4, 2) := by decide +kernel
theorem dX3_trialIsHeardAs_5 : decode cX3_trialIsHeardAs 5 = .ok (.iload_n 2, 1) := by decide +kernel
theorem dX3_trialIsHeardAs_6 : decode cX3_trialIsHeardAs 6 = .ok (.iload_n 3, 1) := by decide +kernel
theorem dX3_trialIsHeardAs_7 : decode cX3_trialIsHeardAs 7 = .ok (.iadd, 1) := by decide +kernel
theorem dX3_trialIsHeardAs_8 : decode cX3_trialIsHeardAs 8 = .ok (.if_icmp .ge 36, 3) := by decide +kernel
theorem dX3_trialIsHeardAs_11 : decode cX3_trialIsHeardAs 11 = .ok (.aload_n 0, 1) := by decide +kernel
theorem dX3_trialIsHeardAs_12 : decode cX3_trialIsHeardAs 12 = .ok (.getfield 12, 3) := by decide +kernel
theorem dX3_trialIsHeardAs_15 : decode cX3_trialIsHeardAs 15 = .ok (.invokevirtual 61, 3) := by decide +kernel
theorem dX3_trialIsHeardAs_18 : decode cX3_trialIsHeardAs 18 = .ok (.pop, 1) := by decide +kernel
theorem dX3_trialIsHeardAs_19 : decode cX3_trialIsHeardAs 19 = .ok (.aload_n 0, 1) := by decide +kernel
theorem dX3_trialIsHeardAs_20 : decode cX3_trialIsHeardAs 20 = .ok (.getfield 12, 3) := by decide +kernel
theorem dX3_trialIsHeardAs_23 : decode cX3_trialIsHeardAs 23 = .ok (.invokevirtual 47, 3) := by decide +kernel
theorem dX3_trialIsHeardAs_26 : decode cX3_trialIsHeardAs 26 = .ok (.aload_n 1, 1) := by decide +kernel
theorem dX3_trialIsHeardAs_27 : decode cX3_trialIsHeardAs 27 = .ok (.getfield 86, 3) := by decide +kernel
theorem dX3_trialIsHeardAs_30 : decode cX3_trialIsHeardAs 30 = .ok (.iload 4, 2) := by decide +kernel
theorem dX3_trialIsHeardAs_32 : decode cX3_trialIsHeardAs 32 = .ok (.iaload, 1) := by decide +kernel
theorem dX3_trialIsHeardAs_33 : decode cX3_trialIsHeardAs 33 = .ok (.if_icmp .eq 5, 3) := by decide +kernel
theorem dX3_trialIsHeardAs_36 : decode cX3_trialIsHeardAs 36 = .ok (.iconst 0, 1) := by decide +kernel
theorem dX3_trialIsHeardAs_37 : decode cX3_trialIsHeardAs 37 = .ok (.ireturn, 1) := by decide +kernel
theorem dX3_trialIsHeardAs_38 : decode cX3_trialIsHeardAs 38 = .ok (.iinc 4 1, 3) := by decide +kernel
theorem dX3_trialIsHeardAs_41 : decode cX3_trialIsHeardAs 41 = .ok (.goto (-38), 3) := by decide +kernel
theorem dX3_trialIsHeardAs_44 : decode cX3_trialIsHeardAs 44 = .ok (.iconst 1, 1) := by decide +kernel
theorem dX3_trialIsHeardAs_45 : decode cX3_trialIsHeardAs 45 = .ok (.ireturn, 1) := by decide +kernel
theorem dX3_chanceOfRinging_0 : decode cX3_chanceOfRinging 0 = .ok (.aload_n 0, 1) := by decide +kernel
theorem dX3_chanceOfRinging_1 : decode cX3_chanceOfRinging 1 = .ok (.getfield 22, 3) := by decide +kernel
theorem dX3_chanceOfRinging_4 : decode cX3_chanceOfRinging 4 = .ok (.iload_n 1, 1) := by decide +kernel
theorem dX3_chanceOfRinging_5 : decode cX3_chanceOfRinging 5 = .ok (.invokevirtual 144, 3) := by decide +kernel
theorem dX3_chanceOfRinging_8 : decode cX3_chanceOfRinging 8 = .ok (.istore 5, 2) := by decide +kernel
theorem dX3_chanceOfRinging_10 : decode cX3_chanceOfRinging 10 = .ok (.aload_n 0, 1) := by decide +kernel
theorem dX3_chanceOfRinging_11 : decode cX3_chanceOfRinging 11 = .ok (.getfield 18, 3) := by decide +kernel
theorem dX3_chanceOfRinging_14 : decode cX3_chanceOfRinging 14 = .ok (.iconst 0, 1) := by decide +kernel
theorem dX3_chanceOfRinging_15 : decode cX3_chanceOfRinging 15 = .ok (.aaload, 1) := by decide +kernel
theorem dX3_chanceOfRinging_16 : decode cX3_chanceOfRinging 16 = .ok (.aload_n 0, 1) := by decide +kernel
theorem dX3_chanceOfRinging_17 : decode cX3_chanceOfRinging 17 = .ok (.getfield 22, 3) := by decide +kernel
theorem dX3_chanceOfRinging_20 : decode cX3_chanceOfRinging 20 = .ok (.invokevirtual 25, 3) := by decide +kernel
theorem dX3_chanceOfRinging_23 : decode cX3_chanceOfRinging 23 = .ok (.aload_n 0, 1) := by decide +kernel
theorem dX3_chanceOfRinging_24 : decode cX3_chanceOfRinging 24 = .ok (.iconst 0, 1) := by decide +kernel
theorem dX3_chanceOfRinging_25 : decode cX3_chanceOfRinging 25 = .ok (.iload_n 2, 1) := by decide +kernel
theorem dX3_chanceOfRinging_26 : decode cX3_chanceOfRinging 26 = .ok (.iload 5, 2) := by decide +kernel
theorem dX3_chanceOfRinging_28 : decode cX3_chanceOfRinging 28 = .ok (.iload_n 1, 1) := by decide +kernel
theorem dX3_chanceOfRinging_29 : decode cX3_chanceOfRinging 29 = .ok (.iload_n 3, 1) := by decide +kernel
theorem dX3_chanceOfRinging_30 : decode cX3_chanceOfRinging 30 = .ok (.invokevirtual 147, 3) := by decide +kernel
theorem dX3_chanceOfRinging_33 : decode cX3_chanceOfRinging 33 = .ok (.lstore 6, 2) := by decide +kernel
theorem dX3_chanceOfRinging_35 : decode cX3_chanceOfRinging 35 = .ok (.iload 5, 2) := by decide +kernel
theorem dX3_chanceOfRinging_37 : decode cX3_chanceOfRinging 37 = .ok (.invokestatic 151, 3) := by decide +kernel
theorem dX3_chanceOfRinging_40 : decode cX3_chanceOfRinging 40 = .ok (.invokestatic 156, 3) := by decide +kernel
theorem dX3_chanceOfRinging_43 : decode cX3_chanceOfRinging 43 = .ok (.lstore 8, 2) := by decide +kernel
theorem dX3_chanceOfRinging_45 : decode cX3_chanceOfRinging 45 = .ok (.lload 6, 2) := by decide +kernel
theorem dX3_chanceOfRinging_47 : decode cX3_chanceOfRinging 47 = .ok (.lload 8, 2) := by decide +kernel
theorem dX3_chanceOfRinging_49 : decode cX3_chanceOfRinging 49 = .ok (.invokestatic 160, 3) := by decide +kernel
theorem dX3_chanceOfRinging_52 : decode cX3_chanceOfRinging 52 = .ok (.lstore 10, 2) := by decide +kernel
theorem dX3_chanceOfRinging_54 : decode cX3_chanceOfRinging 54 = .ok (.lload 10, 2) := by decide +kernel
theorem dX3_chanceOfRinging_56 : decode cX3_chanceOfRinging 56 = .ok (.lconst 0, 1) := by decide +kernel
theorem dX3_chanceOfRinging_57 : decode cX3_chanceOfRinging 57 = .ok (.lcmp, 1) := by decide +kernel
theorem dX3_chanceOfRinging_58 : decode cX3_chanceOfRinging 58 = .ok (.ifCond .ne 5, 3) := by decide +kernel
theorem dX3_chanceOfRinging_61 : decode cX3_chanceOfRinging 61 = .ok (.lconst 0, 1) := by decide +kernel
theorem dX3_chanceOfRinging_62 : decode cX3_chanceOfRinging 62 = .ok (.lreturn, 1) := by decide +kernel
theorem dX3_chanceOfRinging_63 : decode cX3_chanceOfRinging 63 = .ok (.iload 4, 2) := by decide +kernel
theorem dX3_chanceOfRinging_65 : decode cX3_chanceOfRinging 65 = .ok (.ifCond .ne 11, 3) := by decide +kernel
theorem dX3_chanceOfRinging_68 : decode cX3_chanceOfRinging 68 = .ok (.lload 6, 2) := by decide +kernel
theorem dX3_chanceOfRinging_70 : decode cX3_chanceOfRinging 70 = .ok (.lload 10, 2) := by decide +kernel
theorem dX3_chanceOfRinging_72 : decode cX3_chanceOfRinging 72 = .ok (.ldiv, 1) := by decide +kernel
theorem dX3_chanceOfRinging_73 : decode cX3_chanceOfRinging 73 = .ok (.goto 8, 3) := by decide +kernel
theorem dX3_chanceOfRinging_76 : decode cX3_chanceOfRinging 76 = .ok (.lload 8, 2) := by decide +kernel
theorem dX3_chanceOfRinging_78 : decode cX3_chanceOfRinging 78 = .ok (.lload 10, 2) := by decide +kernel
theorem dX3_chanceOfRinging_80 : decode cX3_chanceOfRinging 80 = .ok (.ldiv, 1) := by decide +kernel
theorem dX3_chanceOfRinging_81 : decode cX3_chanceOfRinging 81 = .ok (.lreturn, 1) := by decide +kernel
theorem dX3_weightOfRinging_0 : decode cX3_weightOfRinging 0 = .ok (.aload_n 0, 1) := by decide +kernel
theorem dX3_weightOfRinging_1 : decode cX3_weightOfRinging 1 = .ok (.getfield 18, 3) := by decide +kernel
theorem dX3_weightOfRinging_4 : decode cX3_weightOfRinging 4 = .ok (.iload_n 1, 1) := by decide +kernel
theorem dX3_weightOfRinging_5 : decode cX3_weightOfRinging 5 = .ok (.aaload, 1) := by decide +kernel
theorem dX3_weightOfRinging_6 : decode cX3_weightOfRinging 6 = .ok (.astore 6, 2) := by decide +kernel
theorem dX3_weightOfRinging_8 : decode cX3_weightOfRinging 8 = .ok (.iload_n 2, 1) := by decide +kernel
theorem dX3_weightOfRinging_9 : decode cX3_weightOfRinging 9 = .ok (.istore 7, 2) := by decide +kernel
theorem dX3_weightOfRinging_11 : decode cX3_weightOfRinging 11 = .ok (.iload 7, 2) := by decide +kernel
theorem dX3_weightOfRinging_13 : decode cX3_weightOfRinging 13 = .ok (.ifCond .le 24, 3) := by decide +kernel
theorem dX3_weightOfRinging_16 : decode cX3_weightOfRinging 16 = .ok (.aload 6, 2) := by decide +kernel
theorem dX3_weightOfRinging_18 : decode cX3_weightOfRinging 18 = .ok (.iload_n 3, 1) := by decide +kernel
theorem dX3_weightOfRinging_19 : decode cX3_weightOfRinging 19 = .ok (.invokevirtual 164, 3) := by decide +kernel
theorem dX3_weightOfRinging_22 : decode cX3_weightOfRinging 22 = .ok (.ifCond .ne 15, 3) := by decide +kernel
theorem dX3_weightOfRinging_25 : decode cX3_weightOfRinging 25 = .ok (.aload 6, 2) := by decide +kernel
theorem dX3_weightOfRinging_27 : decode cX3_weightOfRinging 27 = .ok (.invokevirtual 61, 3) := by decide +kernel
theorem dX3_weightOfRinging_30 : decode cX3_weightOfRinging 30 = .ok (.pop, 1) := by decide +kernel
theorem dX3_weightOfRinging_31 : decode cX3_weightOfRinging 31 = .ok (.iinc 7 (-1), 3) := by decide +kernel
theorem dX3_weightOfRinging_34 : decode cX3_weightOfRinging 34 = .ok (.goto (-23), 3) := by decide +kernel
theorem dX3_weightOfRinging_37 : decode cX3_weightOfRinging 37 = .ok (.iload 7, 2) := by decide +kernel
theorem dX3_weightOfRinging_39 : decode cX3_weightOfRinging 39 = .ok (.ifCond .eq 9, 3) := by decide +kernel
theorem dX3_weightOfRinging_42 : decode cX3_weightOfRinging 42 = .ok (.iload_n 1, 1) := by decide +kernel
theorem dX3_weightOfRinging_43 : decode cX3_weightOfRinging 43 = .ok (.bipush 12, 2) := by decide +kernel
theorem dX3_weightOfRinging_45 : decode cX3_weightOfRinging 45 = .ok (.if_icmp .lt 26, 3) := by decide +kernel
theorem dX3_weightOfRinging_48 : decode cX3_weightOfRinging 48 = .ok (.aload 6, 2) := by decide +kernel
theorem dX3_weightOfRinging_50 : decode cX3_weightOfRinging 50 = .ok (.getfield 36, 3) := by decide +kernel
theorem dX3_weightOfRinging_53 : decode cX3_weightOfRinging 53 = .ok (.iload 4, 2) := by decide +kernel
theorem dX3_weightOfRinging_55 : decode cX3_weightOfRinging 55 = .ok (.iaload, 1) := by decide +kernel
theorem dX3_weightOfRinging_56 : decode cX3_weightOfRinging 56 = .ok (.ifCond .le 13, 3) := by decide +kernel
theorem dX3_weightOfRinging_59 : decode cX3_weightOfRinging 59 = .ok (.iload_n 3, 1) := by decide +kernel
theorem dX3_weightOfRinging_60 : decode cX3_weightOfRinging 60 = .ok (.invokestatic 151, 3) := by decide +kernel
theorem dX3_weightOfRinging_63 : decode cX3_weightOfRinging 63 = .ok (.invokestatic 156, 3) := by decide +kernel
theorem dX3_weightOfRinging_66 : decode cX3_weightOfRinging 66 = .ok (.goto 4, 3) := by decide +kernel
theorem dX3_weightOfRinging_69 : decode cX3_weightOfRinging 69 = .ok (.lconst 0, 1) := by decide +kernel
theorem dX3_weightOfRinging_70 : decode cX3_weightOfRinging 70 = .ok (.lreturn, 1) := by decide +kernel
theorem dX3_weightOfRinging_71 : decode cX3_weightOfRinging 71 = .ok (.aload 6, 2) := by decide +kernel
theorem dX3_weightOfRinging_73 : decode cX3_weightOfRinging 73 = .ok (.invokevirtual 117, 3) := by decide +kernel
theorem dX3_weightOfRinging_76 : decode cX3_weightOfRinging 76 = .ok (.istore 8, 2) := by decide +kernel
theorem dX3_weightOfRinging_78 : decode cX3_weightOfRinging 78 = .ok (.iload_n 3, 1) := by decide +kernel
theorem dX3_weightOfRinging_79 : decode cX3_weightOfRinging 79 = .ok (.iconst 1, 1) := by decide +kernel
theorem dX3_weightOfRinging_80 : decode cX3_weightOfRinging 80 = .ok (.iload 8, 2) := by decide +kernel
theorem dX3_weightOfRinging_82 : decode cX3_weightOfRinging 82 = .ok (.ishl, 1) := by decide +kernel
theorem dX3_weightOfRinging_83 : decode cX3_weightOfRinging 83 = .ok (.iconst (-1), 1) := by decide +kernel
theorem dX3_weightOfRinging_84 : decode cX3_weightOfRinging 84 = .ok (.ixor, 1) := by decide +kernel
theorem dX3_weightOfRinging_85 : decode cX3_weightOfRinging 85 = .ok (.iand, 1) := by decide +kernel
theorem dX3_weightOfRinging_86 : decode cX3_weightOfRinging 86 = .ok (.istore 9, 2) := by decide +kernel
theorem dX3_weightOfRinging_88 : decode cX3_weightOfRinging 88 = .ok (.aload_n 0, 1) := by decide +kernel
theorem dX3_weightOfRinging_89 : decode cX3_weightOfRinging 89 = .ok (.getfield 18, 3) := by decide +kernel
theorem dX3_weightOfRinging_92 : decode cX3_weightOfRinging 92 = .ok (.iload_n 1, 1) := by decide +kernel
theorem dX3_weightOfRinging_93 : decode cX3_weightOfRinging 93 = .ok (.iconst 1, 1) := by decide +kernel
theorem dX3_weightOfRinging_94 : decode cX3_weightOfRinging 94 = .ok (.iadd, 1) := by decide +kernel
theorem dX3_weightOfRinging_95 : decode cX3_weightOfRinging 95 = .ok (.aaload, 1) := by decide +kernel
theorem dX3_weightOfRinging_96 : decode cX3_weightOfRinging 96 = .ok (.astore 10, 2) := by decide +kernel
theorem dX3_weightOfRinging_98 : decode cX3_weightOfRinging 98 = .ok (.lconst 0, 1) := by decide +kernel
theorem dX3_weightOfRinging_99 : decode cX3_weightOfRinging 99 = .ok (.lstore 11, 2) := by decide +kernel
theorem dX3_weightOfRinging_101 : decode cX3_weightOfRinging 101 = .ok (.iload 5, 2) := by decide +kernel
theorem dX3_weightOfRinging_103 : decode cX3_weightOfRinging 103 = .ok (.bipush 10, 2) := by decide +kernel
theorem dX3_weightOfRinging_105 : decode cX3_weightOfRinging 105 = .ok (.if_icmp .ge 37, 3) := by decide +kernel
theorem dX3_weightOfRinging_108 : decode cX3_weightOfRinging 108 = .ok (.aload 10, 2) := by decide +kernel
theorem dX3_weightOfRinging_110 : decode cX3_weightOfRinging 110 = .ok (.aload 6, 2) := by decide +kernel
theorem dX3_weightOfRinging_112 : decode cX3_weightOfRinging 112 = .ok (.invokevirtual 25, 3) := by decide +kernel
theorem dX3_weightOfRinging_115 : decode cX3_weightOfRinging 115 = .ok (.lload 11, 2) := by decide +kernel
theorem dX3_weightOfRinging_117 : decode cX3_weightOfRinging 117 = .ok (.bipush 10, 2) := by decide +kernel
theorem dX3_weightOfRinging_119 : decode cX3_weightOfRinging 119 = .ok (.iload 5, 2) := by decide +kernel
theorem dX3_weightOfRinging_121 : decode cX3_weightOfRinging 121 = .ok (.isub, 1) := by decide +kernel
theorem dX3_weightOfRinging_122 : decode cX3_weightOfRinging 122 = .ok (.i2l, 1) := by decide +kernel
theorem dX3_weightOfRinging_123 : decode cX3_weightOfRinging 123 = .ok (.aload_n 0, 1) := by decide +kernel
theorem dX3_weightOfRinging_124 : decode cX3_weightOfRinging 124 = .ok (.iload_n 1, 1) := by decide +kernel
theorem dX3_weightOfRinging_125 : decode cX3_weightOfRinging 125 = .ok (.iconst 1, 1) := by decide +kernel
theorem dX3_weightOfRinging_126 : decode cX3_weightOfRinging 126 = .ok (.iadd, 1) := by decide +kernel
theorem dX3_weightOfRinging_127 : decode cX3_weightOfRinging 127 = .ok (.iload 7, 2) := by decide +kernel
theorem dX3_weightOfRinging_129 : decode cX3_weightOfRinging 129 = .ok (.iload 9, 2) := by decide +kernel
theorem dX3_weightOfRinging_131 : decode cX3_weightOfRinging 131 = .ok (.iload 4, 2) := by decide +kernel
theorem dX3_weightOfRinging_133 : decode cX3_weightOfRinging 133 = .ok (.iload 5, 2) := by decide +kernel
theorem dX3_weightOfRinging_135 : decode cX3_weightOfRinging 135 = .ok (.invokevirtual 147, 3) := by decide +kernel
theorem dX3_weightOfRinging_138 : decode cX3_weightOfRinging 138 = .ok (.lmul, 1) := by decide +kernel
theorem dX3_weightOfRinging_139 : decode cX3_weightOfRinging 139 = .ok (.ladd, 1) := by decide +kernel
theorem dX3_weightOfRinging_140 : decode cX3_weightOfRinging 140 = .ok (.lstore 11, 2) := by decide +kernel
theorem dX3_weightOfRinging_142 : decode cX3_weightOfRinging 142 = .ok (.iload 5, 2) := by decide +kernel
theorem dX3_weightOfRinging_144 : decode cX3_weightOfRinging 144 = .ok (.ifCond .le 43, 3) := by decide +kernel
theorem dX3_weightOfRinging_147 : decode cX3_weightOfRinging 147 = .ok (.aload 10, 2) := by decide +kernel
theorem dX3_weightOfRinging_149 : decode cX3_weightOfRinging 149 = .ok (.aload 6, 2) := by decide +kernel
theorem dX3_weightOfRinging_151 : decode cX3_weightOfRinging 151 = .ok (.invokevirtual 25, 3) := by decide +kernel
theorem dX3_weightOfRinging_154 : decode cX3_weightOfRinging 154 = .ok (.aload 10, 2) := by decide +kernel
theorem dX3_weightOfRinging_156 : decode cX3_weightOfRinging 156 = .ok (.iload 8, 2) := by decide +kernel
theorem dX3_weightOfRinging_158 : decode cX3_weightOfRinging 158 = .ok (.iload 4, 2) := by decide +kernel
theorem dX3_weightOfRinging_160 : decode cX3_weightOfRinging 160 = .ok (.invokevirtual 71, 3) := by decide +kernel
theorem dX3_weightOfRinging_163 : decode cX3_weightOfRinging 163 = .ok (.lload 11, 2) := by decide +kernel
theorem dX3_weightOfRinging_165 : decode cX3_weightOfRinging 165 = .ok (.iload 5, 2) := by decide +kernel
theorem dX3_weightOfRinging_167 : decode cX3_weightOfRinging 167 = .ok (.i2l, 1) := by decide +kernel
theorem dX3_weightOfRinging_168 : decode cX3_weightOfRinging 168 = .ok (.aload_n 0, 1) := by decide +kernel
theorem dX3_weightOfRinging_169 : decode cX3_weightOfRinging 169 = .ok (.iload_n 1, 1) := by decide +kernel
theorem dX3_weightOfRinging_170 : decode cX3_weightOfRinging 170 = .ok (.iconst 1, 1) := by decide +kernel
theorem dX3_weightOfRinging_171 : decode cX3_weightOfRinging 171 = .ok (.iadd, 1) := by decide +kernel
theorem dX3_weightOfRinging_172 : decode cX3_weightOfRinging 172 = .ok (.iload 7, 2) := by decide +kernel
theorem dX3_weightOfRinging_174 : decode cX3_weightOfRinging 174 = .ok (.iload 9, 2) := by decide +kernel
theorem dX3_weightOfRinging_176 : decode cX3_weightOfRinging 176 = .ok (.iload 4, 2) := by decide +kernel
theorem dX3_weightOfRinging_178 : decode cX3_weightOfRinging 178 = .ok (.iload 5, 2) := by decide +kernel
theorem dX3_weightOfRinging_180 : decode cX3_weightOfRinging 180 = .ok (.invokevirtual 147, 3) := by decide +kernel
theorem dX3_weightOfRinging_183 : decode cX3_weightOfRinging 183 = .ok (.lmul, 1) := by decide +kernel
theorem dX3_weightOfRinging_184 : decode cX3_weightOfRinging 184 = .ok (.ladd, 1) := by decide +kernel
theorem dX3_weightOfRinging_185 : decode cX3_weightOfRinging 185 = .ok (.lstore 11, 2) := by decide +kernel
theorem dX3_weightOfRinging_187 : decode cX3_weightOfRinging 187 = .ok (.lload 11, 2) := by decide +kernel
theorem dX3_weightOfRinging_189 : decode cX3_weightOfRinging 189 = .ok (.lreturn, 1) := by decide +kernel
theorem dX3_tenToThe_0 : decode cX3_tenToThe 0 = .ok (.lconst 1, 1) := by decide +kernel
theorem dX3_tenToThe_1 : decode cX3_tenToThe 1 = .ok (.lstore_n 1, 1) := by decide +kernel
theorem dX3_tenToThe_2 : decode cX3_tenToThe 2 = .ok (.iconst 0, 1) := by decide +kernel
theorem dX3_tenToThe_3 : decode cX3_tenToThe 3 = .ok (.istore_n 3, 1) := by decide +kernel
theorem dX3_tenToThe_4 : decode cX3_tenToThe 4 = .ok (.iload_n 3, 1) := by decide +kernel
theorem dX3_tenToThe_5 : decode cX3_tenToThe 5 = .ok (.iload_n 0, 1) := by decide +kernel
theorem dX3_tenToThe_6 : decode cX3_tenToThe 6 = .ok (.if_icmp .ge 15, 3) := by decide +kernel
theorem dX3_tenToThe_9 : decode cX3_tenToThe 9 = .ok (.lload_n 1, 1) := by decide +kernel
theorem dX3_tenToThe_10 : decode cX3_tenToThe 10 = .ok (.ldc2_w 167, 3) := by decide +kernel
theorem dX3_tenToThe_13 : decode cX3_tenToThe 13 = .ok (.lmul, 1) := by decide +kernel
theorem dX3_tenToThe_14 : decode cX3_tenToThe 14 = .ok (.lstore_n 1, 1) := by decide +kernel
theorem dX3_tenToThe_15 : decode cX3_tenToThe 15 = .ok (.iinc 3 1, 3) := by decide +kernel
theorem dX3_tenToThe_18 : decode cX3_tenToThe 18 = .ok (.goto (-14), 3) := by decide +kernel
theorem dX3_tenToThe_21 : decode cX3_tenToThe 21 = .ok (.lload_n 1, 1) := by decide +kernel
theorem dX3_tenToThe_22 : decode cX3_tenToThe 22 = .ok (.lreturn, 1) := by decide +kernel
theorem dX3_commonDivisor_0 : decode cX3_commonDivisor 0 = .ok (.lload_n 0, 1) := by decide +kernel
theorem dX3_commonDivisor_1 : decode cX3_commonDivisor 1 = .ok (.lstore 4, 2) := by decide +kernel
theorem dX3_commonDivisor_3 : decode cX3_commonDivisor 3 = .ok (.lload_n 2, 1) := by decide +kernel
theorem dX3_commonDivisor_4 : decode cX3_commonDivisor 4 = .ok (.lstore 6, 2) := by decide +kernel
theorem dX3_commonDivisor_6 : decode cX3_commonDivisor 6 = .ok (.iconst 0, 1) := by decide +kernel
theorem dX3_commonDivisor_7 : decode cX3_commonDivisor 7 = .ok (.istore 8, 2) := by decide +kernel
theorem dX3_commonDivisor_9 : decode cX3_commonDivisor 9 = .ok (.iload 8, 2) := by decide +kernel
theorem dX3_commonDivisor_11 : decode cX3_commonDivisor 11 = .ok (.sipush 1000, 3) := by decide +kernel
theorem dX3_commonDivisor_14 : decode cX3_commonDivisor 14 = .ok (.if_icmp .ge 31, 3) := by decide +kernel
theorem dX3_commonDivisor_17 : decode cX3_commonDivisor 17 = .ok (.lload 6, 2) := by decide +kernel
theorem dX3_commonDivisor_19 : decode cX3_commonDivisor 19 = .ok (.lconst 0, 1) := by decide +kernel
theorem dX3_commonDivisor_20 : decode cX3_commonDivisor 20 = .ok (.lcmp, 1) := by decide +kernel
theorem dX3_commonDivisor_21 : decode cX3_commonDivisor 21 = .ok (.ifCond .eq 24, 3) := by decide +kernel
theorem dX3_commonDivisor_24 : decode cX3_commonDivisor 24 = .ok (.lload 4, 2) := by decide +kernel
theorem dX3_commonDivisor_26 : decode cX3_commonDivisor 26 = .ok (.lload 6, 2) := by decide +kernel
theorem dX3_commonDivisor_28 : decode cX3_commonDivisor 28 = .ok (.lrem, 1) := by decide +kernel
theorem dX3_commonDivisor_29 : decode cX3_commonDivisor 29 = .ok (.lstore 9, 2) := by decide +kernel
theorem dX3_commonDivisor_31 : decode cX3_commonDivisor 31 = .ok (.lload 6, 2) := by decide +kernel
theorem dX3_commonDivisor_33 : decode cX3_commonDivisor 33 = .ok (.lstore 4, 2) := by decide +kernel
theorem dX3_commonDivisor_35 : decode cX3_commonDivisor 35 = .ok (.lload 9, 2) := by decide +kernel
theorem dX3_commonDivisor_37 : decode cX3_commonDivisor 37 = .ok (.lstore 6, 2) := by decide +kernel
theorem dX3_commonDivisor_39 : decode cX3_commonDivisor 39 = .ok (.iinc 8 1, 3) := by decide +kernel
theorem dX3_commonDivisor_42 : decode cX3_commonDivisor 42 = .ok (.goto (-33), 3) := by decide +kernel
theorem dX3_commonDivisor_45 : decode cX3_commonDivisor 45 = .ok (.lload 4, 2) := by decide +kernel
theorem dX3_commonDivisor_47 : decode cX3_commonDivisor 47 = .ok (.lreturn, 1) := by decide +kernel
theorem dX3_days_0 : decode cX3_days 0 = .ok (.aload_n 0, 1) := by decide +kernel
theorem dX3_days_1 : decode cX3_days 1 = .ok (.getfield 22, 3) := by decide +kernel
theorem dX3_days_4 : decode cX3_days 4 = .ok (.getfield 65, 3) := by decide +kernel
theorem dX3_days_7 : decode cX3_days 7 = .ok (.ifCond .eq 13, 3) := by decide +kernel
theorem dX3_days_10 : decode cX3_days 10 = .ok (.aload_n 0, 1) := by decide +kernel
theorem dX3_days_11 : decode cX3_days 11 = .ok (.getfield 22, 3) := by decide +kernel
theorem dX3_days_14 : decode cX3_days 14 = .ok (.getfield 68, 3) := by decide +kernel
theorem dX3_days_17 : decode cX3_days 17 = .ok (.ifCond .ne 5, 3) := by decide +kernel
theorem dX3_days_20 : decode cX3_days 20 = .ok (.iconst 0, 1) := by decide +kernel
theorem dX3_days_21 : decode cX3_days 21 = .ok (.ireturn, 1) := by decide +kernel
theorem dX3_days_22 : decode cX3_days 22 = .ok (.aload_n 0, 1) := by decide +kernel
theorem dX3_days_23 : decode cX3_days 23 = .ok (.getfield 12, 3) := by decide +kernel
theorem dX3_days_26 : decode cX3_days 26 = .ok (.aload_n 0, 1) := by decide +kernel
theorem dX3_days_27 : decode cX3_days 27 = .ok (.getfield 22, 3) := by decide +kernel
theorem dX3_days_30 : decode cX3_days 30 = .ok (.invokevirtual 25, 3) := by decide +kernel
theorem dX3_days_33 : decode cX3_days 33 = .ok (.iload_n 2, 1) := by decide +kernel
theorem dX3_days_34 : decode cX3_days 34 = .ok (.i2l, 1) := by decide +kernel
theorem dX3_days_35 : decode cX3_days 35 = .ok (.lstore 4, 2) := by decide +kernel
theorem dX3_days_37 : decode cX3_days 37 = .ok (.iconst 0, 1) := by decide +kernel
theorem dX3_days_38 : decode cX3_days 38 = .ok (.istore 6, 2) := by decide +kernel
theorem dX3_days_40 : decode cX3_days 40 = .ok (.iconst 0, 1) := by decide +kernel
theorem dX3_days_41 : decode cX3_days 41 = .ok (.istore 7, 2) := by decide +kernel
theorem dX3_days_43 : decode cX3_days 43 = .ok (.iconst 0, 1) := by decide +kernel
theorem dX3_days_44 : decode cX3_days 44 = .ok (.istore 8, 2) := by decide +kernel
theorem dX3_days_46 : decode cX3_days 46 = .ok (.iload 8, 2) := by decide +kernel
theorem dX3_days_48 : decode cX3_days 48 = .ok (.iload_n 1, 1) := by decide +kernel
theorem dX3_days_49 : decode cX3_days 49 = .ok (.if_icmp .ge 52, 3) := by decide +kernel
theorem dX3_days_52 : decode cX3_days 52 = .ok (.lload 4, 2) := by decide +kernel
theorem dX3_days_54 : decode cX3_days 54 = .ok (.ldc2_w 169, 3) := by decide +kernel
theorem dX3_days_57 : decode cX3_days 57 = .ok (.lmul, 1) := by decide +kernel
theorem dX3_days_58 : decode cX3_days 58 = .ok (.ldc2_w 171, 3) := by decide +kernel
theorem dX3_days_61 : decode cX3_days 61 = .ok (.lrem, 1) := by decide +kernel
theorem dX3_days_62 : decode cX3_days 62 = .ok (.lstore 4, 2) := by decide +kernel
theorem dX3_days_64 : decode cX3_days 64 = .ok (.aload_n 0, 1) := by decide +kernel
theorem dX3_days_65 : decode cX3_days 65 = .ok (.lload 4, 2) := by decide +kernel
theorem dX3_days_67 : decode cX3_days 67 = .ok (.l2i, 1) := by decide +kernel
theorem dX3_days_68 : decode cX3_days 68 = .ok (.invokevirtual 173, 3) := by decide +kernel
theorem dX3_days_71 : decode cX3_days 71 = .ok (.iload 6, 2) := by decide +kernel
theorem dX3_days_73 : decode cX3_days 73 = .ok (.aload_n 0, 1) := by decide +kernel
theorem dX3_days_74 : decode cX3_days 74 = .ok (.getfield 12, 3) := by decide +kernel
theorem dX3_days_77 : decode cX3_days 77 = .ok (.invokevirtual 61, 3) := by decide +kernel
theorem dX3_days_80 : decode cX3_days 80 = .ok (.iadd, 1) := by decide +kernel
theorem dX3_days_81 : decode cX3_days 81 = .ok (.istore 6, 2) := by decide +kernel
theorem dX3_days_83 : decode cX3_days 83 = .ok (.iload 7, 2) := by decide +kernel
theorem dX3_days_85 : decode cX3_days 85 = .ok (.aload_n 0, 1) := by decide +kernel
theorem dX3_days_86 : decode cX3_days 86 = .ok (.getfield 12, 3) := by decide +kernel
theorem dX3_days_89 : decode cX3_days 89 = .ok (.invokevirtual 47, 3) := by decide +kernel
theorem dX3_days_92 : decode cX3_days 92 = .ok (.iadd, 1) := by decide +kernel
theorem dX3_days_93 : decode cX3_days 93 = .ok (.istore 7, 2) := by decide +kernel
theorem dX3_days_95 : decode cX3_days 95 = .ok (.iinc 8 1, 3) := by decide +kernel
theorem dX3_days_98 : decode cX3_days 98 = .ok (.goto (-52), 3) := by decide +kernel
theorem dX3_days_101 : decode cX3_days 101 = .ok (.iload_n 3, 1) := by decide +kernel
theorem dX3_days_102 : decode cX3_days 102 = .ok (.ifCond .ne 8, 3) := by decide +kernel
theorem dX3_days_105 : decode cX3_days 105 = .ok (.iload 6, 2) := by decide +kernel
theorem dX3_days_107 : decode cX3_days 107 = .ok (.goto 5, 3) := by decide +kernel
theorem dX3_days_110 : decode cX3_days 110 = .ok (.iload 7, 2) := by decide +kernel
theorem dX3_days_112 : decode cX3_days 112 = .ok (.ireturn, 1) := by decide +kernel
theorem dX3_draw_0 : decode cX3_draw 0 = .ok (.aload_n 0, 1) := by decide +kernel
theorem dX3_draw_1 : decode cX3_draw 1 = .ok (.getfield 12, 3) := by decide +kernel
theorem dX3_draw_4 : decode cX3_draw 4 = .ok (.getfield 58, 3) := by decide +kernel
theorem dX3_draw_7 : decode cX3_draw 7 = .ok (.ifCond .ne 17, 3) := by decide +kernel
theorem dX3_draw_10 : decode cX3_draw 10 = .ok (.aload_n 0, 1) := by decide +kernel
theorem dX3_draw_11 : decode cX3_draw 11 = .ok (.getfield 12, 3) := by decide +kernel
theorem dX3_draw_14 : decode cX3_draw 14 = .ok (.iload_n 1, 1) := by decide +kernel
theorem dX3_draw_15 : decode cX3_draw 15 = .ok (.bipush 30, 2) := by decide +kernel
theorem dX3_draw_17 : decode cX3_draw 17 = .ok (.irem, 1) := by decide +kernel
theorem dX3_draw_18 : decode cX3_draw 18 = .ok (.putfield 58, 3) := by decide +kernel
theorem dX3_draw_21 : decode cX3_draw 21 = .ok (.goto 30, 3) := by decide +kernel
theorem dX3_draw_24 : decode cX3_draw 24 = .ok (.iload_n 1, 1) := by decide +kernel
theorem dX3_draw_25 : decode cX3_draw 25 = .ok (.iconst 3, 1) := by decide +kernel
theorem dX3_draw_26 : decode cX3_draw 26 = .ok (.irem, 1) := by decide +kernel
theorem dX3_draw_27 : decode cX3_draw 27 = .ok (.ifCond .ne 24, 3) := by decide +kernel
theorem dX3_draw_30 : decode cX3_draw 30 = .ok (.aload_n 0, 1) := by decide +kernel
theorem dX3_draw_31 : decode cX3_draw 31 = .ok (.getfield 12, 3) := by decide +kernel
theorem dX3_draw_34 : decode cX3_draw 34 = .ok (.getfield 83, 3) := by decide +kernel
theorem dX3_draw_37 : decode cX3_draw 37 = .ok (.iload_n 1, 1) := by decide +kernel
theorem dX3_draw_38 : decode cX3_draw 38 = .ok (.aload_n 0, 1) := by decide +kernel
theorem dX3_draw_39 : decode cX3_draw 39 = .ok (.getfield 12, 3) := by decide +kernel
theorem dX3_draw_42 : decode cX3_draw 42 = .ok (.getfield 65, 3) := by decide +kernel
theorem dX3_draw_45 : decode cX3_draw 45 = .ok (.irem, 1) := by decide +kernel
theorem dX3_draw_46 : decode cX3_draw 46 = .ok (.iload_n 1, 1) := by decide +kernel
theorem dX3_draw_47 : decode cX3_draw 47 = .ok (.bipush 64, 2) := by decide +kernel
theorem dX3_draw_49 : decode cX3_draw 49 = .ok (.irem, 1) := by decide +kernel
theorem dX3_draw_50 : decode cX3_draw 50 = .ok (.iastore, 1) := by decide +kernel
theorem dX3_draw_51 : decode cX3_draw 51 = .ok (.iload_n 1, 1) := by decide +kernel
theorem dX3_draw_52 : decode cX3_draw 52 = .ok (.aload_n 0, 1) := by decide +kernel
theorem dX3_draw_53 : decode cX3_draw 53 = .ok (.getfield 12, 3) := by decide +kernel
theorem dX3_draw_56 : decode cX3_draw 56 = .ok (.getfield 68, 3) := by decide +kernel
theorem dX3_draw_59 : decode cX3_draw 59 = .ok (.irem, 1) := by decide +kernel
theorem dX3_draw_60 : decode cX3_draw 60 = .ok (.istore_n 2, 1) := by decide +kernel
theorem dX3_draw_61 : decode cX3_draw 61 = .ok (.aload_n 0, 1) := by decide +kernel
theorem dX3_draw_62 : decode cX3_draw 62 = .ok (.getfield 12, 3) := by decide +kernel
theorem dX3_draw_65 : decode cX3_draw 65 = .ok (.iload_n 2, 1) := by decide +kernel
theorem dX3_draw_66 : decode cX3_draw 66 = .ok (.invokevirtual 43, 3) := by decide +kernel
theorem dX3_draw_69 : decode cX3_draw 69 = .ok (.ifCond .eq 11, 3) := by decide +kernel
theorem dX3_draw_72 : decode cX3_draw 72 = .ok (.aload_n 0, 1) := by decide +kernel
theorem dX3_draw_73 : decode cX3_draw 73 = .ok (.getfield 12, 3) := by decide +kernel
theorem dX3_draw_76 : decode cX3_draw 76 = .ok (.iload_n 2, 1) := by decide +kernel
theorem dX3_draw_77 : decode cX3_draw 77 = .ok (.invokevirtual 176, 3) := by decide +kernel
theorem dX3_draw_80 : decode cX3_draw 80 = .ok (.return_, 1) := by decide +kernel
theorem dX4_init_0 : decode cX4_init 0 = .ok (.aload_n 0, 1) := by decide +kernel
theorem dX4_init_1 : decode cX4_init 1 = .ok (.invokespecial 3, 3) := by decide +kernel
theorem dX4_init_4 : decode cX4_init 4 = .ok (.aload_n 0, 1) := by decide +kernel
theorem dX4_init_5 : decode cX4_init 5 = .ok (.bipush 100, 2) := by decide +kernel
theorem dX4_init_7 : decode cX4_init 7 = .ok (.newarray .int, 2) := by decide +kernel
theorem dX4_init_9 : decode cX4_init 9 = .ok (.putfield 9, 3) := by decide +kernel
theorem dX4_init_12 : decode cX4_init 12 = .ok (.return_, 1) := by decide +kernel
theorem dX4_add_0 : decode cX4_add 0 = .ok (.aload_n 0, 1) := by decide +kernel
theorem dX4_add_1 : decode cX4_add 1 = .ok (.getfield 9, 3) := by decide +kernel
theorem dX4_add_4 : decode cX4_add 4 = .ok (.aload_n 0, 1) := by decide +kernel
theorem dX4_add_5 : decode cX4_add 5 = .ok (.getfield 15, 3) := by decide +kernel
theorem dX4_add_8 : decode cX4_add 8 = .ok (.iload_n 1, 1) := by decide +kernel
theorem dX4_add_9 : decode cX4_add 9 = .ok (.iastore, 1) := by decide +kernel
theorem dX4_add_10 : decode cX4_add 10 = .ok (.aload_n 0, 1) := by decide +kernel
theorem dX4_add_11 : decode cX4_add 11 = .ok (.dup, 1) := by decide +kernel
theorem dX4_add_12 : decode cX4_add 12 = .ok (.getfield 15, 3) := by decide +kernel
theorem dX4_add_15 : decode cX4_add 15 = .ok (.iconst 1, 1) := by decide +kernel
theorem dX4_add_16 : decode cX4_add 16 = .ok (.iadd, 1) := by decide +kernel
theorem dX4_add_17 : decode cX4_add 17 = .ok (.putfield 15, 3) := by decide +kernel
theorem dX4_add_20 : decode cX4_add 20 = .ok (.aload_n 0, 1) := by decide +kernel
theorem dX4_add_21 : decode cX4_add 21 = .ok (.getfield 15, 3) := by decide +kernel
theorem dX4_add_24 : decode cX4_add 24 = .ok (.ireturn, 1) := by decide +kernel
theorem dX4_readInto_0 : decode cX4_readInto 0 = .ok (.aload_n 0, 1) := by decide +kernel
theorem dX4_readInto_1 : decode cX4_readInto 1 = .ok (.iconst 0, 1) := by decide +kernel
theorem dX4_readInto_2 : decode cX4_readInto 2 = .ok (.putfield 19, 3) := by decide +kernel
theorem dX4_readInto_5 : decode cX4_readInto 5 = .ok (.aload_n 0, 1) := by decide +kernel
theorem dX4_readInto_6 : decode cX4_readInto 6 = .ok (.iconst 0, 1) := by decide +kernel
theorem dX4_readInto_7 : decode cX4_readInto 7 = .ok (.putfield 22, 3) := by decide +kernel
theorem dX4_readInto_10 : decode cX4_readInto 10 = .ok (.aload_n 1, 1) := by decide +kernel
theorem dX4_readInto_11 : decode cX4_readInto 11 = .ok (.invokevirtual 25, 3) := by decide +kernel
theorem dX4_readInto_14 : decode cX4_readInto 14 = .ok (.aload_n 0, 1) := by decide +kernel
theorem dX4_readInto_15 : decode cX4_readInto 15 = .ok (.aload_n 1, 1) := by decide +kernel
theorem dX4_readInto_16 : decode cX4_readInto 16 = .ok (.invokevirtual 30, 3) := by decide +kernel
theorem dX4_readInto_19 : decode cX4_readInto 19 = .ok (.ifCond .eq 23, 3) := by decide +kernel
theorem dX4_readInto_22 : decode cX4_readInto 22 = .ok (.aload_n 0, 1) := by decide +kernel
theorem dX4_readInto_23 : decode cX4_readInto 23 = .ok (.aload_n 1, 1) := by decide +kernel
theorem dX4_readInto_24 : decode cX4_readInto 24 = .ok (.invokevirtual 34, 3) := by decide +kernel
theorem dX4_readInto_27 : decode cX4_readInto 27 = .ok (.ifCond .eq 15, 3) := by decide +kernel
theorem dX4_readInto_30 : decode cX4_readInto 30 = .ok (.aload_n 0, 1) := by decide +kernel
theorem dX4_readInto_31 : decode cX4_readInto 31 = .ok (.aload_n 1, 1) := by decide +kernel
theorem dX4_readInto_32 : decode cX4_readInto 32 = .ok (.invokevirtual 37, 3) := by decide +kernel
theorem dX4_readInto_35 : decode cX4_readInto 35 = .ok (.ifCond .eq 7, 3) := by decide +kernel
theorem dX4_readInto_38 : decode cX4_readInto 38 = .ok (.iconst 1, 1) := by decide +kernel
theorem dX4_readInto_39 : decode cX4_readInto 39 = .ok (.goto 4, 3) := by decide +kernel
theorem dX4_readInto_42 : decode cX4_readInto 42 = .ok (.iconst 0, 1) := by decide +kernel
theorem dX4_readInto_43 : decode cX4_readInto 43 = .ok (.ireturn, 1) := by decide +kernel
theorem dX4_readLaw_0 : decode cX4_readLaw 0 = .ok (.aload_n 0, 1) := by decide +kernel
theorem dX4_readLaw_1 : decode cX4_readLaw 1 = .ok (.bipush 109, 2) := by decide +kernel
theorem dX4_readLaw_3 : decode cX4_readLaw 3 = .ok (.invokevirtual 40, 3) := by decide +kernel
theorem dX4_readLaw_6 : decode cX4_readLaw 6 = .ok (.ifCond .eq 13, 3) := by decide +kernel
theorem dX4_readLaw_9 : decode cX4_readLaw 9 = .ok (.aload_n 0, 1) := by decide +kernel
theorem dX4_readLaw_10 : decode cX4_readLaw 10 = .ok (.iconst 0, 1) := by decide +kernel
theorem dX4_readLaw_11 : decode cX4_readLaw 11 = .ok (.bipush 99, 2) := by decide +kernel
theorem dX4_readLaw_13 : decode cX4_readLaw 13 = .ok (.invokevirtual 44, 3) := by decide +kernel
theorem dX4_readLaw_16 : decode cX4_readLaw 16 = .ok (.ifCond .ne 5, 3) := by decide +kernel
theorem dX4_readLaw_19 : decode cX4_readLaw 19 = .ok (.iconst 0, 1) := by decide +kernel
theorem dX4_readLaw_20 : decode cX4_readLaw 20 = .ok (.ireturn, 1) := by decide +kernel
theorem dX4_readLaw_21 : decode cX4_readLaw 21 = .ok (.aload_n 1, 1) := by decide +kernel
theorem dX4_readLaw_22 : decode cX4_readLaw 22 = .ok (.aload_n 0, 1) := by decide +kernel
theorem dX4_readLaw_23 : decode cX4_readLaw 23 = .ok (.getfield 48, 3) := by decide +kernel
theorem dX4_readLaw_26 : decode cX4_readLaw 26 = .ok (.putfield 51, 3) := by decide +kernel
theorem dX4_readLaw_29 : decode cX4_readLaw 29 = .ok (.aload_n 0, 1) := by decide +kernel
theorem dX4_readLaw_30 : decode cX4_readLaw 30 = .ok (.bipush 44, 2) := by decide +kernel
theorem dX4_readLaw_32 : decode cX4_readLaw 32 = .ok (.invokevirtual 40, 3) := by decide +kernel
theorem dX4_readLaw_35 : decode cX4_readLaw 35 = .ok (.ifCond .eq 12, 3) := by decide +kernel
theorem dX4_readLaw_38 : decode cX4_readLaw 38 = .ok (.aload_n 0, 1) := by decide +kernel
theorem dX4_readLaw_39 : decode cX4_readLaw 39 = .ok (.iconst 0, 1) := by decide +kernel
theorem dX4_readLaw_40 : decode cX4_readLaw 40 = .ok (.iconst 3, 1) := by decide +kernel
theorem dX4_readLaw_41 : decode cX4_readLaw 41 = .ok (.invokevirtual 44, 3) := by decide +kernel
theorem dX4_readLaw_44 : decode cX4_readLaw 44 = .ok (.ifCond .ne 5, 3) := by decide +kernel
theorem dX4_readLaw_47 : decode cX4_readLaw 47 = .ok (.iconst 0, 1) := by decide +kernel
theorem dX4_readLaw_48 : decode cX4_readLaw 48 = .ok (.ireturn, 1) := by decide +kernel
theorem dX4_readLaw_49 : decode cX4_readLaw 49 = .ok (.aload_n 1, 1) := by decide +kernel
theorem dX4_readLaw_50 : decode cX4_readLaw 50 = .ok (.aload_n 0, 1) := by decide +kernel
theorem dX4_readLaw_51 : decode cX4_readLaw 51 = .ok (.getfield 48, 3) := by decide +kernel
theorem dX4_readLaw_54 : decode cX4_readLaw 54 = .ok (.putfield 54, 3) := by decide +kernel
theorem dX4_readLaw_57 : decode cX4_readLaw 57 = .ok (.aload_n 0, 1) := by decide +kernel
theorem dX4_readLaw_58 : decode cX4_readLaw 58 = .ok (.bipush 59, 2) := by decide +kernel
theorem dX4_readLaw_60 : decode cX4_readLaw 60 = .ok (.invokevirtual 40, 3) := by decide +kernel
theorem dX4_readLaw_63 : decode cX4_readLaw 63 = .ok (.ireturn, 1) := by decide +kernel
theorem dX4_readColumns_0 : decode cX4_readColumns 0 = .ok (.iconst 0, 1) := by decide +kernel
theorem dX4_readColumns_1 : decode cX4_readColumns 1 = .ok (.istore_n 2, 1) := by decide +kernel
theorem dX4_readColumns_2 : decode cX4_readColumns 2 = .ok (.iload_n 2, 1) := by decide +kernel
theorem dX4_readColumns_3 : decode cX4_readColumns 3 = .ok (.bipush 12, 2) := by decide +kernel
theorem dX4_readColumns_5 : decode cX4_readColumns 5 = .ok (.if_icmp .gt 78, 3) := by decide +kernel
theorem dX4_readColumns_8 : decode cX4_readColumns 8 = .ok (.aload_n 0, 1) := by decide +kernel
theorem dX4_readColumns_9 : decode cX4_readColumns 9 = .ok (.invokevirtual 57, 3) := by decide +kernel
theorem dX4_readColumns_12 : decode cX4_readColumns 12 = .ok (.bipush 112, 2) := by decide +kernel
theorem dX4_readColumns_14 : decode cX4_readColumns 14 = .ok (.if_icmp .ne 69, 3) := by decide +kernel
theorem dX4_readColumns_17 : decode cX4_readColumns 17 = .ok (.iload_n 2, 1) := by decide +kernel
theorem dX4_readColumns_18 : decode cX4_readColumns 18 = .ok (.bipush 12, 2) := by decide +kernel
theorem dX4_readColumns_20 : decode cX4_readColumns 20 = .ok (.if_icmp .ne 9, 3) := by decide +kernel
theorem dX4_readColumns_23 : decode cX4_readColumns 23 = .ok (.aload_n 0, 1) := by decide +kernel
theorem dX4_readColumns_24 : decode cX4_readColumns 24 = .ok (.iconst 3, 1) := by decide +kernel
theorem dX4_readColumns_25 : decode cX4_readColumns 25 = .ok (.invokevirtual 61, 3) := by decide +kernel
theorem dX4_readColumns_28 : decode cX4_readColumns 28 = .ok (.ireturn, 1) := by decide +kernel
theorem dX4_readColumns_29 : decode cX4_readColumns 29 = .ok (.aload_n 0, 1) := by decide +kernel
theorem dX4_readColumns_30 : decode cX4_readColumns 30 = .ok (.dup, 1) := by decide +kernel
theorem dX4_readColumns_31 : decode cX4_readColumns 31 = .ok (.getfield 19, 3) := by decide +kernel
theorem dX4_readColumns_34 : decode cX4_readColumns 34 = .ok (.iconst 1, 1) := by decide +kernel
theorem dX4_readColumns_35 : decode cX4_readColumns 35 = .ok (.iadd, 1) := by decide +kernel
theorem dX4_readColumns_36 : decode cX4_readColumns 36 = .ok (.putfield 19, 3) := by decide +kernel
theorem dX4_readColumns_39 : decode cX4_readColumns 39 = .ok (.aload_n 0, 1) := by decide +kernel
theorem dX4_readColumns_40 : decode cX4_readColumns 40 = .ok (.iconst 0, 1) := by decide +kernel
theorem dX4_readColumns_41 : decode cX4_readColumns 41 = .ok (.bipush 63, 2) := by decide +kernel
theorem dX4_readColumns_43 : decode cX4_readColumns 43 = .ok (.invokevirtual 44, 3) := by decide +kernel
theorem dX4_readColumns_46 : decode cX4_readColumns 46 = .ok (.ifCond .eq 12, 3) := by decide +kernel
theorem dX4_readColumns_49 : decode cX4_readColumns 49 = .ok (.aload_n 0, 1) := by decide +kernel
theorem dX4_readColumns_50 : decode cX4_readColumns 50 = .ok (.bipush 59, 2) := by decide +kernel
theorem dX4_readColumns_52 : decode cX4_readColumns 52 = .ok (.invokevirtual 40, 3) := by decide +kernel
theorem dX4_readColumns_55 : decode cX4_readColumns 55 = .ok (.ifCond .ne 5, 3) := by decide +kernel
theorem dX4_readColumns_58 : decode cX4_readColumns 58 = .ok (.iconst 0, 1) := by decide +kernel
theorem dX4_readColumns_59 : decode cX4_readColumns 59 = .ok (.ireturn, 1) := by decide +kernel
theorem dX4_readColumns_60 : decode cX4_readColumns 60 = .ok (.aload_n 1, 1) := by decide +kernel
theorem dX4_readColumns_61 : decode cX4_readColumns 61 = .ok (.getfield 64, 3) := by decide +kernel
theorem dX4_readColumns_64 : decode cX4_readColumns 64 = .ok (.iload_n 2, 1) := by decide +kernel
theorem dX4_readColumns_65 : decode cX4_readColumns 65 = .ok (.aload_n 0, 1) := by decide +kernel
theorem dX4_readColumns_66 : decode cX4_readColumns 66 = .ok (.getfield 48, 3) := by decide +kernel
theorem dX4_readColumns_69 : decode cX4_readColumns 69 = .ok (.iastore, 1) := by decide +kernel
theorem dX4_readColumns_70 : decode cX4_readColumns 70 = .ok (.aload_n 1, 1) := by decide +kernel
theorem dX4_readColumns_71 : decode cX4_readColumns 71 = .ok (.iload_n 2, 1) := by decide +kernel
theorem dX4_readColumns_72 : decode cX4_readColumns 72 = .ok (.iconst 1, 1) := by decide +kernel
theorem dX4_readColumns_73 : decode cX4_readColumns 73 = .ok (.iadd, 1) := by decide +kernel
theorem dX4_readColumns_74 : decode cX4_readColumns 74 = .ok (.putfield 67, 3) := by decide +kernel
theorem dX4_readColumns_77 : decode cX4_readColumns 77 = .ok (.iinc 2 1, 3) := by decide +kernel
theorem dX4_readColumns_80 : decode cX4_readColumns 80 = .ok (.goto (-78), 3) := by decide +kernel
theorem dX4_readColumns_83 : decode cX4_readColumns 83 = .ok (.aload_n 1, 1) := by decide +kernel
theorem dX4_readColumns_84 : decode cX4_readColumns 84 = .ok (.getfield 67, 3) := by decide +kernel
theorem dX4_readColumns_87 : decode cX4_readColumns 87 = .ok (.iconst 4, 1) := by decide +kernel
theorem dX4_readColumns_88 : decode cX4_readColumns 88 = .ok (.if_icmp .ge 11, 3) := by decide +kernel
theorem dX4_readColumns_91 : decode cX4_readColumns 91 = .ok (.aload_n 0, 1) := by decide +kernel
theorem dX4_readColumns_92 : decode cX4_readColumns 92 = .ok (.iconst 1, 1) := by decide +kernel
theorem dX4_readColumns_93 : decode cX4_readColumns 93 = .ok (.invokevirtual 61, 3) := by decide +kernel
theorem dX4_readColumns_96 : decode cX4_readColumns 96 = .ok (.ifCond .eq 7, 3) := by decide +kernel
theorem dX4_readColumns_99 : decode cX4_readColumns 99 = .ok (.iconst 1, 1) := by decide +kernel
theorem dX4_readColumns_100 : decode cX4_readColumns 100 = .ok (.goto 4, 3) := by decide +kernel
theorem dX4_readColumns_103 : decode cX4_readColumns 103 = .ok (.iconst 0, 1) := by decide +kernel
theorem dX4_readColumns_104 : decode cX4_readColumns 104 = .ok (.ireturn, 1) := by decide +kernel
theorem dX4_readTeeth_0 : decode cX4_readTeeth 0 = .ok (.iconst 0, 1) := by decide +kernel
theorem dX4_readTeeth_1 : decode cX4_readTeeth 1 = .ok (.istore_n 2, 1) := by decide +kernel
theorem dX4_readTeeth_2 : decode cX4_readTeeth 2 = .ok (.iload_n 2, 1) := by decide +kernel
theorem dX4_readTeeth_3 : decode cX4_readTeeth 3 = .ok (.bipush 6, 2) := by decide +kernel
theorem dX4_readTeeth_5 : decode cX4_readTeeth 5 = .ok (.if_icmp .gt 105, 3) := by decide +kernel
theorem dX4_readTeeth_8 : decode cX4_readTeeth 8 = .ok (.aload_n 0, 1) := by decide +kernel
theorem dX4_readTeeth_9 : decode cX4_readTeeth 9 = .ok (.getfield 19, 3) := by decide +kernel
theorem dX4_readTeeth_12 : decode cX4_readTeeth 12 = .ok (.aload_n 0, 1) := by decide +kernel
theorem dX4_readTeeth_13 : decode cX4_readTeeth 13 = .ok (.getfield 15, 3) := by decide +kernel
theorem dX4_readTeeth_16 : decode cX4_readTeeth 16 = .ok (.if_icmp .ge 94, 3) := by decide +kernel
theorem dX4_readTeeth_19 : decode cX4_readTeeth 19 = .ok (.aload_n 0, 1) := by decide +kernel
theorem dX4_readTeeth_20 : decode cX4_readTeeth 20 = .ok (.invokevirtual 57, 3) := by decide +kernel
theorem dX4_readTeeth_23 : decode cX4_readTeeth 23 = .ok (.invokestatic 70, 3) := by decide +kernel
theorem dX4_readTeeth_26 : decode cX4_readTeeth 26 = .ok (.istore_n 3, 1) := by decide +kernel
theorem dX4_readTeeth_27 : decode cX4_readTeeth 27 = .ok (.iload_n 3, 1) := by decide +kernel
theorem dX4_readTeeth_28 : decode cX4_readTeeth 28 = .ok (.ifCond .ne 9, 3) := by decide +kernel
theorem dX4_readTeeth_31 : decode cX4_readTeeth 31 = .ok (.aload_n 0, 1) := by decide +kernel
theorem dX4_readTeeth_32 : decode cX4_readTeeth 32 = .ok (.iconst 1, 1) := by decide +kernel
theorem dX4_readTeeth_33 : decode cX4_readTeeth 33 = .ok (.invokevirtual 61, 3) := by decide +kernel
theorem dX4_readTeeth_36 : decode cX4_readTeeth 36 = .ok (.ireturn, 1) := by decide +kernel
theorem dX4_readTeeth_37 : decode cX4_readTeeth 37 = .ok (.iload_n 2, 1) := by decide +kernel
theorem dX4_readTeeth_38 : decode cX4_readTeeth 38 = .ok (.bipush 6, 2) := by decide +kernel
theorem dX4_readTeeth_40 : decode cX4_readTeeth 40 = .ok (.if_icmp .ne 9, 3) := by decide +kernel
theorem dX4_readTeeth_43 : decode cX4_readTeeth 43 = .ok (.aload_n 0, 1) := by decide +kernel
theorem dX4_readTeeth_44 : decode cX4_readTeeth 44 = .ok (.iconst 3, 1) := by decide +kernel
theorem dX4_readTeeth_45 : decode cX4_readTeeth 45 = .ok (.invokevirtual 61, 3) := by decide +kernel
theorem dX4_readTeeth_48 : decode cX4_readTeeth 48 = .ok (.ireturn, 1) := by decide +kernel
theorem dX4_readTeeth_49 : decode cX4_readTeeth 49 = .ok (.aload_n 0, 1) := by decide +kernel
theorem dX4_readTeeth_50 : decode cX4_readTeeth 50 = .ok (.dup, 1) := by decide +kernel
theorem dX4_readTeeth_51 : decode cX4_readTeeth 51 = .ok (.getfield 19, 3) := by decide +kernel
theorem dX4_readTeeth_54 : decode cX4_readTeeth 54 = .ok (.iconst 1, 1) := by decide +kernel
theorem dX4_readTeeth_55 : decode cX4_readTeeth 55 = .ok (.iadd, 1) := by decide +kernel
theorem dX4_readTeeth_56 : decode cX4_readTeeth 56 = .ok (.putfield 19, 3) := by decide +kernel
theorem dX4_readTeeth_59 : decode cX4_readTeeth 59 = .ok (.aload_n 0, 1) := by decide +kernel
theorem dX4_readTeeth_60 : decode cX4_readTeeth 60 = .ok (.iconst 1, 1) := by decide +kernel
theorem dX4_readTeeth_61 : decode cX4_readTeeth 61 = .ok (.bipush 9, 2) := by decide +kernel
theorem dX4_readTeeth_63 : decode cX4_readTeeth 63 = .ok (.invokevirtual 44, 3) := by decide +kernel
theorem dX4_readTeeth_66 : decode cX4_readTeeth 66 = .ok (.ifCond .eq 12, 3) := by decide +kernel
theorem dX4_readTeeth_69 : decode cX4_readTeeth 69 = .ok (.aload_n 0, 1) := by decide +kernel
theorem dX4_readTeeth_70 : decode cX4_readTeeth 70 = .ok (.bipush 59, 2) := by decide +kernel
theorem dX4_readTeeth_72 : decode cX4_readTeeth 72 = .ok (.invokevirtual 40, 3) := by decide +kernel
theorem dX4_readTeeth_75 : decode cX4_readTeeth 75 = .ok (.ifCond .ne 5, 3) := by decide +kernel
theorem dX4_readTeeth_78 : decode cX4_readTeeth 78 = .ok (.iconst 0, 1) := by decide +kernel
theorem dX4_readTeeth_79 : decode cX4_readTeeth 79 = .ok (.ireturn, 1) := by decide +kernel
theorem dX4_readTeeth_80 : decode cX4_readTeeth 80 = .ok (.aload_n 1, 1) := by decide +kernel
theorem dX4_readTeeth_81 : decode cX4_readTeeth 81 = .ok (.getfield 74, 3) := by decide +kernel
theorem dX4_readTeeth_84 : decode cX4_readTeeth 84 = .ok (.iload_n 2, 1) := by decide +kernel
theorem dX4_readTeeth_85 : decode cX4_readTeeth 85 = .ok (.iload_n 3, 1) := by decide +kernel
theorem dX4_readTeeth_86 : decode cX4_readTeeth 86 = .ok (.iastore, 1) := by decide +kernel
theorem dX4_readTeeth_87 : decode cX4_readTeeth 87 = .ok (.aload_n 1, 1) := by decide +kernel
theorem dX4_readTeeth_88 : decode cX4_readTeeth 88 = .ok (.getfield 77, 3) := by decide +kernel
theorem dX4_readTeeth_91 : decode cX4_readTeeth 91 = .ok (.iload_n 2, 1) := by decide +kernel
theorem dX4_readTeeth_92 : decode cX4_readTeeth 92 = .ok (.aload_n 0, 1) := by decide +kernel
theorem dX4_readTeeth_93 : decode cX4_readTeeth 93 = .ok (.getfield 48, 3) := by decide +kernel
theorem dX4_readTeeth_96 : decode cX4_readTeeth 96 = .ok (.iastore, 1) := by decide +kernel
theorem dX4_readTeeth_97 : decode cX4_readTeeth 97 = .ok (.aload_n 1, 1) := by decide +kernel
theorem dX4_readTeeth_98 : decode cX4_readTeeth 98 = .ok (.iload_n 2, 1) := by decide +kernel
theorem dX4_readTeeth_99 : decode cX4_readTeeth 99 = .ok (.iconst 1, 1) := by decide +kernel
theorem dX4_readTeeth_100 : decode cX4_readTeeth 100 = .ok (.iadd, 1) := by decide +kernel
theorem dX4_readTeeth_101 : decode cX4_readTeeth 101 = .ok (.putfield 80, 3) := by decide +kernel
theorem dX4_readTeeth_104 : decode cX4_readTeeth 104 = .ok (.iinc 2 1, 3) := by decide +kernel
theorem dX4_readTeeth_107 : decode cX4_readTeeth 107 = .ok (.goto (-105), 3) := by decide +kernel
theorem dX4_readTeeth_110 : decode cX4_readTeeth 110 = .ok (.aload_n 1, 1) := by decide +kernel
theorem dX4_readTeeth_111 : decode cX4_readTeeth 111 = .ok (.getfield 80, 3) := by decide +kernel
theorem dX4_readTeeth_114 : decode cX4_readTeeth 114 = .ok (.ifCond .gt 11, 3) := by decide +kernel
theorem dX4_readTeeth_117 : decode cX4_readTeeth 117 = .ok (.aload_n 0, 1) := by decide +kernel
theorem dX4_readTeeth_118 : decode cX4_readTeeth 118 = .ok (.iconst 1, 1) := by decide +kernel
theorem dX4_readTeeth_119 : decode cX4_readTeeth 119 = .ok (.invokevirtual 61, 3) := by decide +kernel
theorem dX4_readTeeth_122 : decode cX4_readTeeth 122 = .ok (.ifCond .eq 7, 3) := by decide +kernel
theorem dX4_readTeeth_125 : decode cX4_readTeeth 125 = .ok (.iconst 1, 1) := by decide +kernel
theorem dX4_readTeeth_126 : decode cX4_readTeeth 126 = .ok (.goto 4, 3) := by decide +kernel
theorem dX4_readTeeth_129 : decode cX4_readTeeth 129 = .ok (.iconst 0, 1) := by decide +kernel
theorem dX4_readTeeth_130 : decode cX4_readTeeth 130 = .ok (.ireturn, 1) := by decide +kernel
theorem dX4_kindOf_0 : decode cX4_kindOf 0 = .ok (.iload_n 0, 1) := by decide +kernel
theorem dX4_kindOf_1 : decode cX4_kindOf 1 = .ok (.lookupswitch 61 #[(99, 59), (100, 53), (114, 57), (115, 51), (116, 55)], 51) := by decide +kernel
theorem dX4_kindOf_52 : decode cX4_kindOf 52 = .ok (.iconst 1, 1) := by decide +kernel
theorem dX4_kindOf_53 : decode cX4_kindOf 53 = .ok (.ireturn, 1) := by decide +kernel
theorem dX4_kindOf_54 : decode cX4_kindOf 54 = .ok (.iconst 2, 1) := by decide +kernel
theorem dX4_kindOf_55 : decode cX4_kindOf 55 = .ok (.ireturn, 1) := by decide +kernel
theorem dX4_kindOf_56 : decode cX4_kindOf 56 = .ok (.iconst 3, 1) := by decide +kernel
theorem dX4_kindOf_57 : decode cX4_kindOf 57 = .ok (.ireturn, 1) := by decide +kernel
theorem dX4_kindOf_58 : decode cX4_kindOf 58 = .ok (.iconst 4, 1) := by decide +kernel
theorem dX4_kindOf_59 : decode cX4_kindOf 59 = .ok (.ireturn, 1) := by decide +kernel
theorem dX4_kindOf_60 : decode cX4_kindOf 60 = .ok (.iconst 5, 1) := by decide +kernel
theorem dX4_kindOf_61 : decode cX4_kindOf 61 = .ok (.ireturn, 1) := by decide +kernel
theorem dX4_kindOf_62 : decode cX4_kindOf 62 = .ok (.iconst 0, 1) := by decide +kernel
theorem dX4_kindOf_63 : decode cX4_kindOf 63 = .ok (.ireturn, 1) := by decide +kernel
theorem dX4_coming_0 : decode cX4_coming 0 = .ok (.aload_n 0, 1) := by decide +kernel
theorem dX4_coming_1 : decode cX4_coming 1 = .ok (.getfield 19, 3) := by decide +kernel
theorem dX4_coming_4 : decode cX4_coming 4 = .ok (.aload_n 0, 1) := by decide +kernel
theorem dX4_coming_5 : decode cX4_coming 5 = .ok (.getfield 15, 3) := by decide +kernel
theorem dX4_coming_8 : decode cX4_coming 8 = .ok (.if_icmp .ge 15, 3) := by decide +kernel
theorem dX4_coming_11 : decode cX4_coming 11 = .ok (.aload_n 0, 1) := by decide +kernel
theorem dX4_coming_12 : decode cX4_coming 12 = .ok (.getfield 9, 3) := by decide +kernel
theorem dX4_coming_15 : decode cX4_coming 15 = .ok (.aload_n 0, 1) := by decide +kernel
theorem dX4_coming_16 : decode cX4_coming 16 = .ok (.getfield 19, 3) := by decide +kernel
theorem dX4_coming_19 : decode cX4_coming 19 = .ok (.iaload, 1) := by decide +kernel
theorem dX4_coming_20 : decode cX4_coming 20 = .ok (.goto 4, 3) := by decide +kernel
theorem dX4_coming_23 : decode cX4_coming 23 = .ok (.iconst (-1), 1) := by decide +kernel
theorem dX4_coming_24 : decode cX4_coming 24 = .ok (.ireturn, 1) := by decide +kernel
theorem dX4_take_0 : decode cX4_take 0 = .ok (.aload_n 0, 1) := by decide +kernel
theorem dX4_take_1 : decode cX4_take 1 = .ok (.invokevirtual 57, 3) := by decide +kernel
theorem dX4_take_4 : decode cX4_take 4 = .ok (.iload_n 1, 1) := by decide +kernel
theorem dX4_take_5 : decode cX4_take 5 = .ok (.if_icmp .eq 9, 3) := by decide +kernel
theorem dX4_take_8 : decode cX4_take 8 = .ok (.aload_n 0, 1) := by decide +kernel
theorem dX4_take_9 : decode cX4_take 9 = .ok (.iconst 1, 1) := by decide +kernel
theorem dX4_take_10 : decode cX4_take 10 = .ok (.invokevirtual 61, 3) := by decide +kernel
theorem dX4_take_13 : decode cX4_take 13 = .ok (.ireturn, 1) := by decide +kernel
theorem dX4_take_14 : decode cX4_take 14 = .ok (.aload_n 0, 1) := by decide +kernel
theorem dX4_take_15 : decode cX4_take 15 = .ok (.dup, 1) := by decide +kernel
theorem dX4_take_16 : decode cX4_take 16 = .ok (.getfield 19, 3) := by decide +kernel
theorem dX4_take_19 : decode cX4_take 19 = .ok (.iconst 1, 1) := by decide +kernel
theorem dX4_take_20 : decode cX4_take 20 = .ok (.iadd, 1) := by decide +kernel
theorem dX4_take_21 : decode cX4_take 21 = .ok (.putfield 19, 3) := by decide +kernel
theorem dX4_take_24 : decode cX4_take 24 = .ok (.iconst 1, 1) := by decide +kernel
theorem dX4_take_25 : decode cX4_take 25 = .ok (.ireturn, 1) := by decide +kernel
theorem dX4_takeNumber_0 : decode cX4_takeNumber 0 = .ok (.iconst 0, 1) := by decide +kernel
theorem dX4_takeNumber_1 : decode cX4_takeNumber 1 = .ok (.istore_n 3, 1) := by decide +kernel
theorem dX4_takeNumber_2 : decode cX4_takeNumber 2 = .ok (.iconst 0, 1) := by decide +kernel
theorem dX4_takeNumber_3 : decode cX4_takeNumber 3 = .ok (.istore 4, 2) := by decide +kernel
theorem dX4_takeNumber_5 : decode cX4_takeNumber 5 = .ok (.aload_n 0, 1) := by decide +kernel
theorem dX4_takeNumber_6 : decode cX4_takeNumber 6 = .ok (.getfield 19, 3) := by decide +kernel
theorem dX4_takeNumber_9 : decode cX4_takeNumber 9 = .ok (.istore 5, 2) := by decide +kernel
theorem dX4_takeNumber_11 : decode cX4_takeNumber 11 = .ok (.iload 5, 2) := by decide +kernel
theorem dX4_takeNumber_13 : decode cX4_takeNumber 13 = .ok (.aload_n 0, 1) := by decide +kernel
theorem dX4_takeNumber_14 : decode cX4_takeNumber 14 = .ok (.getfield 15, 3) := by decide +kernel
theorem dX4_takeNumber_17 : decode cX4_takeNumber 17 = .ok (.if_icmp .ge 54, 3) := by decide +kernel
theorem dX4_takeNumber_20 : decode cX4_takeNumber 20 = .ok (.aload_n 0, 1) := by decide +kernel
theorem dX4_takeNumber_21 : decode cX4_takeNumber 21 = .ok (.getfield 9, 3) := by decide +kernel
theorem dX4_takeNumber_24 : decode cX4_takeNumber 24 = .ok (.iload 5, 2) := by decide +kernel
theorem dX4_takeNumber_26 : decode cX4_takeNumber 26 = .ok (.iaload, 1) := by decide +kernel
theorem dX4_takeNumber_27 : decode cX4_takeNumber 27 = .ok (.bipush 48, 2) := by decide +kernel
theorem dX4_takeNumber_29 : decode cX4_takeNumber 29 = .ok (.if_icmp .lt 42, 3) := by decide +kernel
theorem dX4_takeNumber_32 : decode cX4_takeNumber 32 = .ok (.aload_n 0, 1) := by decide +kernel
theorem dX4_takeNumber_33 : decode cX4_takeNumber 33 = .ok (.getfield 9, 3) := by decide +kernel
theorem dX4_takeNumber_36 : decode cX4_takeNumber 36 = .ok (.iload 5, 2) := by decide +kernel
theorem dX4_takeNumber_38 : decode cX4_takeNumber 38 = .ok (.iaload, 1) := by decide +kernel
theorem dX4_takeNumber_39 : decode cX4_takeNumber 39 = .ok (.bipush 57, 2) := by decide +kernel
theorem dX4_takeNumber_41 : decode cX4_takeNumber 41 = .ok (.if_icmp .gt 30, 3) := by decide +kernel
theorem dX4_takeNumber_44 : decode cX4_takeNumber 44 = .ok (.bipush 10, 2) := by decide +kernel
theorem dX4_takeNumber_46 : decode cX4_takeNumber 46 = .ok (.iload 4, 2) := by decide +kernel
theorem dX4_takeNumber_48 : decode cX4_takeNumber 48 = .ok (.imul, 1) := by decide +kernel
theorem dX4_takeNumber_49 : decode cX4_takeNumber 49 = .ok (.aload_n 0, 1) := by decide +kernel
theorem dX4_takeNumber_50 : decode cX4_takeNumber 50 = .ok (.getfield 9, 3) := by decide +kernel
theorem dX4_takeNumber_53 : decode cX4_takeNumber 53 = .ok (.iload 5, 2) := by decide +kernel
theorem dX4_takeNumber_55 : decode cX4_takeNumber 55 = .ok (.iaload, 1) := by decide +kernel
theorem dX4_takeNumber_56 : decode cX4_takeNumber 56 = .ok (.iadd, 1) := by decide +kernel
theorem dX4_takeNumber_57 : decode cX4_takeNumber 57 = .ok (.bipush 48, 2) := by decide +kernel
theorem dX4_takeNumber_59 : decode cX4_takeNumber 59 = .ok (.isub, 1) := by decide +kernel
theorem dX4_takeNumber_60 : decode cX4_takeNumber 60 = .ok (.istore 4, 2) := by decide +kernel
theorem dX4_takeNumber_62 : decode cX4_takeNumber 62 = .ok (.iinc 3 1, 3) := by decide +kernel
theorem dX4_takeNumber_65 : decode cX4_takeNumber 65 = .ok (.iinc 5 1, 3) := by decide +kernel
theorem dX4_takeNumber_68 : decode cX4_takeNumber 68 = .ok (.goto (-57), 3) := by decide +kernel
theorem dX4_takeNumber_71 : decode cX4_takeNumber 71 = .ok (.iload_n 3, 1) := by decide +kernel
theorem dX4_takeNumber_72 : decode cX4_takeNumber 72 = .ok (.iconst 1, 1) := by decide +kernel
theorem dX4_takeNumber_73 : decode cX4_takeNumber 73 = .ok (.if_icmp .lt 8, 3) := by decide +kernel
theorem dX4_takeNumber_76 : decode cX4_takeNumber 76 = .ok (.iload_n 3, 1) := by decide +kernel
theorem dX4_takeNumber_77 : decode cX4_takeNumber 77 = .ok (.iconst 2, 1) := by decide +kernel
theorem dX4_takeNumber_78 : decode cX4_takeNumber 78 = .ok (.if_icmp .le 9, 3) := by decide +kernel
theorem dX4_takeNumber_81 : decode cX4_takeNumber 81 = .ok (.aload_n 0, 1) := by decide +kernel
theorem dX4_takeNumber_82 : decode cX4_takeNumber 82 = .ok (.iconst 1, 1) := by decide +kernel
theorem dX4_takeNumber_83 : decode cX4_takeNumber 83 = .ok (.invokevirtual 61, 3) := by decide +kernel
theorem dX4_takeNumber_86 : decode cX4_takeNumber 86 = .ok (.ireturn, 1) := by decide +kernel
theorem dX4_takeNumber_87 : decode cX4_takeNumber 87 = .ok (.iload 4, 2) := by decide +kernel
theorem dX4_takeNumber_89 : decode cX4_takeNumber 89 = .ok (.iload_n 1, 1) := by decide +kernel
theorem dX4_takeNumber_90 : decode cX4_takeNumber 90 = .ok (.if_icmp .lt 9, 3) := by decide +kernel
theorem dX4_takeNumber_93 : decode cX4_takeNumber 93 = .ok (.iload 4, 2) := by decide +kernel
theorem dX4_takeNumber_95 : decode cX4_takeNumber 95 = .ok (.iload_n 2, 1) := by decide +kernel
theorem dX4_takeNumber_96 : decode cX4_takeNumber 96 = .ok (.if_icmp .le 9, 3) := by decide +kernel
theorem dX4_takeNumber_99 : decode cX4_takeNumber 99 = .ok (.aload_n 0, 1) := by decide +kernel
theorem dX4_takeNumber_100 : decode cX4_takeNumber 100 = .ok (.iconst 2, 1) := by decide +kernel
theorem dX4_takeNumber_101 : decode cX4_takeNumber 101 = .ok (.invokevirtual 61, 3) := by decide +kernel
theorem dX4_takeNumber_104 : decode cX4_takeNumber 104 = .ok (.ireturn, 1) := by decide +kernel
theorem dX4_takeNumber_105 : decode cX4_takeNumber 105 = .ok (.aload_n 0, 1) := by decide +kernel
theorem dX4_takeNumber_106 : decode cX4_takeNumber 106 = .ok (.dup, 1) := by decide +kernel
theorem dX4_takeNumber_107 : decode cX4_takeNumber 107 = .ok (.getfield 19, 3) := by decide +kernel
theorem dX4_takeNumber_110 : decode cX4_takeNumber 110 = .ok (.iload_n 3, 1) := by decide +kernel
theorem dX4_takeNumber_111 : decode cX4_takeNumber 111 = .ok (.iadd, 1) := by decide +kernel
theorem dX4_takeNumber_112 : decode cX4_takeNumber 112 = .ok (.putfield 19, 3) := by decide +kernel
theorem dX4_takeNumber_115 : decode cX4_takeNumber 115 = .ok (.aload_n 0, 1) := by decide +kernel
theorem dX4_takeNumber_116 : decode cX4_takeNumber 116 = .ok (.iload 4, 2) := by decide +kernel
theorem dX4_takeNumber_118 : decode cX4_takeNumber 118 = .ok (.putfield 48, 3) := by decide +kernel
theorem dX4_takeNumber_121 : decode cX4_takeNumber 121 = .ok (.iconst 1, 1) := by decide +kernel
theorem dX4_takeNumber_122 : decode cX4_takeNumber 122 = .ok (.ireturn, 1) := by decide +kernel
theorem dX4_fail_0 : decode cX4_fail 0 = .ok (.aload_n 0, 1) := by decide +kernel
theorem dX4_fail_1 : decode cX4_fail 1 = .ok (.iload_n 1, 1) := by decide +kernel
theorem dX4_fail_2 : decode cX4_fail 2 = .ok (.putfield 22, 3) := by decide +kernel
theorem dX4_fail_5 : decode cX4_fail 5 = .ok (.iconst 0, 1) := by decide +kernel
theorem dX4_fail_6 : decode cX4_fail 6 = .ok (.ireturn, 1) := by decide +kernel
theorem dX5_init_0 : decode cX5_init 0 = .ok (.aload_n 0, 1) := by decide +kernel
theorem dX5_init_1 : decode cX5_init 1 = .ok (.invokespecial 3, 3) := by decide +kernel
theorem dX5_init_4 : decode cX5_init 4 = .ok (.aload_n 0, 1) := by decide +kernel
theorem dX5_init_5 : decode cX5_init 5 = .ok (.bipush 12, 2) := by decide +kernel
theorem dX5_init_7 : decode cX5_init 7 = .ok (.newarray .int, 2) := by decide +kernel
theorem dX5_init_9 : decode cX5_init 9 = .ok (.putfield 9, 3) := by decide +kernel
theorem dX5_init_12 : decode cX5_init 12 = .ok (.aload_n 0, 1) := by decide +kernel
theorem dX5_init_13 : decode cX5_init 13 = .ok (.bipush 6, 2) := by decide +kernel
theorem dX5_init_15 : decode cX5_init 15 = .ok (.newarray .int, 2) := by decide +kernel
theorem dX5_init_17 : decode cX5_init 17 = .ok (.putfield 15, 3) := by decide +kernel
theorem dX5_init_20 : decode cX5_init 20 = .ok (.aload_n 0, 1) := by decide +kernel
theorem dX5_init_21 : decode cX5_init 21 = .ok (.bipush 6, 2) := by decide +kernel
theorem dX5_init_23 : decode cX5_init 23 = .ok (.newarray .int, 2) := by decide +kernel
theorem dX5_init_25 : decode cX5_init 25 = .ok (.putfield 18, 3) := by decide +kernel
theorem dX5_init_28 : decode cX5_init 28 = .ok (.aload_n 0, 1) := by decide +kernel
theorem dX5_init_29 : decode cX5_init 29 = .ok (.bipush 6, 2) := by decide +kernel
theorem dX5_init_31 : decode cX5_init 31 = .ok (.newarray .int, 2) := by decide +kernel
theorem dX5_init_33 : decode cX5_init 33 = .ok (.putfield 21, 3) := by decide +kernel
theorem dX5_init_36 : decode cX5_init 36 = .ok (.aload_n 0, 1) := by decide +kernel
theorem dX5_init_37 : decode cX5_init 37 = .ok (.bipush 6, 2) := by decide +kernel
theorem dX5_init_39 : decode cX5_init 39 = .ok (.newarray .int, 2) := by decide +kernel
theorem dX5_init_41 : decode cX5_init 41 = .ok (.putfield 24, 3) := by decide +kernel
theorem dX5_init_44 : decode cX5_init 44 = .ok (.return_, 1) := by decide +kernel
theorem dX5_takeFrom_0 : decode cX5_takeFrom 0 = .ok (.aload_n 0, 1) := by decide +kernel
theorem dX5_takeFrom_1 : decode cX5_takeFrom 1 = .ok (.aload_n 1, 1) := by decide +kernel
theorem dX5_takeFrom_2 : decode cX5_takeFrom 2 = .ok (.getfield 27, 3) := by decide +kernel
theorem dX5_takeFrom_5 : decode cX5_takeFrom 5 = .ok (.putfield 27, 3) := by decide +kernel
theorem dX5_takeFrom_8 : decode cX5_takeFrom 8 = .ok (.aload_n 0, 1) := by decide +kernel
theorem dX5_takeFrom_9 : decode cX5_takeFrom 9 = .ok (.aload_n 1, 1) := by decide +kernel
theorem dX5_takeFrom_10 : decode cX5_takeFrom 10 = .ok (.getfield 31, 3) := by decide +kernel
theorem dX5_takeFrom_13 : decode cX5_takeFrom 13 = .ok (.putfield 31, 3) := by decide +kernel
theorem dX5_takeFrom_16 : decode cX5_takeFrom 16 = .ok (.aload_n 0, 1) := by decide +kernel
theorem dX5_takeFrom_17 : decode cX5_takeFrom 17 = .ok (.aload_n 1, 1) := by decide +kernel
theorem dX5_takeFrom_18 : decode cX5_takeFrom 18 = .ok (.getfield 34, 3) := by decide +kernel
theorem dX5_takeFrom_21 : decode cX5_takeFrom 21 = .ok (.putfield 34, 3) := by decide +kernel
theorem dX5_takeFrom_24 : decode cX5_takeFrom 24 = .ok (.aload_n 0, 1) := by decide +kernel
theorem dX5_takeFrom_25 : decode cX5_takeFrom 25 = .ok (.aload_n 1, 1) := by decide +kernel
theorem dX5_takeFrom_26 : decode cX5_takeFrom 26 = .ok (.getfield 37, 3) := by decide +kernel
theorem dX5_takeFrom_29 : decode cX5_takeFrom 29 = .ok (.putfield 37, 3) := by decide +kernel
theorem dX5_takeFrom_32 : decode cX5_takeFrom 32 = .ok (.aload_n 0, 1) := by decide +kernel
theorem dX5_takeFrom_33 : decode cX5_takeFrom 33 = .ok (.aload_n 1, 1) := by decide +kernel
theorem dX5_takeFrom_34 : decode cX5_takeFrom 34 = .ok (.getfield 40, 3) := by decide +kernel
theorem dX5_takeFrom_37 : decode cX5_takeFrom 37 = .ok (.putfield 40, 3) := by decide +kernel
theorem dX5_takeFrom_40 : decode cX5_takeFrom 40 = .ok (.aload_n 0, 1) := by decide +kernel
theorem dX5_takeFrom_41 : decode cX5_takeFrom 41 = .ok (.aload_n 1, 1) := by decide +kernel
theorem dX5_takeFrom_42 : decode cX5_takeFrom 42 = .ok (.getfield 43, 3) := by decide +kernel
theorem dX5_takeFrom_45 : decode cX5_takeFrom 45 = .ok (.putfield 43, 3) := by decide +kernel
theorem dX5_takeFrom_48 : decode cX5_takeFrom 48 = .ok (.aload_n 1, 1) := by decide +kernel
theorem dX5_takeFrom_49 : decode cX5_takeFrom 49 = .ok (.getfield 9, 3) := by decide +kernel
theorem dX5_takeFrom_52 : decode cX5_takeFrom 52 = .ok (.iconst 0, 1) := by decide +kernel
theorem dX5_takeFrom_53 : decode cX5_takeFrom 53 = .ok (.aload_n 0, 1) := by decide +kernel
theorem dX5_takeFrom_54 : decode cX5_takeFrom 54 = .ok (.getfield 9, 3) := by decide +kernel
theorem dX5_takeFrom_57 : decode cX5_takeFrom 57 = .ok (.iconst 0, 1) := by decide +kernel
theorem dX5_takeFrom_58 : decode cX5_takeFrom 58 = .ok (.bipush 12, 2) := by decide +kernel
theorem dX5_takeFrom_60 : decode cX5_takeFrom 60 = .ok (.invokestatic 46, 3) := by decide +kernel
theorem dX5_takeFrom_63 : decode cX5_takeFrom 63 = .ok (.aload_n 1, 1) := by decide +kernel
theorem dX5_takeFrom_64 : decode cX5_takeFrom 64 = .ok (.getfield 15, 3) := by decide +kernel
theorem dX5_takeFrom_67 : decode cX5_takeFrom 67 = .ok (.iconst 0, 1) := by decide +kernel
theorem dX5_takeFrom_68 : decode cX5_takeFrom 68 = .ok (.aload_n 0, 1) := by decide +kernel
theorem dX5_takeFrom_69 : decode cX5_takeFrom 69 = .ok (.getfield 15, 3) := by decide +kernel
theorem dX5_takeFrom_72 : decode cX5_takeFrom 72 = .ok (.iconst 0, 1) := by decide +kernel
theorem dX5_takeFrom_73 : decode cX5_takeFrom 73 = .ok (.bipush 6, 2) := by decide +kernel
theorem dX5_takeFrom_75 : decode cX5_takeFrom 75 = .ok (.invokestatic 46, 3) := by decide +kernel
theorem dX5_takeFrom_78 : decode cX5_takeFrom 78 = .ok (.aload_n 1, 1) := by decide +kernel
theorem dX5_takeFrom_79 : decode cX5_takeFrom 79 = .ok (.getfield 18, 3) := by decide +kernel
theorem dX5_takeFrom_82 : decode cX5_takeFrom 82 = .ok (.iconst 0, 1) := by decide +kernel
theorem dX5_takeFrom_83 : decode cX5_takeFrom 83 = .ok (.aload_n 0, 1) := by decide +kernel
theorem dX5_takeFrom_84 : decode cX5_takeFrom 84 = .ok (.getfield 18, 3) := by decide +kernel
theorem dX5_takeFrom_87 : decode cX5_takeFrom 87 = .ok (.iconst 0, 1) := by decide +kernel
theorem dX5_takeFrom_88 : decode cX5_takeFrom 88 = .ok (.bipush 6, 2) := by decide +kernel
theorem dX5_takeFrom_90 : decode cX5_takeFrom 90 = .ok (.invokestatic 46, 3) := by decide +kernel
theorem dX5_takeFrom_93 : decode cX5_takeFrom 93 = .ok (.aload_n 1, 1) := by decide +kernel
theorem dX5_takeFrom_94 : decode cX5_takeFrom 94 = .ok (.getfield 21, 3) := by decide +kernel
theorem dX5_takeFrom_97 : decode cX5_takeFrom 97 = .ok (.iconst 0, 1) := by decide +kernel
theorem dX5_takeFrom_98 : decode cX5_takeFrom 98 = .ok (.aload_n 0, 1) := by decide +kernel
theorem dX5_takeFrom_99 : decode cX5_takeFrom 99 = .ok (.getfield 21, 3) := by decide +kernel
theorem dX5_takeFrom_102 : decode cX5_takeFrom 102 = .ok (.iconst 0, 1) := by decide +kernel
theorem dX5_takeFrom_103 : decode cX5_takeFrom 103 = .ok (.bipush 6, 2) := by decide +kernel
theorem dX5_takeFrom_105 : decode cX5_takeFrom 105 = .ok (.invokestatic 46, 3) := by decide +kernel
theorem dX5_takeFrom_108 : decode cX5_takeFrom 108 = .ok (.aload_n 1, 1) := by decide +kernel
theorem dX5_takeFrom_109 : decode cX5_takeFrom 109 = .ok (.getfield 24, 3) := by decide +kernel
theorem dX5_takeFrom_112 : decode cX5_takeFrom 112 = .ok (.iconst 0, 1) := by decide +kernel
theorem dX5_takeFrom_113 : decode cX5_takeFrom 113 = .ok (.aload_n 0, 1) := by decide +kernel
theorem dX5_takeFrom_114 : decode cX5_takeFrom 114 = .ok (.getfield 24, 3) := by decide +kernel
theorem dX5_takeFrom_117 : decode cX5_takeFrom 117 = .ok (.iconst 0, 1) := by decide +kernel
theorem dX5_takeFrom_118 : decode cX5_takeFrom 118 = .ok (.bipush 6, 2) := by decide +kernel
theorem dX5_takeFrom_120 : decode cX5_takeFrom 120 = .ok (.invokestatic 46, 3) := by decide +kernel
theorem dX5_takeFrom_123 : decode cX5_takeFrom 123 = .ok (.return_, 1) := by decide +kernel
theorem dX5_clear_0 : decode cX5_clear 0 = .ok (.aload_n 0, 1) := by decide +kernel
theorem dX5_clear_1 : decode cX5_clear 1 = .ok (.iconst 0, 1) := by decide +kernel
theorem dX5_clear_2 : decode cX5_clear 2 = .ok (.putfield 27, 3) := by decide +kernel
theorem dX5_clear_5 : decode cX5_clear 5 = .ok (.aload_n 0, 1) := by decide +kernel
theorem dX5_clear_6 : decode cX5_clear 6 = .ok (.iconst 0, 1) := by decide +kernel
theorem dX5_clear_7 : decode cX5_clear 7 = .ok (.putfield 31, 3) := by decide +kernel
theorem dX5_clear_10 : decode cX5_clear 10 = .ok (.aload_n 0, 1) := by decide +kernel
theorem dX5_clear_11 : decode cX5_clear 11 = .ok (.iconst 0, 1) := by decide +kernel
theorem dX5_clear_12 : decode cX5_clear 12 = .ok (.putfield 34, 3) := by decide +kernel
theorem dX5_clear_15 : decode cX5_clear 15 = .ok (.aload_n 0, 1) := by decide +kernel
theorem dX5_clear_16 : decode cX5_clear 16 = .ok (.iconst 0, 1) := by decide +kernel
theorem dX5_clear_17 : decode cX5_clear 17 = .ok (.putfield 37, 3) := by decide +kernel
theorem dX5_clear_20 : decode cX5_clear 20 = .ok (.aload_n 0, 1) := by decide +kernel
theorem dX5_clear_21 : decode cX5_clear 21 = .ok (.iconst 0, 1) := by decide +kernel
theorem dX5_clear_22 : decode cX5_clear 22 = .ok (.putfield 40, 3) := by decide +kernel
theorem dX5_clear_25 : decode cX5_clear 25 = .ok (.aload_n 0, 1) := by decide +kernel
theorem dX5_clear_26 : decode cX5_clear 26 = .ok (.iconst 0, 1) := by decide +kernel
theorem dX5_clear_27 : decode cX5_clear 27 = .ok (.putfield 43, 3) := by decide +kernel
theorem dX5_clear_30 : decode cX5_clear 30 = .ok (.aload_n 0, 1) := by decide +kernel
theorem dX5_clear_31 : decode cX5_clear 31 = .ok (.getfield 21, 3) := by decide +kernel
theorem dX5_clear_34 : decode cX5_clear 34 = .ok (.iconst 0, 1) := by decide +kernel
theorem dX5_clear_35 : decode cX5_clear 35 = .ok (.invokestatic 52, 3) := by decide +kernel
theorem dX5_clear_38 : decode cX5_clear 38 = .ok (.aload_n 0, 1) := by decide +kernel
theorem dX5_clear_39 : decode cX5_clear 39 = .ok (.getfield 24, 3) := by decide +kernel
theorem dX5_clear_42 : decode cX5_clear 42 = .ok (.iconst 0, 1) := by decide +kernel
theorem dX5_clear_43 : decode cX5_clear 43 = .ok (.invokestatic 52, 3) := by decide +kernel
theorem dX5_clear_46 : decode cX5_clear 46 = .ok (.return_, 1) := by decide +kernel
theorem dX5_turn_0 : decode cX5_turn 0 = .ok (.iconst 0, 1) := by decide +kernel
theorem dX5_turn_1 : decode cX5_turn 1 = .ok (.istore_n 1, 1) := by decide +kernel
theorem dX5_turn_2 : decode cX5_turn 2 = .ok (.iload_n 1, 1) := by decide +kernel
theorem dX5_turn_3 : decode cX5_turn 3 = .ok (.aload_n 0, 1) := by decide +kernel
theorem dX5_turn_4 : decode cX5_turn 4 = .ok (.getfield 31, 3) := by decide +kernel
theorem dX5_turn_7 : decode cX5_turn 7 = .ok (.if_icmp .ge 39, 3) := by decide +kernel
theorem dX5_turn_10 : decode cX5_turn 10 = .ok (.aload_n 0, 1) := by decide +kernel
theorem dX5_turn_11 : decode cX5_turn 11 = .ok (.getfield 21, 3) := by decide +kernel
theorem dX5_turn_14 : decode cX5_turn 14 = .ok (.iload_n 1, 1) := by decide +kernel
theorem dX5_turn_15 : decode cX5_turn 15 = .ok (.iaload, 1) := by decide +kernel
theorem dX5_turn_16 : decode cX5_turn 16 = .ok (.ifCond .le 24, 3) := by decide +kernel
theorem dX5_turn_19 : decode cX5_turn 19 = .ok (.aload_n 0, 1) := by decide +kernel
theorem dX5_turn_20 : decode cX5_turn 20 = .ok (.getfield 21, 3) := by decide +kernel
theorem dX5_turn_23 : decode cX5_turn 23 = .ok (.iload_n 1, 1) := by decide +kernel
theorem dX5_turn_24 : decode cX5_turn 24 = .ok (.aload_n 0, 1) := by decide +kernel
theorem dX5_turn_25 : decode cX5_turn 25 = .ok (.getfield 15, 3) := by decide +kernel
theorem dX5_turn_28 : decode cX5_turn 28 = .ok (.iload_n 1, 1) := by decide +kernel
theorem dX5_turn_29 : decode cX5_turn 29 = .ok (.iaload, 1) := by decide +kernel
theorem dX5_turn_30 : decode cX5_turn 30 = .ok (.aload_n 0, 1) := by decide +kernel
theorem dX5_turn_31 : decode cX5_turn 31 = .ok (.getfield 21, 3) := by decide +kernel
theorem dX5_turn_34 : decode cX5_turn 34 = .ok (.iload_n 1, 1) := by decide +kernel
theorem dX5_turn_35 : decode cX5_turn 35 = .ok (.iaload, 1) := by decide +kernel
theorem dX5_turn_36 : decode cX5_turn 36 = .ok (.invokestatic 58, 3) := by decide +kernel
theorem dX5_turn_39 : decode cX5_turn 39 = .ok (.iastore, 1) := by decide +kernel
theorem dX5_turn_40 : decode cX5_turn 40 = .ok (.iinc 1 1, 3) := by decide +kernel
theorem dX5_turn_43 : decode cX5_turn 43 = .ok (.goto (-41), 3) := by decide +kernel
theorem dX5_turn_46 : decode cX5_turn 46 = .ok (.aload_n 0, 1) := by decide +kernel
theorem dX5_turn_47 : decode cX5_turn 47 = .ok (.dup, 1) := by decide +kernel
theorem dX5_turn_48 : decode cX5_turn 48 = .ok (.getfield 40, 3) := by decide +kernel
theorem dX5_turn_51 : decode cX5_turn 51 = .ok (.iconst 1, 1) := by decide +kernel
theorem dX5_turn_52 : decode cX5_turn 52 = .ok (.iadd, 1) := by decide +kernel
theorem dX5_turn_53 : decode cX5_turn 53 = .ok (.putfield 40, 3) := by decide +kernel
theorem dX5_turn_56 : decode cX5_turn 56 = .ok (.aload_n 0, 1) := by decide +kernel
theorem dX5_turn_57 : decode cX5_turn 57 = .ok (.getfield 34, 3) := by decide +kernel
theorem dX5_turn_60 : decode cX5_turn 60 = .ok (.ifCond .gt 5, 3) := by decide +kernel
theorem dX5_turn_63 : decode cX5_turn 63 = .ok (.iconst 0, 1) := by decide +kernel
theorem dX5_turn_64 : decode cX5_turn 64 = .ok (.ireturn, 1) := by decide +kernel
theorem dX5_turn_65 : decode cX5_turn 65 = .ok (.aload_n 0, 1) := by decide +kernel
theorem dX5_turn_66 : decode cX5_turn 66 = .ok (.aload_n 0, 1) := by decide +kernel
theorem dX5_turn_67 : decode cX5_turn 67 = .ok (.invokevirtual 62, 3) := by decide +kernel
theorem dX5_turn_70 : decode cX5_turn 70 = .ok (.putfield 37, 3) := by decide +kernel
theorem dX5_turn_73 : decode cX5_turn 73 = .ok (.aload_n 0, 1) := by decide +kernel
theorem dX5_turn_74 : decode cX5_turn 74 = .ok (.dup, 1) := by decide +kernel
theorem dX5_turn_75 : decode cX5_turn 75 = .ok (.getfield 34, 3) := by decide +kernel
theorem dX5_turn_78 : decode cX5_turn 78 = .ok (.iconst 1, 1) := by decide +kernel
theorem dX5_turn_79 : decode cX5_turn 79 = .ok (.isub, 1) := by decide +kernel
theorem dX5_turn_80 : decode cX5_turn 80 = .ok (.putfield 34, 3) := by decide +kernel
theorem dX5_turn_83 : decode cX5_turn 83 = .ok (.aload_n 0, 1) := by decide +kernel
theorem dX5_turn_84 : decode cX5_turn 84 = .ok (.getfield 34, 3) := by decide +kernel
theorem dX5_turn_87 : decode cX5_turn 87 = .ok (.istore_n 1, 1) := by decide +kernel
theorem dX5_turn_88 : decode cX5_turn 88 = .ok (.aload_n 0, 1) := by decide +kernel
theorem dX5_turn_89 : decode cX5_turn 89 = .ok (.getfield 9, 3) := by decide +kernel
theorem dX5_turn_92 : decode cX5_turn 92 = .ok (.aload_n 0, 1) := by decide +kernel
theorem dX5_turn_93 : decode cX5_turn 93 = .ok (.getfield 37, 3) := by decide +kernel
theorem dX5_turn_96 : decode cX5_turn 96 = .ok (.iaload, 1) := by decide +kernel
theorem dX5_turn_97 : decode cX5_turn 97 = .ok (.aload_n 0, 1) := by decide +kernel
theorem dX5_turn_98 : decode cX5_turn 98 = .ok (.getfield 43, 3) := by decide +kernel
theorem dX5_turn_101 : decode cX5_turn 101 = .ok (.iconst (-1), 1) := by decide +kernel
theorem dX5_turn_102 : decode cX5_turn 102 = .ok (.ixor, 1) := by decide +kernel
theorem dX5_turn_103 : decode cX5_turn 103 = .ok (.iand, 1) := by decide +kernel
theorem dX5_turn_104 : decode cX5_turn 104 = .ok (.istore_n 2, 1) := by decide +kernel
theorem dX5_turn_105 : decode cX5_turn 105 = .ok (.iconst 0, 1) := by decide +kernel
theorem dX5_turn_106 : decode cX5_turn 106 = .ok (.istore_n 3, 1) := by decide +kernel
theorem dX5_turn_107 : decode cX5_turn 107 = .ok (.iload_n 3, 1) := by decide +kernel
theorem dX5_turn_108 : decode cX5_turn 108 = .ok (.aload_n 0, 1) := by decide +kernel
theorem dX5_turn_109 : decode cX5_turn 109 = .ok (.getfield 31, 3) := by decide +kernel
theorem dX5_turn_112 : decode cX5_turn 112 = .ok (.if_icmp .ge 30, 3) := by decide +kernel
theorem dX5_turn_115 : decode cX5_turn 115 = .ok (.aload_n 0, 1) := by decide +kernel
theorem dX5_turn_116 : decode cX5_turn 116 = .ok (.getfield 34, 3) := by decide +kernel
theorem dX5_turn_119 : decode cX5_turn 119 = .ok (.ifCond .le 23, 3) := by decide +kernel
theorem dX5_turn_122 : decode cX5_turn 122 = .ok (.iload_n 2, 1) := by decide +kernel
theorem dX5_turn_123 : decode cX5_turn 123 = .ok (.iload_n 3, 1) := by decide +kernel
theorem dX5_turn_124 : decode cX5_turn 124 = .ok (.ishr, 1) := by decide +kernel
theorem dX5_turn_125 : decode cX5_turn 125 = .ok (.iconst 1, 1) := by decide +kernel
theorem dX5_turn_126 : decode cX5_turn 126 = .ok (.iand, 1) := by decide +kernel
theorem dX5_turn_127 : decode cX5_turn 127 = .ok (.iconst 1, 1) := by decide +kernel
theorem dX5_turn_128 : decode cX5_turn 128 = .ok (.if_icmp .ne 8, 3) := by decide +kernel
theorem dX5_turn_131 : decode cX5_turn 131 = .ok (.aload_n 0, 1) := by decide +kernel
theorem dX5_turn_132 : decode cX5_turn 132 = .ok (.iload_n 3, 1) := by decide +kernel
theorem dX5_turn_133 : decode cX5_turn 133 = .ok (.invokevirtual 66, 3) := by decide +kernel
theorem dX5_turn_136 : decode cX5_turn 136 = .ok (.iinc 3 1, 3) := by decide +kernel
theorem dX5_turn_139 : decode cX5_turn 139 = .ok (.goto (-32), 3) := by decide +kernel
theorem dX5_turn_142 : decode cX5_turn 142 = .ok (.iload_n 1, 1) := by decide +kernel
theorem dX5_turn_143 : decode cX5_turn 143 = .ok (.aload_n 0, 1) := by decide +kernel
theorem dX5_turn_144 : decode cX5_turn 144 = .ok (.getfield 34, 3) := by decide +kernel
theorem dX5_turn_147 : decode cX5_turn 147 = .ok (.isub, 1) := by decide +kernel
theorem dX5_turn_148 : decode cX5_turn 148 = .ok (.ireturn, 1) := by decide +kernel
theorem dX5_faded_0 : decode cX5_faded 0 = .ok (.iload_n 0, 1) := by decide +kernel
theorem dX5_faded_1 : decode cX5_faded 1 = .ok (.tableswitch 45 2 5 #[31, 45, 33, 41], 31) := by decide +kernel
theorem dX5_faded_32 : decode cX5_faded 32 = .ok (.iconst 0, 1) := by decide +kernel
theorem dX5_faded_33 : decode cX5_faded 33 = .ok (.ireturn, 1) := by decide +kernel
theorem dX5_faded_34 : decode cX5_faded 34 = .ok (.iconst 0, 1) := by decide +kernel
theorem dX5_faded_35 : decode cX5_faded 35 = .ok (.iload_n 1, 1) := by decide +kernel
theorem dX5_faded_36 : decode cX5_faded 36 = .ok (.iconst 1, 1) := by decide +kernel
theorem dX5_faded_37 : decode cX5_faded 37 = .ok (.isub, 1) := by decide +kernel
theorem dX5_faded_38 : decode cX5_faded 38 = .ok (.invokestatic 70, 3) := by decide +kernel
theorem dX5_faded_41 : decode cX5_faded 41 = .ok (.ireturn, 1) := by decide +kernel
theorem dX5_faded_42 : decode cX5_faded 42 = .ok (.iload_n 1, 1) := by decide +kernel
theorem dX5_faded_43 : decode cX5_faded 43 = .ok (.iconst 2, 1) := by decide +kernel
theorem dX5_faded_44 : decode cX5_faded 44 = .ok (.idiv, 1) := by decide +kernel
theorem dX5_faded_45 : decode cX5_faded 45 = .ok (.ireturn, 1) := by decide +kernel
theorem dX5_faded_46 : decode cX5_faded 46 = .ok (.iconst 0, 1) := by decide +kernel
theorem dX5_faded_47 : decode cX5_faded 47 = .ok (.iload_n 1, 1) := by decide +kernel
theorem dX5_faded_48 : decode cX5_faded 48 = .ok (.iconst 2, 1) := by decide +kernel
theorem dX5_faded_49 : decode cX5_faded 49 = .ok (.isub, 1) := by decide +kernel
theorem dX5_faded_50 : decode cX5_faded 50 = .ok (.invokestatic 70, 3) := by decide +kernel
theorem dX5_faded_53 : decode cX5_faded 53 = .ok (.ireturn, 1) := by decide +kernel
theorem dX5_pluck_0 : decode cX5_pluck 0 = .ok (.aload_n 0, 1) := by decide +kernel
theorem dX5_pluck_1 : decode cX5_pluck 1 = .ok (.dup, 1) := by decide +kernel
theorem dX5_pluck_2 : decode cX5_pluck 2 = .ok (.getfield 34, 3) := by decide +kernel
theorem dX5_pluck_5 : decode cX5_pluck 5 = .ok (.iconst 1, 1) := by decide +kernel
theorem dX5_pluck_6 : decode cX5_pluck 6 = .ok (.isub, 1) := by decide +kernel
theorem dX5_pluck_7 : decode cX5_pluck 7 = .ok (.putfield 34, 3) := by decide +kernel
theorem dX5_pluck_10 : decode cX5_pluck 10 = .ok (.aload_n 0, 1) := by decide +kernel
theorem dX5_pluck_11 : decode cX5_pluck 11 = .ok (.getfield 24, 3) := by decide +kernel
theorem dX5_pluck_14 : decode cX5_pluck 14 = .ok (.iload_n 1, 1) := by decide +kernel
theorem dX5_pluck_15 : decode cX5_pluck 15 = .ok (.bipush 99, 2) := by decide +kernel
theorem dX5_pluck_17 : decode cX5_pluck 17 = .ok (.aload_n 0, 1) := by decide +kernel
theorem dX5_pluck_18 : decode cX5_pluck 18 = .ok (.getfield 24, 3) := by decide +kernel
theorem dX5_pluck_21 : decode cX5_pluck 21 = .ok (.iload_n 1, 1) := by decide +kernel
theorem dX5_pluck_22 : decode cX5_pluck 22 = .ok (.iaload, 1) := by decide +kernel
theorem dX5_pluck_23 : decode cX5_pluck 23 = .ok (.iconst 1, 1) := by decide +kernel
theorem dX5_pluck_24 : decode cX5_pluck 24 = .ok (.iadd, 1) := by decide +kernel
theorem dX5_pluck_25 : decode cX5_pluck 25 = .ok (.invokestatic 75, 3) := by decide +kernel
theorem dX5_pluck_28 : decode cX5_pluck 28 = .ok (.iastore, 1) := by decide +kernel
theorem dX5_pluck_29 : decode cX5_pluck 29 = .ok (.aload_n 0, 1) := by decide +kernel
theorem dX5_pluck_30 : decode cX5_pluck 30 = .ok (.getfield 15, 3) := by decide +kernel
theorem dX5_pluck_33 : decode cX5_pluck 33 = .ok (.iload_n 1, 1) := by decide +kernel
theorem dX5_pluck_34 : decode cX5_pluck 34 = .ok (.iaload, 1) := by decide +kernel
theorem dX5_pluck_35 : decode cX5_pluck 35 = .ok (.tableswitch 142 2 5 #[29, 112, 44, 67], 29) := by decide +kernel
theorem dX5_pluck_64 : decode cX5_pluck 64 = .ok (.aload_n 0, 1) := by decide +kernel
theorem dX5_pluck_65 : decode cX5_pluck 65 = .ok (.getfield 21, 3) := by decide +kernel
theorem dX5_pluck_68 : decode cX5_pluck 68 = .ok (.iload_n 1, 1) := by decide +kernel
theorem dX5_pluck_69 : decode cX5_pluck 69 = .ok (.aload_n 0, 1) := by decide +kernel
theorem dX5_pluck_70 : decode cX5_pluck 70 = .ok (.getfield 18, 3) := by decide +kernel
theorem dX5_pluck_73 : decode cX5_pluck 73 = .ok (.iload_n 1, 1) := by decide +kernel
theorem dX5_pluck_74 : decode cX5_pluck 74 = .ok (.iaload, 1) := by decide +kernel
theorem dX5_pluck_75 : decode cX5_pluck 75 = .ok (.iastore, 1) := by decide +kernel
theorem dX5_pluck_76 : decode cX5_pluck 76 = .ok (.goto 115, 3) := by decide +kernel
theorem dX5_pluck_79 : decode cX5_pluck 79 = .ok (.aload_n 0, 1) := by decide +kernel
theorem dX5_pluck_80 : decode cX5_pluck 80 = .ok (.getfield 21, 3) := by decide +kernel
theorem dX5_pluck_83 : decode cX5_pluck 83 = .ok (.iload_n 1, 1) := by decide +kernel
theorem dX5_pluck_84 : decode cX5_pluck 84 = .ok (.aload_n 0, 1) := by decide +kernel
theorem dX5_pluck_85 : decode cX5_pluck 85 = .ok (.getfield 18, 3) := by decide +kernel
theorem dX5_pluck_88 : decode cX5_pluck 88 = .ok (.iload_n 1, 1) := by decide +kernel
theorem dX5_pluck_89 : decode cX5_pluck 89 = .ok (.iaload, 1) := by decide +kernel
theorem dX5_pluck_90 : decode cX5_pluck 90 = .ok (.aload_n 0, 1) := by decide +kernel
theorem dX5_pluck_91 : decode cX5_pluck 91 = .ok (.getfield 34, 3) := by decide +kernel
theorem dX5_pluck_94 : decode cX5_pluck 94 = .ok (.bipush 10, 2) := by decide +kernel
theorem dX5_pluck_96 : decode cX5_pluck 96 = .ok (.idiv, 1) := by decide +kernel
theorem dX5_pluck_97 : decode cX5_pluck 97 = .ok (.iadd, 1) := by decide +kernel
theorem dX5_pluck_98 : decode cX5_pluck 98 = .ok (.iastore, 1) := by decide +kernel
