theorem dX5_pluck_99 : decode cX5_pluck 99 = .ok (.goto 92, 3) := by decide +kernel
theorem dX5_pluck_102 : decode cX5_pluck 102 = .ok (.aload_n 0, 1) := by decide +kernel
theorem dX5_pluck_103 : decode cX5_pluck 103 = .ok (.getfield 21, 3) := by decide +kernel
theorem dX5_pluck_106 : decode cX5_pluck 106 = .ok (.iload_n 1, 1) := by decide +kernel
theorem dX5_pluck_107 : decode cX5_pluck 107 = .ok (.aload_n 0, 1) := by decide +kernel
theorem dX5_pluck_108 : decode cX5_pluck 108 = .ok (.getfield 18, 3) := by decide +kernel
theorem dX5_pluck_111 : decode cX5_pluck 111 = .ok (.iload_n 1, 1) := by decide +kernel
theorem dX5_pluck_112 : decode cX5_pluck 112 = .ok (.iaload, 1) := by decide +kernel
theorem dX5_pluck_113 : decode cX5_pluck 113 = .ok (.aload_n 0, 1) := by decide +kernel
theorem dX5_pluck_114 : decode cX5_pluck 114 = .ok (.getfield 34, 3) := by decide +kernel
theorem dX5_pluck_117 : decode cX5_pluck 117 = .ok (.bipush 10, 2) := by decide +kernel
theorem dX5_pluck_119 : decode cX5_pluck 119 = .ok (.idiv, 1) := by decide +kernel
theorem dX5_pluck_120 : decode cX5_pluck 120 = .ok (.iadd, 1) := by decide +kernel
theorem dX5_pluck_121 : decode cX5_pluck 121 = .ok (.iastore, 1) := by decide +kernel
theorem dX5_pluck_122 : decode cX5_pluck 122 = .ok (.aload_n 0, 1) := by decide +kernel
theorem dX5_pluck_123 : decode cX5_pluck 123 = .ok (.getfield 24, 3) := by decide +kernel
theorem dX5_pluck_126 : decode cX5_pluck 126 = .ok (.iload_n 1, 1) := by decide +kernel
theorem dX5_pluck_127 : decode cX5_pluck 127 = .ok (.iaload, 1) := by decide +kernel
theorem dX5_pluck_128 : decode cX5_pluck 128 = .ok (.iconst 3, 1) := by decide +kernel
theorem dX5_pluck_129 : decode cX5_pluck 129 = .ok (.if_icmp .lt 62, 3) := by decide +kernel
theorem dX5_pluck_132 : decode cX5_pluck 132 = .ok (.aload_n 0, 1) := by decide +kernel
theorem dX5_pluck_133 : decode cX5_pluck 133 = .ok (.dup, 1) := by decide +kernel
theorem dX5_pluck_134 : decode cX5_pluck 134 = .ok (.getfield 43, 3) := by decide +kernel
theorem dX5_pluck_137 : decode cX5_pluck 137 = .ok (.iconst 1, 1) := by decide +kernel
theorem dX5_pluck_138 : decode cX5_pluck 138 = .ok (.iload_n 1, 1) := by decide +kernel
theorem dX5_pluck_139 : decode cX5_pluck 139 = .ok (.ishl, 1) := by decide +kernel
theorem dX5_pluck_140 : decode cX5_pluck 140 = .ok (.ior, 1) := by decide +kernel
theorem dX5_pluck_141 : decode cX5_pluck 141 = .ok (.putfield 43, 3) := by decide +kernel
theorem dX5_pluck_144 : decode cX5_pluck 144 = .ok (.goto 47, 3) := by decide +kernel
theorem dX5_pluck_147 : decode cX5_pluck 147 = .ok (.aload_n 0, 1) := by decide +kernel
theorem dX5_pluck_148 : decode cX5_pluck 148 = .ok (.getfield 21, 3) := by decide +kernel
theorem dX5_pluck_151 : decode cX5_pluck 151 = .ok (.iload_n 1, 1) := by decide +kernel
theorem dX5_pluck_152 : decode cX5_pluck 152 = .ok (.iconst 2, 1) := by decide +kernel
theorem dX5_pluck_153 : decode cX5_pluck 153 = .ok (.aload_n 0, 1) := by decide +kernel
theorem dX5_pluck_154 : decode cX5_pluck 154 = .ok (.getfield 18, 3) := by decide +kernel
theorem dX5_pluck_157 : decode cX5_pluck 157 = .ok (.iload_n 1, 1) := by decide +kernel
theorem dX5_pluck_158 : decode cX5_pluck 158 = .ok (.iaload, 1) := by decide +kernel
theorem dX5_pluck_159 : decode cX5_pluck 159 = .ok (.imul, 1) := by decide +kernel
theorem dX5_pluck_160 : decode cX5_pluck 160 = .ok (.iastore, 1) := by decide +kernel
theorem dX5_pluck_161 : decode cX5_pluck 161 = .ok (.aload_n 0, 1) := by decide +kernel
theorem dX5_pluck_162 : decode cX5_pluck 162 = .ok (.iload_n 1, 1) := by decide +kernel
theorem dX5_pluck_163 : decode cX5_pluck 163 = .ok (.iconst 1, 1) := by decide +kernel
theorem dX5_pluck_164 : decode cX5_pluck 164 = .ok (.iadd, 1) := by decide +kernel
theorem dX5_pluck_165 : decode cX5_pluck 165 = .ok (.aload_n 0, 1) := by decide +kernel
theorem dX5_pluck_166 : decode cX5_pluck 166 = .ok (.getfield 18, 3) := by decide +kernel
theorem dX5_pluck_169 : decode cX5_pluck 169 = .ok (.iload_n 1, 1) := by decide +kernel
theorem dX5_pluck_170 : decode cX5_pluck 170 = .ok (.iaload, 1) := by decide +kernel
theorem dX5_pluck_171 : decode cX5_pluck 171 = .ok (.invokevirtual 78, 3) := by decide +kernel
theorem dX5_pluck_174 : decode cX5_pluck 174 = .ok (.goto 17, 3) := by decide +kernel
theorem dX5_pluck_177 : decode cX5_pluck 177 = .ok (.aload_n 0, 1) := by decide +kernel
theorem dX5_pluck_178 : decode cX5_pluck 178 = .ok (.getfield 21, 3) := by decide +kernel
theorem dX5_pluck_181 : decode cX5_pluck 181 = .ok (.iload_n 1, 1) := by decide +kernel
theorem dX5_pluck_182 : decode cX5_pluck 182 = .ok (.iconst 2, 1) := by decide +kernel
theorem dX5_pluck_183 : decode cX5_pluck 183 = .ok (.aload_n 0, 1) := by decide +kernel
theorem dX5_pluck_184 : decode cX5_pluck 184 = .ok (.getfield 18, 3) := by decide +kernel
theorem dX5_pluck_187 : decode cX5_pluck 187 = .ok (.iload_n 1, 1) := by decide +kernel
theorem dX5_pluck_188 : decode cX5_pluck 188 = .ok (.iaload, 1) := by decide +kernel
theorem dX5_pluck_189 : decode cX5_pluck 189 = .ok (.imul, 1) := by decide +kernel
theorem dX5_pluck_190 : decode cX5_pluck 190 = .ok (.iastore, 1) := by decide +kernel
theorem dX5_pluck_191 : decode cX5_pluck 191 = .ok (.return_, 1) := by decide +kernel
theorem dX5_stir_0 : decode cX5_stir 0 = .ok (.iload_n 1, 1) := by decide +kernel
theorem dX5_stir_1 : decode cX5_stir 1 = .ok (.aload_n 0, 1) := by decide +kernel
theorem dX5_stir_2 : decode cX5_stir 2 = .ok (.getfield 31, 3) := by decide +kernel
theorem dX5_stir_5 : decode cX5_stir 5 = .ok (.if_icmp .ge 31, 3) := by decide +kernel
theorem dX5_stir_8 : decode cX5_stir 8 = .ok (.aload_n 0, 1) := by decide +kernel
theorem dX5_stir_9 : decode cX5_stir 9 = .ok (.getfield 43, 3) := by decide +kernel
theorem dX5_stir_12 : decode cX5_stir 12 = .ok (.iload_n 1, 1) := by decide +kernel
theorem dX5_stir_13 : decode cX5_stir 13 = .ok (.ishr, 1) := by decide +kernel
theorem dX5_stir_14 : decode cX5_stir 14 = .ok (.iconst 1, 1) := by decide +kernel
theorem dX5_stir_15 : decode cX5_stir 15 = .ok (.iand, 1) := by decide +kernel
theorem dX5_stir_16 : decode cX5_stir 16 = .ok (.ifCond .ne 20, 3) := by decide +kernel
theorem dX5_stir_19 : decode cX5_stir 19 = .ok (.aload_n 0, 1) := by decide +kernel
theorem dX5_stir_20 : decode cX5_stir 20 = .ok (.getfield 21, 3) := by decide +kernel
theorem dX5_stir_23 : decode cX5_stir 23 = .ok (.iload_n 1, 1) := by decide +kernel
theorem dX5_stir_24 : decode cX5_stir 24 = .ok (.iaload, 1) := by decide +kernel
theorem dX5_stir_25 : decode cX5_stir 25 = .ok (.iload_n 2, 1) := by decide +kernel
theorem dX5_stir_26 : decode cX5_stir 26 = .ok (.if_icmp .ge 10, 3) := by decide +kernel
theorem dX5_stir_29 : decode cX5_stir 29 = .ok (.aload_n 0, 1) := by decide +kernel
theorem dX5_stir_30 : decode cX5_stir 30 = .ok (.getfield 21, 3) := by decide +kernel
theorem dX5_stir_33 : decode cX5_stir 33 = .ok (.iload_n 1, 1) := by decide +kernel
theorem dX5_stir_34 : decode cX5_stir 34 = .ok (.iload_n 2, 1) := by decide +kernel
theorem dX5_stir_35 : decode cX5_stir 35 = .ok (.iastore, 1) := by decide +kernel
theorem dX5_stir_36 : decode cX5_stir 36 = .ok (.return_, 1) := by decide +kernel
theorem dX5_columnBehind_0 : decode cX5_columnBehind 0 = .ok (.aload_n 0, 1) := by decide +kernel
theorem dX5_columnBehind_1 : decode cX5_columnBehind 1 = .ok (.getfield 37, 3) := by decide +kernel
theorem dX5_columnBehind_4 : decode cX5_columnBehind 4 = .ok (.iconst 1, 1) := by decide +kernel
theorem dX5_columnBehind_5 : decode cX5_columnBehind 5 = .ok (.iadd, 1) := by decide +kernel
theorem dX5_columnBehind_6 : decode cX5_columnBehind 6 = .ok (.aload_n 0, 1) := by decide +kernel
theorem dX5_columnBehind_7 : decode cX5_columnBehind 7 = .ok (.getfield 27, 3) := by decide +kernel
theorem dX5_columnBehind_10 : decode cX5_columnBehind 10 = .ok (.if_icmp .ge 12, 3) := by decide +kernel
theorem dX5_columnBehind_13 : decode cX5_columnBehind 13 = .ok (.aload_n 0, 1) := by decide +kernel
theorem dX5_columnBehind_14 : decode cX5_columnBehind 14 = .ok (.getfield 37, 3) := by decide +kernel
theorem dX5_columnBehind_17 : decode cX5_columnBehind 17 = .ok (.iconst 1, 1) := by decide +kernel
theorem dX5_columnBehind_18 : decode cX5_columnBehind 18 = .ok (.iadd, 1) := by decide +kernel
theorem dX5_columnBehind_19 : decode cX5_columnBehind 19 = .ok (.goto 4, 3) := by decide +kernel
theorem dX5_columnBehind_22 : decode cX5_columnBehind 22 = .ok (.iconst 0, 1) := by decide +kernel
theorem dX5_columnBehind_23 : decode cX5_columnBehind 23 = .ok (.ireturn, 1) := by decide +kernel
theorem dX5_windBy_0 : decode cX5_windBy 0 = .ok (.aload_n 0, 1) := by decide +kernel
theorem dX5_windBy_1 : decode cX5_windBy 1 = .ok (.bipush 99, 2) := by decide +kernel
theorem dX5_windBy_3 : decode cX5_windBy 3 = .ok (.aload_n 0, 1) := by decide +kernel
theorem dX5_windBy_4 : decode cX5_windBy 4 = .ok (.getfield 34, 3) := by decide +kernel
theorem dX5_windBy_7 : decode cX5_windBy 7 = .ok (.iload_n 1, 1) := by decide +kernel
theorem dX5_windBy_8 : decode cX5_windBy 8 = .ok (.iadd, 1) := by decide +kernel
theorem dX5_windBy_9 : decode cX5_windBy 9 = .ok (.invokestatic 75, 3) := by decide +kernel
theorem dX5_windBy_12 : decode cX5_windBy 12 = .ok (.putfield 34, 3) := by decide +kernel
theorem dX5_windBy_15 : decode cX5_windBy 15 = .ok (.return_, 1) := by decide +kernel
theorem dX5_togglePin_0 : decode cX5_togglePin 0 = .ok (.aload_n 0, 1) := by decide +kernel
theorem dX5_togglePin_1 : decode cX5_togglePin 1 = .ok (.getfield 9, 3) := by decide +kernel
theorem dX5_togglePin_4 : decode cX5_togglePin 4 = .ok (.iload_n 1, 1) := by decide +kernel
theorem dX5_togglePin_5 : decode cX5_togglePin 5 = .ok (.dup2, 1) := by decide +kernel
theorem dX5_togglePin_6 : decode cX5_togglePin 6 = .ok (.iaload, 1) := by decide +kernel
theorem dX5_togglePin_7 : decode cX5_togglePin 7 = .ok (.iconst 1, 1) := by decide +kernel
theorem dX5_togglePin_8 : decode cX5_togglePin 8 = .ok (.iload_n 2, 1) := by decide +kernel
theorem dX5_togglePin_9 : decode cX5_togglePin 9 = .ok (.ishl, 1) := by decide +kernel
theorem dX5_togglePin_10 : decode cX5_togglePin 10 = .ok (.ixor, 1) := by decide +kernel
theorem dX5_togglePin_11 : decode cX5_togglePin 11 = .ok (.iastore, 1) := by decide +kernel
theorem dX5_togglePin_12 : decode cX5_togglePin 12 = .ok (.return_, 1) := by decide +kernel
theorem dX5_isBroken_0 : decode cX5_isBroken 0 = .ok (.aload_n 0, 1) := by decide +kernel
theorem dX5_isBroken_1 : decode cX5_isBroken 1 = .ok (.getfield 43, 3) := by decide +kernel
theorem dX5_isBroken_4 : decode cX5_isBroken 4 = .ok (.iload_n 1, 1) := by decide +kernel
theorem dX5_isBroken_5 : decode cX5_isBroken 5 = .ok (.ishr, 1) := by decide +kernel
theorem dX5_isBroken_6 : decode cX5_isBroken 6 = .ok (.iconst 1, 1) := by decide +kernel
theorem dX5_isBroken_7 : decode cX5_isBroken 7 = .ok (.iand, 1) := by decide +kernel
theorem dX5_isBroken_8 : decode cX5_isBroken 8 = .ok (.iconst 1, 1) := by decide +kernel
theorem dX5_isBroken_9 : decode cX5_isBroken 9 = .ok (.if_icmp .ne 7, 3) := by decide +kernel
theorem dX5_isBroken_12 : decode cX5_isBroken 12 = .ok (.iconst 1, 1) := by decide +kernel
theorem dX5_isBroken_13 : decode cX5_isBroken 13 = .ok (.goto 4, 3) := by decide +kernel
theorem dX5_isBroken_16 : decode cX5_isBroken 16 = .ok (.iconst 0, 1) := by decide +kernel
theorem dX5_isBroken_17 : decode cX5_isBroken 17 = .ok (.ireturn, 1) := by decide +kernel
theorem dX5_makeWhole_0 : decode cX5_makeWhole 0 = .ok (.aload_n 0, 1) := by decide +kernel
theorem dX5_makeWhole_1 : decode cX5_makeWhole 1 = .ok (.dup, 1) := by decide +kernel
theorem dX5_makeWhole_2 : decode cX5_makeWhole 2 = .ok (.getfield 43, 3) := by decide +kernel
theorem dX5_makeWhole_5 : decode cX5_makeWhole 5 = .ok (.iconst 1, 1) := by decide +kernel
theorem dX5_makeWhole_6 : decode cX5_makeWhole 6 = .ok (.iload_n 1, 1) := by decide +kernel
theorem dX5_makeWhole_7 : decode cX5_makeWhole 7 = .ok (.ishl, 1) := by decide +kernel
theorem dX5_makeWhole_8 : decode cX5_makeWhole 8 = .ok (.iconst (-1), 1) := by decide +kernel
theorem dX5_makeWhole_9 : decode cX5_makeWhole 9 = .ok (.ixor, 1) := by decide +kernel
theorem dX5_makeWhole_10 : decode cX5_makeWhole 10 = .ok (.iand, 1) := by decide +kernel
theorem dX5_makeWhole_11 : decode cX5_makeWhole 11 = .ok (.putfield 43, 3) := by decide +kernel
theorem dX5_makeWhole_14 : decode cX5_makeWhole 14 = .ok (.aload_n 0, 1) := by decide +kernel
theorem dX5_makeWhole_15 : decode cX5_makeWhole 15 = .ok (.getfield 24, 3) := by decide +kernel
theorem dX5_makeWhole_18 : decode cX5_makeWhole 18 = .ok (.iload_n 1, 1) := by decide +kernel
theorem dX5_makeWhole_19 : decode cX5_makeWhole 19 = .ok (.iconst 0, 1) := by decide +kernel
theorem dX5_makeWhole_20 : decode cX5_makeWhole 20 = .ok (.iastore, 1) := by decide +kernel
theorem dX5_makeWhole_21 : decode cX5_makeWhole 21 = .ok (.aload_n 0, 1) := by decide +kernel
theorem dX5_makeWhole_22 : decode cX5_makeWhole 22 = .ok (.getfield 21, 3) := by decide +kernel
theorem dX5_makeWhole_25 : decode cX5_makeWhole 25 = .ok (.iload_n 1, 1) := by decide +kernel
theorem dX5_makeWhole_26 : decode cX5_makeWhole 26 = .ok (.iconst 0, 1) := by decide +kernel
theorem dX5_makeWhole_27 : decode cX5_makeWhole 27 = .ok (.iastore, 1) := by decide +kernel
theorem dX5_makeWhole_28 : decode cX5_makeWhole 28 = .ok (.return_, 1) := by decide +kernel
theorem dX5_loud_0 : decode cX5_loud 0 = .ok (.iconst 0, 1) := by decide +kernel
theorem dX5_loud_1 : decode cX5_loud 1 = .ok (.istore_n 1, 1) := by decide +kernel
theorem dX5_loud_2 : decode cX5_loud 2 = .ok (.iconst 0, 1) := by decide +kernel
theorem dX5_loud_3 : decode cX5_loud 3 = .ok (.istore_n 2, 1) := by decide +kernel
theorem dX5_loud_4 : decode cX5_loud 4 = .ok (.iload_n 2, 1) := by decide +kernel
theorem dX5_loud_5 : decode cX5_loud 5 = .ok (.aload_n 0, 1) := by decide +kernel
theorem dX5_loud_6 : decode cX5_loud 6 = .ok (.getfield 31, 3) := by decide +kernel
theorem dX5_loud_9 : decode cX5_loud 9 = .ok (.if_icmp .ge 18, 3) := by decide +kernel
theorem dX5_loud_12 : decode cX5_loud 12 = .ok (.iload_n 1, 1) := by decide +kernel
theorem dX5_loud_13 : decode cX5_loud 13 = .ok (.aload_n 0, 1) := by decide +kernel
theorem dX5_loud_14 : decode cX5_loud 14 = .ok (.getfield 21, 3) := by decide +kernel
theorem dX5_loud_17 : decode cX5_loud 17 = .ok (.iload_n 2, 1) := by decide +kernel
theorem dX5_loud_18 : decode cX5_loud 18 = .ok (.iaload, 1) := by decide +kernel
theorem dX5_loud_19 : decode cX5_loud 19 = .ok (.iadd, 1) := by decide +kernel
theorem dX5_loud_20 : decode cX5_loud 20 = .ok (.istore_n 1, 1) := by decide +kernel
theorem dX5_loud_21 : decode cX5_loud 21 = .ok (.iinc 2 1, 3) := by decide +kernel
theorem dX5_loud_24 : decode cX5_loud 24 = .ok (.goto (-20), 3) := by decide +kernel
theorem dX5_loud_27 : decode cX5_loud 27 = .ok (.iload_n 1, 1) := by decide +kernel
theorem dX5_loud_28 : decode cX5_loud 28 = .ok (.ireturn, 1) := by decide +kernel
theorem dX5_ringing_0 : decode cX5_ringing 0 = .ok (.iconst 0, 1) := by decide +kernel
theorem dX5_ringing_1 : decode cX5_ringing 1 = .ok (.istore_n 1, 1) := by decide +kernel
theorem dX5_ringing_2 : decode cX5_ringing 2 = .ok (.iconst 0, 1) := by decide +kernel
theorem dX5_ringing_3 : decode cX5_ringing 3 = .ok (.istore_n 2, 1) := by decide +kernel
theorem dX5_ringing_4 : decode cX5_ringing 4 = .ok (.iload_n 2, 1) := by decide +kernel
theorem dX5_ringing_5 : decode cX5_ringing 5 = .ok (.aload_n 0, 1) := by decide +kernel
theorem dX5_ringing_6 : decode cX5_ringing 6 = .ok (.getfield 31, 3) := by decide +kernel
theorem dX5_ringing_9 : decode cX5_ringing 9 = .ok (.if_icmp .ge 24, 3) := by decide +kernel
theorem dX5_ringing_12 : decode cX5_ringing 12 = .ok (.aload_n 0, 1) := by decide +kernel
theorem dX5_ringing_13 : decode cX5_ringing 13 = .ok (.getfield 21, 3) := by decide +kernel
theorem dX5_ringing_16 : decode cX5_ringing 16 = .ok (.iload_n 2, 1) := by decide +kernel
theorem dX5_ringing_17 : decode cX5_ringing 17 = .ok (.iaload, 1) := by decide +kernel
theorem dX5_ringing_18 : decode cX5_ringing 18 = .ok (.ifCond .le 9, 3) := by decide +kernel
theorem dX5_ringing_21 : decode cX5_ringing 21 = .ok (.iload_n 1, 1) := by decide +kernel
theorem dX5_ringing_22 : decode cX5_ringing 22 = .ok (.iconst 1, 1) := by decide +kernel
theorem dX5_ringing_23 : decode cX5_ringing 23 = .ok (.iload_n 2, 1) := by decide +kernel
theorem dX5_ringing_24 : decode cX5_ringing 24 = .ok (.ishl, 1) := by decide +kernel
theorem dX5_ringing_25 : decode cX5_ringing 25 = .ok (.ior, 1) := by decide +kernel
theorem dX5_ringing_26 : decode cX5_ringing 26 = .ok (.istore_n 1, 1) := by decide +kernel
theorem dX5_ringing_27 : decode cX5_ringing 27 = .ok (.iinc 2 1, 3) := by decide +kernel
theorem dX5_ringing_30 : decode cX5_ringing 30 = .ok (.goto (-26), 3) := by decide +kernel
theorem dX5_ringing_33 : decode cX5_ringing 33 = .ok (.iload_n 1, 1) := by decide +kernel
theorem dX5_ringing_34 : decode cX5_ringing 34 = .ok (.ireturn, 1) := by decide +kernel
theorem dX5_pluckedInAll_0 : decode cX5_pluckedInAll 0 = .ok (.iconst 0, 1) := by decide +kernel
theorem dX5_pluckedInAll_1 : decode cX5_pluckedInAll 1 = .ok (.istore_n 1, 1) := by decide +kernel
theorem dX5_pluckedInAll_2 : decode cX5_pluckedInAll 2 = .ok (.iconst 0, 1) := by decide +kernel
theorem dX5_pluckedInAll_3 : decode cX5_pluckedInAll 3 = .ok (.istore_n 2, 1) := by decide +kernel
theorem dX5_pluckedInAll_4 : decode cX5_pluckedInAll 4 = .ok (.iload_n 2, 1) := by decide +kernel
theorem dX5_pluckedInAll_5 : decode cX5_pluckedInAll 5 = .ok (.aload_n 0, 1) := by decide +kernel
theorem dX5_pluckedInAll_6 : decode cX5_pluckedInAll 6 = .ok (.getfield 31, 3) := by decide +kernel
theorem dX5_pluckedInAll_9 : decode cX5_pluckedInAll 9 = .ok (.if_icmp .ge 18, 3) := by decide +kernel
theorem dX5_pluckedInAll_12 : decode cX5_pluckedInAll 12 = .ok (.iload_n 1, 1) := by decide +kernel
theorem dX5_pluckedInAll_13 : decode cX5_pluckedInAll 13 = .ok (.aload_n 0, 1) := by decide +kernel
theorem dX5_pluckedInAll_14 : decode cX5_pluckedInAll 14 = .ok (.getfield 24, 3) := by decide +kernel
theorem dX5_pluckedInAll_17 : decode cX5_pluckedInAll 17 = .ok (.iload_n 2, 1) := by decide +kernel
theorem dX5_pluckedInAll_18 : decode cX5_pluckedInAll 18 = .ok (.iaload, 1) := by decide +kernel
theorem dX5_pluckedInAll_19 : decode cX5_pluckedInAll 19 = .ok (.iadd, 1) := by decide +kernel
theorem dX5_pluckedInAll_20 : decode cX5_pluckedInAll 20 = .ok (.istore_n 1, 1) := by decide +kernel
theorem dX5_pluckedInAll_21 : decode cX5_pluckedInAll 21 = .ok (.iinc 2 1, 3) := by decide +kernel
theorem dX5_pluckedInAll_24 : decode cX5_pluckedInAll 24 = .ok (.goto (-20), 3) := by decide +kernel
theorem dX5_pluckedInAll_27 : decode cX5_pluckedInAll 27 = .ok (.iload_n 1, 1) := by decide +kernel
theorem dX5_pluckedInAll_28 : decode cX5_pluckedInAll 28 = .ok (.ireturn, 1) := by decide +kernel
theorem dX5_columnsOf_0 : decode cX5_columnsOf 0 = .ok (.iconst 0, 1) := by decide +kernel
theorem dX5_columnsOf_1 : decode cX5_columnsOf 1 = .ok (.istore_n 2, 1) := by decide +kernel
theorem dX5_columnsOf_2 : decode cX5_columnsOf 2 = .ok (.iconst 0, 1) := by decide +kernel
theorem dX5_columnsOf_3 : decode cX5_columnsOf 3 = .ok (.istore_n 3, 1) := by decide +kernel
theorem dX5_columnsOf_4 : decode cX5_columnsOf 4 = .ok (.iload_n 3, 1) := by decide +kernel
theorem dX5_columnsOf_5 : decode cX5_columnsOf 5 = .ok (.aload_n 0, 1) := by decide +kernel
theorem dX5_columnsOf_6 : decode cX5_columnsOf 6 = .ok (.getfield 27, 3) := by decide +kernel
theorem dX5_columnsOf_9 : decode cX5_columnsOf 9 = .ok (.if_icmp .ge 24, 3) := by decide +kernel
theorem dX5_columnsOf_12 : decode cX5_columnsOf 12 = .ok (.iload_n 2, 1) := by decide +kernel
theorem dX5_columnsOf_13 : decode cX5_columnsOf 13 = .ok (.aload_n 0, 1) := by decide +kernel
theorem dX5_columnsOf_14 : decode cX5_columnsOf 14 = .ok (.getfield 9, 3) := by decide +kernel
theorem dX5_columnsOf_17 : decode cX5_columnsOf 17 = .ok (.iload_n 3, 1) := by decide +kernel
theorem dX5_columnsOf_18 : decode cX5_columnsOf 18 = .ok (.iaload, 1) := by decide +kernel
theorem dX5_columnsOf_19 : decode cX5_columnsOf 19 = .ok (.iload_n 1, 1) := by decide +kernel
theorem dX5_columnsOf_20 : decode cX5_columnsOf 20 = .ok (.ishr, 1) := by decide +kernel
theorem dX5_columnsOf_21 : decode cX5_columnsOf 21 = .ok (.iconst 1, 1) := by decide +kernel
theorem dX5_columnsOf_22 : decode cX5_columnsOf 22 = .ok (.iand, 1) := by decide +kernel
theorem dX5_columnsOf_23 : decode cX5_columnsOf 23 = .ok (.iload_n 3, 1) := by decide +kernel
theorem dX5_columnsOf_24 : decode cX5_columnsOf 24 = .ok (.ishl, 1) := by decide +kernel
theorem dX5_columnsOf_25 : decode cX5_columnsOf 25 = .ok (.ior, 1) := by decide +kernel
theorem dX5_columnsOf_26 : decode cX5_columnsOf 26 = .ok (.istore_n 2, 1) := by decide +kernel
theorem dX5_columnsOf_27 : decode cX5_columnsOf 27 = .ok (.iinc 3 1, 3) := by decide +kernel
theorem dX5_columnsOf_30 : decode cX5_columnsOf 30 = .ok (.goto (-26), 3) := by decide +kernel
theorem dX5_columnsOf_33 : decode cX5_columnsOf 33 = .ok (.iload_n 2, 1) := by decide +kernel
theorem dX5_columnsOf_34 : decode cX5_columnsOf 34 = .ok (.ireturn, 1) := by decide +kernel
theorem dX5_turnTimes_0 : decode cX5_turnTimes 0 = .ok (.iconst 0, 1) := by decide +kernel
theorem dX5_turnTimes_1 : decode cX5_turnTimes 1 = .ok (.istore_n 2, 1) := by decide +kernel
theorem dX5_turnTimes_2 : decode cX5_turnTimes 2 = .ok (.iload_n 2, 1) := by decide +kernel
theorem dX5_turnTimes_3 : decode cX5_turnTimes 3 = .ok (.iload_n 1, 1) := by decide +kernel
theorem dX5_turnTimes_4 : decode cX5_turnTimes 4 = .ok (.if_icmp .ge 14, 3) := by decide +kernel
theorem dX5_turnTimes_7 : decode cX5_turnTimes 7 = .ok (.aload_n 0, 1) := by decide +kernel
theorem dX5_turnTimes_8 : decode cX5_turnTimes 8 = .ok (.invokevirtual 82, 3) := by decide +kernel
theorem dX5_turnTimes_11 : decode cX5_turnTimes 11 = .ok (.pop, 1) := by decide +kernel
theorem dX5_turnTimes_12 : decode cX5_turnTimes 12 = .ok (.iinc 2 1, 3) := by decide +kernel
theorem dX5_turnTimes_15 : decode cX5_turnTimes 15 = .ok (.goto (-13), 3) := by decide +kernel
theorem dX5_turnTimes_18 : decode cX5_turnTimes 18 = .ok (.return_, 1) := by decide +kernel
theorem dX5_loudOver_0 : decode cX5_loudOver 0 = .ok (.iconst 0, 1) := by decide +kernel
theorem dX5_loudOver_1 : decode cX5_loudOver 1 = .ok (.istore_n 2, 1) := by decide +kernel
theorem dX5_loudOver_2 : decode cX5_loudOver 2 = .ok (.iconst 0, 1) := by decide +kernel
theorem dX5_loudOver_3 : decode cX5_loudOver 3 = .ok (.istore_n 3, 1) := by decide +kernel
theorem dX5_loudOver_4 : decode cX5_loudOver 4 = .ok (.iload_n 3, 1) := by decide +kernel
theorem dX5_loudOver_5 : decode cX5_loudOver 5 = .ok (.iload_n 1, 1) := by decide +kernel
theorem dX5_loudOver_6 : decode cX5_loudOver 6 = .ok (.if_icmp .ge 21, 3) := by decide +kernel
theorem dX5_loudOver_9 : decode cX5_loudOver 9 = .ok (.aload_n 0, 1) := by decide +kernel
theorem dX5_loudOver_10 : decode cX5_loudOver 10 = .ok (.invokevirtual 82, 3) := by decide +kernel
theorem dX5_loudOver_13 : decode cX5_loudOver 13 = .ok (.pop, 1) := by decide +kernel
theorem dX5_loudOver_14 : decode cX5_loudOver 14 = .ok (.iload_n 2, 1) := by decide +kernel
theorem dX5_loudOver_15 : decode cX5_loudOver 15 = .ok (.aload_n 0, 1) := by decide +kernel
theorem dX5_loudOver_16 : decode cX5_loudOver 16 = .ok (.invokevirtual 85, 3) := by decide +kernel
theorem dX5_loudOver_19 : decode cX5_loudOver 19 = .ok (.iadd, 1) := by decide +kernel
theorem dX5_loudOver_20 : decode cX5_loudOver 20 = .ok (.istore_n 2, 1) := by decide +kernel
theorem dX5_loudOver_21 : decode cX5_loudOver 21 = .ok (.iinc 3 1, 3) := by decide +kernel
theorem dX5_loudOver_24 : decode cX5_loudOver 24 = .ok (.goto (-20), 3) := by decide +kernel
theorem dX5_loudOver_27 : decode cX5_loudOver 27 = .ok (.iload_n 2, 1) := by decide +kernel
theorem dX5_loudOver_28 : decode cX5_loudOver 28 = .ok (.ireturn, 1) := by decide +kernel
theorem dX5_comesTo_0 : decode cX5_comesTo 0 = .ok (.aload_n 0, 1) := by decide +kernel
theorem dX5_comesTo_1 : decode cX5_comesTo 1 = .ok (.getfield 34, 3) := by decide +kernel
theorem dX5_comesTo_4 : decode cX5_comesTo 4 = .ok (.ifCond .le 19, 3) := by decide +kernel
theorem dX5_comesTo_7 : decode cX5_comesTo 7 = .ok (.iload_n 1, 1) := by decide +kernel
theorem dX5_comesTo_8 : decode cX5_comesTo 8 = .ok (.aload_n 0, 1) := by decide +kernel
theorem dX5_comesTo_9 : decode cX5_comesTo 9 = .ok (.invokevirtual 62, 3) := by decide +kernel
theorem dX5_comesTo_12 : decode cX5_comesTo 12 = .ok (.ishr, 1) := by decide +kernel
theorem dX5_comesTo_13 : decode cX5_comesTo 13 = .ok (.iconst 1, 1) := by decide +kernel
theorem dX5_comesTo_14 : decode cX5_comesTo 14 = .ok (.iand, 1) := by decide +kernel
theorem dX5_comesTo_15 : decode cX5_comesTo 15 = .ok (.iconst 1, 1) := by decide +kernel
theorem dX5_comesTo_16 : decode cX5_comesTo 16 = .ok (.if_icmp .ne 7, 3) := by decide +kernel
theorem dX5_comesTo_19 : decode cX5_comesTo 19 = .ok (.iconst 1, 1) := by decide +kernel
theorem dX5_comesTo_20 : decode cX5_comesTo 20 = .ok (.goto 4, 3) := by decide +kernel
theorem dX5_comesTo_23 : decode cX5_comesTo 23 = .ok (.iconst 0, 1) := by decide +kernel
theorem dX5_comesTo_24 : decode cX5_comesTo 24 = .ok (.ireturn, 1) := by decide +kernel
theorem dX6_init_0 : decode cX6_init 0 = .ok (.aload_n 0, 1) := by decide +kernel
theorem dX6_init_1 : decode cX6_init 1 = .ok (.invokespecial 1, 3) := by decide +kernel
theorem dX6_init_4 : decode cX6_init 4 = .ok (.aload_n 0, 1) := by decide +kernel
theorem dX6_init_5 : decode cX6_init 5 = .ok (.bipush 8, 2) := by decide +kernel
theorem dX6_init_7 : decode cX6_init 7 = .ok (.anewarray 9, 3) := by decide +kernel
theorem dX6_init_10 : decode cX6_init 10 = .ok (.putfield 11, 3) := by decide +kernel
theorem dX6_init_13 : decode cX6_init 13 = .ok (.aload_n 0, 1) := by decide +kernel
theorem dX6_init_14 : decode cX6_init 14 = .ok (.iconst 2, 1) := by decide +kernel
theorem dX6_init_15 : decode cX6_init 15 = .ok (.anewarray 15, 3) := by decide +kernel
theorem dX6_init_18 : decode cX6_init 18 = .ok (.putfield 17, 3) := by decide +kernel
theorem dX6_init_21 : decode cX6_init 21 = .ok (.aload_n 0, 1) := by decide +kernel
theorem dX6_init_22 : decode cX6_init 22 = .ok (.new 15, 3) := by decide +kernel
theorem dX6_init_25 : decode cX6_init 25 = .ok (.dup, 1) := by decide +kernel
theorem dX6_init_26 : decode cX6_init 26 = .ok (.invokespecial 21, 3) := by decide +kernel
theorem dX6_init_29 : decode cX6_init 29 = .ok (.putfield 22, 3) := by decide +kernel
theorem dX6_init_32 : decode cX6_init 32 = .ok (.aload_n 0, 1) := by decide +kernel
theorem dX6_init_33 : decode cX6_init 33 = .ok (.new 15, 3) := by decide +kernel
theorem dX6_init_36 : decode cX6_init 36 = .ok (.dup, 1) := by decide +kernel
theorem dX6_init_37 : decode cX6_init 37 = .ok (.invokespecial 21, 3) := by decide +kernel
theorem dX6_init_40 : decode cX6_init 40 = .ok (.putfield 26, 3) := by decide +kernel
theorem dX6_init_43 : decode cX6_init 43 = .ok (.aload_n 0, 1) := by decide +kernel
theorem dX6_init_44 : decode cX6_init 44 = .ok (.new 29, 3) := by decide +kernel
theorem dX6_init_47 : decode cX6_init 47 = .ok (.dup, 1) := by decide +kernel
theorem dX6_init_48 : decode cX6_init 48 = .ok (.invokespecial 31, 3) := by decide +kernel
theorem dX6_init_51 : decode cX6_init 51 = .ok (.putfield 32, 3) := by decide +kernel
theorem dX6_init_54 : decode cX6_init 54 = .ok (.aload_n 0, 1) := by decide +kernel
theorem dX6_init_55 : decode cX6_init 55 = .ok (.new 36, 3) := by decide +kernel
theorem dX6_init_58 : decode cX6_init 58 = .ok (.dup, 1) := by decide +kernel
theorem dX6_init_59 : decode cX6_init 59 = .ok (.invokespecial 38, 3) := by decide +kernel
theorem dX6_init_62 : decode cX6_init 62 = .ok (.putfield 39, 3) := by decide +kernel
theorem dX6_init_65 : decode cX6_init 65 = .ok (.aload_n 0, 1) := by decide +kernel
theorem dX6_init_66 : decode cX6_init 66 = .ok (.new 43, 3) := by decide +kernel
theorem dX6_init_69 : decode cX6_init 69 = .ok (.dup, 1) := by decide +kernel
theorem dX6_init_70 : decode cX6_init 70 = .ok (.aload_n 0, 1) := by decide +kernel
theorem dX6_init_71 : decode cX6_init 71 = .ok (.getfield 22, 3) := by decide +kernel
theorem dX6_init_74 : decode cX6_init 74 = .ok (.invokespecial 45, 3) := by decide +kernel
theorem dX6_init_77 : decode cX6_init 77 = .ok (.putfield 48, 3) := by decide +kernel
theorem dX6_init_80 : decode cX6_init 80 = .ok (.aload_n 0, 1) := by decide +kernel
theorem dX6_init_81 : decode cX6_init 81 = .ok (.new 52, 3) := by decide +kernel
theorem dX6_init_84 : decode cX6_init 84 = .ok (.dup, 1) := by decide +kernel
theorem dX6_init_85 : decode cX6_init 85 = .ok (.aload_n 0, 1) := by decide +kernel
theorem dX6_init_86 : decode cX6_init 86 = .ok (.getfield 22, 3) := by decide +kernel
theorem dX6_init_89 : decode cX6_init 89 = .ok (.invokespecial 54, 3) := by decide +kernel
theorem dX6_init_92 : decode cX6_init 92 = .ok (.putfield 55, 3) := by decide +kernel
theorem dX6_init_95 : decode cX6_init 95 = .ok (.iconst 0, 1) := by decide +kernel
theorem dX6_init_96 : decode cX6_init 96 = .ok (.istore_n 1, 1) := by decide +kernel
theorem dX6_init_97 : decode cX6_init 97 = .ok (.iload_n 1, 1) := by decide +kernel
theorem dX6_init_98 : decode cX6_init 98 = .ok (.bipush 8, 2) := by decide +kernel
theorem dX6_init_100 : decode cX6_init 100 = .ok (.if_icmp .ge 22, 3) := by decide +kernel
theorem dX6_init_103 : decode cX6_init 103 = .ok (.aload_n 0, 1) := by decide +kernel
theorem dX6_init_104 : decode cX6_init 104 = .ok (.getfield 11, 3) := by decide +kernel
theorem dX6_init_107 : decode cX6_init 107 = .ok (.iload_n 1, 1) := by decide +kernel
theorem dX6_init_108 : decode cX6_init 108 = .ok (.new 9, 3) := by decide +kernel
theorem dX6_init_111 : decode cX6_init 111 = .ok (.dup, 1) := by decide +kernel
theorem dX6_init_112 : decode cX6_init 112 = .ok (.invokespecial 59, 3) := by decide +kernel
theorem dX6_init_115 : decode cX6_init 115 = .ok (.aastore, 1) := by decide +kernel
theorem dX6_init_116 : decode cX6_init 116 = .ok (.iinc 1 1, 3) := by decide +kernel
theorem dX6_init_119 : decode cX6_init 119 = .ok (.goto (-22), 3) := by decide +kernel
theorem dX6_init_122 : decode cX6_init 122 = .ok (.iconst 0, 1) := by decide +kernel
theorem dX6_init_123 : decode cX6_init 123 = .ok (.istore_n 1, 1) := by decide +kernel
theorem dX6_init_124 : decode cX6_init 124 = .ok (.iload_n 1, 1) := by decide +kernel
theorem dX6_init_125 : decode cX6_init 125 = .ok (.iconst 2, 1) := by decide +kernel
theorem dX6_init_126 : decode cX6_init 126 = .ok (.if_icmp .ge 22, 3) := by decide +kernel
theorem dX6_init_129 : decode cX6_init 129 = .ok (.aload_n 0, 1) := by decide +kernel
theorem dX6_init_130 : decode cX6_init 130 = .ok (.getfield 17, 3) := by decide +kernel
theorem dX6_init_133 : decode cX6_init 133 = .ok (.iload_n 1, 1) := by decide +kernel
theorem dX6_init_134 : decode cX6_init 134 = .ok (.new 15, 3) := by decide +kernel
theorem dX6_init_137 : decode cX6_init 137 = .ok (.dup, 1) := by decide +kernel
theorem dX6_init_138 : decode cX6_init 138 = .ok (.invokespecial 21, 3) := by decide +kernel
theorem dX6_init_141 : decode cX6_init 141 = .ok (.aastore, 1) := by decide +kernel
theorem dX6_init_142 : decode cX6_init 142 = .ok (.iinc 1 1, 3) := by decide +kernel
theorem dX6_init_145 : decode cX6_init 145 = .ok (.goto (-21), 3) := by decide +kernel
theorem dX6_init_148 : decode cX6_init 148 = .ok (.return_, 1) := by decide +kernel
theorem dX6_row_0 : decode cX6_row 0 = .ok (.iload_n 1, 1) := by decide +kernel
theorem dX6_row_1 : decode cX6_row 1 = .ok (.invokestatic 60, 3) := by decide +kernel
theorem dX6_row_4 : decode cX6_row 4 = .ok (.ifCond .eq 18, 3) := by decide +kernel
theorem dX6_row_7 : decode cX6_row 7 = .ok (.iload_n 2, 1) := by decide +kernel
theorem dX6_row_8 : decode cX6_row 8 = .ok (.iconst 0, 1) := by decide +kernel
theorem dX6_row_9 : decode cX6_row 9 = .ok (.iconst 2, 1) := by decide +kernel
theorem dX6_row_10 : decode cX6_row 10 = .ok (.invokestatic 64, 3) := by decide +kernel
theorem dX6_row_13 : decode cX6_row 13 = .ok (.ifCond .eq 9, 3) := by decide +kernel
theorem dX6_row_16 : decode cX6_row 16 = .ok (.iload_n 3, 1) := by decide +kernel
theorem dX6_row_17 : decode cX6_row 17 = .ok (.bipush 40, 2) := by decide +kernel
theorem dX6_row_19 : decode cX6_row 19 = .ok (.if_icmp .le 6, 3) := by decide +kernel
theorem dX6_row_22 : decode cX6_row 22 = .ok (.ldc 68, 2) := by decide +kernel
theorem dX6_row_24 : decode cX6_row 24 = .ok (.ireturn, 1) := by decide +kernel
theorem dX6_row_25 : decode cX6_row 25 = .ok (.iload_n 3, 1) := by decide +kernel
theorem dX6_row_26 : decode cX6_row 26 = .ok (.ifCond .ge 9, 3) := by decide +kernel
theorem dX6_row_29 : decode cX6_row 29 = .ok (.aload_n 0, 1) := by decide +kernel
theorem dX6_row_30 : decode cX6_row 30 = .ok (.iconst 4, 1) := by decide +kernel
theorem dX6_row_31 : decode cX6_row 31 = .ok (.invokevirtual 69, 3) := by decide +kernel
theorem dX6_row_34 : decode cX6_row 34 = .ok (.ireturn, 1) := by decide +kernel
theorem dX6_row_35 : decode cX6_row 35 = .ok (.aload_n 0, 1) := by decide +kernel
theorem dX6_row_36 : decode cX6_row 36 = .ok (.getfield 11, 3) := by decide +kernel
theorem dX6_row_39 : decode cX6_row 39 = .ok (.iload_n 1, 1) := by decide +kernel
theorem dX6_row_40 : decode cX6_row 40 = .ok (.aaload, 1) := by decide +kernel
theorem dX6_row_41 : decode cX6_row 41 = .ok (.iload_n 2, 1) := by decide +kernel
theorem dX6_row_42 : decode cX6_row 42 = .ok (.iload_n 3, 1) := by decide +kernel
theorem dX6_row_43 : decode cX6_row 43 = .ok (.invokevirtual 73, 3) := by decide +kernel
theorem dX6_row_46 : decode cX6_row 46 = .ok (.aload_n 0, 1) := by decide +kernel
theorem dX6_row_47 : decode cX6_row 47 = .ok (.iload_n 3, 1) := by decide +kernel
theorem dX6_row_48 : decode cX6_row 48 = .ok (.invokevirtual 77, 3) := by decide +kernel
theorem dX6_row_51 : decode cX6_row 51 = .ok (.ireturn, 1) := by decide +kernel
theorem dX6_set_0 : decode cX6_set 0 = .ok (.iload_n 1, 1) := by decide +kernel
theorem dX6_set_1 : decode cX6_set 1 = .ok (.invokestatic 60, 3) := by decide +kernel
theorem dX6_set_4 : decode cX6_set 4 = .ok (.ifCond .ne 6, 3) := by decide +kernel
theorem dX6_set_7 : decode cX6_set 7 = .ok (.ldc 68, 2) := by decide +kernel
theorem dX6_set_9 : decode cX6_set 9 = .ok (.ireturn, 1) := by decide +kernel
theorem dX6_set_10 : decode cX6_set 10 = .ok (.aload_n 0, 1) := by decide +kernel
theorem dX6_set_11 : decode cX6_set 11 = .ok (.getfield 11, 3) := by decide +kernel
theorem dX6_set_14 : decode cX6_set 14 = .ok (.iload_n 1, 1) := by decide +kernel
theorem dX6_set_15 : decode cX6_set 15 = .ok (.aaload, 1) := by decide +kernel
theorem dX6_set_16 : decode cX6_set 16 = .ok (.iload_n 2, 1) := by decide +kernel
theorem dX6_set_17 : decode cX6_set 17 = .ok (.iconst 1, 1) := by decide +kernel
theorem dX6_set_18 : decode cX6_set 18 = .ok (.invokestatic 80, 3) := by decide +kernel
theorem dX6_set_21 : decode cX6_set 21 = .ok (.istore 4, 2) := by decide +kernel
theorem dX6_set_23 : decode cX6_set 23 = .ok (.iload 4, 2) := by decide +kernel
theorem dX6_set_25 : decode cX6_set 25 = .ok (.ifCond .eq 10, 3) := by decide +kernel
theorem dX6_set_28 : decode cX6_set 28 = .ok (.aload_n 0, 1) := by decide +kernel
theorem dX6_set_29 : decode cX6_set 29 = .ok (.iload 4, 2) := by decide +kernel
theorem dX6_set_31 : decode cX6_set 31 = .ok (.invokevirtual 69, 3) := by decide +kernel
theorem dX6_set_34 : decode cX6_set 34 = .ok (.ireturn, 1) := by decide +kernel
theorem dX6_set_35 : decode cX6_set 35 = .ok (.aload_n 0, 1) := by decide +kernel
theorem dX6_set_36 : decode cX6_set 36 = .ok (.aload_n 0, 1) := by decide +kernel
theorem dX6_set_37 : decode cX6_set 37 = .ok (.getfield 11, 3) := by decide +kernel
theorem dX6_set_40 : decode cX6_set 40 = .ok (.iload_n 1, 1) := by decide +kernel
theorem dX6_set_41 : decode cX6_set 41 = .ok (.aaload, 1) := by decide +kernel
theorem dX6_set_42 : decode cX6_set 42 = .ok (.iload_n 2, 1) := by decide +kernel
theorem dX6_set_43 : decode cX6_set 43 = .ok (.iload_n 3, 1) := by decide +kernel
theorem dX6_set_44 : decode cX6_set 44 = .ok (.invokevirtual 84, 3) := by decide +kernel
theorem dX6_set_47 : decode cX6_set 47 = .ok (.invokevirtual 77, 3) := by decide +kernel
theorem dX6_set_50 : decode cX6_set 50 = .ok (.ireturn, 1) := by decide +kernel
theorem dX6_copy_0 : decode cX6_copy 0 = .ok (.iload_n 1, 1) := by decide +kernel
theorem dX6_copy_1 : decode cX6_copy 1 = .ok (.invokestatic 60, 3) := by decide +kernel
theorem dX6_copy_4 : decode cX6_copy 4 = .ok (.ifCond .eq 10, 3) := by decide +kernel
theorem dX6_copy_7 : decode cX6_copy 7 = .ok (.iload_n 3, 1) := by decide +kernel
theorem dX6_copy_8 : decode cX6_copy 8 = .ok (.invokestatic 60, 3) := by decide +kernel
theorem dX6_copy_11 : decode cX6_copy 11 = .ok (.ifCond .ne 6, 3) := by decide +kernel
theorem dX6_copy_14 : decode cX6_copy 14 = .ok (.ldc 68, 2) := by decide +kernel
theorem dX6_copy_16 : decode cX6_copy 16 = .ok (.ireturn, 1) := by decide +kernel
theorem dX6_copy_17 : decode cX6_copy 17 = .ok (.aload_n 0, 1) := by decide +kernel
theorem dX6_copy_18 : decode cX6_copy 18 = .ok (.getfield 11, 3) := by decide +kernel
theorem dX6_copy_21 : decode cX6_copy 21 = .ok (.iload_n 1, 1) := by decide +kernel
theorem dX6_copy_22 : decode cX6_copy 22 = .ok (.aaload, 1) := by decide +kernel
theorem dX6_copy_23 : decode cX6_copy 23 = .ok (.astore 6, 2) := by decide +kernel
theorem dX6_copy_25 : decode cX6_copy 25 = .ok (.aload_n 0, 1) := by decide +kernel
theorem dX6_copy_26 : decode cX6_copy 26 = .ok (.getfield 11, 3) := by decide +kernel
theorem dX6_copy_29 : decode cX6_copy 29 = .ok (.iload_n 3, 1) := by decide +kernel
theorem dX6_copy_30 : decode cX6_copy 30 = .ok (.aaload, 1) := by decide +kernel
theorem dX6_copy_31 : decode cX6_copy 31 = .ok (.astore 7, 2) := by decide +kernel
theorem dX6_copy_33 : decode cX6_copy 33 = .ok (.aload 6, 2) := by decide +kernel
theorem dX6_copy_35 : decode cX6_copy 35 = .ok (.getfield 88, 3) := by decide +kernel
theorem dX6_copy_38 : decode cX6_copy 38 = .ok (.ifCond .eq 11, 3) := by decide +kernel
theorem dX6_copy_41 : decode cX6_copy 41 = .ok (.aload 7, 2) := by decide +kernel
theorem dX6_copy_43 : decode cX6_copy 43 = .ok (.getfield 88, 3) := by decide +kernel
theorem dX6_copy_46 : decode cX6_copy 46 = .ok (.ifCond .ne 9, 3) := by decide +kernel
theorem dX6_copy_49 : decode cX6_copy 49 = .ok (.aload_n 0, 1) := by decide +kernel
theorem dX6_copy_50 : decode cX6_copy 50 = .ok (.iconst 1, 1) := by decide +kernel
theorem dX6_copy_51 : decode cX6_copy 51 = .ok (.invokevirtual 69, 3) := by decide +kernel
theorem dX6_copy_54 : decode cX6_copy 54 = .ok (.ireturn, 1) := by decide +kernel
theorem dX6_copy_55 : decode cX6_copy 55 = .ok (.aload 6, 2) := by decide +kernel
theorem dX6_copy_57 : decode cX6_copy 57 = .ok (.getfield 92, 3) := by decide +kernel
theorem dX6_copy_60 : decode cX6_copy 60 = .ok (.aload 7, 2) := by decide +kernel
theorem dX6_copy_62 : decode cX6_copy 62 = .ok (.getfield 92, 3) := by decide +kernel
theorem dX6_copy_65 : decode cX6_copy 65 = .ok (.if_icmp .eq 9, 3) := by decide +kernel
theorem dX6_copy_68 : decode cX6_copy 68 = .ok (.aload_n 0, 1) := by decide +kernel
theorem dX6_copy_69 : decode cX6_copy 69 = .ok (.iconst 5, 1) := by decide +kernel
theorem dX6_copy_70 : decode cX6_copy 70 = .ok (.invokevirtual 69, 3) := by decide +kernel
theorem dX6_copy_73 : decode cX6_copy 73 = .ok (.ireturn, 1) := by decide +kernel
theorem dX6_copy_74 : decode cX6_copy 74 = .ok (.aload 6, 2) := by decide +kernel
theorem dX6_copy_76 : decode cX6_copy 76 = .ok (.iload_n 2, 1) := by decide +kernel
theorem dX6_copy_77 : decode cX6_copy 77 = .ok (.iload 5, 2) := by decide +kernel
theorem dX6_copy_79 : decode cX6_copy 79 = .ok (.invokevirtual 96, 3) := by decide +kernel
theorem dX6_copy_82 : decode cX6_copy 82 = .ok (.ifCond .eq 15, 3) := by decide +kernel
theorem dX6_copy_85 : decode cX6_copy 85 = .ok (.aload 7, 2) := by decide +kernel
theorem dX6_copy_87 : decode cX6_copy 87 = .ok (.iload 4, 2) := by decide +kernel
theorem dX6_copy_89 : decode cX6_copy 89 = .ok (.iload 5, 2) := by decide +kernel
theorem dX6_copy_91 : decode cX6_copy 91 = .ok (.invokevirtual 96, 3) := by decide +kernel
theorem dX6_copy_94 : decode cX6_copy 94 = .ok (.ifCond .ne 9, 3) := by decide +kernel
theorem dX6_copy_97 : decode cX6_copy 97 = .ok (.aload_n 0, 1) := by decide +kernel
theorem dX6_copy_98 : decode cX6_copy 98 = .ok (.iconst 2, 1) := by decide +kernel
theorem dX6_copy_99 : decode cX6_copy 99 = .ok (.invokevirtual 69, 3) := by decide +kernel
theorem dX6_copy_102 : decode cX6_copy 102 = .ok (.ireturn, 1) := by decide +kernel
theorem dX6_copy_103 : decode cX6_copy 103 = .ok (.aload 6, 2) := by decide +kernel
theorem dX6_copy_105 : decode cX6_copy 105 = .ok (.getfield 100, 3) := by decide +kernel
theorem dX6_copy_108 : decode cX6_copy 108 = .ok (.iload_n 2, 1) := by decide +kernel
theorem dX6_copy_109 : decode cX6_copy 109 = .ok (.aload 7, 2) := by decide +kernel
theorem dX6_copy_111 : decode cX6_copy 111 = .ok (.getfield 100, 3) := by decide +kernel
theorem dX6_copy_114 : decode cX6_copy 114 = .ok (.iload 4, 2) := by decide +kernel
theorem dX6_copy_116 : decode cX6_copy 116 = .ok (.iload 5, 2) := by decide +kernel
theorem dX6_copy_118 : decode cX6_copy 118 = .ok (.invokestatic 104, 3) := by decide +kernel
theorem dX6_copy_121 : decode cX6_copy 121 = .ok (.aload_n 0, 1) := by decide +kernel
theorem dX6_copy_122 : decode cX6_copy 122 = .ok (.iload 5, 2) := by decide +kernel
theorem dX6_copy_124 : decode cX6_copy 124 = .ok (.invokevirtual 77, 3) := by decide +kernel
theorem dX6_copy_127 : decode cX6_copy 127 = .ok (.ireturn, 1) := by decide +kernel
theorem dX6_drop_0 : decode cX6_drop 0 = .ok (.iload_n 1, 1) := by decide +kernel
theorem dX6_drop_1 : decode cX6_drop 1 = .ok (.invokestatic 60, 3) := by decide +kernel
theorem dX6_drop_4 : decode cX6_drop 4 = .ok (.ifCond .ne 6, 3) := by decide +kernel
theorem dX6_drop_7 : decode cX6_drop 7 = .ok (.ldc 68, 2) := by decide +kernel
theorem dX6_drop_9 : decode cX6_drop 9 = .ok (.ireturn, 1) := by decide +kernel
theorem dX6_drop_10 : decode cX6_drop 10 = .ok (.aload_n 0, 1) := by decide +kernel
theorem dX6_drop_11 : decode cX6_drop 11 = .ok (.getfield 11, 3) := by decide +kernel
theorem dX6_drop_14 : decode cX6_drop 14 = .ok (.iload_n 1, 1) := by decide +kernel
theorem dX6_drop_15 : decode cX6_drop 15 = .ok (.aaload, 1) := by decide +kernel
theorem dX6_drop_16 : decode cX6_drop 16 = .ok (.getfield 88, 3) := by decide +kernel
theorem dX6_drop_19 : decode cX6_drop 19 = .ok (.ifCond .ne 9, 3) := by decide +kernel
theorem dX6_drop_22 : decode cX6_drop 22 = .ok (.aload_n 0, 1) := by decide +kernel
theorem dX6_drop_23 : decode cX6_drop 23 = .ok (.iconst 1, 1) := by decide +kernel
theorem dX6_drop_24 : decode cX6_drop 24 = .ok (.invokevirtual 69, 3) := by decide +kernel
theorem dX6_drop_27 : decode cX6_drop 27 = .ok (.ireturn, 1) := by decide +kernel
theorem dX6_drop_28 : decode cX6_drop 28 = .ok (.aload_n 0, 1) := by decide +kernel
theorem dX6_drop_29 : decode cX6_drop 29 = .ok (.getfield 11, 3) := by decide +kernel
theorem dX6_drop_32 : decode cX6_drop 32 = .ok (.iload_n 1, 1) := by decide +kernel
theorem dX6_drop_33 : decode cX6_drop 33 = .ok (.aaload, 1) := by decide +kernel
theorem dX6_drop_34 : decode cX6_drop 34 = .ok (.iconst 0, 1) := by decide +kernel
theorem dX6_drop_35 : decode cX6_drop 35 = .ok (.putfield 88, 3) := by decide +kernel
theorem dX6_drop_38 : decode cX6_drop 38 = .ok (.aload_n 0, 1) := by decide +kernel
theorem dX6_drop_39 : decode cX6_drop 39 = .ok (.aload_n 0, 1) := by decide +kernel
theorem dX6_drop_40 : decode cX6_drop 40 = .ok (.getfield 11, 3) := by decide +kernel
theorem dX6_drop_43 : decode cX6_drop 43 = .ok (.iload_n 1, 1) := by decide +kernel
theorem dX6_drop_44 : decode cX6_drop 44 = .ok (.aaload, 1) := by decide +kernel
theorem dX6_drop_45 : decode cX6_drop 45 = .ok (.getfield 110, 3) := by decide +kernel
theorem dX6_drop_48 : decode cX6_drop 48 = .ok (.invokevirtual 77, 3) := by decide +kernel
theorem dX6_drop_51 : decode cX6_drop 51 = .ok (.ireturn, 1) := by decide +kernel
theorem dX6_feed_0 : decode cX6_feed 0 = .ok (.iload_n 1, 1) := by decide +kernel
theorem dX6_feed_1 : decode cX6_feed 1 = .ok (.iconst 0, 1) := by decide +kernel
theorem dX6_feed_2 : decode cX6_feed 2 = .ok (.sipush 255, 3) := by decide +kernel
theorem dX6_feed_5 : decode cX6_feed 5 = .ok (.invokestatic 64, 3) := by decide +kernel
theorem dX6_feed_8 : decode cX6_feed 8 = .ok (.ifCond .ne 6, 3) := by decide +kernel
theorem dX6_feed_11 : decode cX6_feed 11 = .ok (.ldc 68, 2) := by decide +kernel
theorem dX6_feed_13 : decode cX6_feed 13 = .ok (.ireturn, 1) := by decide +kernel
theorem dX6_feed_14 : decode cX6_feed 14 = .ok (.aload_n 0, 1) := by decide +kernel
theorem dX6_feed_15 : decode cX6_feed 15 = .ok (.getfield 32, 3) := by decide +kernel
theorem dX6_feed_18 : decode cX6_feed 18 = .ok (.getfield 113, 3) := by decide +kernel
theorem dX6_feed_21 : decode cX6_feed 21 = .ok (.bipush 100, 2) := by decide +kernel
theorem dX6_feed_23 : decode cX6_feed 23 = .ok (.if_icmp .lt 6, 3) := by decide +kernel
theorem dX6_feed_26 : decode cX6_feed 26 = .ok (.ldc 116, 2) := by decide +kernel
theorem dX6_feed_28 : decode cX6_feed 28 = .ok (.ireturn, 1) := by decide +kernel
theorem dX6_feed_29 : decode cX6_feed 29 = .ok (.aload_n 0, 1) := by decide +kernel
theorem dX6_feed_30 : decode cX6_feed 30 = .ok (.getfield 32, 3) := by decide +kernel
theorem dX6_feed_33 : decode cX6_feed 33 = .ok (.iload_n 1, 1) := by decide +kernel
theorem dX6_feed_34 : decode cX6_feed 34 = .ok (.invokevirtual 117, 3) := by decide +kernel
theorem dX6_feed_37 : decode cX6_feed 37 = .ok (.ireturn, 1) := by decide +kernel
theorem dX6_box_0 : decode cX6_box 0 = .ok (.aload_n 0, 1) := by decide +kernel
theorem dX6_box_1 : decode cX6_box 1 = .ok (.getfield 32, 3) := by decide +kernel
theorem dX6_box_4 : decode cX6_box 4 = .ok (.aload_n 0, 1) := by decide +kernel
theorem dX6_box_5 : decode cX6_box 5 = .ok (.getfield 26, 3) := by decide +kernel
theorem dX6_box_8 : decode cX6_box 8 = .ok (.invokevirtual 120, 3) := by decide +kernel
theorem dX6_box_11 : decode cX6_box 11 = .ok (.istore_n 1, 1) := by decide +kernel
theorem dX6_box_12 : decode cX6_box 12 = .ok (.aload_n 0, 1) := by decide +kernel
theorem dX6_box_13 : decode cX6_box 13 = .ok (.getfield 32, 3) := by decide +kernel
theorem dX6_box_16 : decode cX6_box 16 = .ok (.iconst 0, 1) := by decide +kernel
theorem dX6_box_17 : decode cX6_box 17 = .ok (.putfield 113, 3) := by decide +kernel
theorem dX6_box_20 : decode cX6_box 20 = .ok (.iload_n 1, 1) := by decide +kernel
theorem dX6_box_21 : decode cX6_box 21 = .ok (.ifCond .ne 25, 3) := by decide +kernel
theorem dX6_box_24 : decode cX6_box 24 = .ok (.aload_n 0, 1) := by decide +kernel
theorem dX6_box_25 : decode cX6_box 25 = .ok (.aload_n 0, 1) := by decide +kernel
theorem dX6_box_26 : decode cX6_box 26 = .ok (.getfield 32, 3) := by decide +kernel
theorem dX6_box_29 : decode cX6_box 29 = .ok (.getfield 124, 3) := by decide +kernel
theorem dX6_box_32 : decode cX6_box 32 = .ok (.putfield 127, 3) := by decide +kernel
theorem dX6_box_35 : decode cX6_box 35 = .ok (.ldc 130, 2) := by decide +kernel
theorem dX6_box_37 : decode cX6_box 37 = .ok (.aload_n 0, 1) := by decide +kernel
theorem dX6_box_38 : decode cX6_box 38 = .ok (.getfield 32, 3) := by decide +kernel
theorem dX6_box_41 : decode cX6_box 41 = .ok (.getfield 131, 3) := by decide +kernel
theorem dX6_box_44 : decode cX6_box 44 = .ok (.isub, 1) := by decide +kernel
theorem dX6_box_45 : decode cX6_box 45 = .ok (.ireturn, 1) := by decide +kernel
theorem dX6_box_46 : decode cX6_box 46 = .ok (.aload_n 0, 1) := by decide +kernel
theorem dX6_box_47 : decode cX6_box 47 = .ok (.getfield 22, 3) := by decide +kernel
theorem dX6_box_50 : decode cX6_box 50 = .ok (.aload_n 0, 1) := by decide +kernel
theorem dX6_box_51 : decode cX6_box 51 = .ok (.getfield 26, 3) := by decide +kernel
theorem dX6_box_54 : decode cX6_box 54 = .ok (.invokevirtual 134, 3) := by decide +kernel
theorem dX6_box_57 : decode cX6_box 57 = .ok (.aload_n 0, 1) := by decide +kernel
theorem dX6_box_58 : decode cX6_box 58 = .ok (.getfield 39, 3) := by decide +kernel
theorem dX6_box_61 : decode cX6_box 61 = .ok (.invokevirtual 137, 3) := by decide +kernel
theorem dX6_box_64 : decode cX6_box 64 = .ok (.aload_n 0, 1) := by decide +kernel
theorem dX6_box_65 : decode cX6_box 65 = .ok (.getfield 22, 3) := by decide +kernel
theorem dX6_box_68 : decode cX6_box 68 = .ok (.getfield 140, 3) := by decide +kernel
theorem dX6_box_71 : decode cX6_box 71 = .ok (.ireturn, 1) := by decide +kernel
theorem dX6_fault_0 : decode cX6_fault 0 = .ok (.aload_n 0, 1) := by decide +kernel
theorem dX6_fault_1 : decode cX6_fault 1 = .ok (.getfield 127, 3) := by decide +kernel
theorem dX6_fault_4 : decode cX6_fault 4 = .ok (.ireturn, 1) := by decide +kernel
theorem dX6_undo_0 : decode cX6_undo 0 = .ok (.aload_n 0, 1) := by decide +kernel
theorem dX6_undo_1 : decode cX6_undo 1 = .ok (.getfield 39, 3) := by decide +kernel
theorem dX6_undo_4 : decode cX6_undo 4 = .ok (.getfield 143, 3) := by decide +kernel
theorem dX6_undo_7 : decode cX6_undo 7 = .ok (.ifCond .ne 6, 3) := by decide +kernel
theorem dX6_undo_10 : decode cX6_undo 10 = .ok (.ldc 144, 2) := by decide +kernel
theorem dX6_undo_12 : decode cX6_undo 12 = .ok (.ireturn, 1) := by decide +kernel
theorem dX6_undo_13 : decode cX6_undo 13 = .ok (.aload_n 0, 1) := by decide +kernel
theorem dX6_undo_14 : decode cX6_undo 14 = .ok (.getfield 39, 3) := by decide +kernel
theorem dX6_undo_17 : decode cX6_undo 17 = .ok (.aload_n 0, 1) := by decide +kernel
theorem dX6_undo_18 : decode cX6_undo 18 = .ok (.getfield 22, 3) := by decide +kernel
theorem dX6_undo_21 : decode cX6_undo 21 = .ok (.invokevirtual 145, 3) := by decide +kernel
theorem dX6_undo_24 : decode cX6_undo 24 = .ok (.aload_n 0, 1) := by decide +kernel
theorem dX6_undo_25 : decode cX6_undo 25 = .ok (.getfield 39, 3) := by decide +kernel
theorem dX6_undo_28 : decode cX6_undo 28 = .ok (.getfield 143, 3) := by decide +kernel
theorem dX6_undo_31 : decode cX6_undo 31 = .ok (.ireturn, 1) := by decide +kernel
theorem dX6_ticks_0 : decode cX6_ticks 0 = .ok (.aload_n 0, 1) := by decide +kernel
theorem dX6_ticks_1 : decode cX6_ticks 1 = .ok (.invokevirtual 148, 3) := by decide +kernel
theorem dX6_ticks_4 : decode cX6_ticks 4 = .ok (.ifCond .ne 6, 3) := by decide +kernel
theorem dX6_ticks_7 : decode cX6_ticks 7 = .ok (.ldc 144, 2) := by decide +kernel
theorem dX6_ticks_9 : decode cX6_ticks 9 = .ok (.ireturn, 1) := by decide +kernel
theorem dX6_ticks_10 : decode cX6_ticks 10 = .ok (.iload_n 1, 1) := by decide +kernel
theorem dX6_ticks_11 : decode cX6_ticks 11 = .ok (.iconst 1, 1) := by decide +kernel
theorem dX6_ticks_12 : decode cX6_ticks 12 = .ok (.bipush 24, 2) := by decide +kernel
theorem dX6_ticks_14 : decode cX6_ticks 14 = .ok (.invokestatic 64, 3) := by decide +kernel
theorem dX6_ticks_17 : decode cX6_ticks 17 = .ok (.ifCond .ne 6, 3) := by decide +kernel
theorem dX6_ticks_20 : decode cX6_ticks 20 = .ok (.ldc 68, 2) := by decide +kernel
theorem dX6_ticks_22 : decode cX6_ticks 22 = .ok (.ireturn, 1) := by decide +kernel
theorem dX6_ticks_23 : decode cX6_ticks 23 = .ok (.aload_n 0, 1) := by decide +kernel
theorem dX6_ticks_24 : decode cX6_ticks 24 = .ok (.getfield 22, 3) := by decide +kernel
theorem dX6_ticks_27 : decode cX6_ticks 27 = .ok (.getfield 152, 3) := by decide +kernel
theorem dX6_ticks_30 : decode cX6_ticks 30 = .ok (.iload_n 1, 1) := by decide +kernel
theorem dX6_ticks_31 : decode cX6_ticks 31 = .ok (.iadd, 1) := by decide +kernel
theorem dX6_ticks_32 : decode cX6_ticks 32 = .ok (.sipush 999, 3) := by decide +kernel
theorem dX6_ticks_35 : decode cX6_ticks 35 = .ok (.if_icmp .le 6, 3) := by decide +kernel
theorem dX6_ticks_38 : decode cX6_ticks 38 = .ok (.ldc 116, 2) := by decide +kernel
theorem dX6_ticks_40 : decode cX6_ticks 40 = .ok (.ireturn, 1) := by decide +kernel
theorem dX6_ticks_41 : decode cX6_ticks 41 = .ok (.iconst 0, 1) := by decide +kernel
theorem dX6_ticks_42 : decode cX6_ticks 42 = .ok (.istore_n 2, 1) := by decide +kernel
theorem dX6_ticks_43 : decode cX6_ticks 43 = .ok (.iload_n 2, 1) := by decide +kernel
theorem dX6_ticks_44 : decode cX6_ticks 44 = .ok (.iload_n 1, 1) := by decide +kernel
theorem dX6_ticks_45 : decode cX6_ticks 45 = .ok (.if_icmp .ge 28, 3) := by decide +kernel
theorem dX6_ticks_48 : decode cX6_ticks 48 = .ok (.aload_n 0, 1) := by decide +kernel
theorem dX6_ticks_49 : decode cX6_ticks 49 = .ok (.getfield 39, 3) := by decide +kernel
theorem dX6_ticks_52 : decode cX6_ticks 52 = .ok (.aload_n 0, 1) := by decide +kernel
theorem dX6_ticks_53 : decode cX6_ticks 53 = .ok (.getfield 22, 3) := by decide +kernel
theorem dX6_ticks_56 : decode cX6_ticks 56 = .ok (.invokevirtual 155, 3) := by decide +kernel
theorem dX6_ticks_59 : decode cX6_ticks 59 = .ok (.aload_n 0, 1) := by decide +kernel
theorem dX6_ticks_60 : decode cX6_ticks 60 = .ok (.getfield 22, 3) := by decide +kernel
theorem dX6_ticks_63 : decode cX6_ticks 63 = .ok (.invokevirtual 158, 3) := by decide +kernel
theorem dX6_ticks_66 : decode cX6_ticks 66 = .ok (.pop, 1) := by decide +kernel
theorem dX6_ticks_67 : decode cX6_ticks 67 = .ok (.iinc 2 1, 3) := by decide +kernel
theorem dX6_ticks_70 : decode cX6_ticks 70 = .ok (.goto (-27), 3) := by decide +kernel
theorem dX6_ticks_73 : decode cX6_ticks 73 = .ok (.aload_n 0, 1) := by decide +kernel
theorem dX6_ticks_74 : decode cX6_ticks 74 = .ok (.getfield 22, 3) := by decide +kernel
theorem dX6_ticks_77 : decode cX6_ticks 77 = .ok (.invokevirtual 162, 3) := by decide +kernel
theorem dX6_ticks_80 : decode cX6_ticks 80 = .ok (.ireturn, 1) := by decide +kernel
theorem dX6_wind_0 : decode cX6_wind 0 = .ok (.aload_n 0, 1) := by decide +kernel
theorem dX6_wind_1 : decode cX6_wind 1 = .ok (.invokevirtual 148, 3) := by decide +kernel
theorem dX6_wind_4 : decode cX6_wind 4 = .ok (.ifCond .ne 6, 3) := by decide +kernel
theorem dX6_wind_7 : decode cX6_wind 7 = .ok (.ldc 144, 2) := by decide +kernel
theorem dX6_wind_9 : decode cX6_wind 9 = .ok (.ireturn, 1) := by decide +kernel
theorem dX6_wind_10 : decode cX6_wind 10 = .ok (.iload_n 1, 1) := by decide +kernel
theorem dX6_wind_11 : decode cX6_wind 11 = .ok (.iconst 1, 1) := by decide +kernel
theorem dX6_wind_12 : decode cX6_wind 12 = .ok (.bipush 99, 2) := by decide +kernel
theorem dX6_wind_14 : decode cX6_wind 14 = .ok (.invokestatic 64, 3) := by decide +kernel
theorem dX6_wind_17 : decode cX6_wind 17 = .ok (.ifCond .ne 6, 3) := by decide +kernel
theorem dX6_wind_20 : decode cX6_wind 20 = .ok (.ldc 68, 2) := by decide +kernel
theorem dX6_wind_22 : decode cX6_wind 22 = .ok (.ireturn, 1) := by decide +kernel
theorem dX6_wind_23 : decode cX6_wind 23 = .ok (.aload_n 0, 1) := by decide +kernel
theorem dX6_wind_24 : decode cX6_wind 24 = .ok (.getfield 39, 3) := by decide +kernel
theorem dX6_wind_27 : decode cX6_wind 27 = .ok (.aload_n 0, 1) := by decide +kernel
theorem dX6_wind_28 : decode cX6_wind 28 = .ok (.getfield 22, 3) := by decide +kernel
theorem dX6_wind_31 : decode cX6_wind 31 = .ok (.invokevirtual 155, 3) := by decide +kernel
theorem dX6_wind_34 : decode cX6_wind 34 = .ok (.aload_n 0, 1) := by decide +kernel
theorem dX6_wind_35 : decode cX6_wind 35 = .ok (.getfield 22, 3) := by decide +kernel
theorem dX6_wind_38 : decode cX6_wind 38 = .ok (.iload_n 1, 1) := by decide +kernel
theorem dX6_wind_39 : decode cX6_wind 39 = .ok (.invokevirtual 165, 3) := by decide +kernel
theorem dX6_wind_42 : decode cX6_wind 42 = .ok (.aload_n 0, 1) := by decide +kernel
theorem dX6_wind_43 : decode cX6_wind 43 = .ok (.getfield 22, 3) := by decide +kernel
theorem dX6_wind_46 : decode cX6_wind 46 = .ok (.getfield 169, 3) := by decide +kernel
theorem dX6_wind_49 : decode cX6_wind 49 = .ok (.ireturn, 1) := by decide +kernel
theorem dX6_pin_0 : decode cX6_pin 0 = .ok (.aload_n 0, 1) := by decide +kernel
theorem dX6_pin_1 : decode cX6_pin 1 = .ok (.iload_n 1, 1) := by decide +kernel
theorem dX6_pin_2 : decode cX6_pin 2 = .ok (.invokevirtual 172, 3) := by decide +kernel
theorem dX6_pin_5 : decode cX6_pin 5 = .ok (.ifCond .eq 11, 3) := by decide +kernel
theorem dX6_pin_8 : decode cX6_pin 8 = .ok (.aload_n 0, 1) := by decide +kernel
theorem dX6_pin_9 : decode cX6_pin 9 = .ok (.iload_n 2, 1) := by decide +kernel
theorem dX6_pin_10 : decode cX6_pin 10 = .ok (.invokevirtual 175, 3) := by decide +kernel
theorem dX6_pin_13 : decode cX6_pin 13 = .ok (.ifCond .ne 6, 3) := by decide +kernel
theorem dX6_pin_16 : decode cX6_pin 16 = .ok (.ldc 68, 2) := by decide +kernel
theorem dX6_pin_18 : decode cX6_pin 18 = .ok (.ireturn, 1) := by decide +kernel
theorem dX6_pin_19 : decode cX6_pin 19 = .ok (.aload_n 0, 1) := by decide +kernel
theorem dX6_pin_20 : decode cX6_pin 20 = .ok (.getfield 39, 3) := by decide +kernel
theorem dX6_pin_23 : decode cX6_pin 23 = .ok (.aload_n 0, 1) := by decide +kernel
theorem dX6_pin_24 : decode cX6_pin 24 = .ok (.getfield 22, 3) := by decide +kernel
theorem dX6_pin_27 : decode cX6_pin 27 = .ok (.invokevirtual 155, 3) := by decide +kernel
theorem dX6_pin_30 : decode cX6_pin 30 = .ok (.aload_n 0, 1) := by decide +kernel
theorem dX6_pin_31 : decode cX6_pin 31 = .ok (.getfield 22, 3) := by decide +kernel
theorem dX6_pin_34 : decode cX6_pin 34 = .ok (.iload_n 1, 1) := by decide +kernel
theorem dX6_pin_35 : decode cX6_pin 35 = .ok (.iload_n 2, 1) := by decide +kernel
theorem dX6_pin_36 : decode cX6_pin 36 = .ok (.invokevirtual 178, 3) := by decide +kernel
theorem dX6_pin_39 : decode cX6_pin 39 = .ok (.aload_n 0, 1) := by decide +kernel
theorem dX6_pin_40 : decode cX6_pin 40 = .ok (.getfield 22, 3) := by decide +kernel
theorem dX6_pin_43 : decode cX6_pin 43 = .ok (.getfield 181, 3) := by decide +kernel
theorem dX6_pin_46 : decode cX6_pin 46 = .ok (.iload_n 1, 1) := by decide +kernel
theorem dX6_pin_47 : decode cX6_pin 47 = .ok (.iaload, 1) := by decide +kernel
theorem dX6_pin_48 : decode cX6_pin 48 = .ok (.ireturn, 1) := by decide +kernel
theorem dX6_drum_0 : decode cX6_drum 0 = .ok (.aload_n 0, 1) := by decide +kernel
theorem dX6_drum_1 : decode cX6_drum 1 = .ok (.iload_n 1, 1) := by decide +kernel
theorem dX6_drum_2 : decode cX6_drum 2 = .ok (.invokevirtual 172, 3) := by decide +kernel
theorem dX6_drum_5 : decode cX6_drum 5 = .ok (.ifCond .ne 6, 3) := by decide +kernel
theorem dX6_drum_8 : decode cX6_drum 8 = .ok (.ldc 68, 2) := by decide +kernel
theorem dX6_drum_10 : decode cX6_drum 10 = .ok (.ireturn, 1) := by decide +kernel
theorem dX6_drum_11 : decode cX6_drum 11 = .ok (.aload_n 0, 1) := by decide +kernel
theorem dX6_drum_12 : decode cX6_drum 12 = .ok (.getfield 22, 3) := by decide +kernel
theorem dX6_drum_15 : decode cX6_drum 15 = .ok (.getfield 184, 3) := by decide +kernel
theorem dX6_drum_18 : decode cX6_drum 18 = .ok (.istore_n 2, 1) := by decide +kernel
theorem dX6_drum_19 : decode cX6_drum 19 = .ok (.iload_n 1, 1) := by decide +kernel
theorem dX6_drum_20 : decode cX6_drum 20 = .ok (.iload_n 2, 1) := by decide +kernel
theorem dX6_drum_21 : decode cX6_drum 21 = .ok (.if_icmp .ne 6, 3) := by decide +kernel
theorem dX6_drum_24 : decode cX6_drum 24 = .ok (.ldc 144, 2) := by decide +kernel
theorem dX6_drum_26 : decode cX6_drum 26 = .ok (.ireturn, 1) := by decide +kernel
theorem dX6_drum_27 : decode cX6_drum 27 = .ok (.aload_n 0, 1) := by decide +kernel
theorem dX6_drum_28 : decode cX6_drum 28 = .ok (.getfield 39, 3) := by decide +kernel
theorem dX6_drum_31 : decode cX6_drum 31 = .ok (.aload_n 0, 1) := by decide +kernel
theorem dX6_drum_32 : decode cX6_drum 32 = .ok (.getfield 22, 3) := by decide +kernel
theorem dX6_drum_35 : decode cX6_drum 35 = .ok (.invokevirtual 155, 3) := by decide +kernel
theorem dX6_drum_38 : decode cX6_drum 38 = .ok (.aload_n 0, 1) := by decide +kernel
theorem dX6_drum_39 : decode cX6_drum 39 = .ok (.getfield 22, 3) := by decide +kernel
theorem dX6_drum_42 : decode cX6_drum 42 = .ok (.iload_n 1, 1) := by decide +kernel
theorem dX6_drum_43 : decode cX6_drum 43 = .ok (.putfield 184, 3) := by decide +kernel
theorem dX6_drum_46 : decode cX6_drum 46 = .ok (.iload_n 2, 1) := by decide +kernel
theorem dX6_drum_47 : decode cX6_drum 47 = .ok (.ireturn, 1) := by decide +kernel
theorem dX6_mend_0 : decode cX6_mend 0 = .ok (.aload_n 0, 1) := by decide +kernel
theorem dX6_mend_1 : decode cX6_mend 1 = .ok (.iload_n 1, 1) := by decide +kernel
theorem dX6_mend_2 : decode cX6_mend 2 = .ok (.invokevirtual 175, 3) := by decide +kernel
theorem dX6_mend_5 : decode cX6_mend 5 = .ok (.ifCond .ne 6, 3) := by decide +kernel
theorem dX6_mend_8 : decode cX6_mend 8 = .ok (.ldc 68, 2) := by decide +kernel
theorem dX6_mend_10 : decode cX6_mend 10 = .ok (.ireturn, 1) := by decide +kernel
theorem dX6_mend_11 : decode cX6_mend 11 = .ok (.aload_n 0, 1) := by decide +kernel
theorem dX6_mend_12 : decode cX6_mend 12 = .ok (.getfield 22, 3) := by decide +kernel
theorem dX6_mend_15 : decode cX6_mend 15 = .ok (.iload_n 1, 1) := by decide +kernel
theorem dX6_mend_16 : decode cX6_mend 16 = .ok (.invokevirtual 187, 3) := by decide +kernel
theorem dX6_mend_19 : decode cX6_mend 19 = .ok (.ifCond .ne 6, 3) := by decide +kernel
theorem dX6_mend_22 : decode cX6_mend 22 = .ok (.ldc 144, 2) := by decide +kernel
theorem dX6_mend_24 : decode cX6_mend 24 = .ok (.ireturn, 1) := by decide +kernel
theorem dX6_mend_25 : decode cX6_mend 25 = .ok (.aload_n 0, 1) := by decide +kernel
theorem dX6_mend_26 : decode cX6_mend 26 = .ok (.getfield 22, 3) := by decide +kernel
theorem dX6_mend_29 : decode cX6_mend 29 = .ok (.getfield 190, 3) := by decide +kernel
theorem dX6_mend_32 : decode cX6_mend 32 = .ok (.iload_n 1, 1) := by decide +kernel
theorem dX6_mend_33 : decode cX6_mend 33 = .ok (.iaload, 1) := by decide +kernel
theorem dX6_mend_34 : decode cX6_mend 34 = .ok (.istore_n 2, 1) := by decide +kernel
theorem dX6_mend_35 : decode cX6_mend 35 = .ok (.aload_n 0, 1) := by decide +kernel
theorem dX6_mend_36 : decode cX6_mend 36 = .ok (.getfield 39, 3) := by decide +kernel
theorem dX6_mend_39 : decode cX6_mend 39 = .ok (.aload_n 0, 1) := by decide +kernel
theorem dX6_mend_40 : decode cX6_mend 40 = .ok (.getfield 22, 3) := by decide +kernel
theorem dX6_mend_43 : decode cX6_mend 43 = .ok (.invokevirtual 155, 3) := by decide +kernel
theorem dX6_mend_46 : decode cX6_mend 46 = .ok (.aload_n 0, 1) := by decide +kernel
theorem dX6_mend_47 : decode cX6_mend 47 = .ok (.getfield 22, 3) := by decide +kernel
theorem dX6_mend_50 : decode cX6_mend 50 = .ok (.iload_n 1, 1) := by decide +kernel
theorem dX6_mend_51 : decode cX6_mend 51 = .ok (.invokevirtual 193, 3) := by decide +kernel
theorem dX6_mend_54 : decode cX6_mend 54 = .ok (.iload_n 2, 1) := by decide +kernel
theorem dX6_mend_55 : decode cX6_mend 55 = .ok (.ireturn, 1) := by decide +kernel
theorem dX6_tooth_0 : decode cX6_tooth 0 = .ok (.aload_n 0, 1) := by decide +kernel
theorem dX6_tooth_1 : decode cX6_tooth 1 = .ok (.iload_n 1, 1) := by decide +kernel
theorem dX6_tooth_2 : decode cX6_tooth 2 = .ok (.invokevirtual 175, 3) := by decide +kernel
theorem dX6_tooth_5 : decode cX6_tooth 5 = .ok (.ifCond .ne 6, 3) := by decide +kernel
theorem dX6_tooth_8 : decode cX6_tooth 8 = .ok (.ldc 68, 2) := by decide +kernel
theorem dX6_tooth_10 : decode cX6_tooth 10 = .ok (.ireturn, 1) := by decide +kernel
theorem dX6_tooth_11 : decode cX6_tooth 11 = .ok (.iload_n 2, 1) := by decide +kernel
theorem dX6_tooth_12 : decode cX6_tooth 12 = .ok (.tableswitch 92 0 4 #[36, 46, 56, 66, 83], 36) := by decide +kernel
theorem dX6_tooth_48 : decode cX6_tooth 48 = .ok (.aload_n 0, 1) := by decide +kernel
theorem dX6_tooth_49 : decode cX6_tooth 49 = .ok (.getfield 22, 3) := by decide +kernel
theorem dX6_tooth_52 : decode cX6_tooth 52 = .ok (.getfield 196, 3) := by decide +kernel
theorem dX6_tooth_55 : decode cX6_tooth 55 = .ok (.iload_n 1, 1) := by decide +kernel
theorem dX6_tooth_56 : decode cX6_tooth 56 = .ok (.iaload, 1) := by decide +kernel
theorem dX6_tooth_57 : decode cX6_tooth 57 = .ok (.ireturn, 1) := by decide +kernel
theorem dX6_tooth_58 : decode cX6_tooth 58 = .ok (.aload_n 0, 1) := by decide +kernel
theorem dX6_tooth_59 : decode cX6_tooth 59 = .ok (.getfield 22, 3) := by decide +kernel
theorem dX6_tooth_62 : decode cX6_tooth 62 = .ok (.getfield 199, 3) := by decide +kernel
theorem dX6_tooth_65 : decode cX6_tooth 65 = .ok (.iload_n 1, 1) := by decide +kernel
theorem dX6_tooth_66 : decode cX6_tooth 66 = .ok (.iaload, 1) := by decide +kernel
theorem dX6_tooth_67 : decode cX6_tooth 67 = .ok (.ireturn, 1) := by decide +kernel
theorem dX6_tooth_68 : decode cX6_tooth 68 = .ok (.aload_n 0, 1) := by decide +kernel
theorem dX6_tooth_69 : decode cX6_tooth 69 = .ok (.getfield 22, 3) := by decide +kernel
theorem dX6_tooth_72 : decode cX6_tooth 72 = .ok (.getfield 190, 3) := by decide +kernel
theorem dX6_tooth_75 : decode cX6_tooth 75 = .ok (.iload_n 1, 1) := by decide +kernel
theorem dX6_tooth_76 : decode cX6_tooth 76 = .ok (.iaload, 1) := by decide +kernel
theorem dX6_tooth_77 : decode cX6_tooth 77 = .ok (.ireturn, 1) := by decide +kernel
theorem dX6_tooth_78 : decode cX6_tooth 78 = .ok (.aload_n 0, 1) := by decide +kernel
theorem dX6_tooth_79 : decode cX6_tooth 79 = .ok (.getfield 22, 3) := by decide +kernel
theorem dX6_tooth_82 : decode cX6_tooth 82 = .ok (.iload_n 1, 1) := by decide +kernel
theorem dX6_tooth_83 : decode cX6_tooth 83 = .ok (.invokevirtual 187, 3) := by decide +kernel
theorem dX6_tooth_86 : decode cX6_tooth 86 = .ok (.ifCond .eq 7, 3) := by decide +kernel
theorem dX6_tooth_89 : decode cX6_tooth 89 = .ok (.iconst 1, 1) := by decide +kernel
theorem dX6_tooth_90 : decode cX6_tooth 90 = .ok (.goto 4, 3) := by decide +kernel
theorem dX6_tooth_93 : decode cX6_tooth 93 = .ok (.iconst 0, 1) := by decide +kernel
theorem dX6_tooth_94 : decode cX6_tooth 94 = .ok (.ireturn, 1) := by decide +kernel
theorem dX6_tooth_95 : decode cX6_tooth 95 = .ok (.aload_n 0, 1) := by decide +kernel
theorem dX6_tooth_96 : decode cX6_tooth 96 = .ok (.getfield 22, 3) := by decide +kernel
theorem dX6_tooth_99 : decode cX6_tooth 99 = .ok (.iload_n 1, 1) := by decide +kernel
theorem dX6_tooth_100 : decode cX6_tooth 100 = .ok (.invokevirtual 202, 3) := by decide +kernel
theorem dX6_tooth_103 : decode cX6_tooth 103 = .ok (.ireturn, 1) := by decide +kernel
theorem dX6_tooth_104 : decode cX6_tooth 104 = .ok (.ldc 68, 2) := by decide +kernel
theorem dX6_tooth_106 : decode cX6_tooth 106 = .ok (.ireturn, 1) := by decide +kernel
theorem dX6_pins_0 : decode cX6_pins 0 = .ok (.aload_n 0, 1) := by decide +kernel
theorem dX6_pins_1 : decode cX6_pins 1 = .ok (.iload_n 1, 1) := by decide +kernel
theorem dX6_pins_2 : decode cX6_pins 2 = .ok (.invokevirtual 172, 3) := by decide +kernel
theorem dX6_pins_5 : decode cX6_pins 5 = .ok (.ifCond .eq 15, 3) := by decide +kernel
theorem dX6_pins_8 : decode cX6_pins 8 = .ok (.aload_n 0, 1) := by decide +kernel
theorem dX6_pins_9 : decode cX6_pins 9 = .ok (.getfield 22, 3) := by decide +kernel
theorem dX6_pins_12 : decode cX6_pins 12 = .ok (.getfield 181, 3) := by decide +kernel
theorem dX6_pins_15 : decode cX6_pins 15 = .ok (.iload_n 1, 1) := by decide +kernel
theorem dX6_pins_16 : decode cX6_pins 16 = .ok (.iaload, 1) := by decide +kernel
theorem dX6_pins_17 : decode cX6_pins 17 = .ok (.goto 5, 3) := by decide +kernel
theorem dX6_pins_20 : decode cX6_pins 20 = .ok (.ldc 68, 2) := by decide +kernel
theorem dX6_pins_22 : decode cX6_pins 22 = .ok (.ireturn, 1) := by decide +kernel
theorem dX6_stand_0 : decode cX6_stand 0 = .ok (.aload_n 0, 1) := by decide +kernel
theorem dX6_stand_1 : decode cX6_stand 1 = .ok (.invokevirtual 148, 3) := by decide +kernel
theorem dX6_stand_4 : decode cX6_stand 4 = .ok (.ifCond .ne 6, 3) := by decide +kernel
theorem dX6_stand_7 : decode cX6_stand 7 = .ok (.ldc 144, 2) := by decide +kernel
theorem dX6_stand_9 : decode cX6_stand 9 = .ok (.ireturn, 1) := by decide +kernel
theorem dX6_stand_10 : decode cX6_stand 10 = .ok (.iload_n 1, 1) := by decide +kernel
theorem dX6_stand_11 : decode cX6_stand 11 = .ok (.tableswitch 85 0 5 #[37, 45, 53, 61, 69, 77], 37) := by decide +kernel
theorem dX6_stand_48 : decode cX6_stand 48 = .ok (.aload_n 0, 1) := by decide +kernel
theorem dX6_stand_49 : decode cX6_stand 49 = .ok (.getfield 22, 3) := by decide +kernel
theorem dX6_stand_52 : decode cX6_stand 52 = .ok (.getfield 205, 3) := by decide +kernel
theorem dX6_stand_55 : decode cX6_stand 55 = .ok (.ireturn, 1) := by decide +kernel
theorem dX6_stand_56 : decode cX6_stand 56 = .ok (.aload_n 0, 1) := by decide +kernel
theorem dX6_stand_57 : decode cX6_stand 57 = .ok (.getfield 22, 3) := by decide +kernel
theorem dX6_stand_60 : decode cX6_stand 60 = .ok (.getfield 184, 3) := by decide +kernel
theorem dX6_stand_63 : decode cX6_stand 63 = .ok (.ireturn, 1) := by decide +kernel
theorem dX6_stand_64 : decode cX6_stand 64 = .ok (.aload_n 0, 1) := by decide +kernel
theorem dX6_stand_65 : decode cX6_stand 65 = .ok (.getfield 22, 3) := by decide +kernel
theorem dX6_stand_68 : decode cX6_stand 68 = .ok (.getfield 169, 3) := by decide +kernel
theorem dX6_stand_71 : decode cX6_stand 71 = .ok (.ireturn, 1) := by decide +kernel
theorem dX6_stand_72 : decode cX6_stand 72 = .ok (.aload_n 0, 1) := by decide +kernel
theorem dX6_stand_73 : decode cX6_stand 73 = .ok (.getfield 22, 3) := by decide +kernel
theorem dX6_stand_76 : decode cX6_stand 76 = .ok (.invokevirtual 162, 3) := by decide +kernel
theorem dX6_stand_79 : decode cX6_stand 79 = .ok (.ireturn, 1) := by decide +kernel
theorem dX6_stand_80 : decode cX6_stand 80 = .ok (.aload_n 0, 1) := by decide +kernel
theorem dX6_stand_81 : decode cX6_stand 81 = .ok (.getfield 22, 3) := by decide +kernel
theorem dX6_stand_84 : decode cX6_stand 84 = .ok (.invokevirtual 208, 3) := by decide +kernel
theorem dX6_stand_87 : decode cX6_stand 87 = .ok (.ireturn, 1) := by decide +kernel
theorem dX6_stand_88 : decode cX6_stand 88 = .ok (.aload_n 0, 1) := by decide +kernel
theorem dX6_stand_89 : decode cX6_stand 89 = .ok (.getfield 22, 3) := by decide +kernel
theorem dX6_stand_92 : decode cX6_stand 92 = .ok (.getfield 211, 3) := by decide +kernel
theorem dX6_stand_95 : decode cX6_stand 95 = .ok (.ireturn, 1) := by decide +kernel
theorem dX6_stand_96 : decode cX6_stand 96 = .ok (.ldc 68, 2) := by decide +kernel
theorem dX6_stand_98 : decode cX6_stand 98 = .ok (.ireturn, 1) := by decide +kernel
theorem dX6_ahead_0 : decode cX6_ahead 0 = .ok (.aload_n 0, 1) := by decide +kernel
theorem dX6_ahead_1 : decode cX6_ahead 1 = .ok (.iload_n 1, 1) := by decide +kernel
theorem dX6_ahead_2 : decode cX6_ahead 2 = .ok (.invokevirtual 175, 3) := by decide +kernel
theorem dX6_ahead_5 : decode cX6_ahead 5 = .ok (.ifCond .eq 22, 3) := by decide +kernel
theorem dX6_ahead_8 : decode cX6_ahead 8 = .ok (.iload_n 2, 1) := by decide +kernel
theorem dX6_ahead_9 : decode cX6_ahead 9 = .ok (.iconst 0, 1) := by decide +kernel
theorem dX6_ahead_10 : decode cX6_ahead 10 = .ok (.bipush 60, 2) := by decide +kernel
theorem dX6_ahead_12 : decode cX6_ahead 12 = .ok (.invokestatic 64, 3) := by decide +kernel
theorem dX6_ahead_15 : decode cX6_ahead 15 = .ok (.ifCond .eq 12, 3) := by decide +kernel
theorem dX6_ahead_18 : decode cX6_ahead 18 = .ok (.iload_n 3, 1) := by decide +kernel
theorem dX6_ahead_19 : decode cX6_ahead 19 = .ok (.iconst 0, 1) := by decide +kernel
theorem dX6_ahead_20 : decode cX6_ahead 20 = .ok (.iconst 2, 1) := by decide +kernel
theorem dX6_ahead_21 : decode cX6_ahead 21 = .ok (.invokestatic 64, 3) := by decide +kernel
theorem dX6_ahead_24 : decode cX6_ahead 24 = .ok (.ifCond .ne 6, 3) := by decide +kernel
theorem dX6_ahead_27 : decode cX6_ahead 27 = .ok (.ldc 68, 2) := by decide +kernel
theorem dX6_ahead_29 : decode cX6_ahead 29 = .ok (.ireturn, 1) := by decide +kernel
theorem dX6_ahead_30 : decode cX6_ahead 30 = .ok (.aload_n 0, 1) := by decide +kernel
theorem dX6_ahead_31 : decode cX6_ahead 31 = .ok (.getfield 48, 3) := by decide +kernel
theorem dX6_ahead_34 : decode cX6_ahead 34 = .ok (.iload_n 1, 1) := by decide +kernel
theorem dX6_ahead_35 : decode cX6_ahead 35 = .ok (.iload_n 2, 1) := by decide +kernel
theorem dX6_ahead_36 : decode cX6_ahead 36 = .ok (.iload_n 3, 1) := by decide +kernel
theorem dX6_ahead_37 : decode cX6_ahead 37 = .ok (.invokevirtual 214, 3) := by decide +kernel
theorem dX6_ahead_40 : decode cX6_ahead 40 = .ok (.ireturn, 1) := by decide +kernel
theorem dX6_heard_0 : decode cX6_heard 0 = .ok (.aload_n 0, 1) := by decide +kernel
theorem dX6_heard_1 : decode cX6_heard 1 = .ok (.invokevirtual 148, 3) := by decide +kernel
theorem dX6_heard_4 : decode cX6_heard 4 = .ok (.ifCond .ne 6, 3) := by decide +kernel
theorem dX6_heard_7 : decode cX6_heard 7 = .ok (.ldc 144, 2) := by decide +kernel
theorem dX6_heard_9 : decode cX6_heard 9 = .ok (.ireturn, 1) := by decide +kernel
theorem dX6_heard_10 : decode cX6_heard 10 = .ok (.iload_n 1, 1) := by decide +kernel
theorem dX6_heard_11 : decode cX6_heard 11 = .ok (.iconst 0, 1) := by decide +kernel
theorem dX6_heard_12 : decode cX6_heard 12 = .ok (.bipush 60, 2) := by decide +kernel
theorem dX6_heard_14 : decode cX6_heard 14 = .ok (.invokestatic 64, 3) := by decide +kernel
theorem dX6_heard_17 : decode cX6_heard 17 = .ok (.ifCond .eq 12, 3) := by decide +kernel
theorem dX6_heard_20 : decode cX6_heard 20 = .ok (.iload_n 2, 1) := by decide +kernel
theorem dX6_heard_21 : decode cX6_heard 21 = .ok (.iconst 0, 1) := by decide +kernel
theorem dX6_heard_22 : decode cX6_heard 22 = .ok (.iconst 3, 1) := by decide +kernel
theorem dX6_heard_23 : decode cX6_heard 23 = .ok (.invokestatic 64, 3) := by decide +kernel
theorem dX6_heard_26 : decode cX6_heard 26 = .ok (.ifCond .ne 6, 3) := by decide +kernel
theorem dX6_heard_29 : decode cX6_heard 29 = .ok (.ldc 68, 2) := by decide +kernel
theorem dX6_heard_31 : decode cX6_heard 31 = .ok (.ireturn, 1) := by decide +kernel
theorem dX6_heard_32 : decode cX6_heard 32 = .ok (.aload_n 0, 1) := by decide +kernel
theorem dX6_heard_33 : decode cX6_heard 33 = .ok (.getfield 48, 3) := by decide +kernel
theorem dX6_heard_36 : decode cX6_heard 36 = .ok (.iload_n 1, 1) := by decide +kernel
theorem dX6_heard_37 : decode cX6_heard 37 = .ok (.iload_n 2, 1) := by decide +kernel
theorem dX6_heard_38 : decode cX6_heard 38 = .ok (.invokevirtual 218, 3) := by decide +kernel
theorem dX6_heard_41 : decode cX6_heard 41 = .ok (.ireturn, 1) := by decide +kernel
theorem dX6_when_0 : decode cX6_when 0 = .ok (.aload_n 0, 1) := by decide +kernel
theorem dX6_when_1 : decode cX6_when 1 = .ok (.iload_n 1, 1) := by decide +kernel
theorem dX6_when_2 : decode cX6_when 2 = .ok (.invokevirtual 175, 3) := by decide +kernel
theorem dX6_when_5 : decode cX6_when 5 = .ok (.ifCond .eq 12, 3) := by decide +kernel
theorem dX6_when_8 : decode cX6_when 8 = .ok (.iload_n 2, 1) := by decide +kernel
theorem dX6_when_9 : decode cX6_when 9 = .ok (.iconst 0, 1) := by decide +kernel
theorem dX6_when_10 : decode cX6_when 10 = .ok (.iconst 1, 1) := by decide +kernel
theorem dX6_when_11 : decode cX6_when 11 = .ok (.invokestatic 64, 3) := by decide +kernel
theorem dX6_when_14 : decode cX6_when 14 = .ok (.ifCond .ne 6, 3) := by decide +kernel
theorem dX6_when_17 : decode cX6_when 17 = .ok (.ldc 68, 2) := by decide +kernel
theorem dX6_when_19 : decode cX6_when 19 = .ok (.ireturn, 1) := by decide +kernel
theorem dX6_when_20 : decode cX6_when 20 = .ok (.aload_n 0, 1) := by decide +kernel
theorem dX6_when_21 : decode cX6_when 21 = .ok (.getfield 48, 3) := by decide +kernel
theorem dX6_when_24 : decode cX6_when 24 = .ok (.iload_n 1, 1) := by decide +kernel
theorem dX6_when_25 : decode cX6_when 25 = .ok (.iload_n 2, 1) := by decide +kernel
theorem dX6_when_26 : decode cX6_when 26 = .ok (.invokevirtual 221, 3) := by decide +kernel
theorem dX6_when_29 : decode cX6_when 29 = .ok (.ireturn, 1) := by decide +kernel
theorem dX6_stops_0 : decode cX6_stops 0 = .ok (.aload_n 0, 1) := by decide +kernel
theorem dX6_stops_1 : decode cX6_stops 1 = .ok (.invokevirtual 148, 3) := by decide +kernel
theorem dX6_stops_4 : decode cX6_stops 4 = .ok (.ifCond .eq 13, 3) := by decide +kernel
theorem dX6_stops_7 : decode cX6_stops 7 = .ok (.aload_n 0, 1) := by decide +kernel
theorem dX6_stops_8 : decode cX6_stops 8 = .ok (.getfield 48, 3) := by decide +kernel
theorem dX6_stops_11 : decode cX6_stops 11 = .ok (.invokevirtual 224, 3) := by decide +kernel
theorem dX6_stops_14 : decode cX6_stops 14 = .ok (.goto 5, 3) := by decide +kernel
theorem dX6_stops_17 : decode cX6_stops 17 = .ok (.ldc 144, 2) := by decide +kernel
theorem dX6_stops_19 : decode cX6_stops 19 = .ok (.ireturn, 1) := by decide +kernel
theorem dX6_bestPin_0 : decode cX6_bestPin 0 = .ok (.aload_n 0, 1) := by decide +kernel
theorem dX6_bestPin_1 : decode cX6_bestPin 1 = .ok (.invokevirtual 148, 3) := by decide +kernel
theorem dX6_bestPin_4 : decode cX6_bestPin 4 = .ok (.ifCond .ne 6, 3) := by decide +kernel
theorem dX6_bestPin_7 : decode cX6_bestPin 7 = .ok (.ldc 144, 2) := by decide +kernel
theorem dX6_bestPin_9 : decode cX6_bestPin 9 = .ok (.ireturn, 1) := by decide +kernel
theorem dX6_bestPin_10 : decode cX6_bestPin 10 = .ok (.iload_n 1, 1) := by decide +kernel
theorem dX6_bestPin_11 : decode cX6_bestPin 11 = .ok (.iconst 1, 1) := by decide +kernel
theorem dX6_bestPin_12 : decode cX6_bestPin 12 = .ok (.bipush 20, 2) := by decide +kernel
theorem dX6_bestPin_14 : decode cX6_bestPin 14 = .ok (.invokestatic 64, 3) := by decide +kernel
theorem dX6_bestPin_17 : decode cX6_bestPin 17 = .ok (.ifCond .eq 12, 3) := by decide +kernel
theorem dX6_bestPin_20 : decode cX6_bestPin 20 = .ok (.iload_n 2, 1) := by decide +kernel
theorem dX6_bestPin_21 : decode cX6_bestPin 21 = .ok (.iconst 0, 1) := by decide +kernel
theorem dX6_bestPin_22 : decode cX6_bestPin 22 = .ok (.iconst 1, 1) := by decide +kernel
theorem dX6_bestPin_23 : decode cX6_bestPin 23 = .ok (.invokestatic 64, 3) := by decide +kernel
theorem dX6_bestPin_26 : decode cX6_bestPin 26 = .ok (.ifCond .ne 6, 3) := by decide +kernel
theorem dX6_bestPin_29 : decode cX6_bestPin 29 = .ok (.ldc 68, 2) := by decide +kernel
theorem dX6_bestPin_31 : decode cX6_bestPin 31 = .ok (.ireturn, 1) := by decide +kernel
theorem dX6_bestPin_32 : decode cX6_bestPin 32 = .ok (.aload_n 0, 1) := by decide +kernel
theorem dX6_bestPin_33 : decode cX6_bestPin 33 = .ok (.getfield 48, 3) := by decide +kernel
theorem dX6_bestPin_36 : decode cX6_bestPin 36 = .ok (.iload_n 1, 1) := by decide +kernel
theorem dX6_bestPin_37 : decode cX6_bestPin 37 = .ok (.iload_n 2, 1) := by decide +kernel
theorem dX6_bestPin_38 : decode cX6_bestPin 38 = .ok (.invokevirtual 227, 3) := by decide +kernel
theorem dX6_bestPin_41 : decode cX6_bestPin 41 = .ok (.ireturn, 1) := by decide +kernel
theorem dX6_begin_0 : decode cX6_begin 0 = .ok (.aload_n 0, 1) := by decide +kernel
theorem dX6_begin_1 : decode cX6_begin 1 = .ok (.invokevirtual 148, 3) := by decide +kernel
theorem dX6_begin_4 : decode cX6_begin 4 = .ok (.ifCond .ne 6, 3) := by decide +kernel
theorem dX6_begin_7 : decode cX6_begin 7 = .ok (.ldc 144, 2) := by decide +kernel
theorem dX6_begin_9 : decode cX6_begin 9 = .ok (.ireturn, 1) := by decide +kernel
theorem dX6_begin_10 : decode cX6_begin 10 = .ok (.iload_n 1, 1) := by decide +kernel
theorem dX6_begin_11 : decode cX6_begin 11 = .ok (.iconst 1, 1) := by decide +kernel
theorem dX6_begin_12 : decode cX6_begin 12 = .ok (.bipush 40, 2) := by decide +kernel
theorem dX6_begin_14 : decode cX6_begin 14 = .ok (.invokestatic 64, 3) := by decide +kernel
theorem dX6_begin_17 : decode cX6_begin 17 = .ok (.ifCond .eq 12, 3) := by decide +kernel
theorem dX6_begin_20 : decode cX6_begin 20 = .ok (.iload_n 2, 1) := by decide +kernel
theorem dX6_begin_21 : decode cX6_begin 21 = .ok (.iconst 0, 1) := by decide +kernel
theorem dX6_begin_22 : decode cX6_begin 22 = .ok (.iconst 1, 1) := by decide +kernel
theorem dX6_begin_23 : decode cX6_begin 23 = .ok (.invokestatic 64, 3) := by decide +kernel
theorem dX6_begin_26 : decode cX6_begin 26 = .ok (.ifCond .ne 6, 3) := by decide +kernel
theorem dX6_begin_29 : decode cX6_begin 29 = .ok (.ldc 68, 2) := by decide +kernel
theorem dX6_begin_31 : decode cX6_begin 31 = .ok (.ireturn, 1) := by decide +kernel
theorem dX6_begin_32 : decode cX6_begin 32 = .ok (.aload_n 0, 1) := by decide +kernel
theorem dX6_begin_33 : decode cX6_begin 33 = .ok (.getfield 48, 3) := by decide +kernel
theorem dX6_begin_36 : decode cX6_begin 36 = .ok (.iload_n 1, 1) := by decide +kernel
theorem dX6_begin_37 : decode cX6_begin 37 = .ok (.iload_n 2, 1) := by decide +kernel
theorem dX6_begin_38 : decode cX6_begin 38 = .ok (.invokevirtual 230, 3) := by decide +kernel
theorem dX6_begin_41 : decode cX6_begin 41 = .ok (.ireturn, 1) := by decide +kernel
theorem dX6_least_0 : decode cX6_least 0 = .ok (.aload_n 0, 1) := by decide +kernel
theorem dX6_least_1 : decode cX6_least 1 = .ok (.invokevirtual 148, 3) := by decide +kernel
theorem dX6_least_4 : decode cX6_least 4 = .ok (.ifCond .ne 6, 3) := by decide +kernel
theorem dX6_least_7 : decode cX6_least 7 = .ok (.ldc 144, 2) := by decide +kernel
theorem dX6_least_9 : decode cX6_least 9 = .ok (.ireturn, 1) := by decide +kernel
theorem dX6_least_10 : decode cX6_least 10 = .ok (.iload_n 1, 1) := by decide +kernel
theorem dX6_least_11 : decode cX6_least 11 = .ok (.iconst 1, 1) := by decide +kernel
theorem dX6_least_12 : decode cX6_least 12 = .ok (.bipush 40, 2) := by decide +kernel
theorem dX6_least_14 : decode cX6_least 14 = .ok (.invokestatic 64, 3) := by decide +kernel
theorem dX6_least_17 : decode cX6_least 17 = .ok (.ifCond .ne 6, 3) := by decide +kernel
theorem dX6_least_20 : decode cX6_least 20 = .ok (.ldc 68, 2) := by decide +kernel
theorem dX6_least_22 : decode cX6_least 22 = .ok (.ireturn, 1) := by decide +kernel
theorem dX6_least_23 : decode cX6_least 23 = .ok (.aload_n 0, 1) := by decide +kernel
theorem dX6_least_24 : decode cX6_least 24 = .ok (.getfield 48, 3) := by decide +kernel
theorem dX6_least_27 : decode cX6_least 27 = .ok (.iload_n 1, 1) := by decide +kernel
theorem dX6_least_28 : decode cX6_least 28 = .ok (.invokevirtual 233, 3) := by decide +kernel
theorem dX6_least_31 : decode cX6_least 31 = .ok (.ireturn, 1) := by decide +kernel
theorem dX6_tune_0 : decode cX6_tune 0 = .ok (.aload_n 0, 1) := by decide +kernel
theorem dX6_tune_1 : decode cX6_tune 1 = .ok (.invokevirtual 148, 3) := by decide +kernel
theorem dX6_tune_4 : decode cX6_tune 4 = .ok (.ifCond .ne 6, 3) := by decide +kernel
theorem dX6_tune_7 : decode cX6_tune 7 = .ok (.ldc 144, 2) := by decide +kernel
theorem dX6_tune_9 : decode cX6_tune 9 = .ok (.ireturn, 1) := by decide +kernel
theorem dX6_tune_10 : decode cX6_tune 10 = .ok (.iload_n 1, 1) := by decide +kernel
theorem dX6_tune_11 : decode cX6_tune 11 = .ok (.invokestatic 60, 3) := by decide +kernel
theorem dX6_tune_14 : decode cX6_tune 14 = .ok (.ifCond .eq 13, 3) := by decide +kernel
theorem dX6_tune_17 : decode cX6_tune 17 = .ok (.iload_n 3, 1) := by decide +kernel
theorem dX6_tune_18 : decode cX6_tune 18 = .ok (.iconst 1, 1) := by decide +kernel
theorem dX6_tune_19 : decode cX6_tune 19 = .ok (.bipush 12, 2) := by decide +kernel
theorem dX6_tune_21 : decode cX6_tune 21 = .ok (.invokestatic 64, 3) := by decide +kernel
theorem dX6_tune_24 : decode cX6_tune 24 = .ok (.ifCond .ne 6, 3) := by decide +kernel
theorem dX6_tune_27 : decode cX6_tune 27 = .ok (.ldc 68, 2) := by decide +kernel
theorem dX6_tune_29 : decode cX6_tune 29 = .ok (.ireturn, 1) := by decide +kernel
theorem dX6_tune_30 : decode cX6_tune 30 = .ok (.aload_n 0, 1) := by decide +kernel
theorem dX6_tune_31 : decode cX6_tune 31 = .ok (.getfield 11, 3) := by decide +kernel
theorem dX6_tune_34 : decode cX6_tune 34 = .ok (.iload_n 1, 1) := by decide +kernel
theorem dX6_tune_35 : decode cX6_tune 35 = .ok (.aaload, 1) := by decide +kernel
theorem dX6_tune_36 : decode cX6_tune 36 = .ok (.iload_n 2, 1) := by decide +kernel
theorem dX6_tune_37 : decode cX6_tune 37 = .ok (.iload_n 3, 1) := by decide +kernel
theorem dX6_tune_38 : decode cX6_tune 38 = .ok (.invokestatic 80, 3) := by decide +kernel
theorem dX6_tune_41 : decode cX6_tune 41 = .ok (.istore 4, 2) := by decide +kernel
theorem dX6_tune_43 : decode cX6_tune 43 = .ok (.iload 4, 2) := by decide +kernel
theorem dX6_tune_45 : decode cX6_tune 45 = .ok (.ifCond .eq 10, 3) := by decide +kernel
theorem dX6_tune_48 : decode cX6_tune 48 = .ok (.aload_n 0, 1) := by decide +kernel
theorem dX6_tune_49 : decode cX6_tune 49 = .ok (.iload 4, 2) := by decide +kernel
theorem dX6_tune_51 : decode cX6_tune 51 = .ok (.invokevirtual 69, 3) := by decide +kernel
theorem dX6_tune_54 : decode cX6_tune 54 = .ok (.ireturn, 1) := by decide +kernel
theorem dX6_tune_55 : decode cX6_tune 55 = .ok (.aload_n 0, 1) := by decide +kernel
theorem dX6_tune_56 : decode cX6_tune 56 = .ok (.aload_n 0, 1) := by decide +kernel
theorem dX6_tune_57 : decode cX6_tune 57 = .ok (.getfield 48, 3) := by decide +kernel
theorem dX6_tune_60 : decode cX6_tune 60 = .ok (.aload_n 0, 1) := by decide +kernel
theorem dX6_tune_61 : decode cX6_tune 61 = .ok (.getfield 11, 3) := by decide +kernel
theorem dX6_tune_64 : decode cX6_tune 64 = .ok (.iload_n 1, 1) := by decide +kernel
theorem dX6_tune_65 : decode cX6_tune 65 = .ok (.aaload, 1) := by decide +kernel
theorem dX6_tune_66 : decode cX6_tune 66 = .ok (.iload_n 2, 1) := by decide +kernel
theorem dX6_tune_67 : decode cX6_tune 67 = .ok (.iload_n 3, 1) := by decide +kernel
theorem dX6_tune_68 : decode cX6_tune 68 = .ok (.invokevirtual 236, 3) := by decide +kernel
theorem dX6_tune_71 : decode cX6_tune 71 = .ok (.invokevirtual 77, 3) := by decide +kernel
theorem dX6_tune_74 : decode cX6_tune 74 = .ok (.ireturn, 1) := by decide +kernel
theorem dX6_sets_0 : decode cX6_sets 0 = .ok (.aload_n 0, 1) := by decide +kernel
theorem dX6_sets_1 : decode cX6_sets 1 = .ok (.invokevirtual 148, 3) := by decide +kernel
theorem dX6_sets_4 : decode cX6_sets 4 = .ok (.ifCond .ne 6, 3) := by decide +kernel
theorem dX6_sets_7 : decode cX6_sets 7 = .ok (.ldc 144, 2) := by decide +kernel
theorem dX6_sets_9 : decode cX6_sets 9 = .ok (.ireturn, 1) := by decide +kernel
theorem dX6_sets_10 : decode cX6_sets 10 = .ok (.iload_n 1, 1) := by decide +kernel
theorem dX6_sets_11 : decode cX6_sets 11 = .ok (.iconst 0, 1) := by decide +kernel
theorem dX6_sets_12 : decode cX6_sets 12 = .ok (.bipush 99, 2) := by decide +kernel
theorem dX6_sets_14 : decode cX6_sets 14 = .ok (.invokestatic 64, 3) := by decide +kernel
theorem dX6_sets_17 : decode cX6_sets 17 = .ok (.ifCond .eq 12, 3) := by decide +kernel
theorem dX6_sets_20 : decode cX6_sets 20 = .ok (.iload_n 2, 1) := by decide +kernel
theorem dX6_sets_21 : decode cX6_sets 21 = .ok (.iconst 0, 1) := by decide +kernel
theorem dX6_sets_22 : decode cX6_sets 22 = .ok (.iconst 2, 1) := by decide +kernel
theorem dX6_sets_23 : decode cX6_sets 23 = .ok (.invokestatic 64, 3) := by decide +kernel
theorem dX6_sets_26 : decode cX6_sets 26 = .ok (.ifCond .ne 6, 3) := by decide +kernel
theorem dX6_sets_29 : decode cX6_sets 29 = .ok (.ldc 68, 2) := by decide +kernel
theorem dX6_sets_31 : decode cX6_sets 31 = .ok (.ireturn, 1) := by decide +kernel
theorem dX6_sets_32 : decode cX6_sets 32 = .ok (.aload_n 0, 1) := by decide +kernel
theorem dX6_sets_33 : decode cX6_sets 33 = .ok (.getfield 48, 3) := by decide +kernel
theorem dX6_sets_36 : decode cX6_sets 36 = .ok (.iload_n 1, 1) := by decide +kernel
theorem dX6_sets_37 : decode cX6_sets 37 = .ok (.iload_n 2, 1) := by decide +kernel
theorem dX6_sets_38 : decode cX6_sets 38 = .ok (.invokevirtual 239, 3) := by decide +kernel
theorem dX6_sets_41 : decode cX6_sets 41 = .ok (.ireturn, 1) := by decide +kernel
theorem dX6_share_0 : decode cX6_share 0 = .ok (.aload_n 0, 1) := by decide +kernel
theorem dX6_share_1 : decode cX6_share 1 = .ok (.iload_n 1, 1) := by decide +kernel
theorem dX6_share_2 : decode cX6_share 2 = .ok (.invokevirtual 175, 3) := by decide +kernel
theorem dX6_share_5 : decode cX6_share 5 = .ok (.ifCond .eq 14, 3) := by decide +kernel
theorem dX6_share_8 : decode cX6_share 8 = .ok (.iload_n 2, 1) := by decide +kernel
theorem dX6_share_9 : decode cX6_share 9 = .ok (.iconst 0, 1) := by decide +kernel
theorem dX6_share_10 : decode cX6_share 10 = .ok (.sipush 999, 3) := by decide +kernel
theorem dX6_share_13 : decode cX6_share 13 = .ok (.invokestatic 64, 3) := by decide +kernel
theorem dX6_share_16 : decode cX6_share 16 = .ok (.ifCond .ne 6, 3) := by decide +kernel
theorem dX6_share_19 : decode cX6_share 19 = .ok (.ldc 68, 2) := by decide +kernel
theorem dX6_share_21 : decode cX6_share 21 = .ok (.ireturn, 1) := by decide +kernel
theorem dX6_share_22 : decode cX6_share 22 = .ok (.aload_n 0, 1) := by decide +kernel
theorem dX6_share_23 : decode cX6_share 23 = .ok (.getfield 48, 3) := by decide +kernel
theorem dX6_share_26 : decode cX6_share 26 = .ok (.iload_n 1, 1) := by decide +kernel
theorem dX6_share_27 : decode cX6_share 27 = .ok (.iload_n 2, 1) := by decide +kernel
theorem dX6_share_28 : decode cX6_share 28 = .ok (.invokevirtual 242, 3) := by decide +kernel
theorem dX6_share_31 : decode cX6_share 31 = .ok (.ireturn, 1) := by decide +kernel
theorem dX6_byTurns_0 : decode cX6_byTurns 0 = .ok (.aload_n 0, 1) := by decide +kernel
theorem dX6_byTurns_1 : decode cX6_byTurns 1 = .ok (.invokevirtual 148, 3) := by decide +kernel
theorem dX6_byTurns_4 : decode cX6_byTurns 4 = .ok (.ifCond .ne 6, 3) := by decide +kernel
theorem dX6_byTurns_7 : decode cX6_byTurns 7 = .ok (.ldc 144, 2) := by decide +kernel
theorem dX6_byTurns_9 : decode cX6_byTurns 9 = .ok (.ireturn, 1) := by decide +kernel
theorem dX6_byTurns_10 : decode cX6_byTurns 10 = .ok (.iload_n 1, 1) := by decide +kernel
theorem dX6_byTurns_11 : decode cX6_byTurns 11 = .ok (.iconst 0, 1) := by decide +kernel
theorem dX6_byTurns_12 : decode cX6_byTurns 12 = .ok (.iconst 4, 1) := by decide +kernel
theorem dX6_byTurns_13 : decode cX6_byTurns 13 = .ok (.invokestatic 64, 3) := by decide +kernel
theorem dX6_byTurns_16 : decode cX6_byTurns 16 = .ok (.ifCond .eq 13, 3) := by decide +kernel
theorem dX6_byTurns_19 : decode cX6_byTurns 19 = .ok (.iload_n 2, 1) := by decide +kernel
theorem dX6_byTurns_20 : decode cX6_byTurns 20 = .ok (.iconst 1, 1) := by decide +kernel
theorem dX6_byTurns_21 : decode cX6_byTurns 21 = .ok (.bipush 20, 2) := by decide +kernel
theorem dX6_byTurns_23 : decode cX6_byTurns 23 = .ok (.invokestatic 64, 3) := by decide +kernel
theorem dX6_byTurns_26 : decode cX6_byTurns 26 = .ok (.ifCond .ne 6, 3) := by decide +kernel
theorem dX6_byTurns_29 : decode cX6_byTurns 29 = .ok (.ldc 68, 2) := by decide +kernel
theorem dX6_byTurns_31 : decode cX6_byTurns 31 = .ok (.ireturn, 1) := by decide +kernel
theorem dX6_byTurns_32 : decode cX6_byTurns 32 = .ok (.aload_n 0, 1) := by decide +kernel
theorem dX6_byTurns_33 : decode cX6_byTurns 33 = .ok (.getfield 48, 3) := by decide +kernel
theorem dX6_byTurns_36 : decode cX6_byTurns 36 = .ok (.iload_n 1, 1) := by decide +kernel
theorem dX6_byTurns_37 : decode cX6_byTurns 37 = .ok (.iload_n 2, 1) := by decide +kernel
theorem dX6_byTurns_38 : decode cX6_byTurns 38 = .ok (.invokevirtual 245, 3) := by decide +kernel
theorem dX6_byTurns_41 : decode cX6_byTurns 41 = .ok (.ireturn, 1) := by decide +kernel
theorem dX6_who_0 : decode cX6_who 0 = .ok (.aload_n 0, 1) := by decide +kernel
theorem dX6_who_1 : decode cX6_who 1 = .ok (.iload_n 1, 1) := by decide +kernel
theorem dX6_who_2 : decode cX6_who 2 = .ok (.invokevirtual 175, 3) := by decide +kernel
theorem dX6_who_5 : decode cX6_who 5 = .ok (.ifCond .eq 30, 3) := by decide +kernel
theorem dX6_who_8 : decode cX6_who 8 = .ok (.iload_n 2, 1) := by decide +kernel
theorem dX6_who_9 : decode cX6_who 9 = .ok (.iconst 0, 1) := by decide +kernel
theorem dX6_who_10 : decode cX6_who 10 = .ok (.iconst 4, 1) := by decide +kernel
theorem dX6_who_11 : decode cX6_who 11 = .ok (.invokestatic 64, 3) := by decide +kernel
theorem dX6_who_14 : decode cX6_who 14 = .ok (.ifCond .eq 21, 3) := by decide +kernel
theorem dX6_who_17 : decode cX6_who 17 = .ok (.iload_n 3, 1) := by decide +kernel
theorem dX6_who_18 : decode cX6_who 18 = .ok (.invokestatic 60, 3) := by decide +kernel
theorem dX6_who_21 : decode cX6_who 21 = .ok (.ifCond .eq 14, 3) := by decide +kernel
theorem dX6_who_24 : decode cX6_who 24 = .ok (.iload 5, 2) := by decide +kernel
theorem dX6_who_26 : decode cX6_who 26 = .ok (.iconst 1, 1) := by decide +kernel
theorem dX6_who_27 : decode cX6_who 27 = .ok (.bipush 12, 2) := by decide +kernel
theorem dX6_who_29 : decode cX6_who 29 = .ok (.invokestatic 64, 3) := by decide +kernel
theorem dX6_who_32 : decode cX6_who 32 = .ok (.ifCond .ne 6, 3) := by decide +kernel
theorem dX6_who_35 : decode cX6_who 35 = .ok (.ldc 68, 2) := by decide +kernel
theorem dX6_who_37 : decode cX6_who 37 = .ok (.ireturn, 1) := by decide +kernel
theorem dX6_who_38 : decode cX6_who 38 = .ok (.aload_n 0, 1) := by decide +kernel
theorem dX6_who_39 : decode cX6_who 39 = .ok (.getfield 11, 3) := by decide +kernel
theorem dX6_who_42 : decode cX6_who 42 = .ok (.iload_n 3, 1) := by decide +kernel
theorem dX6_who_43 : decode cX6_who 43 = .ok (.aaload, 1) := by decide +kernel
theorem dX6_who_44 : decode cX6_who 44 = .ok (.iload 4, 2) := by decide +kernel
theorem dX6_who_46 : decode cX6_who 46 = .ok (.iload 5, 2) := by decide +kernel
theorem dX6_who_48 : decode cX6_who 48 = .ok (.invokestatic 80, 3) := by decide +kernel
theorem dX6_who_51 : decode cX6_who 51 = .ok (.istore 6, 2) := by decide +kernel
theorem dX6_who_53 : decode cX6_who 53 = .ok (.iload 6, 2) := by decide +kernel
theorem dX6_who_55 : decode cX6_who 55 = .ok (.ifCond .eq 10, 3) := by decide +kernel
theorem dX6_who_58 : decode cX6_who 58 = .ok (.aload_n 0, 1) := by decide +kernel
theorem dX6_who_59 : decode cX6_who 59 = .ok (.iload 6, 2) := by decide +kernel
theorem dX6_who_61 : decode cX6_who 61 = .ok (.invokevirtual 69, 3) := by decide +kernel
theorem dX6_who_64 : decode cX6_who 64 = .ok (.ireturn, 1) := by decide +kernel
theorem dX6_who_65 : decode cX6_who 65 = .ok (.aload_n 0, 1) := by decide +kernel
theorem dX6_who_66 : decode cX6_who 66 = .ok (.aload_n 0, 1) := by decide +kernel
theorem dX6_who_67 : decode cX6_who 67 = .ok (.getfield 48, 3) := by decide +kernel
theorem dX6_who_70 : decode cX6_who 70 = .ok (.iload_n 1, 1) := by decide +kernel
theorem dX6_who_71 : decode cX6_who 71 = .ok (.iload_n 2, 1) := by decide +kernel
theorem dX6_who_72 : decode cX6_who 72 = .ok (.aload_n 0, 1) := by decide +kernel
theorem dX6_who_73 : decode cX6_who 73 = .ok (.getfield 11, 3) := by decide +kernel
theorem dX6_who_76 : decode cX6_who 76 = .ok (.iload_n 3, 1) := by decide +kernel
theorem dX6_who_77 : decode cX6_who 77 = .ok (.aaload, 1) := by decide +kernel
theorem dX6_who_78 : decode cX6_who 78 = .ok (.iload 4, 2) := by decide +kernel
theorem dX6_who_80 : decode cX6_who 80 = .ok (.iload 5, 2) := by decide +kernel
theorem dX6_who_82 : decode cX6_who 82 = .ok (.invokevirtual 248, 3) := by decide +kernel
theorem dX6_who_85 : decode cX6_who 85 = .ok (.invokevirtual 77, 3) := by decide +kernel
theorem dX6_who_88 : decode cX6_who 88 = .ok (.ireturn, 1) := by decide +kernel
theorem dX6_lost_0 : decode cX6_lost 0 = .ok (.aload_n 0, 1) := by decide +kernel
theorem dX6_lost_1 : decode cX6_lost 1 = .ok (.iload_n 1, 1) := by decide +kernel
theorem dX6_lost_2 : decode cX6_lost 2 = .ok (.invokevirtual 175, 3) := by decide +kernel
theorem dX6_lost_5 : decode cX6_lost 5 = .ok (.ifCond .eq 33, 3) := by decide +kernel
theorem dX6_lost_8 : decode cX6_lost 8 = .ok (.iload_n 2, 1) := by decide +kernel
theorem dX6_lost_9 : decode cX6_lost 9 = .ok (.iconst 0, 1) := by decide +kernel
theorem dX6_lost_10 : decode cX6_lost 10 = .ok (.bipush 20, 2) := by decide +kernel
theorem dX6_lost_12 : decode cX6_lost 12 = .ok (.invokestatic 64, 3) := by decide +kernel
theorem dX6_lost_15 : decode cX6_lost 15 = .ok (.ifCond .eq 23, 3) := by decide +kernel
theorem dX6_lost_18 : decode cX6_lost 18 = .ok (.iload_n 3, 1) := by decide +kernel
theorem dX6_lost_19 : decode cX6_lost 19 = .ok (.iconst 0, 1) := by decide +kernel
theorem dX6_lost_20 : decode cX6_lost 20 = .ok (.bipush 10, 2) := by decide +kernel
theorem dX6_lost_22 : decode cX6_lost 22 = .ok (.invokestatic 64, 3) := by decide +kernel
theorem dX6_lost_25 : decode cX6_lost 25 = .ok (.ifCond .eq 13, 3) := by decide +kernel
theorem dX6_lost_28 : decode cX6_lost 28 = .ok (.iload 4, 2) := by decide +kernel
theorem dX6_lost_30 : decode cX6_lost 30 = .ok (.iconst 0, 1) := by decide +kernel
theorem dX6_lost_31 : decode cX6_lost 31 = .ok (.iconst 1, 1) := by decide +kernel
theorem dX6_lost_32 : decode cX6_lost 32 = .ok (.invokestatic 64, 3) := by decide +kernel
theorem dX6_lost_35 : decode cX6_lost 35 = .ok (.ifCond .ne 7, 3) := by decide +kernel
theorem dX6_lost_38 : decode cX6_lost 38 = .ok (.ldc2_w 252, 3) := by decide +kernel
theorem dX6_lost_41 : decode cX6_lost 41 = .ok (.lreturn, 1) := by decide +kernel
theorem dX6_lost_42 : decode cX6_lost 42 = .ok (.aload_n 0, 1) := by decide +kernel
theorem dX6_lost_43 : decode cX6_lost 43 = .ok (.getfield 48, 3) := by decide +kernel
theorem dX6_lost_46 : decode cX6_lost 46 = .ok (.iload_n 1, 1) := by decide +kernel
theorem dX6_lost_47 : decode cX6_lost 47 = .ok (.iload_n 2, 1) := by decide +kernel
theorem dX6_lost_48 : decode cX6_lost 48 = .ok (.iload_n 3, 1) := by decide +kernel
theorem dX6_lost_49 : decode cX6_lost 49 = .ok (.iload 4, 2) := by decide +kernel
theorem dX6_lost_51 : decode cX6_lost 51 = .ok (.invokevirtual 254, 3) := by decide +kernel
theorem dX6_lost_54 : decode cX6_lost 54 = .ok (.lreturn, 1) := by decide +kernel
theorem dX6_drawn_0 : decode cX6_drawn 0 = .ok (.aload_n 0, 1) := by decide +kernel
theorem dX6_drawn_1 : decode cX6_drawn 1 = .ok (.invokevirtual 148, 3) := by decide +kernel
theorem dX6_drawn_4 : decode cX6_drawn 4 = .ok (.ifCond .ne 6, 3) := by decide +kernel
theorem dX6_drawn_7 : decode cX6_drawn 7 = .ok (.ldc 144, 2) := by decide +kernel
theorem dX6_drawn_9 : decode cX6_drawn 9 = .ok (.ireturn, 1) := by decide +kernel
theorem dX6_drawn_10 : decode cX6_drawn 10 = .ok (.iload_n 1, 1) := by decide +kernel
theorem dX6_drawn_11 : decode cX6_drawn 11 = .ok (.iconst 0, 1) := by decide +kernel
theorem dX6_drawn_12 : decode cX6_drawn 12 = .ok (.bipush 60, 2) := by decide +kernel
theorem dX6_drawn_14 : decode cX6_drawn 14 = .ok (.invokestatic 64, 3) := by decide +kernel
theorem dX6_drawn_17 : decode cX6_drawn 17 = .ok (.ifCond .eq 23, 3) := by decide +kernel
theorem dX6_drawn_20 : decode cX6_drawn 20 = .ok (.iload_n 2, 1) := by decide +kernel
theorem dX6_drawn_21 : decode cX6_drawn 21 = .ok (.iconst 1, 1) := by decide +kernel
theorem dX6_drawn_22 : decode cX6_drawn 22 = .ok (.ldc_w 258, 3) := by decide +kernel
theorem dX6_drawn_25 : decode cX6_drawn 25 = .ok (.invokestatic 64, 3) := by decide +kernel
theorem dX6_drawn_28 : decode cX6_drawn 28 = .ok (.ifCond .eq 12, 3) := by decide +kernel
theorem dX6_drawn_31 : decode cX6_drawn 31 = .ok (.iload_n 3, 1) := by decide +kernel
theorem dX6_drawn_32 : decode cX6_drawn 32 = .ok (.iconst 0, 1) := by decide +kernel
theorem dX6_drawn_33 : decode cX6_drawn 33 = .ok (.iconst 1, 1) := by decide +kernel
theorem dX6_drawn_34 : decode cX6_drawn 34 = .ok (.invokestatic 64, 3) := by decide +kernel
theorem dX6_drawn_37 : decode cX6_drawn 37 = .ok (.ifCond .ne 6, 3) := by decide +kernel
theorem dX6_drawn_40 : decode cX6_drawn 40 = .ok (.ldc 68, 2) := by decide +kernel
theorem dX6_drawn_42 : decode cX6_drawn 42 = .ok (.ireturn, 1) := by decide +kernel
theorem dX6_drawn_43 : decode cX6_drawn 43 = .ok (.aload_n 0, 1) := by decide +kernel
theorem dX6_drawn_44 : decode cX6_drawn 44 = .ok (.getfield 48, 3) := by decide +kernel
theorem dX6_drawn_47 : decode cX6_drawn 47 = .ok (.iload_n 1, 1) := by decide +kernel
theorem dX6_drawn_48 : decode cX6_drawn 48 = .ok (.iload_n 2, 1) := by decide +kernel
theorem dX6_drawn_49 : decode cX6_drawn 49 = .ok (.iload_n 3, 1) := by decide +kernel
theorem dX6_drawn_50 : decode cX6_drawn 50 = .ok (.invokevirtual 259, 3) := by decide +kernel
theorem dX6_drawn_53 : decode cX6_drawn 53 = .ok (.ireturn, 1) := by decide +kernel
theorem dX6_image_0 : decode cX6_image 0 = .ok (.iload_n 1, 1) := by decide +kernel
theorem dX6_image_1 : decode cX6_image 1 = .ok (.iconst 0, 1) := by decide +kernel
theorem dX6_image_2 : decode cX6_image 2 = .ok (.iconst 1, 1) := by decide +kernel
theorem dX6_image_3 : decode cX6_image 3 = .ok (.invokestatic 64, 3) := by decide +kernel
theorem dX6_image_6 : decode cX6_image 6 = .ok (.ifCond .ne 6, 3) := by decide +kernel
theorem dX6_image_9 : decode cX6_image 9 = .ok (.ldc 68, 2) := by decide +kernel
theorem dX6_image_11 : decode cX6_image 11 = .ok (.ireturn, 1) := by decide +kernel
theorem dX6_image_12 : decode cX6_image 12 = .ok (.aload_n 0, 1) := by decide +kernel
theorem dX6_image_13 : decode cX6_image 13 = .ok (.invokevirtual 148, 3) := by decide +kernel
theorem dX6_image_16 : decode cX6_image 16 = .ok (.ifCond .ne 6, 3) := by decide +kernel
theorem dX6_image_19 : decode cX6_image 19 = .ok (.ldc 144, 2) := by decide +kernel
theorem dX6_image_21 : decode cX6_image 21 = .ok (.ireturn, 1) := by decide +kernel
theorem dX6_image_22 : decode cX6_image 22 = .ok (.aload_n 0, 1) := by decide +kernel
theorem dX6_image_23 : decode cX6_image 23 = .ok (.getfield 17, 3) := by decide +kernel
theorem dX6_image_26 : decode cX6_image 26 = .ok (.iload_n 1, 1) := by decide +kernel
theorem dX6_image_27 : decode cX6_image 27 = .ok (.aaload, 1) := by decide +kernel
theorem dX6_image_28 : decode cX6_image 28 = .ok (.aload_n 0, 1) := by decide +kernel
theorem dX6_image_29 : decode cX6_image 29 = .ok (.getfield 22, 3) := by decide +kernel
theorem dX6_image_32 : decode cX6_image 32 = .ok (.invokevirtual 134, 3) := by decide +kernel
theorem dX6_image_35 : decode cX6_image 35 = .ok (.iconst 1, 1) := by decide +kernel
theorem dX6_image_36 : decode cX6_image 36 = .ok (.ireturn, 1) := by decide +kernel
theorem dX6_restore_0 : decode cX6_restore 0 = .ok (.iload_n 1, 1) := by decide +kernel
theorem dX6_restore_1 : decode cX6_restore 1 = .ok (.iconst 0, 1) := by decide +kernel
theorem dX6_restore_2 : decode cX6_restore 2 = .ok (.iconst 1, 1) := by decide +kernel
theorem dX6_restore_3 : decode cX6_restore 3 = .ok (.invokestatic 64, 3) := by decide +kernel
theorem dX6_restore_6 : decode cX6_restore 6 = .ok (.ifCond .ne 6, 3) := by decide +kernel
theorem dX6_restore_9 : decode cX6_restore 9 = .ok (.ldc 68, 2) := by decide +kernel
theorem dX6_restore_11 : decode cX6_restore 11 = .ok (.ireturn, 1) := by decide +kernel
theorem dX6_restore_12 : decode cX6_restore 12 = .ok (.aload_n 0, 1) := by decide +kernel
theorem dX6_restore_13 : decode cX6_restore 13 = .ok (.getfield 17, 3) := by decide +kernel
theorem dX6_restore_16 : decode cX6_restore 16 = .ok (.iload_n 1, 1) := by decide +kernel
theorem dX6_restore_17 : decode cX6_restore 17 = .ok (.aaload, 1) := by decide +kernel
theorem dX6_restore_18 : decode cX6_restore 18 = .ok (.getfield 140, 3) := by decide +kernel
theorem dX6_restore_21 : decode cX6_restore 21 = .ok (.ifCond .ne 6, 3) := by decide +kernel
theorem dX6_restore_24 : decode cX6_restore 24 = .ok (.ldc 144, 2) := by decide +kernel
theorem dX6_restore_26 : decode cX6_restore 26 = .ok (.ireturn, 1) := by decide +kernel
theorem dX6_restore_27 : decode cX6_restore 27 = .ok (.aload_n 0, 1) := by decide +kernel
theorem dX6_restore_28 : decode cX6_restore 28 = .ok (.getfield 22, 3) := by decide +kernel
theorem dX6_restore_31 : decode cX6_restore 31 = .ok (.aload_n 0, 1) := by decide +kernel
theorem dX6_restore_32 : decode cX6_restore 32 = .ok (.getfield 17, 3) := by decide +kernel
theorem dX6_restore_35 : decode cX6_restore 35 = .ok (.iload_n 1, 1) := by decide +kernel
theorem dX6_restore_36 : decode cX6_restore 36 = .ok (.aaload, 1) := by decide +kernel
theorem dX6_restore_37 : decode cX6_restore 37 = .ok (.invokevirtual 134, 3) := by decide +kernel
theorem dX6_restore_40 : decode cX6_restore 40 = .ok (.aload_n 0, 1) := by decide +kernel
theorem dX6_restore_41 : decode cX6_restore 41 = .ok (.getfield 39, 3) := by decide +kernel
theorem dX6_restore_44 : decode cX6_restore 44 = .ok (.invokevirtual 137, 3) := by decide +kernel
theorem dX6_restore_47 : decode cX6_restore 47 = .ok (.iconst 1, 1) := by decide +kernel
theorem dX6_restore_48 : decode cX6_restore 48 = .ok (.ireturn, 1) := by decide +kernel
theorem dX6_kind_0 : decode cX6_kind 0 = .ok (.aload_n 0, 1) := by decide +kernel
theorem dX6_kind_1 : decode cX6_kind 1 = .ok (.iload_n 1, 1) := by decide +kernel
theorem dX6_kind_2 : decode cX6_kind 2 = .ok (.invokevirtual 175, 3) := by decide +kernel
theorem dX6_kind_5 : decode cX6_kind 5 = .ok (.ifCond .eq 15, 3) := by decide +kernel
theorem dX6_kind_8 : decode cX6_kind 8 = .ok (.aload_n 0, 1) := by decide +kernel
theorem dX6_kind_9 : decode cX6_kind 9 = .ok (.getfield 22, 3) := by decide +kernel
theorem dX6_kind_12 : decode cX6_kind 12 = .ok (.getfield 262, 3) := by decide +kernel
theorem dX6_kind_15 : decode cX6_kind 15 = .ok (.iload_n 1, 1) := by decide +kernel
theorem dX6_kind_16 : decode cX6_kind 16 = .ok (.iaload, 1) := by decide +kernel
theorem dX6_kind_17 : decode cX6_kind 17 = .ok (.goto 5, 3) := by decide +kernel
theorem dX6_kind_20 : decode cX6_kind 20 = .ok (.ldc 68, 2) := by decide +kernel
theorem dX6_kind_22 : decode cX6_kind 22 = .ok (.ireturn, 1) := by decide +kernel
theorem dX6_as_0 : decode cX6_as 0 = .ok (.aload_n 0, 1) := by decide +kernel
theorem dX6_as_1 : decode cX6_as 1 = .ok (.iload_n 1, 1) := by decide +kernel
theorem dX6_as_2 : decode cX6_as 2 = .ok (.invokevirtual 175, 3) := by decide +kernel
theorem dX6_as_5 : decode cX6_as 5 = .ok (.ifCond .eq 12, 3) := by decide +kernel
theorem dX6_as_8 : decode cX6_as 8 = .ok (.iload_n 2, 1) := by decide +kernel
theorem dX6_as_9 : decode cX6_as 9 = .ok (.iconst 0, 1) := by decide +kernel
theorem dX6_as_10 : decode cX6_as 10 = .ok (.iconst 5, 1) := by decide +kernel
theorem dX6_as_11 : decode cX6_as 11 = .ok (.invokestatic 64, 3) := by decide +kernel
theorem dX6_as_14 : decode cX6_as 14 = .ok (.ifCond .ne 6, 3) := by decide +kernel
theorem dX6_as_17 : decode cX6_as 17 = .ok (.ldc 68, 2) := by decide +kernel
theorem dX6_as_19 : decode cX6_as 19 = .ok (.ireturn, 1) := by decide +kernel
theorem dX6_as_20 : decode cX6_as 20 = .ok (.aload_n 0, 1) := by decide +kernel
theorem dX6_as_21 : decode cX6_as 21 = .ok (.getfield 22, 3) := by decide +kernel
theorem dX6_as_24 : decode cX6_as 24 = .ok (.getfield 262, 3) := by decide +kernel
theorem dX6_as_27 : decode cX6_as 27 = .ok (.iload_n 1, 1) := by decide +kernel
theorem dX6_as_28 : decode cX6_as 28 = .ok (.iaload, 1) := by decide +kernel
theorem dX6_as_29 : decode cX6_as 29 = .ok (.iload_n 2, 1) := by decide +kernel
theorem dX6_as_30 : decode cX6_as 30 = .ok (.invokestatic 265, 3) := by decide +kernel
theorem dX6_as_33 : decode cX6_as 33 = .ok (.ifCond .eq 11, 3) := by decide +kernel
theorem dX6_as_36 : decode cX6_as 36 = .ok (.aload_n 0, 1) := by decide +kernel
theorem dX6_as_37 : decode cX6_as 37 = .ok (.iload_n 1, 1) := by decide +kernel
theorem dX6_as_38 : decode cX6_as 38 = .ok (.invokevirtual 77, 3) := by decide +kernel
theorem dX6_as_41 : decode cX6_as 41 = .ok (.goto 8, 3) := by decide +kernel
theorem dX6_as_44 : decode cX6_as 44 = .ok (.aload_n 0, 1) := by decide +kernel
theorem dX6_as_45 : decode cX6_as 45 = .ok (.iconst 3, 1) := by decide +kernel
theorem dX6_as_46 : decode cX6_as 46 = .ok (.invokevirtual 69, 3) := by decide +kernel
theorem dX6_as_49 : decode cX6_as 49 = .ok (.ireturn, 1) := by decide +kernel
theorem dX6_ask_0 : decode cX6_ask 0 = .ok (.aload_n 0, 1) := by decide +kernel
theorem dX6_ask_1 : decode cX6_ask 1 = .ok (.iload_n 1, 1) := by decide +kernel
theorem dX6_ask_2 : decode cX6_ask 2 = .ok (.invokevirtual 175, 3) := by decide +kernel
theorem dX6_ask_5 : decode cX6_ask 5 = .ok (.ifCond .eq 12, 3) := by decide +kernel
theorem dX6_ask_8 : decode cX6_ask 8 = .ok (.iload_n 2, 1) := by decide +kernel
theorem dX6_ask_9 : decode cX6_ask 9 = .ok (.iconst 0, 1) := by decide +kernel
theorem dX6_ask_10 : decode cX6_ask 10 = .ok (.iconst 1, 1) := by decide +kernel
theorem dX6_ask_11 : decode cX6_ask 11 = .ok (.invokestatic 64, 3) := by decide +kernel
theorem dX6_ask_14 : decode cX6_ask 14 = .ok (.ifCond .ne 6, 3) := by decide +kernel
theorem dX6_ask_17 : decode cX6_ask 17 = .ok (.ldc 68, 2) := by decide +kernel
theorem dX6_ask_19 : decode cX6_ask 19 = .ok (.ireturn, 1) := by decide +kernel
theorem dX6_ask_20 : decode cX6_ask 20 = .ok (.aload_n 0, 1) := by decide +kernel
theorem dX6_ask_21 : decode cX6_ask 21 = .ok (.getfield 55, 3) := by decide +kernel
theorem dX6_ask_24 : decode cX6_ask 24 = .ok (.iload_n 2, 1) := by decide +kernel
theorem dX6_ask_25 : decode cX6_ask 25 = .ok (.iload_n 1, 1) := by decide +kernel
theorem dX6_ask_26 : decode cX6_ask 26 = .ok (.invokevirtual 268, 3) := by decide +kernel
theorem dX6_ask_29 : decode cX6_ask 29 = .ok (.ireturn, 1) := by decide +kernel
theorem dX6_trace_0 : decode cX6_trace 0 = .ok (.iload_n 1, 1) := by decide +kernel
theorem dX6_trace_1 : decode cX6_trace 1 = .ok (.iconst 0, 1) := by decide +kernel
theorem dX6_trace_2 : decode cX6_trace 2 = .ok (.aload_n 0, 1) := by decide +kernel
theorem dX6_trace_3 : decode cX6_trace 3 = .ok (.getfield 55, 3) := by decide +kernel
theorem dX6_trace_6 : decode cX6_trace 6 = .ok (.getfield 271, 3) := by decide +kernel
theorem dX6_trace_9 : decode cX6_trace 9 = .ok (.iconst 1, 1) := by decide +kernel
theorem dX6_trace_10 : decode cX6_trace 10 = .ok (.isub, 1) := by decide +kernel
theorem dX6_trace_11 : decode cX6_trace 11 = .ok (.invokestatic 64, 3) := by decide +kernel
theorem dX6_trace_14 : decode cX6_trace 14 = .ok (.ifCond .eq 15, 3) := by decide +kernel
theorem dX6_trace_17 : decode cX6_trace 17 = .ok (.aload_n 0, 1) := by decide +kernel
theorem dX6_trace_18 : decode cX6_trace 18 = .ok (.getfield 55, 3) := by decide +kernel
theorem dX6_trace_21 : decode cX6_trace 21 = .ok (.getfield 272, 3) := by decide +kernel
theorem dX6_trace_24 : decode cX6_trace 24 = .ok (.iload_n 1, 1) := by decide +kernel
theorem dX6_trace_25 : decode cX6_trace 25 = .ok (.iaload, 1) := by decide +kernel
theorem dX6_trace_26 : decode cX6_trace 26 = .ok (.goto 6, 3) := by decide +kernel
theorem dX6_trace_29 : decode cX6_trace 29 = .ok (.ldc_w 275, 3) := by decide +kernel
theorem dX6_trace_32 : decode cX6_trace 32 = .ok (.ireturn, 1) := by decide +kernel
theorem dX6_count_0 : decode cX6_count 0 = .ok (.iload_n 1, 1) := by decide +kernel
theorem dX6_count_1 : decode cX6_count 1 = .ok (.tableswitch 108 0 7 #[47, 52, 60, 68, 76, 84, 92, 100], 47) := by decide +kernel
theorem dX6_count_48 : decode cX6_count 48 = .ok (.aload_n 0, 1) := by decide +kernel
theorem dX6_count_49 : decode cX6_count 49 = .ok (.invokevirtual 276, 3) := by decide +kernel
theorem dX6_count_52 : decode cX6_count 52 = .ok (.ireturn, 1) := by decide +kernel
theorem dX6_count_53 : decode cX6_count 53 = .ok (.aload_n 0, 1) := by decide +kernel
theorem dX6_count_54 : decode cX6_count 54 = .ok (.getfield 22, 3) := by decide +kernel
theorem dX6_count_57 : decode cX6_count 57 = .ok (.getfield 140, 3) := by decide +kernel
theorem dX6_count_60 : decode cX6_count 60 = .ok (.ireturn, 1) := by decide +kernel
theorem dX6_count_61 : decode cX6_count 61 = .ok (.aload_n 0, 1) := by decide +kernel
theorem dX6_count_62 : decode cX6_count 62 = .ok (.getfield 22, 3) := by decide +kernel
theorem dX6_count_65 : decode cX6_count 65 = .ok (.getfield 205, 3) := by decide +kernel
theorem dX6_count_68 : decode cX6_count 68 = .ok (.ireturn, 1) := by decide +kernel
theorem dX6_count_69 : decode cX6_count 69 = .ok (.aload_n 0, 1) := by decide +kernel
theorem dX6_count_70 : decode cX6_count 70 = .ok (.getfield 22, 3) := by decide +kernel
theorem dX6_count_73 : decode cX6_count 73 = .ok (.getfield 152, 3) := by decide +kernel
theorem dX6_count_76 : decode cX6_count 76 = .ok (.ireturn, 1) := by decide +kernel
theorem dX6_count_77 : decode cX6_count 77 = .ok (.aload_n 0, 1) := by decide +kernel
theorem dX6_count_78 : decode cX6_count 78 = .ok (.getfield 22, 3) := by decide +kernel
theorem dX6_count_81 : decode cX6_count 81 = .ok (.getfield 169, 3) := by decide +kernel
theorem dX6_count_84 : decode cX6_count 84 = .ok (.ireturn, 1) := by decide +kernel
theorem dX6_count_85 : decode cX6_count 85 = .ok (.aload_n 0, 1) := by decide +kernel
theorem dX6_count_86 : decode cX6_count 86 = .ok (.getfield 22, 3) := by decide +kernel
theorem dX6_count_89 : decode cX6_count 89 = .ok (.invokevirtual 279, 3) := by decide +kernel
theorem dX6_count_92 : decode cX6_count 92 = .ok (.ireturn, 1) := by decide +kernel
theorem dX6_count_93 : decode cX6_count 93 = .ok (.aload_n 0, 1) := by decide +kernel
theorem dX6_count_94 : decode cX6_count 94 = .ok (.getfield 39, 3) := by decide +kernel
theorem dX6_count_97 : decode cX6_count 97 = .ok (.getfield 143, 3) := by decide +kernel
theorem dX6_count_100 : decode cX6_count 100 = .ok (.ireturn, 1) := by decide +kernel
theorem dX6_count_101 : decode cX6_count 101 = .ok (.aload_n 0, 1) := by decide +kernel
theorem dX6_count_102 : decode cX6_count 102 = .ok (.getfield 32, 3) := by decide +kernel
theorem dX6_count_105 : decode cX6_count 105 = .ok (.getfield 113, 3) := by decide +kernel
theorem dX6_count_108 : decode cX6_count 108 = .ok (.ireturn, 1) := by decide +kernel
theorem dX6_count_109 : decode cX6_count 109 = .ok (.ldc 68, 2) := by decide +kernel
theorem dX6_count_111 : decode cX6_count 111 = .ok (.ireturn, 1) := by decide +kernel
theorem dX6_status_0 : decode cX6_status 0 = .ok (.aload_n 0, 1) := by decide +kernel
theorem dX6_status_1 : decode cX6_status 1 = .ok (.getfield 282, 3) := by decide +kernel
theorem dX6_status_4 : decode cX6_status 4 = .ok (.ireturn, 1) := by decide +kernel
theorem dX6_within_0 : decode cX6_within 0 = .ok (.iload_n 0, 1) := by decide +kernel
theorem dX6_within_1 : decode cX6_within 1 = .ok (.iload_n 1, 1) := by decide +kernel
theorem dX6_within_2 : decode cX6_within 2 = .ok (.if_icmp .lt 12, 3) := by decide +kernel
theorem dX6_within_5 : decode cX6_within 5 = .ok (.iload_n 0, 1) := by decide +kernel
theorem dX6_within_6 : decode cX6_within 6 = .ok (.iload_n 2, 1) := by decide +kernel
theorem dX6_within_7 : decode cX6_within 7 = .ok (.if_icmp .gt 7, 3) := by decide +kernel
theorem dX6_within_10 : decode cX6_within 10 = .ok (.iconst 1, 1) := by decide +kernel
theorem dX6_within_11 : decode cX6_within 11 = .ok (.goto 4, 3) := by decide +kernel
theorem dX6_within_14 : decode cX6_within 14 = .ok (.iconst 0, 1) := by decide +kernel
theorem dX6_within_15 : decode cX6_within 15 = .ok (.ireturn, 1) := by decide +kernel
theorem dX6_isRow_0 : decode cX6_isRow 0 = .ok (.iload_n 0, 1) := by decide +kernel
theorem dX6_isRow_1 : decode cX6_isRow 1 = .ok (.iconst 0, 1) := by decide +kernel
theorem dX6_isRow_2 : decode cX6_isRow 2 = .ok (.bipush 7, 2) := by decide +kernel
theorem dX6_isRow_4 : decode cX6_isRow 4 = .ok (.invokestatic 64, 3) := by decide +kernel
theorem dX6_isRow_7 : decode cX6_isRow 7 = .ok (.ireturn, 1) := by decide +kernel
theorem dX6_isOfKind_0 : decode cX6_isOfKind 0 = .ok (.iload_n 1, 1) := by decide +kernel
theorem dX6_isOfKind_1 : decode cX6_isOfKind 1 = .ok (.ifCond .eq 17, 3) := by decide +kernel
theorem dX6_isOfKind_4 : decode cX6_isOfKind 4 = .ok (.iload_n 1, 1) := by decide +kernel
theorem dX6_isOfKind_5 : decode cX6_isOfKind 5 = .ok (.iload_n 0, 1) := by decide +kernel
theorem dX6_isOfKind_6 : decode cX6_isOfKind 6 = .ok (.if_icmp .eq 12, 3) := by decide +kernel
theorem dX6_isOfKind_9 : decode cX6_isOfKind 9 = .ok (.iload_n 1, 1) := by decide +kernel
theorem dX6_isOfKind_10 : decode cX6_isOfKind 10 = .ok (.getstatic 285, 3) := by decide +kernel
theorem dX6_isOfKind_13 : decode cX6_isOfKind 13 = .ok (.iload_n 0, 1) := by decide +kernel
theorem dX6_isOfKind_14 : decode cX6_isOfKind 14 = .ok (.iaload, 1) := by decide +kernel
theorem dX6_isOfKind_15 : decode cX6_isOfKind 15 = .ok (.if_icmp .ne 7, 3) := by decide +kernel
theorem dX6_isOfKind_18 : decode cX6_isOfKind 18 = .ok (.iconst 1, 1) := by decide +kernel
theorem dX6_isOfKind_19 : decode cX6_isOfKind 19 = .ok (.goto 4, 3) := by decide +kernel
theorem dX6_isOfKind_22 : decode cX6_isOfKind 22 = .ok (.iconst 0, 1) := by decide +kernel
theorem dX6_isOfKind_23 : decode cX6_isOfKind 23 = .ok (.ireturn, 1) := by decide +kernel
theorem dX6_hasBox_0 : decode cX6_hasBox 0 = .ok (.aload_n 0, 1) := by decide +kernel
theorem dX6_hasBox_1 : decode cX6_hasBox 1 = .ok (.getfield 22, 3) := by decide +kernel
theorem dX6_hasBox_4 : decode cX6_hasBox 4 = .ok (.getfield 140, 3) := by decide +kernel
theorem dX6_hasBox_7 : decode cX6_hasBox 7 = .ok (.ifCond .le 7, 3) := by decide +kernel
theorem dX6_hasBox_10 : decode cX6_hasBox 10 = .ok (.iconst 1, 1) := by decide +kernel
theorem dX6_hasBox_11 : decode cX6_hasBox 11 = .ok (.goto 4, 3) := by decide +kernel
theorem dX6_hasBox_14 : decode cX6_hasBox 14 = .ok (.iconst 0, 1) := by decide +kernel
theorem dX6_hasBox_15 : decode cX6_hasBox 15 = .ok (.ireturn, 1) := by decide +kernel
theorem dX6_hasTooth_0 : decode cX6_hasTooth 0 = .ok (.iload_n 1, 1) := by decide +kernel
theorem dX6_hasTooth_1 : decode cX6_hasTooth 1 = .ok (.iconst 0, 1) := by decide +kernel
theorem dX6_hasTooth_2 : decode cX6_hasTooth 2 = .ok (.aload_n 0, 1) := by decide +kernel
theorem dX6_hasTooth_3 : decode cX6_hasTooth 3 = .ok (.getfield 22, 3) := by decide +kernel
theorem dX6_hasTooth_6 : decode cX6_hasTooth 6 = .ok (.getfield 140, 3) := by decide +kernel
theorem dX6_hasTooth_9 : decode cX6_hasTooth 9 = .ok (.iconst 1, 1) := by decide +kernel
theorem dX6_hasTooth_10 : decode cX6_hasTooth 10 = .ok (.isub, 1) := by decide +kernel
theorem dX6_hasTooth_11 : decode cX6_hasTooth 11 = .ok (.invokestatic 64, 3) := by decide +kernel
theorem dX6_hasTooth_14 : decode cX6_hasTooth 14 = .ok (.ireturn, 1) := by decide +kernel
theorem dX6_hasColumn_0 : decode cX6_hasColumn 0 = .ok (.iload_n 1, 1) := by decide +kernel
theorem dX6_hasColumn_1 : decode cX6_hasColumn 1 = .ok (.iconst 0, 1) := by decide +kernel
theorem dX6_hasColumn_2 : decode cX6_hasColumn 2 = .ok (.aload_n 0, 1) := by decide +kernel
theorem dX6_hasColumn_3 : decode cX6_hasColumn 3 = .ok (.getfield 22, 3) := by decide +kernel
theorem dX6_hasColumn_6 : decode cX6_hasColumn 6 = .ok (.getfield 205, 3) := by decide +kernel
theorem dX6_hasColumn_9 : decode cX6_hasColumn 9 = .ok (.iconst 1, 1) := by decide +kernel
theorem dX6_hasColumn_10 : decode cX6_hasColumn 10 = .ok (.isub, 1) := by decide +kernel
theorem dX6_hasColumn_11 : decode cX6_hasColumn 11 = .ok (.invokestatic 64, 3) := by decide +kernel
theorem dX6_hasColumn_14 : decode cX6_hasColumn 14 = .ok (.ireturn, 1) := by decide +kernel
theorem dX6_rowsThere_0 : decode cX6_rowsThere 0 = .ok (.iconst 0, 1) := by decide +kernel
theorem dX6_rowsThere_1 : decode cX6_rowsThere 1 = .ok (.istore_n 1, 1) := by decide +kernel
theorem dX6_rowsThere_2 : decode cX6_rowsThere 2 = .ok (.iconst 0, 1) := by decide +kernel
theorem dX6_rowsThere_3 : decode cX6_rowsThere 3 = .ok (.istore_n 2, 1) := by decide +kernel
theorem dX6_rowsThere_4 : decode cX6_rowsThere 4 = .ok (.iload_n 2, 1) := by decide +kernel
theorem dX6_rowsThere_5 : decode cX6_rowsThere 5 = .ok (.bipush 8, 2) := by decide +kernel
theorem dX6_rowsThere_7 : decode cX6_rowsThere 7 = .ok (.if_icmp .ge 24, 3) := by decide +kernel
theorem dX6_rowsThere_10 : decode cX6_rowsThere 10 = .ok (.aload_n 0, 1) := by decide +kernel
theorem dX6_rowsThere_11 : decode cX6_rowsThere 11 = .ok (.getfield 11, 3) := by decide +kernel
theorem dX6_rowsThere_14 : decode cX6_rowsThere 14 = .ok (.iload_n 2, 1) := by decide +kernel
theorem dX6_rowsThere_15 : decode cX6_rowsThere 15 = .ok (.aaload, 1) := by decide +kernel
theorem dX6_rowsThere_16 : decode cX6_rowsThere 16 = .ok (.getfield 88, 3) := by decide +kernel
theorem dX6_rowsThere_19 : decode cX6_rowsThere 19 = .ok (.ifCond .eq 6, 3) := by decide +kernel
theorem dX6_rowsThere_22 : decode cX6_rowsThere 22 = .ok (.iinc 1 1, 3) := by decide +kernel
theorem dX6_rowsThere_25 : decode cX6_rowsThere 25 = .ok (.iinc 2 1, 3) := by decide +kernel
theorem dX6_rowsThere_28 : decode cX6_rowsThere 28 = .ok (.goto (-24), 3) := by decide +kernel
theorem dX6_rowsThere_31 : decode cX6_rowsThere 31 = .ok (.iload_n 1, 1) := by decide +kernel
theorem dX6_rowsThere_32 : decode cX6_rowsThere 32 = .ok (.ireturn, 1) := by decide +kernel
theorem dX6_findingOf_0 : decode cX6_findingOf 0 = .ok (.aload_n 0, 1) := by decide +kernel
theorem dX6_findingOf_1 : decode cX6_findingOf 1 = .ok (.getfield 88, 3) := by decide +kernel
theorem dX6_findingOf_4 : decode cX6_findingOf 4 = .ok (.ifCond .ne 5, 3) := by decide +kernel
theorem dX6_findingOf_7 : decode cX6_findingOf 7 = .ok (.iconst 1, 1) := by decide +kernel
theorem dX6_findingOf_8 : decode cX6_findingOf 8 = .ok (.ireturn, 1) := by decide +kernel
theorem dX6_findingOf_9 : decode cX6_findingOf 9 = .ok (.aload_n 0, 1) := by decide +kernel
theorem dX6_findingOf_10 : decode cX6_findingOf 10 = .ok (.iload_n 1, 1) := by decide +kernel
theorem dX6_findingOf_11 : decode cX6_findingOf 11 = .ok (.iload_n 2, 1) := by decide +kernel
theorem dX6_findingOf_12 : decode cX6_findingOf 12 = .ok (.invokevirtual 96, 3) := by decide +kernel
theorem dX6_findingOf_15 : decode cX6_findingOf 15 = .ok (.ifCond .eq 7, 3) := by decide +kernel
theorem dX6_findingOf_18 : decode cX6_findingOf 18 = .ok (.iconst 0, 1) := by decide +kernel
theorem dX6_findingOf_19 : decode cX6_findingOf 19 = .ok (.goto 4, 3) := by decide +kernel
theorem dX6_findingOf_22 : decode cX6_findingOf 22 = .ok (.iconst 2, 1) := by decide +kernel
theorem dX6_findingOf_23 : decode cX6_findingOf 23 = .ok (.ireturn, 1) := by decide +kernel
theorem dX6_found_0 : decode cX6_found 0 = .ok (.aload_n 0, 1) := by decide +kernel
theorem dX6_found_1 : decode cX6_found 1 = .ok (.iload_n 1, 1) := by decide +kernel
theorem dX6_found_2 : decode cX6_found 2 = .ok (.putfield 282, 3) := by decide +kernel
theorem dX6_found_5 : decode cX6_found 5 = .ok (.ldc_w 288, 3) := by decide +kernel
theorem dX6_found_8 : decode cX6_found 8 = .ok (.iload_n 1, 1) := by decide +kernel
theorem dX6_found_9 : decode cX6_found 9 = .ok (.isub, 1) := by decide +kernel
theorem dX6_found_10 : decode cX6_found 10 = .ok (.ireturn, 1) := by decide +kernel
theorem dX6_unfound_0 : decode cX6_unfound 0 = .ok (.aload_n 0, 1) := by decide +kernel
theorem dX6_unfound_1 : decode cX6_unfound 1 = .ok (.iconst 0, 1) := by decide +kernel
theorem dX6_unfound_2 : decode cX6_unfound 2 = .ok (.putfield 282, 3) := by decide +kernel
theorem dX6_unfound_5 : decode cX6_unfound 5 = .ok (.iload_n 1, 1) := by decide +kernel
theorem dX6_unfound_6 : decode cX6_unfound 6 = .ok (.ireturn, 1) := by decide +kernel
theorem dX7_init_0 : decode cX7_init 0 = .ok (.aload_n 0, 1) := by decide +kernel
theorem dX7_init_1 : decode cX7_init 1 = .ok (.invokespecial 1, 3) := by decide +kernel
theorem dX7_init_4 : decode cX7_init 4 = .ok (.aload_n 0, 1) := by decide +kernel
theorem dX7_init_5 : decode cX7_init 5 = .ok (.sipush 1247, 3) := by decide +kernel
theorem dX7_init_8 : decode cX7_init 8 = .ok (.newarray .int, 2) := by decide +kernel
theorem dX7_init_10 : decode cX7_init 10 = .ok (.putfield 7, 3) := by decide +kernel
theorem dX7_init_13 : decode cX7_init 13 = .ok (.aload_n 0, 1) := by decide +kernel
theorem dX7_init_14 : decode cX7_init 14 = .ok (.bipush 100, 2) := by decide +kernel
theorem dX7_init_16 : decode cX7_init 16 = .ok (.newarray .int, 2) := by decide +kernel
theorem dX7_init_18 : decode cX7_init 18 = .ok (.putfield 13, 3) := by decide +kernel
theorem dX7_init_21 : decode cX7_init 21 = .ok (.aload_n 0, 1) := by decide +kernel
theorem dX7_init_22 : decode cX7_init 22 = .ok (.bipush 8, 2) := by decide +kernel
theorem dX7_init_24 : decode cX7_init 24 = .ok (.newarray .int, 2) := by decide +kernel
theorem dX7_init_26 : decode cX7_init 26 = .ok (.putfield 16, 3) := by decide +kernel
theorem dX7_init_29 : decode cX7_init 29 = .ok (.aload_n 0, 1) := by decide +kernel
theorem dX7_init_30 : decode cX7_init 30 = .ok (.bipush 8, 2) := by decide +kernel
theorem dX7_init_32 : decode cX7_init 32 = .ok (.newarray .int, 2) := by decide +kernel
theorem dX7_init_34 : decode cX7_init 34 = .ok (.putfield 19, 3) := by decide +kernel
theorem dX7_init_37 : decode cX7_init 37 = .ok (.aload_n 0, 1) := by decide +kernel
theorem dX7_init_38 : decode cX7_init 38 = .ok (.sipush 320, 3) := by decide +kernel
theorem dX7_init_41 : decode cX7_init 41 = .ok (.newarray .int, 2) := by decide +kernel
theorem dX7_init_43 : decode cX7_init 43 = .ok (.putfield 22, 3) := by decide +kernel
theorem dX7_init_46 : decode cX7_init 46 = .ok (.aload_n 0, 1) := by decide +kernel
theorem dX7_init_47 : decode cX7_init 47 = .ok (.bipush 40, 2) := by decide +kernel
theorem dX7_init_49 : decode cX7_init 49 = .ok (.newarray .int, 2) := by decide +kernel
theorem dX7_init_51 : decode cX7_init 51 = .ok (.putfield 25, 3) := by decide +kernel
theorem dX7_init_54 : decode cX7_init 54 = .ok (.aload_n 0, 1) := by decide +kernel
theorem dX7_init_55 : decode cX7_init 55 = .ok (.bipush 30, 2) := by decide +kernel
theorem dX7_init_57 : decode cX7_init 57 = .ok (.newarray .int, 2) := by decide +kernel
theorem dX7_init_59 : decode cX7_init 59 = .ok (.putfield 28, 3) := by decide +kernel
theorem dX7_init_62 : decode cX7_init 62 = .ok (.aload_n 0, 1) := by decide +kernel
theorem dX7_init_63 : decode cX7_init 63 = .ok (.bipush 12, 2) := by decide +kernel
theorem dX7_init_65 : decode cX7_init 65 = .ok (.newarray .int, 2) := by decide +kernel
theorem dX7_init_67 : decode cX7_init 67 = .ok (.putfield 31, 3) := by decide +kernel
theorem dX7_init_70 : decode cX7_init 70 = .ok (.aload_n 0, 1) := by decide +kernel
theorem dX7_init_71 : decode cX7_init 71 = .ok (.iconst 2, 1) := by decide +kernel
theorem dX7_init_72 : decode cX7_init 72 = .ok (.newarray .boolean, 2) := by decide +kernel
theorem dX7_init_74 : decode cX7_init 74 = .ok (.putfield 34, 3) := by decide +kernel
theorem dX7_init_77 : decode cX7_init 77 = .ok (.aload_n 0, 1) := by decide +kernel
theorem dX7_init_78 : decode cX7_init 78 = .ok (.bipush 16, 2) := by decide +kernel
theorem dX7_init_80 : decode cX7_init 80 = .ok (.newarray .int, 2) := by decide +kernel
theorem dX7_init_82 : decode cX7_init 82 = .ok (.putfield 38, 3) := by decide +kernel
theorem dX7_init_85 : decode cX7_init 85 = .ok (.iconst 0, 1) := by decide +kernel
theorem dX7_init_86 : decode cX7_init 86 = .ok (.istore_n 1, 1) := by decide +kernel
theorem dX7_init_87 : decode cX7_init 87 = .ok (.iload_n 1, 1) := by decide +kernel
theorem dX7_init_88 : decode cX7_init 88 = .ok (.bipush 8, 2) := by decide +kernel
theorem dX7_init_90 : decode cX7_init 90 = .ok (.if_icmp .ge 16, 3) := by decide +kernel
theorem dX7_init_93 : decode cX7_init 93 = .ok (.aload_n 0, 1) := by decide +kernel
theorem dX7_init_94 : decode cX7_init 94 = .ok (.getfield 16, 3) := by decide +kernel
theorem dX7_init_97 : decode cX7_init 97 = .ok (.iload_n 1, 1) := by decide +kernel
theorem dX7_init_98 : decode cX7_init 98 = .ok (.iconst (-1), 1) := by decide +kernel
theorem dX7_init_99 : decode cX7_init 99 = .ok (.iastore, 1) := by decide +kernel
theorem dX7_init_100 : decode cX7_init 100 = .ok (.iinc 1 1, 3) := by decide +kernel
theorem dX7_init_103 : decode cX7_init 103 = .ok (.goto (-16), 3) := by decide +kernel
theorem dX7_init_106 : decode cX7_init 106 = .ok (.return_, 1) := by decide +kernel
theorem dX7_in_0 : decode cX7_in 0 = .ok (.lload_n 0, 1) := by decide +kernel
theorem dX7_in_1 : decode cX7_in 1 = .ok (.lload_n 2, 1) := by decide +kernel
theorem dX7_in_2 : decode cX7_in 2 = .ok (.lcmp, 1) := by decide +kernel
theorem dX7_in_3 : decode cX7_in 3 = .ok (.ifCond .lt 14, 3) := by decide +kernel
theorem dX7_in_6 : decode cX7_in 6 = .ok (.lload_n 0, 1) := by decide +kernel
theorem dX7_in_7 : decode cX7_in 7 = .ok (.lload 4, 2) := by decide +kernel
theorem dX7_in_9 : decode cX7_in 9 = .ok (.lcmp, 1) := by decide +kernel
theorem dX7_in_10 : decode cX7_in 10 = .ok (.ifCond .gt 7, 3) := by decide +kernel
theorem dX7_in_13 : decode cX7_in 13 = .ok (.iconst 1, 1) := by decide +kernel
theorem dX7_in_14 : decode cX7_in 14 = .ok (.goto 4, 3) := by decide +kernel
theorem dX7_in_17 : decode cX7_in 17 = .ok (.iconst 0, 1) := by decide +kernel
theorem dX7_in_18 : decode cX7_in 18 = .ok (.ireturn, 1) := by decide +kernel
theorem dX7_has_0 : decode cX7_has 0 = .ok (.iload_n 0, 1) := by decide +kernel
theorem dX7_has_1 : decode cX7_has 1 = .ok (.iload_n 1, 1) := by decide +kernel
theorem dX7_has_2 : decode cX7_has 2 = .ok (.ishr, 1) := by decide +kernel
theorem dX7_has_3 : decode cX7_has 3 = .ok (.iconst 1, 1) := by decide +kernel
theorem dX7_has_4 : decode cX7_has 4 = .ok (.iand, 1) := by decide +kernel
theorem dX7_has_5 : decode cX7_has 5 = .ok (.iconst 1, 1) := by decide +kernel
theorem dX7_has_6 : decode cX7_has 6 = .ok (.if_icmp .ne 7, 3) := by decide +kernel
theorem dX7_has_9 : decode cX7_has 9 = .ok (.iconst 1, 1) := by decide +kernel
theorem dX7_has_10 : decode cX7_has 10 = .ok (.goto 4, 3) := by decide +kernel
theorem dX7_has_13 : decode cX7_has 13 = .ok (.iconst 0, 1) := by decide +kernel
theorem dX7_has_14 : decode cX7_has 14 = .ok (.ireturn, 1) := by decide +kernel
theorem dX7_copyOf_0 : decode cX7_copyOf 0 = .ok (.iconst 0, 1) := by decide +kernel
theorem dX7_copyOf_1 : decode cX7_copyOf 1 = .ok (.istore_n 3, 1) := by decide +kernel
theorem dX7_copyOf_2 : decode cX7_copyOf 2 = .ok (.iload_n 3, 1) := by decide +kernel
theorem dX7_copyOf_3 : decode cX7_copyOf 3 = .ok (.bipush 43, 2) := by decide +kernel
theorem dX7_copyOf_5 : decode cX7_copyOf 5 = .ok (.if_icmp .ge 25, 3) := by decide +kernel
theorem dX7_copyOf_8 : decode cX7_copyOf 8 = .ok (.aload_n 0, 1) := by decide +kernel
theorem dX7_copyOf_9 : decode cX7_copyOf 9 = .ok (.getfield 7, 3) := by decide +kernel
theorem dX7_copyOf_12 : decode cX7_copyOf 12 = .ok (.iload_n 2, 1) := by decide +kernel
theorem dX7_copyOf_13 : decode cX7_copyOf 13 = .ok (.iload_n 3, 1) := by decide +kernel
theorem dX7_copyOf_14 : decode cX7_copyOf 14 = .ok (.iadd, 1) := by decide +kernel
theorem dX7_copyOf_15 : decode cX7_copyOf 15 = .ok (.aload_n 0, 1) := by decide +kernel
theorem dX7_copyOf_16 : decode cX7_copyOf 16 = .ok (.getfield 7, 3) := by decide +kernel
theorem dX7_copyOf_19 : decode cX7_copyOf 19 = .ok (.iload_n 1, 1) := by decide +kernel
theorem dX7_copyOf_20 : decode cX7_copyOf 20 = .ok (.iload_n 3, 1) := by decide +kernel
theorem dX7_copyOf_21 : decode cX7_copyOf 21 = .ok (.iadd, 1) := by decide +kernel
theorem dX7_copyOf_22 : decode cX7_copyOf 22 = .ok (.iaload, 1) := by decide +kernel
theorem dX7_copyOf_23 : decode cX7_copyOf 23 = .ok (.iastore, 1) := by decide +kernel
theorem dX7_copyOf_24 : decode cX7_copyOf 24 = .ok (.iinc 3 1, 3) := by decide +kernel
theorem dX7_copyOf_27 : decode cX7_copyOf 27 = .ok (.goto (-25), 3) := by decide +kernel
theorem dX7_copyOf_30 : decode cX7_copyOf 30 = .ok (.return_, 1) := by decide +kernel
theorem dX7_isTooth_0 : decode cX7_isTooth 0 = .ok (.iload_n 1, 1) := by decide +kernel
theorem dX7_isTooth_1 : decode cX7_isTooth 1 = .ok (.i2l, 1) := by decide +kernel
theorem dX7_isTooth_2 : decode cX7_isTooth 2 = .ok (.lconst 0, 1) := by decide +kernel
theorem dX7_isTooth_3 : decode cX7_isTooth 3 = .ok (.aload_n 0, 1) := by decide +kernel
theorem dX7_isTooth_4 : decode cX7_isTooth 4 = .ok (.getfield 7, 3) := by decide +kernel
theorem dX7_isTooth_7 : decode cX7_isTooth 7 = .ok (.iconst 0, 1) := by decide +kernel
theorem dX7_isTooth_8 : decode cX7_isTooth 8 = .ok (.iaload, 1) := by decide +kernel
theorem dX7_isTooth_9 : decode cX7_isTooth 9 = .ok (.iconst 1, 1) := by decide +kernel
theorem dX7_isTooth_10 : decode cX7_isTooth 10 = .ok (.isub, 1) := by decide +kernel
theorem dX7_isTooth_11 : decode cX7_isTooth 11 = .ok (.i2l, 1) := by decide +kernel
theorem dX7_isTooth_12 : decode cX7_isTooth 12 = .ok (.invokestatic 41, 3) := by decide +kernel
theorem dX7_isTooth_15 : decode cX7_isTooth 15 = .ok (.ireturn, 1) := by decide +kernel
theorem dX7_isColumn_0 : decode cX7_isColumn 0 = .ok (.iload_n 1, 1) := by decide +kernel
theorem dX7_isColumn_1 : decode cX7_isColumn 1 = .ok (.i2l, 1) := by decide +kernel
theorem dX7_isColumn_2 : decode cX7_isColumn 2 = .ok (.lconst 0, 1) := by decide +kernel
theorem dX7_isColumn_3 : decode cX7_isColumn 3 = .ok (.aload_n 0, 1) := by decide +kernel
theorem dX7_isColumn_4 : decode cX7_isColumn 4 = .ok (.getfield 7, 3) := by decide +kernel
theorem dX7_isColumn_7 : decode cX7_isColumn 7 = .ok (.iconst 1, 1) := by decide +kernel
theorem dX7_isColumn_8 : decode cX7_isColumn 8 = .ok (.iaload, 1) := by decide +kernel
theorem dX7_isColumn_9 : decode cX7_isColumn 9 = .ok (.iconst 1, 1) := by decide +kernel
theorem dX7_isColumn_10 : decode cX7_isColumn 10 = .ok (.isub, 1) := by decide +kernel
theorem dX7_isColumn_11 : decode cX7_isColumn 11 = .ok (.i2l, 1) := by decide +kernel
theorem dX7_isColumn_12 : decode cX7_isColumn 12 = .ok (.invokestatic 41, 3) := by decide +kernel
theorem dX7_isColumn_15 : decode cX7_isColumn 15 = .ok (.ireturn, 1) := by decide +kernel
theorem dX7_isBox_0 : decode cX7_isBox 0 = .ok (.aload_n 0, 1) := by decide +kernel
theorem dX7_isBox_1 : decode cX7_isBox 1 = .ok (.getfield 7, 3) := by decide +kernel
theorem dX7_isBox_4 : decode cX7_isBox 4 = .ok (.iconst 0, 1) := by decide +kernel
theorem dX7_isBox_5 : decode cX7_isBox 5 = .ok (.iaload, 1) := by decide +kernel
theorem dX7_isBox_6 : decode cX7_isBox 6 = .ok (.ifCond .le 7, 3) := by decide +kernel
theorem dX7_isBox_9 : decode cX7_isBox 9 = .ok (.iconst 1, 1) := by decide +kernel
theorem dX7_isBox_10 : decode cX7_isBox 10 = .ok (.goto 4, 3) := by decide +kernel
theorem dX7_isBox_13 : decode cX7_isBox 13 = .ok (.iconst 0, 1) := by decide +kernel
theorem dX7_isBox_14 : decode cX7_isBox 14 = .ok (.ireturn, 1) := by decide +kernel
theorem dX7_isRow_0 : decode cX7_isRow 0 = .ok (.iload_n 0, 1) := by decide +kernel
theorem dX7_isRow_1 : decode cX7_isRow 1 = .ok (.i2l, 1) := by decide +kernel
theorem dX7_isRow_2 : decode cX7_isRow 2 = .ok (.lconst 0, 1) := by decide +kernel
theorem dX7_isRow_3 : decode cX7_isRow 3 = .ok (.ldc2_w 45, 3) := by decide +kernel
theorem dX7_isRow_6 : decode cX7_isRow 6 = .ok (.invokestatic 41, 3) := by decide +kernel
theorem dX7_isRow_9 : decode cX7_isRow 9 = .ok (.ireturn, 1) := by decide +kernel
theorem dX7_finds_0 : decode cX7_finds 0 = .ok (.aload_n 0, 1) := by decide +kernel
theorem dX7_finds_1 : decode cX7_finds 1 = .ok (.iload_n 1, 1) := by decide +kernel
theorem dX7_finds_2 : decode cX7_finds 2 = .ok (.putfield 47, 3) := by decide +kernel
theorem dX7_finds_5 : decode cX7_finds 5 = .ok (.ldc 51, 2) := by decide +kernel
theorem dX7_finds_7 : decode cX7_finds 7 = .ok (.iload_n 1, 1) := by decide +kernel
theorem dX7_finds_8 : decode cX7_finds 8 = .ok (.isub, 1) := by decide +kernel
theorem dX7_finds_9 : decode cX7_finds 9 = .ok (.ireturn, 1) := by decide +kernel
theorem dX7_against_0 : decode cX7_against 0 = .ok (.aload_n 0, 1) := by decide +kernel
theorem dX7_against_1 : decode cX7_against 1 = .ok (.getfield 16, 3) := by decide +kernel
theorem dX7_against_4 : decode cX7_against 4 = .ok (.iload_n 1, 1) := by decide +kernel
theorem dX7_against_5 : decode cX7_against 5 = .ok (.iaload, 1) := by decide +kernel
theorem dX7_against_6 : decode cX7_against 6 = .ok (.ifCond .ge 7, 3) := by decide +kernel
theorem dX7_against_9 : decode cX7_against 9 = .ok (.iconst 1, 1) := by decide +kernel
theorem dX7_against_10 : decode cX7_against 10 = .ok (.goto 32, 3) := by decide +kernel
theorem dX7_against_13 : decode cX7_against 13 = .ok (.iload_n 2, 1) := by decide +kernel
theorem dX7_against_14 : decode cX7_against 14 = .ok (.ifCond .lt 23, 3) := by decide +kernel
theorem dX7_against_17 : decode cX7_against 17 = .ok (.iload_n 3, 1) := by decide +kernel
theorem dX7_against_18 : decode cX7_against 18 = .ok (.ifCond .lt 19, 3) := by decide +kernel
theorem dX7_against_21 : decode cX7_against 21 = .ok (.iload_n 2, 1) := by decide +kernel
theorem dX7_against_22 : decode cX7_against 22 = .ok (.i2l, 1) := by decide +kernel
theorem dX7_against_23 : decode cX7_against 23 = .ok (.iload_n 3, 1) := by decide +kernel
theorem dX7_against_24 : decode cX7_against 24 = .ok (.i2l, 1) := by decide +kernel
theorem dX7_against_25 : decode cX7_against 25 = .ok (.ladd, 1) := by decide +kernel
theorem dX7_against_26 : decode cX7_against 26 = .ok (.aload_n 0, 1) := by decide +kernel
theorem dX7_against_27 : decode cX7_against 27 = .ok (.getfield 16, 3) := by decide +kernel
theorem dX7_against_30 : decode cX7_against 30 = .ok (.iload_n 1, 1) := by decide +kernel
theorem dX7_against_31 : decode cX7_against 31 = .ok (.iaload, 1) := by decide +kernel
theorem dX7_against_32 : decode cX7_against 32 = .ok (.i2l, 1) := by decide +kernel
theorem dX7_against_33 : decode cX7_against 33 = .ok (.lcmp, 1) := by decide +kernel
theorem dX7_against_34 : decode cX7_against 34 = .ok (.ifCond .le 7, 3) := by decide +kernel
theorem dX7_against_37 : decode cX7_against 37 = .ok (.iconst 2, 1) := by decide +kernel
theorem dX7_against_38 : decode cX7_against 38 = .ok (.goto 4, 3) := by decide +kernel
theorem dX7_against_41 : decode cX7_against 41 = .ok (.iconst 0, 1) := by decide +kernel
theorem dX7_against_42 : decode cX7_against 42 = .ok (.ireturn, 1) := by decide +kernel
theorem dX7_row_0 : decode cX7_row 0 = .ok (.iload_n 1, 1) := by decide +kernel
theorem dX7_row_1 : decode cX7_row 1 = .ok (.invokestatic 52, 3) := by decide +kernel
theorem dX7_row_4 : decode cX7_row 4 = .ok (.ifCond .eq 21, 3) := by decide +kernel
theorem dX7_row_7 : decode cX7_row 7 = .ok (.iload_n 2, 1) := by decide +kernel
theorem dX7_row_8 : decode cX7_row 8 = .ok (.i2l, 1) := by decide +kernel
theorem dX7_row_9 : decode cX7_row 9 = .ok (.lconst 0, 1) := by decide +kernel
theorem dX7_row_10 : decode cX7_row 10 = .ok (.ldc2_w 56, 3) := by decide +kernel
theorem dX7_row_13 : decode cX7_row 13 = .ok (.invokestatic 41, 3) := by decide +kernel
theorem dX7_row_16 : decode cX7_row 16 = .ok (.ifCond .eq 9, 3) := by decide +kernel
theorem dX7_row_19 : decode cX7_row 19 = .ok (.iload_n 3, 1) := by decide +kernel
theorem dX7_row_20 : decode cX7_row 20 = .ok (.bipush 40, 2) := by decide +kernel
theorem dX7_row_22 : decode cX7_row 22 = .ok (.if_icmp .le 6, 3) := by decide +kernel
theorem dX7_row_25 : decode cX7_row 25 = .ok (.ldc 58, 2) := by decide +kernel
theorem dX7_row_27 : decode cX7_row 27 = .ok (.ireturn, 1) := by decide +kernel
theorem dX7_row_28 : decode cX7_row 28 = .ok (.iload_n 3, 1) := by decide +kernel
theorem dX7_row_29 : decode cX7_row 29 = .ok (.ifCond .ge 9, 3) := by decide +kernel
theorem dX7_row_32 : decode cX7_row 32 = .ok (.aload_n 0, 1) := by decide +kernel
theorem dX7_row_33 : decode cX7_row 33 = .ok (.iconst 4, 1) := by decide +kernel
theorem dX7_row_34 : decode cX7_row 34 = .ok (.invokevirtual 59, 3) := by decide +kernel
theorem dX7_row_37 : decode cX7_row 37 = .ok (.ireturn, 1) := by decide +kernel
theorem dX7_row_38 : decode cX7_row 38 = .ok (.aload_n 0, 1) := by decide +kernel
theorem dX7_row_39 : decode cX7_row 39 = .ok (.iconst 0, 1) := by decide +kernel
theorem dX7_row_40 : decode cX7_row 40 = .ok (.putfield 47, 3) := by decide +kernel
theorem dX7_row_43 : decode cX7_row 43 = .ok (.aload_n 0, 1) := by decide +kernel
theorem dX7_row_44 : decode cX7_row 44 = .ok (.getfield 16, 3) := by decide +kernel
theorem dX7_row_47 : decode cX7_row 47 = .ok (.iload_n 1, 1) := by decide +kernel
theorem dX7_row_48 : decode cX7_row 48 = .ok (.iload_n 3, 1) := by decide +kernel
theorem dX7_row_49 : decode cX7_row 49 = .ok (.iastore, 1) := by decide +kernel
theorem dX7_row_50 : decode cX7_row 50 = .ok (.aload_n 0, 1) := by decide +kernel
theorem dX7_row_51 : decode cX7_row 51 = .ok (.getfield 19, 3) := by decide +kernel
theorem dX7_row_54 : decode cX7_row 54 = .ok (.iload_n 1, 1) := by decide +kernel
theorem dX7_row_55 : decode cX7_row 55 = .ok (.iload_n 2, 1) := by decide +kernel
theorem dX7_row_56 : decode cX7_row 56 = .ok (.iastore, 1) := by decide +kernel
theorem dX7_row_57 : decode cX7_row 57 = .ok (.iconst 0, 1) := by decide +kernel
theorem dX7_row_58 : decode cX7_row 58 = .ok (.istore 4, 2) := by decide +kernel
theorem dX7_row_60 : decode cX7_row 60 = .ok (.iload 4, 2) := by decide +kernel
theorem dX7_row_62 : decode cX7_row 62 = .ok (.bipush 40, 2) := by decide +kernel
theorem dX7_row_64 : decode cX7_row 64 = .ok (.if_icmp .ge 22, 3) := by decide +kernel
theorem dX7_row_67 : decode cX7_row 67 = .ok (.aload_n 0, 1) := by decide +kernel
theorem dX7_row_68 : decode cX7_row 68 = .ok (.getfield 22, 3) := by decide +kernel
theorem dX7_row_71 : decode cX7_row 71 = .ok (.bipush 40, 2) := by decide +kernel
theorem dX7_row_73 : decode cX7_row 73 = .ok (.iload_n 1, 1) := by decide +kernel
theorem dX7_row_74 : decode cX7_row 74 = .ok (.imul, 1) := by decide +kernel
theorem dX7_row_75 : decode cX7_row 75 = .ok (.iload 4, 2) := by decide +kernel
theorem dX7_row_77 : decode cX7_row 77 = .ok (.iadd, 1) := by decide +kernel
theorem dX7_row_78 : decode cX7_row 78 = .ok (.iconst 0, 1) := by decide +kernel
theorem dX7_row_79 : decode cX7_row 79 = .ok (.iastore, 1) := by decide +kernel
theorem dX7_row_80 : decode cX7_row 80 = .ok (.iinc 4 1, 3) := by decide +kernel
theorem dX7_row_83 : decode cX7_row 83 = .ok (.goto (-23), 3) := by decide +kernel
theorem dX7_row_86 : decode cX7_row 86 = .ok (.iload_n 3, 1) := by decide +kernel
theorem dX7_row_87 : decode cX7_row 87 = .ok (.ireturn, 1) := by decide +kernel
theorem dX7_set_0 : decode cX7_set 0 = .ok (.iload_n 1, 1) := by decide +kernel
theorem dX7_set_1 : decode cX7_set 1 = .ok (.invokestatic 52, 3) := by decide +kernel
theorem dX7_set_4 : decode cX7_set 4 = .ok (.ifCond .ne 6, 3) := by decide +kernel
theorem dX7_set_7 : decode cX7_set 7 = .ok (.ldc 58, 2) := by decide +kernel
theorem dX7_set_9 : decode cX7_set 9 = .ok (.ireturn, 1) := by decide +kernel
theorem dX7_set_10 : decode cX7_set 10 = .ok (.aload_n 0, 1) := by decide +kernel
theorem dX7_set_11 : decode cX7_set 11 = .ok (.iload_n 1, 1) := by decide +kernel
theorem dX7_set_12 : decode cX7_set 12 = .ok (.iload_n 2, 1) := by decide +kernel
theorem dX7_set_13 : decode cX7_set 13 = .ok (.iconst 1, 1) := by decide +kernel
theorem dX7_set_14 : decode cX7_set 14 = .ok (.invokevirtual 63, 3) := by decide +kernel
theorem dX7_set_17 : decode cX7_set 17 = .ok (.istore 4, 2) := by decide +kernel
theorem dX7_set_19 : decode cX7_set 19 = .ok (.iload 4, 2) := by decide +kernel
theorem dX7_set_21 : decode cX7_set 21 = .ok (.ifCond .le 10, 3) := by decide +kernel
theorem dX7_set_24 : decode cX7_set 24 = .ok (.aload_n 0, 1) := by decide +kernel
theorem dX7_set_25 : decode cX7_set 25 = .ok (.iload 4, 2) := by decide +kernel
theorem dX7_set_27 : decode cX7_set 27 = .ok (.invokevirtual 59, 3) := by decide +kernel
theorem dX7_set_30 : decode cX7_set 30 = .ok (.ireturn, 1) := by decide +kernel
theorem dX7_set_31 : decode cX7_set 31 = .ok (.aload_n 0, 1) := by decide +kernel
theorem dX7_set_32 : decode cX7_set 32 = .ok (.iconst 0, 1) := by decide +kernel
theorem dX7_set_33 : decode cX7_set 33 = .ok (.putfield 47, 3) := by decide +kernel
theorem dX7_set_36 : decode cX7_set 36 = .ok (.aload_n 0, 1) := by decide +kernel
theorem dX7_set_37 : decode cX7_set 37 = .ok (.getfield 22, 3) := by decide +kernel
theorem dX7_set_40 : decode cX7_set 40 = .ok (.bipush 40, 2) := by decide +kernel
theorem dX7_set_42 : decode cX7_set 42 = .ok (.iload_n 1, 1) := by decide +kernel
theorem dX7_set_43 : decode cX7_set 43 = .ok (.imul, 1) := by decide +kernel
theorem dX7_set_44 : decode cX7_set 44 = .ok (.iload_n 2, 1) := by decide +kernel
theorem dX7_set_45 : decode cX7_set 45 = .ok (.iadd, 1) := by decide +kernel
theorem dX7_set_46 : decode cX7_set 46 = .ok (.aload_n 0, 1) := by decide +kernel
theorem dX7_set_47 : decode cX7_set 47 = .ok (.getfield 19, 3) := by decide +kernel
theorem dX7_set_50 : decode cX7_set 50 = .ok (.iload_n 1, 1) := by decide +kernel
theorem dX7_set_51 : decode cX7_set 51 = .ok (.iaload, 1) := by decide +kernel
theorem dX7_set_52 : decode cX7_set 52 = .ok (.ifCond .ne 8, 3) := by decide +kernel
theorem dX7_set_55 : decode cX7_set 55 = .ok (.iload_n 3, 1) := by decide +kernel
theorem dX7_set_56 : decode cX7_set 56 = .ok (.i2b, 1) := by decide +kernel
theorem dX7_set_57 : decode cX7_set 57 = .ok (.goto 19, 3) := by decide +kernel
theorem dX7_set_60 : decode cX7_set 60 = .ok (.aload_n 0, 1) := by decide +kernel
theorem dX7_set_61 : decode cX7_set 61 = .ok (.getfield 19, 3) := by decide +kernel
theorem dX7_set_64 : decode cX7_set 64 = .ok (.iload_n 1, 1) := by decide +kernel
theorem dX7_set_65 : decode cX7_set 65 = .ok (.iaload, 1) := by decide +kernel
theorem dX7_set_66 : decode cX7_set 66 = .ok (.iconst 1, 1) := by decide +kernel
theorem dX7_set_67 : decode cX7_set 67 = .ok (.if_icmp .ne 8, 3) := by decide +kernel
theorem dX7_set_70 : decode cX7_set 70 = .ok (.iload_n 3, 1) := by decide +kernel
theorem dX7_set_71 : decode cX7_set 71 = .ok (.i2s, 1) := by decide +kernel
theorem dX7_set_72 : decode cX7_set 72 = .ok (.goto 4, 3) := by decide +kernel
theorem dX7_set_75 : decode cX7_set 75 = .ok (.iload_n 3, 1) := by decide +kernel
theorem dX7_set_76 : decode cX7_set 76 = .ok (.iastore, 1) := by decide +kernel
theorem dX7_set_77 : decode cX7_set 77 = .ok (.aload_n 0, 1) := by decide +kernel
theorem dX7_set_78 : decode cX7_set 78 = .ok (.getfield 22, 3) := by decide +kernel
theorem dX7_set_81 : decode cX7_set 81 = .ok (.bipush 40, 2) := by decide +kernel
theorem dX7_set_83 : decode cX7_set 83 = .ok (.iload_n 1, 1) := by decide +kernel
theorem dX7_set_84 : decode cX7_set 84 = .ok (.imul, 1) := by decide +kernel
theorem dX7_set_85 : decode cX7_set 85 = .ok (.iload_n 2, 1) := by decide +kernel
theorem dX7_set_86 : decode cX7_set 86 = .ok (.iadd, 1) := by decide +kernel
theorem dX7_set_87 : decode cX7_set 87 = .ok (.iaload, 1) := by decide +kernel
theorem dX7_set_88 : decode cX7_set 88 = .ok (.ireturn, 1) := by decide +kernel
theorem dX7_copy_0 : decode cX7_copy 0 = .ok (.iload_n 1, 1) := by decide +kernel
theorem dX7_copy_1 : decode cX7_copy 1 = .ok (.invokestatic 52, 3) := by decide +kernel
theorem dX7_copy_4 : decode cX7_copy 4 = .ok (.ifCond .eq 10, 3) := by decide +kernel
theorem dX7_copy_7 : decode cX7_copy 7 = .ok (.iload_n 3, 1) := by decide +kernel
theorem dX7_copy_8 : decode cX7_copy 8 = .ok (.invokestatic 52, 3) := by decide +kernel
theorem dX7_copy_11 : decode cX7_copy 11 = .ok (.ifCond .ne 6, 3) := by decide +kernel
theorem dX7_copy_14 : decode cX7_copy 14 = .ok (.ldc 58, 2) := by decide +kernel
theorem dX7_copy_16 : decode cX7_copy 16 = .ok (.ireturn, 1) := by decide +kernel
theorem dX7_copy_17 : decode cX7_copy 17 = .ok (.aload_n 0, 1) := by decide +kernel
theorem dX7_copy_18 : decode cX7_copy 18 = .ok (.getfield 16, 3) := by decide +kernel
theorem dX7_copy_21 : decode cX7_copy 21 = .ok (.iload_n 1, 1) := by decide +kernel
theorem dX7_copy_22 : decode cX7_copy 22 = .ok (.iaload, 1) := by decide +kernel
theorem dX7_copy_23 : decode cX7_copy 23 = .ok (.ifCond .lt 12, 3) := by decide +kernel
theorem dX7_copy_26 : decode cX7_copy 26 = .ok (.aload_n 0, 1) := by decide +kernel
theorem dX7_copy_27 : decode cX7_copy 27 = .ok (.getfield 16, 3) := by decide +kernel
theorem dX7_copy_30 : decode cX7_copy 30 = .ok (.iload_n 3, 1) := by decide +kernel
theorem dX7_copy_31 : decode cX7_copy 31 = .ok (.iaload, 1) := by decide +kernel
theorem dX7_copy_32 : decode cX7_copy 32 = .ok (.ifCond .ge 9, 3) := by decide +kernel
theorem dX7_copy_35 : decode cX7_copy 35 = .ok (.aload_n 0, 1) := by decide +kernel
theorem dX7_copy_36 : decode cX7_copy 36 = .ok (.iconst 1, 1) := by decide +kernel
theorem dX7_copy_37 : decode cX7_copy 37 = .ok (.invokevirtual 59, 3) := by decide +kernel
theorem dX7_copy_40 : decode cX7_copy 40 = .ok (.ireturn, 1) := by decide +kernel
theorem dX7_copy_41 : decode cX7_copy 41 = .ok (.aload_n 0, 1) := by decide +kernel
theorem dX7_copy_42 : decode cX7_copy 42 = .ok (.getfield 19, 3) := by decide +kernel
theorem dX7_copy_45 : decode cX7_copy 45 = .ok (.iload_n 1, 1) := by decide +kernel
theorem dX7_copy_46 : decode cX7_copy 46 = .ok (.iaload, 1) := by decide +kernel
theorem dX7_copy_47 : decode cX7_copy 47 = .ok (.aload_n 0, 1) := by decide +kernel
theorem dX7_copy_48 : decode cX7_copy 48 = .ok (.getfield 19, 3) := by decide +kernel
theorem dX7_copy_51 : decode cX7_copy 51 = .ok (.iload_n 3, 1) := by decide +kernel
theorem dX7_copy_52 : decode cX7_copy 52 = .ok (.iaload, 1) := by decide +kernel
theorem dX7_copy_53 : decode cX7_copy 53 = .ok (.if_icmp .eq 9, 3) := by decide +kernel
theorem dX7_copy_56 : decode cX7_copy 56 = .ok (.aload_n 0, 1) := by decide +kernel
theorem dX7_copy_57 : decode cX7_copy 57 = .ok (.iconst 5, 1) := by decide +kernel
theorem dX7_copy_58 : decode cX7_copy 58 = .ok (.invokevirtual 59, 3) := by decide +kernel
theorem dX7_copy_61 : decode cX7_copy 61 = .ok (.ireturn, 1) := by decide +kernel
theorem dX7_copy_62 : decode cX7_copy 62 = .ok (.aload_n 0, 1) := by decide +kernel
theorem dX7_copy_63 : decode cX7_copy 63 = .ok (.iload_n 1, 1) := by decide +kernel
theorem dX7_copy_64 : decode cX7_copy 64 = .ok (.iload_n 2, 1) := by decide +kernel
theorem dX7_copy_65 : decode cX7_copy 65 = .ok (.iload 5, 2) := by decide +kernel
theorem dX7_copy_67 : decode cX7_copy 67 = .ok (.invokevirtual 63, 3) := by decide +kernel
theorem dX7_copy_70 : decode cX7_copy 70 = .ok (.ifCond .gt 15, 3) := by decide +kernel
theorem dX7_copy_73 : decode cX7_copy 73 = .ok (.aload_n 0, 1) := by decide +kernel
theorem dX7_copy_74 : decode cX7_copy 74 = .ok (.iload_n 3, 1) := by decide +kernel
theorem dX7_copy_75 : decode cX7_copy 75 = .ok (.iload 4, 2) := by decide +kernel
theorem dX7_copy_77 : decode cX7_copy 77 = .ok (.iload 5, 2) := by decide +kernel
theorem dX7_copy_79 : decode cX7_copy 79 = .ok (.invokevirtual 63, 3) := by decide +kernel
theorem dX7_copy_82 : decode cX7_copy 82 = .ok (.ifCond .le 9, 3) := by decide +kernel
theorem dX7_copy_85 : decode cX7_copy 85 = .ok (.aload_n 0, 1) := by decide +kernel
theorem dX7_copy_86 : decode cX7_copy 86 = .ok (.iconst 2, 1) := by decide +kernel
theorem dX7_copy_87 : decode cX7_copy 87 = .ok (.invokevirtual 59, 3) := by decide +kernel
theorem dX7_copy_90 : decode cX7_copy 90 = .ok (.ireturn, 1) := by decide +kernel
theorem dX7_copy_91 : decode cX7_copy 91 = .ok (.aload_n 0, 1) := by decide +kernel
theorem dX7_copy_92 : decode cX7_copy 92 = .ok (.iconst 0, 1) := by decide +kernel
theorem dX7_copy_93 : decode cX7_copy 93 = .ok (.putfield 47, 3) := by decide +kernel
theorem dX7_copy_96 : decode cX7_copy 96 = .ok (.iconst 0, 1) := by decide +kernel
theorem dX7_copy_97 : decode cX7_copy 97 = .ok (.istore 6, 2) := by decide +kernel
theorem dX7_copy_99 : decode cX7_copy 99 = .ok (.iload 6, 2) := by decide +kernel
theorem dX7_copy_101 : decode cX7_copy 101 = .ok (.iload 5, 2) := by decide +kernel
theorem dX7_copy_103 : decode cX7_copy 103 = .ok (.if_icmp .ge 30, 3) := by decide +kernel
theorem dX7_copy_106 : decode cX7_copy 106 = .ok (.aload_n 0, 1) := by decide +kernel
theorem dX7_copy_107 : decode cX7_copy 107 = .ok (.getfield 25, 3) := by decide +kernel
theorem dX7_copy_110 : decode cX7_copy 110 = .ok (.iload 6, 2) := by decide +kernel
theorem dX7_copy_112 : decode cX7_copy 112 = .ok (.aload_n 0, 1) := by decide +kernel
theorem dX7_copy_113 : decode cX7_copy 113 = .ok (.getfield 22, 3) := by decide +kernel
theorem dX7_copy_116 : decode cX7_copy 116 = .ok (.bipush 40, 2) := by decide +kernel
theorem dX7_copy_118 : decode cX7_copy 118 = .ok (.iload_n 1, 1) := by decide +kernel
theorem dX7_copy_119 : decode cX7_copy 119 = .ok (.imul, 1) := by decide +kernel
theorem dX7_copy_120 : decode cX7_copy 120 = .ok (.iload_n 2, 1) := by decide +kernel
theorem dX7_copy_121 : decode cX7_copy 121 = .ok (.iadd, 1) := by decide +kernel
theorem dX7_copy_122 : decode cX7_copy 122 = .ok (.iload 6, 2) := by decide +kernel
theorem dX7_copy_124 : decode cX7_copy 124 = .ok (.iadd, 1) := by decide +kernel
theorem dX7_copy_125 : decode cX7_copy 125 = .ok (.iaload, 1) := by decide +kernel
theorem dX7_copy_126 : decode cX7_copy 126 = .ok (.iastore, 1) := by decide +kernel
theorem dX7_copy_127 : decode cX7_copy 127 = .ok (.iinc 6 1, 3) := by decide +kernel
theorem dX7_copy_130 : decode cX7_copy 130 = .ok (.goto (-31), 3) := by decide +kernel
theorem dX7_copy_133 : decode cX7_copy 133 = .ok (.iconst 0, 1) := by decide +kernel
theorem dX7_copy_134 : decode cX7_copy 134 = .ok (.istore 6, 2) := by decide +kernel
theorem dX7_copy_136 : decode cX7_copy 136 = .ok (.iload 6, 2) := by decide +kernel
theorem dX7_copy_138 : decode cX7_copy 138 = .ok (.iload 5, 2) := by decide +kernel
theorem dX7_copy_140 : decode cX7_copy 140 = .ok (.if_icmp .ge 31, 3) := by decide +kernel
theorem dX7_copy_143 : decode cX7_copy 143 = .ok (.aload_n 0, 1) := by decide +kernel
theorem dX7_copy_144 : decode cX7_copy 144 = .ok (.getfield 22, 3) := by decide +kernel
theorem dX7_copy_147 : decode cX7_copy 147 = .ok (.bipush 40, 2) := by decide +kernel
theorem dX7_copy_149 : decode cX7_copy 149 = .ok (.iload_n 3, 1) := by decide +kernel
theorem dX7_copy_150 : decode cX7_copy 150 = .ok (.imul, 1) := by decide +kernel
theorem dX7_copy_151 : decode cX7_copy 151 = .ok (.iload 4, 2) := by decide +kernel
theorem dX7_copy_153 : decode cX7_copy 153 = .ok (.iadd, 1) := by decide +kernel
theorem dX7_copy_154 : decode cX7_copy 154 = .ok (.iload 6, 2) := by decide +kernel
theorem dX7_copy_156 : decode cX7_copy 156 = .ok (.iadd, 1) := by decide +kernel
theorem dX7_copy_157 : decode cX7_copy 157 = .ok (.aload_n 0, 1) := by decide +kernel
theorem dX7_copy_158 : decode cX7_copy 158 = .ok (.getfield 25, 3) := by decide +kernel
theorem dX7_copy_161 : decode cX7_copy 161 = .ok (.iload 6, 2) := by decide +kernel
theorem dX7_copy_163 : decode cX7_copy 163 = .ok (.iaload, 1) := by decide +kernel
theorem dX7_copy_164 : decode cX7_copy 164 = .ok (.iastore, 1) := by decide +kernel
theorem dX7_copy_165 : decode cX7_copy 165 = .ok (.iinc 6 1, 3) := by decide +kernel
theorem dX7_copy_168 : decode cX7_copy 168 = .ok (.goto (-32), 3) := by decide +kernel
theorem dX7_copy_171 : decode cX7_copy 171 = .ok (.iload 5, 2) := by decide +kernel
theorem dX7_copy_173 : decode cX7_copy 173 = .ok (.ireturn, 1) := by decide +kernel
theorem dX7_drop_0 : decode cX7_drop 0 = .ok (.iload_n 1, 1) := by decide +kernel
theorem dX7_drop_1 : decode cX7_drop 1 = .ok (.invokestatic 52, 3) := by decide +kernel
theorem dX7_drop_4 : decode cX7_drop 4 = .ok (.ifCond .ne 6, 3) := by decide +kernel
theorem dX7_drop_7 : decode cX7_drop 7 = .ok (.ldc 58, 2) := by decide +kernel
theorem dX7_drop_9 : decode cX7_drop 9 = .ok (.ireturn, 1) := by decide +kernel
theorem dX7_drop_10 : decode cX7_drop 10 = .ok (.aload_n 0, 1) := by decide +kernel
theorem dX7_drop_11 : decode cX7_drop 11 = .ok (.getfield 16, 3) := by decide +kernel
theorem dX7_drop_14 : decode cX7_drop 14 = .ok (.iload_n 1, 1) := by decide +kernel
theorem dX7_drop_15 : decode cX7_drop 15 = .ok (.iaload, 1) := by decide +kernel
theorem dX7_drop_16 : decode cX7_drop 16 = .ok (.ifCond .ge 9, 3) := by decide +kernel
theorem dX7_drop_19 : decode cX7_drop 19 = .ok (.aload_n 0, 1) := by decide +kernel
theorem dX7_drop_20 : decode cX7_drop 20 = .ok (.iconst 1, 1) := by decide +kernel
theorem dX7_drop_21 : decode cX7_drop 21 = .ok (.invokevirtual 59, 3) := by decide +kernel
theorem dX7_drop_24 : decode cX7_drop 24 = .ok (.ireturn, 1) := by decide +kernel
theorem dX7_drop_25 : decode cX7_drop 25 = .ok (.aload_n 0, 1) := by decide +kernel
theorem dX7_drop_26 : decode cX7_drop 26 = .ok (.iconst 0, 1) := by decide +kernel
theorem dX7_drop_27 : decode cX7_drop 27 = .ok (.putfield 47, 3) := by decide +kernel
theorem dX7_drop_30 : decode cX7_drop 30 = .ok (.aload_n 0, 1) := by decide +kernel
theorem dX7_drop_31 : decode cX7_drop 31 = .ok (.getfield 16, 3) := by decide +kernel
theorem dX7_drop_34 : decode cX7_drop 34 = .ok (.iload_n 1, 1) := by decide +kernel
theorem dX7_drop_35 : decode cX7_drop 35 = .ok (.iaload, 1) := by decide +kernel
theorem dX7_drop_36 : decode cX7_drop 36 = .ok (.istore_n 2, 1) := by decide +kernel
theorem dX7_drop_37 : decode cX7_drop 37 = .ok (.aload_n 0, 1) := by decide +kernel
theorem dX7_drop_38 : decode cX7_drop 38 = .ok (.getfield 16, 3) := by decide +kernel
theorem dX7_drop_41 : decode cX7_drop 41 = .ok (.iload_n 1, 1) := by decide +kernel
theorem dX7_drop_42 : decode cX7_drop 42 = .ok (.iconst (-1), 1) := by decide +kernel
theorem dX7_drop_43 : decode cX7_drop 43 = .ok (.iastore, 1) := by decide +kernel
theorem dX7_drop_44 : decode cX7_drop 44 = .ok (.iload_n 2, 1) := by decide +kernel
theorem dX7_drop_45 : decode cX7_drop 45 = .ok (.ireturn, 1) := by decide +kernel
theorem dX7_feed_0 : decode cX7_feed 0 = .ok (.iload_n 1, 1) := by decide +kernel
theorem dX7_feed_1 : decode cX7_feed 1 = .ok (.i2l, 1) := by decide +kernel
theorem dX7_feed_2 : decode cX7_feed 2 = .ok (.lconst 0, 1) := by decide +kernel
theorem dX7_feed_3 : decode cX7_feed 3 = .ok (.ldc2_w 67, 3) := by decide +kernel
theorem dX7_feed_6 : decode cX7_feed 6 = .ok (.invokestatic 41, 3) := by decide +kernel
theorem dX7_feed_9 : decode cX7_feed 9 = .ok (.ifCond .ne 6, 3) := by decide +kernel
theorem dX7_feed_12 : decode cX7_feed 12 = .ok (.ldc 58, 2) := by decide +kernel
theorem dX7_feed_14 : decode cX7_feed 14 = .ok (.ireturn, 1) := by decide +kernel
theorem dX7_feed_15 : decode cX7_feed 15 = .ok (.aload_n 0, 1) := by decide +kernel
theorem dX7_feed_16 : decode cX7_feed 16 = .ok (.getfield 69, 3) := by decide +kernel
theorem dX7_feed_19 : decode cX7_feed 19 = .ok (.bipush 100, 2) := by decide +kernel
theorem dX7_feed_21 : decode cX7_feed 21 = .ok (.if_icmp .ne 6, 3) := by decide +kernel
theorem dX7_feed_24 : decode cX7_feed 24 = .ok (.ldc 72, 2) := by decide +kernel
theorem dX7_feed_26 : decode cX7_feed 26 = .ok (.ireturn, 1) := by decide +kernel
theorem dX7_feed_27 : decode cX7_feed 27 = .ok (.aload_n 0, 1) := by decide +kernel
theorem dX7_feed_28 : decode cX7_feed 28 = .ok (.getfield 13, 3) := by decide +kernel
theorem dX7_feed_31 : decode cX7_feed 31 = .ok (.aload_n 0, 1) := by decide +kernel
theorem dX7_feed_32 : decode cX7_feed 32 = .ok (.getfield 69, 3) := by decide +kernel
theorem dX7_feed_35 : decode cX7_feed 35 = .ok (.iload_n 1, 1) := by decide +kernel
theorem dX7_feed_36 : decode cX7_feed 36 = .ok (.iastore, 1) := by decide +kernel
theorem dX7_feed_37 : decode cX7_feed 37 = .ok (.aload_n 0, 1) := by decide +kernel
theorem dX7_feed_38 : decode cX7_feed 38 = .ok (.dup, 1) := by decide +kernel
theorem dX7_feed_39 : decode cX7_feed 39 = .ok (.getfield 69, 3) := by decide +kernel
theorem dX7_feed_42 : decode cX7_feed 42 = .ok (.iconst 1, 1) := by decide +kernel
theorem dX7_feed_43 : decode cX7_feed 43 = .ok (.iadd, 1) := by decide +kernel
theorem dX7_feed_44 : decode cX7_feed 44 = .ok (.putfield 69, 3) := by decide +kernel
theorem dX7_feed_47 : decode cX7_feed 47 = .ok (.aload_n 0, 1) := by decide +kernel
theorem dX7_feed_48 : decode cX7_feed 48 = .ok (.getfield 69, 3) := by decide +kernel
theorem dX7_feed_51 : decode cX7_feed 51 = .ok (.ireturn, 1) := by decide +kernel
theorem dX7_here_0 : decode cX7_here 0 = .ok (.aload_n 0, 1) := by decide +kernel
theorem dX7_here_1 : decode cX7_here 1 = .ok (.getfield 73, 3) := by decide +kernel
theorem dX7_here_4 : decode cX7_here 4 = .ok (.aload_n 0, 1) := by decide +kernel
theorem dX7_here_5 : decode cX7_here 5 = .ok (.getfield 69, 3) := by decide +kernel
theorem dX7_here_8 : decode cX7_here 8 = .ok (.if_icmp .ge 15, 3) := by decide +kernel
theorem dX7_here_11 : decode cX7_here 11 = .ok (.aload_n 0, 1) := by decide +kernel
theorem dX7_here_12 : decode cX7_here 12 = .ok (.getfield 13, 3) := by decide +kernel
theorem dX7_here_15 : decode cX7_here 15 = .ok (.aload_n 0, 1) := by decide +kernel
theorem dX7_here_16 : decode cX7_here 16 = .ok (.getfield 73, 3) := by decide +kernel
theorem dX7_here_19 : decode cX7_here 19 = .ok (.iaload, 1) := by decide +kernel
theorem dX7_here_20 : decode cX7_here 20 = .ok (.goto 4, 3) := by decide +kernel
theorem dX7_here_23 : decode cX7_here 23 = .ok (.iconst (-1), 1) := by decide +kernel
theorem dX7_here_24 : decode cX7_here 24 = .ok (.ireturn, 1) := by decide +kernel
theorem dX7_fails_0 : decode cX7_fails 0 = .ok (.aload_n 0, 1) := by decide +kernel
theorem dX7_fails_1 : decode cX7_fails 1 = .ok (.iload_n 1, 1) := by decide +kernel
theorem dX7_fails_2 : decode cX7_fails 2 = .ok (.putfield 76, 3) := by decide +kernel
theorem dX7_fails_5 : decode cX7_fails 5 = .ok (.aload_n 0, 1) := by decide +kernel
theorem dX7_fails_6 : decode cX7_fails 6 = .ok (.iload_n 2, 1) := by decide +kernel
theorem dX7_fails_7 : decode cX7_fails 7 = .ok (.putfield 79, 3) := by decide +kernel
theorem dX7_fails_10 : decode cX7_fails 10 = .ok (.iconst 0, 1) := by decide +kernel
theorem dX7_fails_11 : decode cX7_fails 11 = .ok (.ireturn, 1) := by decide +kernel
theorem dX7_takes_0 : decode cX7_takes 0 = .ok (.aload_n 0, 1) := by decide +kernel
theorem dX7_takes_1 : decode cX7_takes 1 = .ok (.invokevirtual 82, 3) := by decide +kernel
theorem dX7_takes_4 : decode cX7_takes 4 = .ok (.iload_n 1, 1) := by decide +kernel
theorem dX7_takes_5 : decode cX7_takes 5 = .ok (.if_icmp .eq 13, 3) := by decide +kernel
theorem dX7_takes_8 : decode cX7_takes 8 = .ok (.aload_n 0, 1) := by decide +kernel
theorem dX7_takes_9 : decode cX7_takes 9 = .ok (.iconst 1, 1) := by decide +kernel
theorem dX7_takes_10 : decode cX7_takes 10 = .ok (.aload_n 0, 1) := by decide +kernel
theorem dX7_takes_11 : decode cX7_takes 11 = .ok (.getfield 73, 3) := by decide +kernel
theorem dX7_takes_14 : decode cX7_takes 14 = .ok (.invokevirtual 86, 3) := by decide +kernel
theorem dX7_takes_17 : decode cX7_takes 17 = .ok (.ireturn, 1) := by decide +kernel
theorem dX7_takes_18 : decode cX7_takes 18 = .ok (.aload_n 0, 1) := by decide +kernel
theorem dX7_takes_19 : decode cX7_takes 19 = .ok (.dup, 1) := by decide +kernel
theorem dX7_takes_20 : decode cX7_takes 20 = .ok (.getfield 73, 3) := by decide +kernel
theorem dX7_takes_23 : decode cX7_takes 23 = .ok (.iconst 1, 1) := by decide +kernel
theorem dX7_takes_24 : decode cX7_takes 24 = .ok (.iadd, 1) := by decide +kernel
theorem dX7_takes_25 : decode cX7_takes 25 = .ok (.putfield 73, 3) := by decide +kernel
theorem dX7_takes_28 : decode cX7_takes 28 = .ok (.iconst 1, 1) := by decide +kernel
theorem dX7_takes_29 : decode cX7_takes 29 = .ok (.ireturn, 1) := by decide +kernel
theorem dX7_takesNumber_0 : decode cX7_takesNumber 0 = .ok (.aload_n 0, 1) := by decide +kernel
theorem dX7_takesNumber_1 : decode cX7_takesNumber 1 = .ok (.getfield 73, 3) := by decide +kernel
theorem dX7_takesNumber_4 : decode cX7_takesNumber 4 = .ok (.istore_n 3, 1) := by decide +kernel
theorem dX7_takesNumber_5 : decode cX7_takesNumber 5 = .ok (.aload_n 0, 1) := by decide +kernel
theorem dX7_takesNumber_6 : decode cX7_takesNumber 6 = .ok (.iconst 0, 1) := by decide +kernel
theorem dX7_takesNumber_7 : decode cX7_takesNumber 7 = .ok (.putfield 90, 3) := by decide +kernel
theorem dX7_takesNumber_10 : decode cX7_takesNumber 10 = .ok (.aload_n 0, 1) := by decide +kernel
theorem dX7_takesNumber_11 : decode cX7_takesNumber 11 = .ok (.invokevirtual 82, 3) := by decide +kernel
theorem dX7_takesNumber_14 : decode cX7_takesNumber 14 = .ok (.i2l, 1) := by decide +kernel
theorem dX7_takesNumber_15 : decode cX7_takesNumber 15 = .ok (.ldc2_w 93, 3) := by decide +kernel
theorem dX7_takesNumber_18 : decode cX7_takesNumber 18 = .ok (.ldc2_w 95, 3) := by decide +kernel
theorem dX7_takesNumber_21 : decode cX7_takesNumber 21 = .ok (.invokestatic 41, 3) := by decide +kernel
theorem dX7_takesNumber_24 : decode cX7_takesNumber 24 = .ok (.ifCond .eq 52, 3) := by decide +kernel
theorem dX7_takesNumber_27 : decode cX7_takesNumber 27 = .ok (.aload_n 0, 1) := by decide +kernel
theorem dX7_takesNumber_28 : decode cX7_takesNumber 28 = .ok (.aload_n 0, 1) := by decide +kernel
theorem dX7_takesNumber_29 : decode cX7_takesNumber 29 = .ok (.getfield 73, 3) := by decide +kernel
theorem dX7_takesNumber_32 : decode cX7_takesNumber 32 = .ok (.iload_n 3, 1) := by decide +kernel
theorem dX7_takesNumber_33 : decode cX7_takesNumber 33 = .ok (.isub, 1) := by decide +kernel
theorem dX7_takesNumber_34 : decode cX7_takesNumber 34 = .ok (.iconst 2, 1) := by decide +kernel
theorem dX7_takesNumber_35 : decode cX7_takesNumber 35 = .ok (.if_icmp .ge 21, 3) := by decide +kernel
theorem dX7_takesNumber_38 : decode cX7_takesNumber 38 = .ok (.bipush 10, 2) := by decide +kernel
theorem dX7_takesNumber_40 : decode cX7_takesNumber 40 = .ok (.aload_n 0, 1) := by decide +kernel
theorem dX7_takesNumber_41 : decode cX7_takesNumber 41 = .ok (.getfield 90, 3) := by decide +kernel
theorem dX7_takesNumber_44 : decode cX7_takesNumber 44 = .ok (.imul, 1) := by decide +kernel
theorem dX7_takesNumber_45 : decode cX7_takesNumber 45 = .ok (.aload_n 0, 1) := by decide +kernel
theorem dX7_takesNumber_46 : decode cX7_takesNumber 46 = .ok (.invokevirtual 82, 3) := by decide +kernel
theorem dX7_takesNumber_49 : decode cX7_takesNumber 49 = .ok (.iadd, 1) := by decide +kernel
theorem dX7_takesNumber_50 : decode cX7_takesNumber 50 = .ok (.bipush 48, 2) := by decide +kernel
theorem dX7_takesNumber_52 : decode cX7_takesNumber 52 = .ok (.isub, 1) := by decide +kernel
theorem dX7_takesNumber_53 : decode cX7_takesNumber 53 = .ok (.goto 7, 3) := by decide +kernel
theorem dX7_takesNumber_56 : decode cX7_takesNumber 56 = .ok (.aload_n 0, 1) := by decide +kernel
theorem dX7_takesNumber_57 : decode cX7_takesNumber 57 = .ok (.getfield 90, 3) := by decide +kernel
theorem dX7_takesNumber_60 : decode cX7_takesNumber 60 = .ok (.putfield 90, 3) := by decide +kernel
theorem dX7_takesNumber_63 : decode cX7_takesNumber 63 = .ok (.aload_n 0, 1) := by decide +kernel
theorem dX7_takesNumber_64 : decode cX7_takesNumber 64 = .ok (.dup, 1) := by decide +kernel
theorem dX7_takesNumber_65 : decode cX7_takesNumber 65 = .ok (.getfield 73, 3) := by decide +kernel
theorem dX7_takesNumber_68 : decode cX7_takesNumber 68 = .ok (.iconst 1, 1) := by decide +kernel
theorem dX7_takesNumber_69 : decode cX7_takesNumber 69 = .ok (.iadd, 1) := by decide +kernel
theorem dX7_takesNumber_70 : decode cX7_takesNumber 70 = .ok (.putfield 73, 3) := by decide +kernel
theorem dX7_takesNumber_73 : decode cX7_takesNumber 73 = .ok (.goto (-63), 3) := by decide +kernel
theorem dX7_takesNumber_76 : decode cX7_takesNumber 76 = .ok (.aload_n 0, 1) := by decide +kernel
theorem dX7_takesNumber_77 : decode cX7_takesNumber 77 = .ok (.getfield 73, 3) := by decide +kernel
theorem dX7_takesNumber_80 : decode cX7_takesNumber 80 = .ok (.iload_n 3, 1) := by decide +kernel
theorem dX7_takesNumber_81 : decode cX7_takesNumber 81 = .ok (.isub, 1) := by decide +kernel
theorem dX7_takesNumber_82 : decode cX7_takesNumber 82 = .ok (.i2l, 1) := by decide +kernel
theorem dX7_takesNumber_83 : decode cX7_takesNumber 83 = .ok (.lconst 1, 1) := by decide +kernel
theorem dX7_takesNumber_84 : decode cX7_takesNumber 84 = .ok (.ldc2_w 56, 3) := by decide +kernel
theorem dX7_takesNumber_87 : decode cX7_takesNumber 87 = .ok (.invokestatic 41, 3) := by decide +kernel
theorem dX7_takesNumber_90 : decode cX7_takesNumber 90 = .ok (.ifCond .ne 10, 3) := by decide +kernel
theorem dX7_takesNumber_93 : decode cX7_takesNumber 93 = .ok (.aload_n 0, 1) := by decide +kernel
theorem dX7_takesNumber_94 : decode cX7_takesNumber 94 = .ok (.iconst 1, 1) := by decide +kernel
theorem dX7_takesNumber_95 : decode cX7_takesNumber 95 = .ok (.iload_n 3, 1) := by decide +kernel
theorem dX7_takesNumber_96 : decode cX7_takesNumber 96 = .ok (.invokevirtual 86, 3) := by decide +kernel
theorem dX7_takesNumber_99 : decode cX7_takesNumber 99 = .ok (.ireturn, 1) := by decide +kernel
theorem dX7_takesNumber_100 : decode cX7_takesNumber 100 = .ok (.aload_n 0, 1) := by decide +kernel
theorem dX7_takesNumber_101 : decode cX7_takesNumber 101 = .ok (.getfield 90, 3) := by decide +kernel
theorem dX7_takesNumber_104 : decode cX7_takesNumber 104 = .ok (.i2l, 1) := by decide +kernel
theorem dX7_takesNumber_105 : decode cX7_takesNumber 105 = .ok (.iload_n 1, 1) := by decide +kernel
theorem dX7_takesNumber_106 : decode cX7_takesNumber 106 = .ok (.i2l, 1) := by decide +kernel
theorem dX7_takesNumber_107 : decode cX7_takesNumber 107 = .ok (.iload_n 2, 1) := by decide +kernel
theorem dX7_takesNumber_108 : decode cX7_takesNumber 108 = .ok (.i2l, 1) := by decide +kernel
theorem dX7_takesNumber_109 : decode cX7_takesNumber 109 = .ok (.invokestatic 41, 3) := by decide +kernel
theorem dX7_takesNumber_112 : decode cX7_takesNumber 112 = .ok (.ifCond .ne 10, 3) := by decide +kernel
theorem dX7_takesNumber_115 : decode cX7_takesNumber 115 = .ok (.aload_n 0, 1) := by decide +kernel
theorem dX7_takesNumber_116 : decode cX7_takesNumber 116 = .ok (.iconst 2, 1) := by decide +kernel
theorem dX7_takesNumber_117 : decode cX7_takesNumber 117 = .ok (.iload_n 3, 1) := by decide +kernel
theorem dX7_takesNumber_118 : decode cX7_takesNumber 118 = .ok (.invokevirtual 86, 3) := by decide +kernel
theorem dX7_takesNumber_121 : decode cX7_takesNumber 121 = .ok (.ireturn, 1) := by decide +kernel
theorem dX7_takesNumber_122 : decode cX7_takesNumber 122 = .ok (.iconst 1, 1) := by decide +kernel
theorem dX7_takesNumber_123 : decode cX7_takesNumber 123 = .ok (.ireturn, 1) := by decide +kernel
theorem dX7_kindOf_0 : decode cX7_kindOf 0 = .ok (.iload_n 0, 1) := by decide +kernel
theorem dX7_kindOf_1 : decode cX7_kindOf 1 = .ok (.bipush 115, 2) := by decide +kernel
theorem dX7_kindOf_3 : decode cX7_kindOf 3 = .ok (.if_icmp .ne 7, 3) := by decide +kernel
theorem dX7_kindOf_6 : decode cX7_kindOf 6 = .ok (.iconst 1, 1) := by decide +kernel
theorem dX7_kindOf_7 : decode cX7_kindOf 7 = .ok (.goto 44, 3) := by decide +kernel
theorem dX7_kindOf_10 : decode cX7_kindOf 10 = .ok (.iload_n 0, 1) := by decide +kernel
theorem dX7_kindOf_11 : decode cX7_kindOf 11 = .ok (.bipush 100, 2) := by decide +kernel
theorem dX7_kindOf_13 : decode cX7_kindOf 13 = .ok (.if_icmp .ne 7, 3) := by decide +kernel
theorem dX7_kindOf_16 : decode cX7_kindOf 16 = .ok (.iconst 2, 1) := by decide +kernel
theorem dX7_kindOf_17 : decode cX7_kindOf 17 = .ok (.goto 34, 3) := by decide +kernel
theorem dX7_kindOf_20 : decode cX7_kindOf 20 = .ok (.iload_n 0, 1) := by decide +kernel
theorem dX7_kindOf_21 : decode cX7_kindOf 21 = .ok (.bipush 116, 2) := by decide +kernel
theorem dX7_kindOf_23 : decode cX7_kindOf 23 = .ok (.if_icmp .ne 7, 3) := by decide +kernel
theorem dX7_kindOf_26 : decode cX7_kindOf 26 = .ok (.iconst 3, 1) := by decide +kernel
theorem dX7_kindOf_27 : decode cX7_kindOf 27 = .ok (.goto 24, 3) := by decide +kernel
theorem dX7_kindOf_30 : decode cX7_kindOf 30 = .ok (.iload_n 0, 1) := by decide +kernel
theorem dX7_kindOf_31 : decode cX7_kindOf 31 = .ok (.bipush 114, 2) := by decide +kernel
theorem dX7_kindOf_33 : decode cX7_kindOf 33 = .ok (.if_icmp .ne 7, 3) := by decide +kernel
theorem dX7_kindOf_36 : decode cX7_kindOf 36 = .ok (.iconst 4, 1) := by decide +kernel
theorem dX7_kindOf_37 : decode cX7_kindOf 37 = .ok (.goto 14, 3) := by decide +kernel
theorem dX7_kindOf_40 : decode cX7_kindOf 40 = .ok (.iload_n 0, 1) := by decide +kernel
theorem dX7_kindOf_41 : decode cX7_kindOf 41 = .ok (.bipush 99, 2) := by decide +kernel
theorem dX7_kindOf_43 : decode cX7_kindOf 43 = .ok (.if_icmp .ne 7, 3) := by decide +kernel
theorem dX7_kindOf_46 : decode cX7_kindOf 46 = .ok (.iconst 5, 1) := by decide +kernel
theorem dX7_kindOf_47 : decode cX7_kindOf 47 = .ok (.goto 4, 3) := by decide +kernel
theorem dX7_kindOf_50 : decode cX7_kindOf 50 = .ok (.iconst 0, 1) := by decide +kernel
theorem dX7_kindOf_51 : decode cX7_kindOf 51 = .ok (.ireturn, 1) := by decide +kernel
theorem dX7_takesLaw_0 : decode cX7_takesLaw 0 = .ok (.aload_n 0, 1) := by decide +kernel
theorem dX7_takesLaw_1 : decode cX7_takesLaw 1 = .ok (.bipush 109, 2) := by decide +kernel
theorem dX7_takesLaw_3 : decode cX7_takesLaw 3 = .ok (.invokevirtual 97, 3) := by decide +kernel
theorem dX7_takesLaw_6 : decode cX7_takesLaw 6 = .ok (.ifCond .eq 13, 3) := by decide +kernel
theorem dX7_takesLaw_9 : decode cX7_takesLaw 9 = .ok (.aload_n 0, 1) := by decide +kernel
theorem dX7_takesLaw_10 : decode cX7_takesLaw 10 = .ok (.iconst 0, 1) := by decide +kernel
theorem dX7_takesLaw_11 : decode cX7_takesLaw 11 = .ok (.bipush 99, 2) := by decide +kernel
theorem dX7_takesLaw_13 : decode cX7_takesLaw 13 = .ok (.invokevirtual 100, 3) := by decide +kernel
theorem dX7_takesLaw_16 : decode cX7_takesLaw 16 = .ok (.ifCond .ne 5, 3) := by decide +kernel
theorem dX7_takesLaw_19 : decode cX7_takesLaw 19 = .ok (.iconst 0, 1) := by decide +kernel
theorem dX7_takesLaw_20 : decode cX7_takesLaw 20 = .ok (.ireturn, 1) := by decide +kernel
theorem dX7_takesLaw_21 : decode cX7_takesLaw 21 = .ok (.aload_n 0, 1) := by decide +kernel
theorem dX7_takesLaw_22 : decode cX7_takesLaw 22 = .ok (.getfield 7, 3) := by decide +kernel
theorem dX7_takesLaw_25 : decode cX7_takesLaw 25 = .ok (.sipush 174, 3) := by decide +kernel
theorem dX7_takesLaw_28 : decode cX7_takesLaw 28 = .ok (.aload_n 0, 1) := by decide +kernel
theorem dX7_takesLaw_29 : decode cX7_takesLaw 29 = .ok (.getfield 90, 3) := by decide +kernel
theorem dX7_takesLaw_32 : decode cX7_takesLaw 32 = .ok (.iastore, 1) := by decide +kernel
