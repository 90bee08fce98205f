theorem dX12_init_0 : decode cX12_init 0 = .ok (.aload_n 0, 1) := by decide +kernel
theorem dX12_init_1 : decode cX12_init 1 = .ok (.invokespecial 1, 3) := by decide +kernel
theorem dX12_init_4 : decode cX12_init 4 = .ok (.aload_n 0, 1) := by decide +kernel
theorem dX12_init_5 : decode cX12_init 5 = .ok (.sipush 374, 3) := by decide +kernel
theorem dX12_init_8 : decode cX12_init 8 = .ok (.newarray .int, 2) := by decide +kernel
theorem dX12_init_10 : decode cX12_init 10 = .ok (.putfield 7, 3) := by decide +kernel
theorem dX12_init_13 : decode cX12_init 13 = .ok (.aload_n 0, 1) := by decide +kernel
theorem dX12_init_14 : decode cX12_init 14 = .ok (.sipush 374, 3) := by decide +kernel
theorem dX12_init_17 : decode cX12_init 17 = .ok (.newarray .int, 2) := by decide +kernel
theorem dX12_init_19 : decode cX12_init 19 = .ok (.putfield 13, 3) := by decide +kernel
theorem dX12_init_22 : decode cX12_init 22 = .ok (.aload_n 0, 1) := by decide +kernel
theorem dX12_init_23 : decode cX12_init 23 = .ok (.bipush 7, 2) := by decide +kernel
theorem dX12_init_25 : decode cX12_init 25 = .ok (.newarray .int, 2) := by decide +kernel
theorem dX12_init_27 : decode cX12_init 27 = .ok (.putfield 16, 3) := by decide +kernel
theorem dX12_init_30 : decode cX12_init 30 = .ok (.aload_n 0, 1) := by decide +kernel
theorem dX12_init_31 : decode cX12_init 31 = .ok (.bipush 124, 2) := by decide +kernel
theorem dX12_init_33 : decode cX12_init 33 = .ok (.newarray .int, 2) := by decide +kernel
theorem dX12_init_35 : decode cX12_init 35 = .ok (.putfield 19, 3) := by decide +kernel
theorem dX12_init_38 : decode cX12_init 38 = .ok (.aload_n 0, 1) := by decide +kernel
theorem dX12_init_39 : decode cX12_init 39 = .ok (.sipush 128, 3) := by decide +kernel
theorem dX12_init_42 : decode cX12_init 42 = .ok (.newarray .int, 2) := by decide +kernel
theorem dX12_init_44 : decode cX12_init 44 = .ok (.putfield 22, 3) := by decide +kernel
theorem dX12_init_47 : decode cX12_init 47 = .ok (.aload_n 0, 1) := by decide +kernel
theorem dX12_init_48 : decode cX12_init 48 = .ok (.bipush 64, 2) := by decide +kernel
theorem dX12_init_50 : decode cX12_init 50 = .ok (.newarray .int, 2) := by decide +kernel
theorem dX12_init_52 : decode cX12_init 52 = .ok (.putfield 25, 3) := by decide +kernel
theorem dX12_init_55 : decode cX12_init 55 = .ok (.aload_n 0, 1) := by decide +kernel
theorem dX12_init_56 : decode cX12_init 56 = .ok (.bipush 8, 2) := by decide +kernel
theorem dX12_init_58 : decode cX12_init 58 = .ok (.newarray .int, 2) := by decide +kernel
theorem dX12_init_60 : decode cX12_init 60 = .ok (.putfield 28, 3) := by decide +kernel
theorem dX12_init_63 : decode cX12_init 63 = .ok (.aload_n 0, 1) := by decide +kernel
theorem dX12_init_64 : decode cX12_init 64 = .ok (.bipush 8, 2) := by decide +kernel
theorem dX12_init_66 : decode cX12_init 66 = .ok (.newarray .int, 2) := by decide +kernel
theorem dX12_init_68 : decode cX12_init 68 = .ok (.putfield 31, 3) := by decide +kernel
theorem dX12_init_71 : decode cX12_init 71 = .ok (.aload_n 0, 1) := by decide +kernel
theorem dX12_init_72 : decode cX12_init 72 = .ok (.bipush 8, 2) := by decide +kernel
theorem dX12_init_74 : decode cX12_init 74 = .ok (.newarray .int, 2) := by decide +kernel
theorem dX12_init_76 : decode cX12_init 76 = .ok (.putfield 34, 3) := by decide +kernel
theorem dX12_init_79 : decode cX12_init 79 = .ok (.aload_n 0, 1) := by decide +kernel
theorem dX12_init_80 : decode cX12_init 80 = .ok (.bipush 8, 2) := by decide +kernel
theorem dX12_init_82 : decode cX12_init 82 = .ok (.newarray .int, 2) := by decide +kernel
theorem dX12_init_84 : decode cX12_init 84 = .ok (.putfield 37, 3) := by decide +kernel
theorem dX12_init_87 : decode cX12_init 87 = .ok (.aload_n 0, 1) := by decide +kernel
theorem dX12_init_88 : decode cX12_init 88 = .ok (.bipush 8, 2) := by decide +kernel
theorem dX12_init_90 : decode cX12_init 90 = .ok (.newarray .int, 2) := by decide +kernel
theorem dX12_init_92 : decode cX12_init 92 = .ok (.putfield 40, 3) := by decide +kernel
theorem dX12_init_95 : decode cX12_init 95 = .ok (.aload_n 0, 1) := by decide +kernel
theorem dX12_init_96 : decode cX12_init 96 = .ok (.bipush 30, 2) := by decide +kernel
theorem dX12_init_98 : decode cX12_init 98 = .ok (.newarray .int, 2) := by decide +kernel
theorem dX12_init_100 : decode cX12_init 100 = .ok (.putfield 43, 3) := by decide +kernel
theorem dX12_init_103 : decode cX12_init 103 = .ok (.aload_n 0, 1) := by decide +kernel
theorem dX12_init_104 : decode cX12_init 104 = .ok (.iconst 4, 1) := by decide +kernel
theorem dX12_init_105 : decode cX12_init 105 = .ok (.newarray .int, 2) := by decide +kernel
theorem dX12_init_107 : decode cX12_init 107 = .ok (.putfield 46, 3) := by decide +kernel
theorem dX12_init_110 : decode cX12_init 110 = .ok (.aload_n 0, 1) := by decide +kernel
theorem dX12_init_111 : decode cX12_init 111 = .ok (.iconst 4, 1) := by decide +kernel
theorem dX12_init_112 : decode cX12_init 112 = .ok (.newarray .int, 2) := by decide +kernel
theorem dX12_init_114 : decode cX12_init 114 = .ok (.putfield 49, 3) := by decide +kernel
theorem dX12_init_117 : decode cX12_init 117 = .ok (.aload_n 0, 1) := by decide +kernel
theorem dX12_init_118 : decode cX12_init 118 = .ok (.bipush 96, 2) := by decide +kernel
theorem dX12_init_120 : decode cX12_init 120 = .ok (.newarray .int, 2) := by decide +kernel
theorem dX12_init_122 : decode cX12_init 122 = .ok (.putfield 52, 3) := by decide +kernel
theorem dX12_init_125 : decode cX12_init 125 = .ok (.aload_n 0, 1) := by decide +kernel
theorem dX12_init_126 : decode cX12_init 126 = .ok (.bipush 24, 2) := by decide +kernel
theorem dX12_init_128 : decode cX12_init 128 = .ok (.newarray .int, 2) := by decide +kernel
theorem dX12_init_130 : decode cX12_init 130 = .ok (.putfield 55, 3) := by decide +kernel
theorem dX12_init_133 : decode cX12_init 133 = .ok (.bipush 8, 2) := by decide +kernel
theorem dX12_init_135 : decode cX12_init 135 = .ok (.newarray .int, 2) := by decide +kernel
theorem dX12_init_137 : decode cX12_init 137 = .ok (.dup, 1) := by decide +kernel
theorem dX12_init_138 : decode cX12_init 138 = .ok (.iconst 0, 1) := by decide +kernel
theorem dX12_init_139 : decode cX12_init 139 = .ok (.iconst 1, 1) := by decide +kernel
theorem dX12_init_140 : decode cX12_init 140 = .ok (.iastore, 1) := by decide +kernel
theorem dX12_init_141 : decode cX12_init 141 = .ok (.dup, 1) := by decide +kernel
theorem dX12_init_142 : decode cX12_init 142 = .ok (.iconst 1, 1) := by decide +kernel
theorem dX12_init_143 : decode cX12_init 143 = .ok (.bipush 9, 2) := by decide +kernel
theorem dX12_init_145 : decode cX12_init 145 = .ok (.iastore, 1) := by decide +kernel
theorem dX12_init_146 : decode cX12_init 146 = .ok (.dup, 1) := by decide +kernel
theorem dX12_init_147 : decode cX12_init 147 = .ok (.iconst 2, 1) := by decide +kernel
theorem dX12_init_148 : decode cX12_init 148 = .ok (.bipush 19, 2) := by decide +kernel
theorem dX12_init_150 : decode cX12_init 150 = .ok (.iastore, 1) := by decide +kernel
theorem dX12_init_151 : decode cX12_init 151 = .ok (.dup, 1) := by decide +kernel
theorem dX12_init_152 : decode cX12_init 152 = .ok (.iconst 3, 1) := by decide +kernel
theorem dX12_init_153 : decode cX12_init 153 = .ok (.bipush 20, 2) := by decide +kernel
theorem dX12_init_155 : decode cX12_init 155 = .ok (.iastore, 1) := by decide +kernel
theorem dX12_init_156 : decode cX12_init 156 = .ok (.dup, 1) := by decide +kernel
theorem dX12_init_157 : decode cX12_init 157 = .ok (.iconst 4, 1) := by decide +kernel
theorem dX12_init_158 : decode cX12_init 158 = .ok (.bipush 99, 2) := by decide +kernel
theorem dX12_init_160 : decode cX12_init 160 = .ok (.iastore, 1) := by decide +kernel
theorem dX12_init_161 : decode cX12_init 161 = .ok (.dup, 1) := by decide +kernel
theorem dX12_init_162 : decode cX12_init 162 = .ok (.iconst 5, 1) := by decide +kernel
theorem dX12_init_163 : decode cX12_init 163 = .ok (.bipush 100, 2) := by decide +kernel
theorem dX12_init_165 : decode cX12_init 165 = .ok (.iastore, 1) := by decide +kernel
theorem dX12_init_166 : decode cX12_init 166 = .ok (.dup, 1) := by decide +kernel
theorem dX12_init_167 : decode cX12_init 167 = .ok (.bipush 6, 2) := by decide +kernel
theorem dX12_init_169 : decode cX12_init 169 = .ok (.sipush 250, 3) := by decide +kernel
theorem dX12_init_172 : decode cX12_init 172 = .ok (.iastore, 1) := by decide +kernel
theorem dX12_init_173 : decode cX12_init 173 = .ok (.dup, 1) := by decide +kernel
theorem dX12_init_174 : decode cX12_init 174 = .ok (.bipush 7, 2) := by decide +kernel
theorem dX12_init_176 : decode cX12_init 176 = .ok (.sipush 999, 3) := by decide +kernel
theorem dX12_init_179 : decode cX12_init 179 = .ok (.iastore, 1) := by decide +kernel
theorem dX12_init_180 : decode cX12_init 180 = .ok (.astore_n 1, 1) := by decide +kernel
theorem dX12_init_181 : decode cX12_init 181 = .ok (.iconst 0, 1) := by decide +kernel
theorem dX12_init_182 : decode cX12_init 182 = .ok (.istore_n 2, 1) := by decide +kernel
theorem dX12_init_183 : decode cX12_init 183 = .ok (.iload_n 2, 1) := by decide +kernel
theorem dX12_init_184 : decode cX12_init 184 = .ok (.bipush 8, 2) := by decide +kernel
theorem dX12_init_186 : decode cX12_init 186 = .ok (.if_icmp .ge 32, 3) := by decide +kernel
theorem dX12_init_189 : decode cX12_init 189 = .ok (.aload_n 0, 1) := by decide +kernel
theorem dX12_init_190 : decode cX12_init 190 = .ok (.getfield 7, 3) := by decide +kernel
theorem dX12_init_193 : decode cX12_init 193 = .ok (.bipush 8, 2) := by decide +kernel
theorem dX12_init_195 : decode cX12_init 195 = .ok (.iload_n 2, 1) := by decide +kernel
theorem dX12_init_196 : decode cX12_init 196 = .ok (.iadd, 1) := by decide +kernel
theorem dX12_init_197 : decode cX12_init 197 = .ok (.aload_n 1, 1) := by decide +kernel
theorem dX12_init_198 : decode cX12_init 198 = .ok (.iload_n 2, 1) := by decide +kernel
theorem dX12_init_199 : decode cX12_init 199 = .ok (.iaload, 1) := by decide +kernel
theorem dX12_init_200 : decode cX12_init 200 = .ok (.iastore, 1) := by decide +kernel
theorem dX12_init_201 : decode cX12_init 201 = .ok (.aload_n 0, 1) := by decide +kernel
theorem dX12_init_202 : decode cX12_init 202 = .ok (.getfield 7, 3) := by decide +kernel
theorem dX12_init_205 : decode cX12_init 205 = .ok (.bipush 24, 2) := by decide +kernel
theorem dX12_init_207 : decode cX12_init 207 = .ok (.iload_n 2, 1) := by decide +kernel
theorem dX12_init_208 : decode cX12_init 208 = .ok (.iadd, 1) := by decide +kernel
theorem dX12_init_209 : decode cX12_init 209 = .ok (.bipush 9, 2) := by decide +kernel
theorem dX12_init_211 : decode cX12_init 211 = .ok (.iastore, 1) := by decide +kernel
theorem dX12_init_212 : decode cX12_init 212 = .ok (.iinc 2 1, 3) := by decide +kernel
theorem dX12_init_215 : decode cX12_init 215 = .ok (.goto (-32), 3) := by decide +kernel
theorem dX12_init_218 : decode cX12_init 218 = .ok (.aload_n 0, 1) := by decide +kernel
theorem dX12_init_219 : decode cX12_init 219 = .ok (.getfield 7, 3) := by decide +kernel
theorem dX12_init_222 : decode cX12_init 222 = .ok (.iconst 5, 1) := by decide +kernel
theorem dX12_init_223 : decode cX12_init 223 = .ok (.iconst 1, 1) := by decide +kernel
theorem dX12_init_224 : decode cX12_init 224 = .ok (.iastore, 1) := by decide +kernel
theorem dX12_init_225 : decode cX12_init 225 = .ok (.return_, 1) := by decide +kernel
theorem dX12_error_0 : decode cX12_error 0 = .ok (.aload_n 0, 1) := by decide +kernel
theorem dX12_error_1 : decode cX12_error 1 = .ok (.getfield 16, 3) := by decide +kernel
theorem dX12_error_4 : decode cX12_error 4 = .ok (.iload_n 1, 1) := by decide +kernel
theorem dX12_error_5 : decode cX12_error 5 = .ok (.dup2, 1) := by decide +kernel
theorem dX12_error_6 : decode cX12_error 6 = .ok (.iaload, 1) := by decide +kernel
theorem dX12_error_7 : decode cX12_error 7 = .ok (.iconst 1, 1) := by decide +kernel
theorem dX12_error_8 : decode cX12_error 8 = .ok (.iadd, 1) := by decide +kernel
theorem dX12_error_9 : decode cX12_error 9 = .ok (.iastore, 1) := by decide +kernel
theorem dX12_error_10 : decode cX12_error 10 = .ok (.ldc 58, 2) := by decide +kernel
theorem dX12_error_12 : decode cX12_error 12 = .ok (.iload_n 1, 1) := by decide +kernel
theorem dX12_error_13 : decode cX12_error 13 = .ok (.isub, 1) := by decide +kernel
theorem dX12_error_14 : decode cX12_error 14 = .ok (.ireturn, 1) := by decide +kernel
theorem dX12_in_0 : decode cX12_in 0 = .ok (.iload_n 0, 1) := by decide +kernel
theorem dX12_in_1 : decode cX12_in 1 = .ok (.iload_n 1, 1) := by decide +kernel
theorem dX12_in_2 : decode cX12_in 2 = .ok (.if_icmp .lt 12, 3) := by decide +kernel
theorem dX12_in_5 : decode cX12_in 5 = .ok (.iload_n 0, 1) := by decide +kernel
theorem dX12_in_6 : decode cX12_in 6 = .ok (.iload_n 2, 1) := by decide +kernel
theorem dX12_in_7 : decode cX12_in 7 = .ok (.if_icmp .gt 7, 3) := by decide +kernel
theorem dX12_in_10 : decode cX12_in 10 = .ok (.iconst 1, 1) := by decide +kernel
theorem dX12_in_11 : decode cX12_in 11 = .ok (.goto 4, 3) := by decide +kernel
theorem dX12_in_14 : decode cX12_in 14 = .ok (.iconst 0, 1) := by decide +kernel
theorem dX12_in_15 : decode cX12_in 15 = .ok (.ireturn, 1) := by decide +kernel
theorem dX12_held_0 : decode cX12_held 0 = .ok (.iload_n 0, 1) := by decide +kernel
theorem dX12_held_1 : decode cX12_held 1 = .ok (.iload_n 1, 1) := by decide +kernel
theorem dX12_held_2 : decode cX12_held 2 = .ok (.if_icmp .ge 7, 3) := by decide +kernel
theorem dX12_held_5 : decode cX12_held 5 = .ok (.iload_n 1, 1) := by decide +kernel
theorem dX12_held_6 : decode cX12_held 6 = .ok (.goto 13, 3) := by decide +kernel
theorem dX12_held_9 : decode cX12_held 9 = .ok (.iload_n 0, 1) := by decide +kernel
theorem dX12_held_10 : decode cX12_held 10 = .ok (.iload_n 2, 1) := by decide +kernel
theorem dX12_held_11 : decode cX12_held 11 = .ok (.if_icmp .le 7, 3) := by decide +kernel
theorem dX12_held_14 : decode cX12_held 14 = .ok (.iload_n 2, 1) := by decide +kernel
theorem dX12_held_15 : decode cX12_held 15 = .ok (.goto 4, 3) := by decide +kernel
theorem dX12_held_18 : decode cX12_held 18 = .ok (.iload_n 0, 1) := by decide +kernel
theorem dX12_held_19 : decode cX12_held 19 = .ok (.ireturn, 1) := by decide +kernel
theorem dX12_carry_0 : decode cX12_carry 0 = .ok (.iconst 0, 1) := by decide +kernel
theorem dX12_carry_1 : decode cX12_carry 1 = .ok (.istore_n 2, 1) := by decide +kernel
theorem dX12_carry_2 : decode cX12_carry 2 = .ok (.iload_n 2, 1) := by decide +kernel
theorem dX12_carry_3 : decode cX12_carry 3 = .ok (.sipush 374, 3) := by decide +kernel
theorem dX12_carry_6 : decode cX12_carry 6 = .ok (.if_icmp .ge 15, 3) := by decide +kernel
theorem dX12_carry_9 : decode cX12_carry 9 = .ok (.aload_n 1, 1) := by decide +kernel
theorem dX12_carry_10 : decode cX12_carry 10 = .ok (.iload_n 2, 1) := by decide +kernel
theorem dX12_carry_11 : decode cX12_carry 11 = .ok (.aload_n 0, 1) := by decide +kernel
theorem dX12_carry_12 : decode cX12_carry 12 = .ok (.iload_n 2, 1) := by decide +kernel
theorem dX12_carry_13 : decode cX12_carry 13 = .ok (.iaload, 1) := by decide +kernel
theorem dX12_carry_14 : decode cX12_carry 14 = .ok (.iastore, 1) := by decide +kernel
theorem dX12_carry_15 : decode cX12_carry 15 = .ok (.iinc 2 1, 3) := by decide +kernel
theorem dX12_carry_18 : decode cX12_carry 18 = .ok (.goto (-16), 3) := by decide +kernel
theorem dX12_carry_21 : decode cX12_carry 21 = .ok (.return_, 1) := by decide +kernel
theorem dX12_isThing_0 : decode cX12_isThing 0 = .ok (.iload_n 0, 1) := by decide +kernel
theorem dX12_isThing_1 : decode cX12_isThing 1 = .ok (.iconst 0, 1) := by decide +kernel
theorem dX12_isThing_2 : decode cX12_isThing 2 = .ok (.bipush 7, 2) := by decide +kernel
theorem dX12_isThing_4 : decode cX12_isThing 4 = .ok (.invokestatic 59, 3) := by decide +kernel
theorem dX12_isThing_7 : decode cX12_isThing 7 = .ok (.ireturn, 1) := by decide +kernel
theorem dX12_isTill_0 : decode cX12_isTill 0 = .ok (.iload_n 0, 1) := by decide +kernel
theorem dX12_isTill_1 : decode cX12_isTill 1 = .ok (.iconst 0, 1) := by decide +kernel
theorem dX12_isTill_2 : decode cX12_isTill 2 = .ok (.iconst 3, 1) := by decide +kernel
theorem dX12_isTill_3 : decode cX12_isTill 3 = .ok (.invokestatic 59, 3) := by decide +kernel
theorem dX12_isTill_6 : decode cX12_isTill 6 = .ok (.ireturn, 1) := by decide +kernel
theorem dX12_kindOf_0 : decode cX12_kindOf 0 = .ok (.aload_n 0, 1) := by decide +kernel
theorem dX12_kindOf_1 : decode cX12_kindOf 1 = .ok (.getfield 7, 3) := by decide +kernel
theorem dX12_kindOf_4 : decode cX12_kindOf 4 = .ok (.bipush 32, 2) := by decide +kernel
theorem dX12_kindOf_6 : decode cX12_kindOf 6 = .ok (.iconst 2, 1) := by decide +kernel
theorem dX12_kindOf_7 : decode cX12_kindOf 7 = .ok (.iload_n 1, 1) := by decide +kernel
theorem dX12_kindOf_8 : decode cX12_kindOf 8 = .ok (.imul, 1) := by decide +kernel
theorem dX12_kindOf_9 : decode cX12_kindOf 9 = .ok (.iadd, 1) := by decide +kernel
theorem dX12_kindOf_10 : decode cX12_kindOf 10 = .ok (.iaload, 1) := by decide +kernel
theorem dX12_kindOf_11 : decode cX12_kindOf 11 = .ok (.ireturn, 1) := by decide +kernel
theorem dX12_mOf_0 : decode cX12_mOf 0 = .ok (.aload_n 0, 1) := by decide +kernel
theorem dX12_mOf_1 : decode cX12_mOf 1 = .ok (.getfield 7, 3) := by decide +kernel
theorem dX12_mOf_4 : decode cX12_mOf 4 = .ok (.bipush 32, 2) := by decide +kernel
theorem dX12_mOf_6 : decode cX12_mOf 6 = .ok (.iconst 2, 1) := by decide +kernel
theorem dX12_mOf_7 : decode cX12_mOf 7 = .ok (.iload_n 1, 1) := by decide +kernel
theorem dX12_mOf_8 : decode cX12_mOf 8 = .ok (.imul, 1) := by decide +kernel
theorem dX12_mOf_9 : decode cX12_mOf 9 = .ok (.iadd, 1) := by decide +kernel
theorem dX12_mOf_10 : decode cX12_mOf 10 = .ok (.iconst 1, 1) := by decide +kernel
theorem dX12_mOf_11 : decode cX12_mOf 11 = .ok (.iadd, 1) := by decide +kernel
theorem dX12_mOf_12 : decode cX12_mOf 12 = .ok (.iaload, 1) := by decide +kernel
theorem dX12_mOf_13 : decode cX12_mOf 13 = .ok (.ireturn, 1) := by decide +kernel
theorem dX12_change1_0 : decode cX12_change1 0 = .ok (.aload_n 0, 1) := by decide +kernel
theorem dX12_change1_1 : decode cX12_change1 1 = .ok (.getfield 7, 3) := by decide +kernel
theorem dX12_change1_4 : decode cX12_change1 4 = .ok (.iload_n 1, 1) := by decide +kernel
theorem dX12_change1_5 : decode cX12_change1 5 = .ok (.iaload, 1) := by decide +kernel
theorem dX12_change1_6 : decode cX12_change1 6 = .ok (.istore_n 3, 1) := by decide +kernel
theorem dX12_change1_7 : decode cX12_change1 7 = .ok (.aload_n 0, 1) := by decide +kernel
theorem dX12_change1_8 : decode cX12_change1 8 = .ok (.getfield 7, 3) := by decide +kernel
theorem dX12_change1_11 : decode cX12_change1 11 = .ok (.iload_n 1, 1) := by decide +kernel
theorem dX12_change1_12 : decode cX12_change1 12 = .ok (.iload_n 2, 1) := by decide +kernel
theorem dX12_change1_13 : decode cX12_change1 13 = .ok (.iastore, 1) := by decide +kernel
theorem dX12_change1_14 : decode cX12_change1 14 = .ok (.iload_n 3, 1) := by decide +kernel
theorem dX12_change1_15 : decode cX12_change1 15 = .ok (.ireturn, 1) := by decide +kernel
theorem dX12_feed_0 : decode cX12_feed 0 = .ok (.iload_n 3, 1) := by decide +kernel
theorem dX12_feed_1 : decode cX12_feed 1 = .ok (.iconst 1, 1) := by decide +kernel
theorem dX12_feed_2 : decode cX12_feed 2 = .ok (.bipush 8, 2) := by decide +kernel
theorem dX12_feed_4 : decode cX12_feed 4 = .ok (.invokestatic 59, 3) := by decide +kernel
theorem dX12_feed_7 : decode cX12_feed 7 = .ok (.ifCond .ne 9, 3) := by decide +kernel
theorem dX12_feed_10 : decode cX12_feed 10 = .ok (.aload_n 0, 1) := by decide +kernel
theorem dX12_feed_11 : decode cX12_feed 11 = .ok (.iconst 1, 1) := by decide +kernel
theorem dX12_feed_12 : decode cX12_feed 12 = .ok (.invokevirtual 63, 3) := by decide +kernel
theorem dX12_feed_15 : decode cX12_feed 15 = .ok (.ireturn, 1) := by decide +kernel
theorem dX12_feed_16 : decode cX12_feed 16 = .ok (.aload_n 0, 1) := by decide +kernel
theorem dX12_feed_17 : decode cX12_feed 17 = .ok (.getfield 7, 3) := by decide +kernel
theorem dX12_feed_20 : decode cX12_feed 20 = .ok (.iconst 3, 1) := by decide +kernel
theorem dX12_feed_21 : decode cX12_feed 21 = .ok (.iaload, 1) := by decide +kernel
theorem dX12_feed_22 : decode cX12_feed 22 = .ok (.iload_n 3, 1) := by decide +kernel
theorem dX12_feed_23 : decode cX12_feed 23 = .ok (.iadd, 1) := by decide +kernel
theorem dX12_feed_24 : decode cX12_feed 24 = .ok (.bipush 60, 2) := by decide +kernel
theorem dX12_feed_26 : decode cX12_feed 26 = .ok (.if_icmp .le 9, 3) := by decide +kernel
theorem dX12_feed_29 : decode cX12_feed 29 = .ok (.aload_n 0, 1) := by decide +kernel
theorem dX12_feed_30 : decode cX12_feed 30 = .ok (.iconst 4, 1) := by decide +kernel
theorem dX12_feed_31 : decode cX12_feed 31 = .ok (.invokevirtual 63, 3) := by decide +kernel
theorem dX12_feed_34 : decode cX12_feed 34 = .ok (.ireturn, 1) := by decide +kernel
theorem dX12_feed_35 : decode cX12_feed 35 = .ok (.iconst 0, 1) := by decide +kernel
theorem dX12_feed_36 : decode cX12_feed 36 = .ok (.istore 4, 2) := by decide +kernel
theorem dX12_feed_38 : decode cX12_feed 38 = .ok (.iload 4, 2) := by decide +kernel
theorem dX12_feed_40 : decode cX12_feed 40 = .ok (.iload_n 3, 1) := by decide +kernel
theorem dX12_feed_41 : decode cX12_feed 41 = .ok (.if_icmp .ge 46, 3) := by decide +kernel
theorem dX12_feed_44 : decode cX12_feed 44 = .ok (.aload_n 0, 1) := by decide +kernel
theorem dX12_feed_45 : decode cX12_feed 45 = .ok (.getfield 7, 3) := by decide +kernel
theorem dX12_feed_48 : decode cX12_feed 48 = .ok (.sipush 290, 3) := by decide +kernel
theorem dX12_feed_51 : decode cX12_feed 51 = .ok (.aload_n 0, 1) := by decide +kernel
theorem dX12_feed_52 : decode cX12_feed 52 = .ok (.getfield 7, 3) := by decide +kernel
theorem dX12_feed_55 : decode cX12_feed 55 = .ok (.iconst 3, 1) := by decide +kernel
theorem dX12_feed_56 : decode cX12_feed 56 = .ok (.iaload, 1) := by decide +kernel
theorem dX12_feed_57 : decode cX12_feed 57 = .ok (.iadd, 1) := by decide +kernel
theorem dX12_feed_58 : decode cX12_feed 58 = .ok (.lload_n 1, 1) := by decide +kernel
theorem dX12_feed_59 : decode cX12_feed 59 = .ok (.bipush 8, 2) := by decide +kernel
theorem dX12_feed_61 : decode cX12_feed 61 = .ok (.iload 4, 2) := by decide +kernel
theorem dX12_feed_63 : decode cX12_feed 63 = .ok (.imul, 1) := by decide +kernel
theorem dX12_feed_64 : decode cX12_feed 64 = .ok (.lshr, 1) := by decide +kernel
theorem dX12_feed_65 : decode cX12_feed 65 = .ok (.ldc2_w 67, 3) := by decide +kernel
theorem dX12_feed_68 : decode cX12_feed 68 = .ok (.land, 1) := by decide +kernel
theorem dX12_feed_69 : decode cX12_feed 69 = .ok (.l2i, 1) := by decide +kernel
theorem dX12_feed_70 : decode cX12_feed 70 = .ok (.iastore, 1) := by decide +kernel
theorem dX12_feed_71 : decode cX12_feed 71 = .ok (.aload_n 0, 1) := by decide +kernel
theorem dX12_feed_72 : decode cX12_feed 72 = .ok (.getfield 7, 3) := by decide +kernel
theorem dX12_feed_75 : decode cX12_feed 75 = .ok (.iconst 3, 1) := by decide +kernel
theorem dX12_feed_76 : decode cX12_feed 76 = .ok (.dup2, 1) := by decide +kernel
theorem dX12_feed_77 : decode cX12_feed 77 = .ok (.iaload, 1) := by decide +kernel
theorem dX12_feed_78 : decode cX12_feed 78 = .ok (.iconst 1, 1) := by decide +kernel
theorem dX12_feed_79 : decode cX12_feed 79 = .ok (.iadd, 1) := by decide +kernel
theorem dX12_feed_80 : decode cX12_feed 80 = .ok (.iastore, 1) := by decide +kernel
theorem dX12_feed_81 : decode cX12_feed 81 = .ok (.iinc 4 1, 3) := by decide +kernel
theorem dX12_feed_84 : decode cX12_feed 84 = .ok (.goto (-46), 3) := by decide +kernel
theorem dX12_feed_87 : decode cX12_feed 87 = .ok (.aload_n 0, 1) := by decide +kernel
theorem dX12_feed_88 : decode cX12_feed 88 = .ok (.getfield 7, 3) := by decide +kernel
theorem dX12_feed_91 : decode cX12_feed 91 = .ok (.iconst 3, 1) := by decide +kernel
theorem dX12_feed_92 : decode cX12_feed 92 = .ok (.iaload, 1) := by decide +kernel
theorem dX12_feed_93 : decode cX12_feed 93 = .ok (.ireturn, 1) := by decide +kernel
theorem dX12_look_0 : decode cX12_look 0 = .ok (.aload_n 0, 1) := by decide +kernel
theorem dX12_look_1 : decode cX12_look 1 = .ok (.getfield 69, 3) := by decide +kernel
theorem dX12_look_4 : decode cX12_look 4 = .ok (.aload_n 0, 1) := by decide +kernel
theorem dX12_look_5 : decode cX12_look 5 = .ok (.getfield 7, 3) := by decide +kernel
theorem dX12_look_8 : decode cX12_look 8 = .ok (.iconst 3, 1) := by decide +kernel
theorem dX12_look_9 : decode cX12_look 9 = .ok (.iaload, 1) := by decide +kernel
theorem dX12_look_10 : decode cX12_look 10 = .ok (.if_icmp .ge 19, 3) := by decide +kernel
theorem dX12_look_13 : decode cX12_look 13 = .ok (.aload_n 0, 1) := by decide +kernel
theorem dX12_look_14 : decode cX12_look 14 = .ok (.getfield 7, 3) := by decide +kernel
theorem dX12_look_17 : decode cX12_look 17 = .ok (.sipush 290, 3) := by decide +kernel
theorem dX12_look_20 : decode cX12_look 20 = .ok (.aload_n 0, 1) := by decide +kernel
theorem dX12_look_21 : decode cX12_look 21 = .ok (.getfield 69, 3) := by decide +kernel
theorem dX12_look_24 : decode cX12_look 24 = .ok (.iadd, 1) := by decide +kernel
theorem dX12_look_25 : decode cX12_look 25 = .ok (.iaload, 1) := by decide +kernel
theorem dX12_look_26 : decode cX12_look 26 = .ok (.goto 4, 3) := by decide +kernel
theorem dX12_look_29 : decode cX12_look 29 = .ok (.iconst (-1), 1) := by decide +kernel
theorem dX12_look_30 : decode cX12_look 30 = .ok (.ireturn, 1) := by decide +kernel
theorem dX12_isName_0 : decode cX12_isName 0 = .ok (.aload_n 0, 1) := by decide +kernel
theorem dX12_isName_1 : decode cX12_isName 1 = .ok (.getfield 73, 3) := by decide +kernel
theorem dX12_isName_4 : decode cX12_isName 4 = .ok (.ifCond .ne 27, 3) := by decide +kernel
theorem dX12_isName_7 : decode cX12_isName 7 = .ok (.iload_n 1, 1) := by decide +kernel
theorem dX12_isName_8 : decode cX12_isName 8 = .ok (.bipush 115, 2) := by decide +kernel
theorem dX12_isName_10 : decode cX12_isName 10 = .ok (.if_icmp .eq 15, 3) := by decide +kernel
theorem dX12_isName_13 : decode cX12_isName 13 = .ok (.iload_n 1, 1) := by decide +kernel
theorem dX12_isName_14 : decode cX12_isName 14 = .ok (.bipush 107, 2) := by decide +kernel
theorem dX12_isName_16 : decode cX12_isName 16 = .ok (.if_icmp .eq 9, 3) := by decide +kernel
theorem dX12_isName_19 : decode cX12_isName 19 = .ok (.iload_n 1, 1) := by decide +kernel
theorem dX12_isName_20 : decode cX12_isName 20 = .ok (.bipush 109, 2) := by decide +kernel
theorem dX12_isName_22 : decode cX12_isName 22 = .ok (.if_icmp .ne 7, 3) := by decide +kernel
theorem dX12_isName_25 : decode cX12_isName 25 = .ok (.iconst 1, 1) := by decide +kernel
theorem dX12_isName_26 : decode cX12_isName 26 = .ok (.goto 4, 3) := by decide +kernel
theorem dX12_isName_29 : decode cX12_isName 29 = .ok (.iconst 0, 1) := by decide +kernel
theorem dX12_isName_30 : decode cX12_isName 30 = .ok (.ireturn, 1) := by decide +kernel
theorem dX12_isName_31 : decode cX12_isName 31 = .ok (.iload_n 1, 1) := by decide +kernel
theorem dX12_isName_32 : decode cX12_isName 32 = .ok (.bipush 116, 2) := by decide +kernel
theorem dX12_isName_34 : decode cX12_isName 34 = .ok (.if_icmp .eq 15, 3) := by decide +kernel
theorem dX12_isName_37 : decode cX12_isName 37 = .ok (.iload_n 1, 1) := by decide +kernel
theorem dX12_isName_38 : decode cX12_isName 38 = .ok (.bipush 112, 2) := by decide +kernel
theorem dX12_isName_40 : decode cX12_isName 40 = .ok (.if_icmp .eq 9, 3) := by decide +kernel
theorem dX12_isName_43 : decode cX12_isName 43 = .ok (.iload_n 1, 1) := by decide +kernel
theorem dX12_isName_44 : decode cX12_isName 44 = .ok (.bipush 99, 2) := by decide +kernel
theorem dX12_isName_46 : decode cX12_isName 46 = .ok (.if_icmp .ne 7, 3) := by decide +kernel
theorem dX12_isName_49 : decode cX12_isName 49 = .ok (.iconst 1, 1) := by decide +kernel
theorem dX12_isName_50 : decode cX12_isName 50 = .ok (.goto 4, 3) := by decide +kernel
theorem dX12_isName_53 : decode cX12_isName 53 = .ok (.iconst 0, 1) := by decide +kernel
theorem dX12_isName_54 : decode cX12_isName 54 = .ok (.ireturn, 1) := by decide +kernel
theorem dX12_step1_0 : decode cX12_step1 0 = .ok (.aload_n 0, 1) := by decide +kernel
theorem dX12_step1_1 : decode cX12_step1 1 = .ok (.getfield 19, 3) := by decide +kernel
theorem dX12_step1_4 : decode cX12_step1 4 = .ok (.iconst 2, 1) := by decide +kernel
theorem dX12_step1_5 : decode cX12_step1 5 = .ok (.aload_n 0, 1) := by decide +kernel
theorem dX12_step1_6 : decode cX12_step1 6 = .ok (.getfield 76, 3) := by decide +kernel
theorem dX12_step1_9 : decode cX12_step1 9 = .ok (.imul, 1) := by decide +kernel
theorem dX12_step1_10 : decode cX12_step1 10 = .ok (.iload_n 1, 1) := by decide +kernel
theorem dX12_step1_11 : decode cX12_step1 11 = .ok (.iastore, 1) := by decide +kernel
theorem dX12_step1_12 : decode cX12_step1 12 = .ok (.aload_n 0, 1) := by decide +kernel
theorem dX12_step1_13 : decode cX12_step1 13 = .ok (.getfield 19, 3) := by decide +kernel
theorem dX12_step1_16 : decode cX12_step1 16 = .ok (.iconst 2, 1) := by decide +kernel
theorem dX12_step1_17 : decode cX12_step1 17 = .ok (.aload_n 0, 1) := by decide +kernel
theorem dX12_step1_18 : decode cX12_step1 18 = .ok (.getfield 76, 3) := by decide +kernel
theorem dX12_step1_21 : decode cX12_step1 21 = .ok (.imul, 1) := by decide +kernel
theorem dX12_step1_22 : decode cX12_step1 22 = .ok (.iconst 1, 1) := by decide +kernel
theorem dX12_step1_23 : decode cX12_step1 23 = .ok (.iadd, 1) := by decide +kernel
theorem dX12_step1_24 : decode cX12_step1 24 = .ok (.iload_n 2, 1) := by decide +kernel
theorem dX12_step1_25 : decode cX12_step1 25 = .ok (.iastore, 1) := by decide +kernel
theorem dX12_step1_26 : decode cX12_step1 26 = .ok (.aload_n 0, 1) := by decide +kernel
theorem dX12_step1_27 : decode cX12_step1 27 = .ok (.dup, 1) := by decide +kernel
theorem dX12_step1_28 : decode cX12_step1 28 = .ok (.getfield 76, 3) := by decide +kernel
theorem dX12_step1_31 : decode cX12_step1 31 = .ok (.iconst 1, 1) := by decide +kernel
theorem dX12_step1_32 : decode cX12_step1 32 = .ok (.iadd, 1) := by decide +kernel
theorem dX12_step1_33 : decode cX12_step1 33 = .ok (.putfield 76, 3) := by decide +kernel
theorem dX12_step1_36 : decode cX12_step1 36 = .ok (.return_, 1) := by decide +kernel
theorem dX12_whole_0 : decode cX12_whole 0 = .ok (.aload_n 0, 1) := by decide +kernel
theorem dX12_whole_1 : decode cX12_whole 1 = .ok (.invokevirtual 79, 3) := by decide +kernel
theorem dX12_whole_4 : decode cX12_whole 4 = .ok (.ifCond .ne 5, 3) := by decide +kernel
theorem dX12_whole_7 : decode cX12_whole 7 = .ok (.iconst 0, 1) := by decide +kernel
theorem dX12_whole_8 : decode cX12_whole 8 = .ok (.ireturn, 1) := by decide +kernel
theorem dX12_whole_9 : decode cX12_whole 9 = .ok (.aload_n 0, 1) := by decide +kernel
theorem dX12_whole_10 : decode cX12_whole 10 = .ok (.invokevirtual 83, 3) := by decide +kernel
theorem dX12_whole_13 : decode cX12_whole 13 = .ok (.bipush 124, 2) := by decide +kernel
theorem dX12_whole_15 : decode cX12_whole 15 = .ok (.if_icmp .ne 32, 3) := by decide +kernel
theorem dX12_whole_18 : decode cX12_whole 18 = .ok (.aload_n 0, 1) := by decide +kernel
theorem dX12_whole_19 : decode cX12_whole 19 = .ok (.dup, 1) := by decide +kernel
theorem dX12_whole_20 : decode cX12_whole 20 = .ok (.getfield 69, 3) := by decide +kernel
theorem dX12_whole_23 : decode cX12_whole 23 = .ok (.iconst 1, 1) := by decide +kernel
theorem dX12_whole_24 : decode cX12_whole 24 = .ok (.iadd, 1) := by decide +kernel
theorem dX12_whole_25 : decode cX12_whole 25 = .ok (.putfield 69, 3) := by decide +kernel
theorem dX12_whole_28 : decode cX12_whole 28 = .ok (.aload_n 0, 1) := by decide +kernel
theorem dX12_whole_29 : decode cX12_whole 29 = .ok (.invokevirtual 79, 3) := by decide +kernel
theorem dX12_whole_32 : decode cX12_whole 32 = .ok (.ifCond .ne 5, 3) := by decide +kernel
theorem dX12_whole_35 : decode cX12_whole 35 = .ok (.iconst 0, 1) := by decide +kernel
theorem dX12_whole_36 : decode cX12_whole 36 = .ok (.ireturn, 1) := by decide +kernel
theorem dX12_whole_37 : decode cX12_whole 37 = .ok (.aload_n 0, 1) := by decide +kernel
theorem dX12_whole_38 : decode cX12_whole 38 = .ok (.iconst 3, 1) := by decide +kernel
theorem dX12_whole_39 : decode cX12_whole 39 = .ok (.bipush 124, 2) := by decide +kernel
theorem dX12_whole_41 : decode cX12_whole 41 = .ok (.invokevirtual 87, 3) := by decide +kernel
theorem dX12_whole_44 : decode cX12_whole 44 = .ok (.goto (-35), 3) := by decide +kernel
theorem dX12_whole_47 : decode cX12_whole 47 = .ok (.iconst 1, 1) := by decide +kernel
theorem dX12_whole_48 : decode cX12_whole 48 = .ok (.ireturn, 1) := by decide +kernel
theorem dX12_both_0 : decode cX12_both 0 = .ok (.aload_n 0, 1) := by decide +kernel
theorem dX12_both_1 : decode cX12_both 1 = .ok (.invokevirtual 91, 3) := by decide +kernel
theorem dX12_both_4 : decode cX12_both 4 = .ok (.ifCond .ne 5, 3) := by decide +kernel
theorem dX12_both_7 : decode cX12_both 7 = .ok (.iconst 0, 1) := by decide +kernel
theorem dX12_both_8 : decode cX12_both 8 = .ok (.ireturn, 1) := by decide +kernel
theorem dX12_both_9 : decode cX12_both 9 = .ok (.aload_n 0, 1) := by decide +kernel
theorem dX12_both_10 : decode cX12_both 10 = .ok (.invokevirtual 83, 3) := by decide +kernel
theorem dX12_both_13 : decode cX12_both 13 = .ok (.bipush 38, 2) := by decide +kernel
theorem dX12_both_15 : decode cX12_both 15 = .ok (.if_icmp .ne 32, 3) := by decide +kernel
theorem dX12_both_18 : decode cX12_both 18 = .ok (.aload_n 0, 1) := by decide +kernel
theorem dX12_both_19 : decode cX12_both 19 = .ok (.dup, 1) := by decide +kernel
theorem dX12_both_20 : decode cX12_both 20 = .ok (.getfield 69, 3) := by decide +kernel
theorem dX12_both_23 : decode cX12_both 23 = .ok (.iconst 1, 1) := by decide +kernel
theorem dX12_both_24 : decode cX12_both 24 = .ok (.iadd, 1) := by decide +kernel
theorem dX12_both_25 : decode cX12_both 25 = .ok (.putfield 69, 3) := by decide +kernel
theorem dX12_both_28 : decode cX12_both 28 = .ok (.aload_n 0, 1) := by decide +kernel
theorem dX12_both_29 : decode cX12_both 29 = .ok (.invokevirtual 91, 3) := by decide +kernel
theorem dX12_both_32 : decode cX12_both 32 = .ok (.ifCond .ne 5, 3) := by decide +kernel
theorem dX12_both_35 : decode cX12_both 35 = .ok (.iconst 0, 1) := by decide +kernel
theorem dX12_both_36 : decode cX12_both 36 = .ok (.ireturn, 1) := by decide +kernel
theorem dX12_both_37 : decode cX12_both 37 = .ok (.aload_n 0, 1) := by decide +kernel
theorem dX12_both_38 : decode cX12_both 38 = .ok (.iconst 3, 1) := by decide +kernel
theorem dX12_both_39 : decode cX12_both 39 = .ok (.bipush 38, 2) := by decide +kernel
theorem dX12_both_41 : decode cX12_both 41 = .ok (.invokevirtual 87, 3) := by decide +kernel
theorem dX12_both_44 : decode cX12_both 44 = .ok (.goto (-35), 3) := by decide +kernel
theorem dX12_both_47 : decode cX12_both 47 = .ok (.iconst 1, 1) := by decide +kernel
theorem dX12_both_48 : decode cX12_both 48 = .ok (.ireturn, 1) := by decide +kernel
theorem dX12_compared_0 : decode cX12_compared 0 = .ok (.aload_n 0, 1) := by decide +kernel
theorem dX12_compared_1 : decode cX12_compared 1 = .ok (.invokevirtual 94, 3) := by decide +kernel
theorem dX12_compared_4 : decode cX12_compared 4 = .ok (.ifCond .ne 5, 3) := by decide +kernel
theorem dX12_compared_7 : decode cX12_compared 7 = .ok (.iconst 0, 1) := by decide +kernel
theorem dX12_compared_8 : decode cX12_compared 8 = .ok (.ireturn, 1) := by decide +kernel
theorem dX12_compared_9 : decode cX12_compared 9 = .ok (.aload_n 0, 1) := by decide +kernel
theorem dX12_compared_10 : decode cX12_compared 10 = .ok (.invokevirtual 83, 3) := by decide +kernel
theorem dX12_compared_13 : decode cX12_compared 13 = .ok (.istore_n 1, 1) := by decide +kernel
theorem dX12_compared_14 : decode cX12_compared 14 = .ok (.iload_n 1, 1) := by decide +kernel
theorem dX12_compared_15 : decode cX12_compared 15 = .ok (.bipush 60, 2) := by decide +kernel
theorem dX12_compared_17 : decode cX12_compared 17 = .ok (.if_icmp .eq 17, 3) := by decide +kernel
theorem dX12_compared_20 : decode cX12_compared 20 = .ok (.iload_n 1, 1) := by decide +kernel
theorem dX12_compared_21 : decode cX12_compared 21 = .ok (.bipush 61, 2) := by decide +kernel
theorem dX12_compared_23 : decode cX12_compared 23 = .ok (.if_icmp .eq 11, 3) := by decide +kernel
theorem dX12_compared_26 : decode cX12_compared 26 = .ok (.iload_n 1, 1) := by decide +kernel
theorem dX12_compared_27 : decode cX12_compared 27 = .ok (.bipush 62, 2) := by decide +kernel
theorem dX12_compared_29 : decode cX12_compared 29 = .ok (.if_icmp .eq 5, 3) := by decide +kernel
theorem dX12_compared_32 : decode cX12_compared 32 = .ok (.iconst 1, 1) := by decide +kernel
theorem dX12_compared_33 : decode cX12_compared 33 = .ok (.ireturn, 1) := by decide +kernel
theorem dX12_compared_34 : decode cX12_compared 34 = .ok (.aload_n 0, 1) := by decide +kernel
theorem dX12_compared_35 : decode cX12_compared 35 = .ok (.dup, 1) := by decide +kernel
theorem dX12_compared_36 : decode cX12_compared 36 = .ok (.getfield 69, 3) := by decide +kernel
theorem dX12_compared_39 : decode cX12_compared 39 = .ok (.iconst 1, 1) := by decide +kernel
theorem dX12_compared_40 : decode cX12_compared 40 = .ok (.iadd, 1) := by decide +kernel
theorem dX12_compared_41 : decode cX12_compared 41 = .ok (.putfield 69, 3) := by decide +kernel
theorem dX12_compared_44 : decode cX12_compared 44 = .ok (.aload_n 0, 1) := by decide +kernel
theorem dX12_compared_45 : decode cX12_compared 45 = .ok (.invokevirtual 94, 3) := by decide +kernel
theorem dX12_compared_48 : decode cX12_compared 48 = .ok (.ifCond .ne 5, 3) := by decide +kernel
theorem dX12_compared_51 : decode cX12_compared 51 = .ok (.iconst 0, 1) := by decide +kernel
theorem dX12_compared_52 : decode cX12_compared 52 = .ok (.ireturn, 1) := by decide +kernel
theorem dX12_compared_53 : decode cX12_compared 53 = .ok (.aload_n 0, 1) := by decide +kernel
theorem dX12_compared_54 : decode cX12_compared 54 = .ok (.iconst 3, 1) := by decide +kernel
theorem dX12_compared_55 : decode cX12_compared 55 = .ok (.iload_n 1, 1) := by decide +kernel
theorem dX12_compared_56 : decode cX12_compared 56 = .ok (.invokevirtual 87, 3) := by decide +kernel
theorem dX12_compared_59 : decode cX12_compared 59 = .ok (.iconst 1, 1) := by decide +kernel
theorem dX12_compared_60 : decode cX12_compared 60 = .ok (.ireturn, 1) := by decide +kernel
theorem dX12_sum_0 : decode cX12_sum 0 = .ok (.aload_n 0, 1) := by decide +kernel
theorem dX12_sum_1 : decode cX12_sum 1 = .ok (.invokevirtual 97, 3) := by decide +kernel
theorem dX12_sum_4 : decode cX12_sum 4 = .ok (.ifCond .ne 5, 3) := by decide +kernel
theorem dX12_sum_7 : decode cX12_sum 7 = .ok (.iconst 0, 1) := by decide +kernel
theorem dX12_sum_8 : decode cX12_sum 8 = .ok (.ireturn, 1) := by decide +kernel
theorem dX12_sum_9 : decode cX12_sum 9 = .ok (.aload_n 0, 1) := by decide +kernel
theorem dX12_sum_10 : decode cX12_sum 10 = .ok (.invokevirtual 83, 3) := by decide +kernel
theorem dX12_sum_13 : decode cX12_sum 13 = .ok (.bipush 43, 2) := by decide +kernel
theorem dX12_sum_15 : decode cX12_sum 15 = .ok (.if_icmp .eq 12, 3) := by decide +kernel
theorem dX12_sum_18 : decode cX12_sum 18 = .ok (.aload_n 0, 1) := by decide +kernel
theorem dX12_sum_19 : decode cX12_sum 19 = .ok (.invokevirtual 83, 3) := by decide +kernel
theorem dX12_sum_22 : decode cX12_sum 22 = .ok (.bipush 45, 2) := by decide +kernel
theorem dX12_sum_24 : decode cX12_sum 24 = .ok (.if_icmp .ne 36, 3) := by decide +kernel
theorem dX12_sum_27 : decode cX12_sum 27 = .ok (.aload_n 0, 1) := by decide +kernel
theorem dX12_sum_28 : decode cX12_sum 28 = .ok (.invokevirtual 83, 3) := by decide +kernel
theorem dX12_sum_31 : decode cX12_sum 31 = .ok (.istore_n 1, 1) := by decide +kernel
theorem dX12_sum_32 : decode cX12_sum 32 = .ok (.aload_n 0, 1) := by decide +kernel
theorem dX12_sum_33 : decode cX12_sum 33 = .ok (.dup, 1) := by decide +kernel
theorem dX12_sum_34 : decode cX12_sum 34 = .ok (.getfield 69, 3) := by decide +kernel
theorem dX12_sum_37 : decode cX12_sum 37 = .ok (.iconst 1, 1) := by decide +kernel
theorem dX12_sum_38 : decode cX12_sum 38 = .ok (.iadd, 1) := by decide +kernel
theorem dX12_sum_39 : decode cX12_sum 39 = .ok (.putfield 69, 3) := by decide +kernel
theorem dX12_sum_42 : decode cX12_sum 42 = .ok (.aload_n 0, 1) := by decide +kernel
theorem dX12_sum_43 : decode cX12_sum 43 = .ok (.invokevirtual 97, 3) := by decide +kernel
theorem dX12_sum_46 : decode cX12_sum 46 = .ok (.ifCond .ne 5, 3) := by decide +kernel
theorem dX12_sum_49 : decode cX12_sum 49 = .ok (.iconst 0, 1) := by decide +kernel
theorem dX12_sum_50 : decode cX12_sum 50 = .ok (.ireturn, 1) := by decide +kernel
theorem dX12_sum_51 : decode cX12_sum 51 = .ok (.aload_n 0, 1) := by decide +kernel
theorem dX12_sum_52 : decode cX12_sum 52 = .ok (.iconst 3, 1) := by decide +kernel
theorem dX12_sum_53 : decode cX12_sum 53 = .ok (.iload_n 1, 1) := by decide +kernel
theorem dX12_sum_54 : decode cX12_sum 54 = .ok (.invokevirtual 87, 3) := by decide +kernel
theorem dX12_sum_57 : decode cX12_sum 57 = .ok (.goto (-48), 3) := by decide +kernel
theorem dX12_sum_60 : decode cX12_sum 60 = .ok (.iconst 1, 1) := by decide +kernel
theorem dX12_sum_61 : decode cX12_sum 61 = .ok (.ireturn, 1) := by decide +kernel
theorem dX12_product_0 : decode cX12_product 0 = .ok (.aload_n 0, 1) := by decide +kernel
theorem dX12_product_1 : decode cX12_product 1 = .ok (.invokevirtual 100, 3) := by decide +kernel
theorem dX12_product_4 : decode cX12_product 4 = .ok (.ifCond .ne 5, 3) := by decide +kernel
theorem dX12_product_7 : decode cX12_product 7 = .ok (.iconst 0, 1) := by decide +kernel
theorem dX12_product_8 : decode cX12_product 8 = .ok (.ireturn, 1) := by decide +kernel
theorem dX12_product_9 : decode cX12_product 9 = .ok (.aload_n 0, 1) := by decide +kernel
theorem dX12_product_10 : decode cX12_product 10 = .ok (.invokevirtual 83, 3) := by decide +kernel
theorem dX12_product_13 : decode cX12_product 13 = .ok (.bipush 42, 2) := by decide +kernel
theorem dX12_product_15 : decode cX12_product 15 = .ok (.if_icmp .eq 21, 3) := by decide +kernel
theorem dX12_product_18 : decode cX12_product 18 = .ok (.aload_n 0, 1) := by decide +kernel
theorem dX12_product_19 : decode cX12_product 19 = .ok (.invokevirtual 83, 3) := by decide +kernel
theorem dX12_product_22 : decode cX12_product 22 = .ok (.bipush 47, 2) := by decide +kernel
theorem dX12_product_24 : decode cX12_product 24 = .ok (.if_icmp .eq 12, 3) := by decide +kernel
theorem dX12_product_27 : decode cX12_product 27 = .ok (.aload_n 0, 1) := by decide +kernel
theorem dX12_product_28 : decode cX12_product 28 = .ok (.invokevirtual 83, 3) := by decide +kernel
theorem dX12_product_31 : decode cX12_product 31 = .ok (.bipush 37, 2) := by decide +kernel
theorem dX12_product_33 : decode cX12_product 33 = .ok (.if_icmp .ne 36, 3) := by decide +kernel
theorem dX12_product_36 : decode cX12_product 36 = .ok (.aload_n 0, 1) := by decide +kernel
theorem dX12_product_37 : decode cX12_product 37 = .ok (.invokevirtual 83, 3) := by decide +kernel
theorem dX12_product_40 : decode cX12_product 40 = .ok (.istore_n 1, 1) := by decide +kernel
theorem dX12_product_41 : decode cX12_product 41 = .ok (.aload_n 0, 1) := by decide +kernel
theorem dX12_product_42 : decode cX12_product 42 = .ok (.dup, 1) := by decide +kernel
theorem dX12_product_43 : decode cX12_product 43 = .ok (.getfield 69, 3) := by decide +kernel
theorem dX12_product_46 : decode cX12_product 46 = .ok (.iconst 1, 1) := by decide +kernel
theorem dX12_product_47 : decode cX12_product 47 = .ok (.iadd, 1) := by decide +kernel
theorem dX12_product_48 : decode cX12_product 48 = .ok (.putfield 69, 3) := by decide +kernel
theorem dX12_product_51 : decode cX12_product 51 = .ok (.aload_n 0, 1) := by decide +kernel
theorem dX12_product_52 : decode cX12_product 52 = .ok (.invokevirtual 100, 3) := by decide +kernel
theorem dX12_product_55 : decode cX12_product 55 = .ok (.ifCond .ne 5, 3) := by decide +kernel
theorem dX12_product_58 : decode cX12_product 58 = .ok (.iconst 0, 1) := by decide +kernel
theorem dX12_product_59 : decode cX12_product 59 = .ok (.ireturn, 1) := by decide +kernel
theorem dX12_product_60 : decode cX12_product 60 = .ok (.aload_n 0, 1) := by decide +kernel
theorem dX12_product_61 : decode cX12_product 61 = .ok (.iconst 3, 1) := by decide +kernel
theorem dX12_product_62 : decode cX12_product 62 = .ok (.iload_n 1, 1) := by decide +kernel
theorem dX12_product_63 : decode cX12_product 63 = .ok (.invokevirtual 87, 3) := by decide +kernel
theorem dX12_product_66 : decode cX12_product 66 = .ok (.goto (-57), 3) := by decide +kernel
theorem dX12_product_69 : decode cX12_product 69 = .ok (.iconst 1, 1) := by decide +kernel
theorem dX12_product_70 : decode cX12_product 70 = .ok (.ireturn, 1) := by decide +kernel
theorem dX12_opens_0 : decode cX12_opens 0 = .ok (.aload_n 0, 1) := by decide +kernel
theorem dX12_opens_1 : decode cX12_opens 1 = .ok (.getfield 103, 3) := by decide +kernel
theorem dX12_opens_4 : decode cX12_opens 4 = .ok (.iconst 5, 1) := by decide +kernel
theorem dX12_opens_5 : decode cX12_opens 5 = .ok (.if_icmp .ne 5, 3) := by decide +kernel
theorem dX12_opens_8 : decode cX12_opens 8 = .ok (.iconst 0, 1) := by decide +kernel
theorem dX12_opens_9 : decode cX12_opens 9 = .ok (.ireturn, 1) := by decide +kernel
theorem dX12_opens_10 : decode cX12_opens 10 = .ok (.aload_n 0, 1) := by decide +kernel
theorem dX12_opens_11 : decode cX12_opens 11 = .ok (.dup, 1) := by decide +kernel
theorem dX12_opens_12 : decode cX12_opens 12 = .ok (.getfield 103, 3) := by decide +kernel
theorem dX12_opens_15 : decode cX12_opens 15 = .ok (.iconst 1, 1) := by decide +kernel
theorem dX12_opens_16 : decode cX12_opens 16 = .ok (.iadd, 1) := by decide +kernel
theorem dX12_opens_17 : decode cX12_opens 17 = .ok (.putfield 103, 3) := by decide +kernel
theorem dX12_opens_20 : decode cX12_opens 20 = .ok (.aload_n 0, 1) := by decide +kernel
theorem dX12_opens_21 : decode cX12_opens 21 = .ok (.dup, 1) := by decide +kernel
theorem dX12_opens_22 : decode cX12_opens 22 = .ok (.getfield 69, 3) := by decide +kernel
theorem dX12_opens_25 : decode cX12_opens 25 = .ok (.iconst 1, 1) := by decide +kernel
theorem dX12_opens_26 : decode cX12_opens 26 = .ok (.iadd, 1) := by decide +kernel
theorem dX12_opens_27 : decode cX12_opens 27 = .ok (.putfield 69, 3) := by decide +kernel
theorem dX12_opens_30 : decode cX12_opens 30 = .ok (.iconst 1, 1) := by decide +kernel
theorem dX12_opens_31 : decode cX12_opens 31 = .ok (.ireturn, 1) := by decide +kernel
theorem dX12_one_0 : decode cX12_one 0 = .ok (.aload_n 0, 1) := by decide +kernel
theorem dX12_one_1 : decode cX12_one 1 = .ok (.invokevirtual 83, 3) := by decide +kernel
theorem dX12_one_4 : decode cX12_one 4 = .ok (.istore_n 1, 1) := by decide +kernel
theorem dX12_one_5 : decode cX12_one 5 = .ok (.aload_n 0, 1) := by decide +kernel
theorem dX12_one_6 : decode cX12_one 6 = .ok (.iload_n 1, 1) := by decide +kernel
theorem dX12_one_7 : decode cX12_one 7 = .ok (.invokevirtual 106, 3) := by decide +kernel
theorem dX12_one_10 : decode cX12_one 10 = .ok (.ifCond .eq 21, 3) := by decide +kernel
theorem dX12_one_13 : decode cX12_one 13 = .ok (.aload_n 0, 1) := by decide +kernel
theorem dX12_one_14 : decode cX12_one 14 = .ok (.dup, 1) := by decide +kernel
theorem dX12_one_15 : decode cX12_one 15 = .ok (.getfield 69, 3) := by decide +kernel
theorem dX12_one_18 : decode cX12_one 18 = .ok (.iconst 1, 1) := by decide +kernel
theorem dX12_one_19 : decode cX12_one 19 = .ok (.iadd, 1) := by decide +kernel
theorem dX12_one_20 : decode cX12_one 20 = .ok (.putfield 69, 3) := by decide +kernel
theorem dX12_one_23 : decode cX12_one 23 = .ok (.aload_n 0, 1) := by decide +kernel
theorem dX12_one_24 : decode cX12_one 24 = .ok (.iconst 1, 1) := by decide +kernel
theorem dX12_one_25 : decode cX12_one 25 = .ok (.iload_n 1, 1) := by decide +kernel
theorem dX12_one_26 : decode cX12_one 26 = .ok (.invokevirtual 87, 3) := by decide +kernel
theorem dX12_one_29 : decode cX12_one 29 = .ok (.iconst 1, 1) := by decide +kernel
theorem dX12_one_30 : decode cX12_one 30 = .ok (.ireturn, 1) := by decide +kernel
theorem dX12_one_31 : decode cX12_one 31 = .ok (.iload_n 1, 1) := by decide +kernel
theorem dX12_one_32 : decode cX12_one 32 = .ok (.bipush 48, 2) := by decide +kernel
theorem dX12_one_34 : decode cX12_one 34 = .ok (.bipush 57, 2) := by decide +kernel
theorem dX12_one_36 : decode cX12_one 36 = .ok (.invokestatic 59, 3) := by decide +kernel
theorem dX12_one_39 : decode cX12_one 39 = .ok (.ifCond .eq 63, 3) := by decide +kernel
theorem dX12_one_42 : decode cX12_one 42 = .ok (.iconst 0, 1) := by decide +kernel
theorem dX12_one_43 : decode cX12_one 43 = .ok (.istore_n 2, 1) := by decide +kernel
theorem dX12_one_44 : decode cX12_one 44 = .ok (.iconst 0, 1) := by decide +kernel
theorem dX12_one_45 : decode cX12_one 45 = .ok (.istore_n 3, 1) := by decide +kernel
theorem dX12_one_46 : decode cX12_one 46 = .ok (.iload_n 3, 1) := by decide +kernel
theorem dX12_one_47 : decode cX12_one 47 = .ok (.iconst 4, 1) := by decide +kernel
theorem dX12_one_48 : decode cX12_one 48 = .ok (.if_icmp .ge 46, 3) := by decide +kernel
theorem dX12_one_51 : decode cX12_one 51 = .ok (.aload_n 0, 1) := by decide +kernel
theorem dX12_one_52 : decode cX12_one 52 = .ok (.invokevirtual 83, 3) := by decide +kernel
theorem dX12_one_55 : decode cX12_one 55 = .ok (.bipush 48, 2) := by decide +kernel
theorem dX12_one_57 : decode cX12_one 57 = .ok (.bipush 57, 2) := by decide +kernel
theorem dX12_one_59 : decode cX12_one 59 = .ok (.invokestatic 59, 3) := by decide +kernel
theorem dX12_one_62 : decode cX12_one 62 = .ok (.ifCond .eq 32, 3) := by decide +kernel
theorem dX12_one_65 : decode cX12_one 65 = .ok (.bipush 10, 2) := by decide +kernel
theorem dX12_one_67 : decode cX12_one 67 = .ok (.iload_n 2, 1) := by decide +kernel
theorem dX12_one_68 : decode cX12_one 68 = .ok (.imul, 1) := by decide +kernel
theorem dX12_one_69 : decode cX12_one 69 = .ok (.aload_n 0, 1) := by decide +kernel
theorem dX12_one_70 : decode cX12_one 70 = .ok (.invokevirtual 83, 3) := by decide +kernel
theorem dX12_one_73 : decode cX12_one 73 = .ok (.iadd, 1) := by decide +kernel
theorem dX12_one_74 : decode cX12_one 74 = .ok (.bipush 48, 2) := by decide +kernel
theorem dX12_one_76 : decode cX12_one 76 = .ok (.isub, 1) := by decide +kernel
theorem dX12_one_77 : decode cX12_one 77 = .ok (.istore_n 2, 1) := by decide +kernel
theorem dX12_one_78 : decode cX12_one 78 = .ok (.aload_n 0, 1) := by decide +kernel
theorem dX12_one_79 : decode cX12_one 79 = .ok (.dup, 1) := by decide +kernel
theorem dX12_one_80 : decode cX12_one 80 = .ok (.getfield 69, 3) := by decide +kernel
theorem dX12_one_83 : decode cX12_one 83 = .ok (.iconst 1, 1) := by decide +kernel
theorem dX12_one_84 : decode cX12_one 84 = .ok (.iadd, 1) := by decide +kernel
theorem dX12_one_85 : decode cX12_one 85 = .ok (.putfield 69, 3) := by decide +kernel
theorem dX12_one_88 : decode cX12_one 88 = .ok (.iinc 3 1, 3) := by decide +kernel
theorem dX12_one_91 : decode cX12_one 91 = .ok (.goto (-45), 3) := by decide +kernel
theorem dX12_one_94 : decode cX12_one 94 = .ok (.aload_n 0, 1) := by decide +kernel
theorem dX12_one_95 : decode cX12_one 95 = .ok (.iconst 0, 1) := by decide +kernel
theorem dX12_one_96 : decode cX12_one 96 = .ok (.iload_n 2, 1) := by decide +kernel
theorem dX12_one_97 : decode cX12_one 97 = .ok (.invokevirtual 87, 3) := by decide +kernel
theorem dX12_one_100 : decode cX12_one 100 = .ok (.iconst 1, 1) := by decide +kernel
theorem dX12_one_101 : decode cX12_one 101 = .ok (.ireturn, 1) := by decide +kernel
theorem dX12_one_102 : decode cX12_one 102 = .ok (.iload_n 1, 1) := by decide +kernel
theorem dX12_one_103 : decode cX12_one 103 = .ok (.bipush 33, 2) := by decide +kernel
theorem dX12_one_105 : decode cX12_one 105 = .ok (.if_icmp .ne 37, 3) := by decide +kernel
theorem dX12_one_108 : decode cX12_one 108 = .ok (.aload_n 0, 1) := by decide +kernel
theorem dX12_one_109 : decode cX12_one 109 = .ok (.invokevirtual 110, 3) := by decide +kernel
theorem dX12_one_112 : decode cX12_one 112 = .ok (.ifCond .eq 10, 3) := by decide +kernel
theorem dX12_one_115 : decode cX12_one 115 = .ok (.aload_n 0, 1) := by decide +kernel
theorem dX12_one_116 : decode cX12_one 116 = .ok (.invokevirtual 100, 3) := by decide +kernel
theorem dX12_one_119 : decode cX12_one 119 = .ok (.ifCond .ne 5, 3) := by decide +kernel
theorem dX12_one_122 : decode cX12_one 122 = .ok (.iconst 0, 1) := by decide +kernel
theorem dX12_one_123 : decode cX12_one 123 = .ok (.ireturn, 1) := by decide +kernel
theorem dX12_one_124 : decode cX12_one 124 = .ok (.aload_n 0, 1) := by decide +kernel
theorem dX12_one_125 : decode cX12_one 125 = .ok (.dup, 1) := by decide +kernel
theorem dX12_one_126 : decode cX12_one 126 = .ok (.getfield 103, 3) := by decide +kernel
theorem dX12_one_129 : decode cX12_one 129 = .ok (.iconst 1, 1) := by decide +kernel
theorem dX12_one_130 : decode cX12_one 130 = .ok (.isub, 1) := by decide +kernel
theorem dX12_one_131 : decode cX12_one 131 = .ok (.putfield 103, 3) := by decide +kernel
theorem dX12_one_134 : decode cX12_one 134 = .ok (.aload_n 0, 1) := by decide +kernel
theorem dX12_one_135 : decode cX12_one 135 = .ok (.iconst 2, 1) := by decide +kernel
theorem dX12_one_136 : decode cX12_one 136 = .ok (.iconst 0, 1) := by decide +kernel
theorem dX12_one_137 : decode cX12_one 137 = .ok (.invokevirtual 87, 3) := by decide +kernel
theorem dX12_one_140 : decode cX12_one 140 = .ok (.iconst 1, 1) := by decide +kernel
theorem dX12_one_141 : decode cX12_one 141 = .ok (.ireturn, 1) := by decide +kernel
theorem dX12_one_142 : decode cX12_one 142 = .ok (.iload_n 1, 1) := by decide +kernel
theorem dX12_one_143 : decode cX12_one 143 = .ok (.bipush 40, 2) := by decide +kernel
theorem dX12_one_145 : decode cX12_one 145 = .ok (.if_icmp .ne 26, 3) := by decide +kernel
theorem dX12_one_148 : decode cX12_one 148 = .ok (.aload_n 0, 1) := by decide +kernel
theorem dX12_one_149 : decode cX12_one 149 = .ok (.invokevirtual 110, 3) := by decide +kernel
theorem dX12_one_152 : decode cX12_one 152 = .ok (.ifCond .eq 19, 3) := by decide +kernel
theorem dX12_one_155 : decode cX12_one 155 = .ok (.aload_n 0, 1) := by decide +kernel
theorem dX12_one_156 : decode cX12_one 156 = .ok (.invokevirtual 113, 3) := by decide +kernel
theorem dX12_one_159 : decode cX12_one 159 = .ok (.ifCond .eq 12, 3) := by decide +kernel
theorem dX12_one_162 : decode cX12_one 162 = .ok (.aload_n 0, 1) := by decide +kernel
theorem dX12_one_163 : decode cX12_one 163 = .ok (.invokevirtual 83, 3) := by decide +kernel
theorem dX12_one_166 : decode cX12_one 166 = .ok (.bipush 41, 2) := by decide +kernel
theorem dX12_one_168 : decode cX12_one 168 = .ok (.if_icmp .eq 5, 3) := by decide +kernel
theorem dX12_one_171 : decode cX12_one 171 = .ok (.iconst 0, 1) := by decide +kernel
theorem dX12_one_172 : decode cX12_one 172 = .ok (.ireturn, 1) := by decide +kernel
theorem dX12_one_173 : decode cX12_one 173 = .ok (.aload_n 0, 1) := by decide +kernel
theorem dX12_one_174 : decode cX12_one 174 = .ok (.dup, 1) := by decide +kernel
theorem dX12_one_175 : decode cX12_one 175 = .ok (.getfield 69, 3) := by decide +kernel
theorem dX12_one_178 : decode cX12_one 178 = .ok (.iconst 1, 1) := by decide +kernel
theorem dX12_one_179 : decode cX12_one 179 = .ok (.iadd, 1) := by decide +kernel
theorem dX12_one_180 : decode cX12_one 180 = .ok (.putfield 69, 3) := by decide +kernel
theorem dX12_one_183 : decode cX12_one 183 = .ok (.aload_n 0, 1) := by decide +kernel
theorem dX12_one_184 : decode cX12_one 184 = .ok (.dup, 1) := by decide +kernel
theorem dX12_one_185 : decode cX12_one 185 = .ok (.getfield 103, 3) := by decide +kernel
theorem dX12_one_188 : decode cX12_one 188 = .ok (.iconst 1, 1) := by decide +kernel
theorem dX12_one_189 : decode cX12_one 189 = .ok (.isub, 1) := by decide +kernel
theorem dX12_one_190 : decode cX12_one 190 = .ok (.putfield 103, 3) := by decide +kernel
theorem dX12_one_193 : decode cX12_one 193 = .ok (.iconst 1, 1) := by decide +kernel
theorem dX12_one_194 : decode cX12_one 194 = .ok (.ireturn, 1) := by decide +kernel
theorem dX12_hasText_0 : decode cX12_hasText 0 = .ok (.aload_n 0, 1) := by decide +kernel
theorem dX12_hasText_1 : decode cX12_hasText 1 = .ok (.getfield 7, 3) := by decide +kernel
theorem dX12_hasText_4 : decode cX12_hasText 4 = .ok (.bipush 40, 2) := by decide +kernel
theorem dX12_hasText_6 : decode cX12_hasText 6 = .ok (.bipush 125, 2) := by decide +kernel
theorem dX12_hasText_8 : decode cX12_hasText 8 = .ok (.iload_n 1, 1) := by decide +kernel
theorem dX12_hasText_9 : decode cX12_hasText 9 = .ok (.imul, 1) := by decide +kernel
theorem dX12_hasText_10 : decode cX12_hasText 10 = .ok (.iadd, 1) := by decide +kernel
theorem dX12_hasText_11 : decode cX12_hasText 11 = .ok (.iaload, 1) := by decide +kernel
theorem dX12_hasText_12 : decode cX12_hasText 12 = .ok (.ifCond .le 7, 3) := by decide +kernel
theorem dX12_hasText_15 : decode cX12_hasText 15 = .ok (.iconst 1, 1) := by decide +kernel
theorem dX12_hasText_16 : decode cX12_hasText 16 = .ok (.goto 4, 3) := by decide +kernel
theorem dX12_hasText_19 : decode cX12_hasText 19 = .ok (.iconst 0, 1) := by decide +kernel
theorem dX12_hasText_20 : decode cX12_hasText 20 = .ok (.ireturn, 1) := by decide +kernel
theorem dX12_text_0 : decode cX12_text 0 = .ok (.iload_n 1, 1) := by decide +kernel
theorem dX12_text_1 : decode cX12_text 1 = .ok (.iconst 0, 1) := by decide +kernel
theorem dX12_text_2 : decode cX12_text 2 = .ok (.iconst 1, 1) := by decide +kernel
theorem dX12_text_3 : decode cX12_text 3 = .ok (.invokestatic 59, 3) := by decide +kernel
theorem dX12_text_6 : decode cX12_text 6 = .ok (.ifCond .ne 9, 3) := by decide +kernel
theorem dX12_text_9 : decode cX12_text 9 = .ok (.aload_n 0, 1) := by decide +kernel
theorem dX12_text_10 : decode cX12_text 10 = .ok (.iconst 1, 1) := by decide +kernel
theorem dX12_text_11 : decode cX12_text 11 = .ok (.invokevirtual 63, 3) := by decide +kernel
theorem dX12_text_14 : decode cX12_text 14 = .ok (.ireturn, 1) := by decide +kernel
theorem dX12_text_15 : decode cX12_text 15 = .ok (.aload_n 0, 1) := by decide +kernel
theorem dX12_text_16 : decode cX12_text 16 = .ok (.iload_n 1, 1) := by decide +kernel
theorem dX12_text_17 : decode cX12_text 17 = .ok (.putfield 73, 3) := by decide +kernel
theorem dX12_text_20 : decode cX12_text 20 = .ok (.aload_n 0, 1) := by decide +kernel
theorem dX12_text_21 : decode cX12_text 21 = .ok (.iconst 0, 1) := by decide +kernel
theorem dX12_text_22 : decode cX12_text 22 = .ok (.putfield 69, 3) := by decide +kernel
theorem dX12_text_25 : decode cX12_text 25 = .ok (.aload_n 0, 1) := by decide +kernel
theorem dX12_text_26 : decode cX12_text 26 = .ok (.iconst 0, 1) := by decide +kernel
theorem dX12_text_27 : decode cX12_text 27 = .ok (.putfield 103, 3) := by decide +kernel
theorem dX12_text_30 : decode cX12_text 30 = .ok (.aload_n 0, 1) := by decide +kernel
theorem dX12_text_31 : decode cX12_text 31 = .ok (.iconst 0, 1) := by decide +kernel
theorem dX12_text_32 : decode cX12_text 32 = .ok (.putfield 76, 3) := by decide +kernel
theorem dX12_text_35 : decode cX12_text 35 = .ok (.aload_n 0, 1) := by decide +kernel
theorem dX12_text_36 : decode cX12_text 36 = .ok (.invokevirtual 113, 3) := by decide +kernel
theorem dX12_text_39 : decode cX12_text 39 = .ok (.ifCond .eq 20, 3) := by decide +kernel
theorem dX12_text_42 : decode cX12_text 42 = .ok (.aload_n 0, 1) := by decide +kernel
theorem dX12_text_43 : decode cX12_text 43 = .ok (.getfield 69, 3) := by decide +kernel
theorem dX12_text_46 : decode cX12_text 46 = .ok (.aload_n 0, 1) := by decide +kernel
theorem dX12_text_47 : decode cX12_text 47 = .ok (.getfield 7, 3) := by decide +kernel
theorem dX12_text_50 : decode cX12_text 50 = .ok (.iconst 3, 1) := by decide +kernel
theorem dX12_text_51 : decode cX12_text 51 = .ok (.iaload, 1) := by decide +kernel
theorem dX12_text_52 : decode cX12_text 52 = .ok (.if_icmp .ne 7, 3) := by decide +kernel
theorem dX12_text_55 : decode cX12_text 55 = .ok (.iconst 1, 1) := by decide +kernel
theorem dX12_text_56 : decode cX12_text 56 = .ok (.goto 4, 3) := by decide +kernel
theorem dX12_text_59 : decode cX12_text 59 = .ok (.iconst 0, 1) := by decide +kernel
theorem dX12_text_60 : decode cX12_text 60 = .ok (.istore_n 2, 1) := by decide +kernel
theorem dX12_text_61 : decode cX12_text 61 = .ok (.aload_n 0, 1) := by decide +kernel
theorem dX12_text_62 : decode cX12_text 62 = .ok (.getfield 7, 3) := by decide +kernel
theorem dX12_text_65 : decode cX12_text 65 = .ok (.iconst 3, 1) := by decide +kernel
theorem dX12_text_66 : decode cX12_text 66 = .ok (.iconst 0, 1) := by decide +kernel
theorem dX12_text_67 : decode cX12_text 67 = .ok (.iastore, 1) := by decide +kernel
theorem dX12_text_68 : decode cX12_text 68 = .ok (.iload_n 2, 1) := by decide +kernel
theorem dX12_text_69 : decode cX12_text 69 = .ok (.ifCond .ne 11, 3) := by decide +kernel
theorem dX12_text_72 : decode cX12_text 72 = .ok (.bipush (-10), 2) := by decide +kernel
theorem dX12_text_74 : decode cX12_text 74 = .ok (.aload_n 0, 1) := by decide +kernel
theorem dX12_text_75 : decode cX12_text 75 = .ok (.getfield 69, 3) := by decide +kernel
theorem dX12_text_78 : decode cX12_text 78 = .ok (.isub, 1) := by decide +kernel
theorem dX12_text_79 : decode cX12_text 79 = .ok (.ireturn, 1) := by decide +kernel
theorem dX12_text_80 : decode cX12_text 80 = .ok (.bipush 40, 2) := by decide +kernel
theorem dX12_text_82 : decode cX12_text 82 = .ok (.bipush 125, 2) := by decide +kernel
theorem dX12_text_84 : decode cX12_text 84 = .ok (.iload_n 1, 1) := by decide +kernel
theorem dX12_text_85 : decode cX12_text 85 = .ok (.imul, 1) := by decide +kernel
theorem dX12_text_86 : decode cX12_text 86 = .ok (.iadd, 1) := by decide +kernel
theorem dX12_text_87 : decode cX12_text 87 = .ok (.istore_n 3, 1) := by decide +kernel
theorem dX12_text_88 : decode cX12_text 88 = .ok (.aload_n 0, 1) := by decide +kernel
theorem dX12_text_89 : decode cX12_text 89 = .ok (.getfield 7, 3) := by decide +kernel
theorem dX12_text_92 : decode cX12_text 92 = .ok (.iload_n 3, 1) := by decide +kernel
theorem dX12_text_93 : decode cX12_text 93 = .ok (.aload_n 0, 1) := by decide +kernel
theorem dX12_text_94 : decode cX12_text 94 = .ok (.getfield 76, 3) := by decide +kernel
theorem dX12_text_97 : decode cX12_text 97 = .ok (.iastore, 1) := by decide +kernel
theorem dX12_text_98 : decode cX12_text 98 = .ok (.iconst 0, 1) := by decide +kernel
theorem dX12_text_99 : decode cX12_text 99 = .ok (.istore 4, 2) := by decide +kernel
theorem dX12_text_101 : decode cX12_text 101 = .ok (.iload 4, 2) := by decide +kernel
theorem dX12_text_103 : decode cX12_text 103 = .ok (.iconst 2, 1) := by decide +kernel
theorem dX12_text_104 : decode cX12_text 104 = .ok (.aload_n 0, 1) := by decide +kernel
theorem dX12_text_105 : decode cX12_text 105 = .ok (.getfield 76, 3) := by decide +kernel
theorem dX12_text_108 : decode cX12_text 108 = .ok (.imul, 1) := by decide +kernel
theorem dX12_text_109 : decode cX12_text 109 = .ok (.if_icmp .ge 27, 3) := by decide +kernel
theorem dX12_text_112 : decode cX12_text 112 = .ok (.aload_n 0, 1) := by decide +kernel
theorem dX12_text_113 : decode cX12_text 113 = .ok (.getfield 7, 3) := by decide +kernel
theorem dX12_text_116 : decode cX12_text 116 = .ok (.iload_n 3, 1) := by decide +kernel
theorem dX12_text_117 : decode cX12_text 117 = .ok (.iconst 1, 1) := by decide +kernel
theorem dX12_text_118 : decode cX12_text 118 = .ok (.iadd, 1) := by decide +kernel
theorem dX12_text_119 : decode cX12_text 119 = .ok (.iload 4, 2) := by decide +kernel
theorem dX12_text_121 : decode cX12_text 121 = .ok (.iadd, 1) := by decide +kernel
theorem dX12_text_122 : decode cX12_text 122 = .ok (.aload_n 0, 1) := by decide +kernel
theorem dX12_text_123 : decode cX12_text 123 = .ok (.getfield 19, 3) := by decide +kernel
theorem dX12_text_126 : decode cX12_text 126 = .ok (.iload 4, 2) := by decide +kernel
theorem dX12_text_128 : decode cX12_text 128 = .ok (.iaload, 1) := by decide +kernel
theorem dX12_text_129 : decode cX12_text 129 = .ok (.iastore, 1) := by decide +kernel
theorem dX12_text_130 : decode cX12_text 130 = .ok (.iinc 4 1, 3) := by decide +kernel
theorem dX12_text_133 : decode cX12_text 133 = .ok (.goto (-32), 3) := by decide +kernel
theorem dX12_text_136 : decode cX12_text 136 = .ok (.iconst 1, 1) := by decide +kernel
theorem dX12_text_137 : decode cX12_text 137 = .ok (.ireturn, 1) := by decide +kernel
theorem dX12_untell_0 : decode cX12_untell 0 = .ok (.iload_n 1, 1) := by decide +kernel
theorem dX12_untell_1 : decode cX12_untell 1 = .ok (.iconst 0, 1) := by decide +kernel
theorem dX12_untell_2 : decode cX12_untell 2 = .ok (.iconst 1, 1) := by decide +kernel
theorem dX12_untell_3 : decode cX12_untell 3 = .ok (.invokestatic 59, 3) := by decide +kernel
theorem dX12_untell_6 : decode cX12_untell 6 = .ok (.ifCond .ne 9, 3) := by decide +kernel
theorem dX12_untell_9 : decode cX12_untell 9 = .ok (.aload_n 0, 1) := by decide +kernel
theorem dX12_untell_10 : decode cX12_untell 10 = .ok (.iconst 1, 1) := by decide +kernel
theorem dX12_untell_11 : decode cX12_untell 11 = .ok (.invokevirtual 63, 3) := by decide +kernel
theorem dX12_untell_14 : decode cX12_untell 14 = .ok (.ireturn, 1) := by decide +kernel
theorem dX12_untell_15 : decode cX12_untell 15 = .ok (.aload_n 0, 1) := by decide +kernel
theorem dX12_untell_16 : decode cX12_untell 16 = .ok (.iload_n 1, 1) := by decide +kernel
theorem dX12_untell_17 : decode cX12_untell 17 = .ok (.invokevirtual 116, 3) := by decide +kernel
theorem dX12_untell_20 : decode cX12_untell 20 = .ok (.ifCond .eq 7, 3) := by decide +kernel
theorem dX12_untell_23 : decode cX12_untell 23 = .ok (.iconst 1, 1) := by decide +kernel
theorem dX12_untell_24 : decode cX12_untell 24 = .ok (.goto 4, 3) := by decide +kernel
theorem dX12_untell_27 : decode cX12_untell 27 = .ok (.iconst 0, 1) := by decide +kernel
theorem dX12_untell_28 : decode cX12_untell 28 = .ok (.istore_n 2, 1) := by decide +kernel
theorem dX12_untell_29 : decode cX12_untell 29 = .ok (.aload_n 0, 1) := by decide +kernel
theorem dX12_untell_30 : decode cX12_untell 30 = .ok (.getfield 7, 3) := by decide +kernel
theorem dX12_untell_33 : decode cX12_untell 33 = .ok (.bipush 40, 2) := by decide +kernel
theorem dX12_untell_35 : decode cX12_untell 35 = .ok (.bipush 125, 2) := by decide +kernel
theorem dX12_untell_37 : decode cX12_untell 37 = .ok (.iload_n 1, 1) := by decide +kernel
theorem dX12_untell_38 : decode cX12_untell 38 = .ok (.imul, 1) := by decide +kernel
theorem dX12_untell_39 : decode cX12_untell 39 = .ok (.iadd, 1) := by decide +kernel
theorem dX12_untell_40 : decode cX12_untell 40 = .ok (.iconst 0, 1) := by decide +kernel
theorem dX12_untell_41 : decode cX12_untell 41 = .ok (.iastore, 1) := by decide +kernel
theorem dX12_untell_42 : decode cX12_untell 42 = .ok (.iload_n 2, 1) := by decide +kernel
theorem dX12_untell_43 : decode cX12_untell 43 = .ok (.ireturn, 1) := by decide +kernel
theorem dX12_joined_0 : decode cX12_joined 0 = .ok (.iload_n 0, 1) := by decide +kernel
theorem dX12_joined_1 : decode cX12_joined 1 = .ok (.tableswitch 217 37 62 #[153, 203, 217, 217, 217, 127, 119, 217, 123, 217, 131, 217, 217, 217, 217, 217, 217, 217, 217, 217, 217, 217, 217, 170, 192, 181], 119) := by decide +kernel
theorem dX12_joined_120 : decode cX12_joined 120 = .ok (.iload_n 1, 1) := by decide +kernel
theorem dX12_joined_121 : decode cX12_joined 121 = .ok (.iload_n 2, 1) := by decide +kernel
theorem dX12_joined_122 : decode cX12_joined 122 = .ok (.iadd, 1) := by decide +kernel
theorem dX12_joined_123 : decode cX12_joined 123 = .ok (.ireturn, 1) := by decide +kernel
theorem dX12_joined_124 : decode cX12_joined 124 = .ok (.iload_n 1, 1) := by decide +kernel
theorem dX12_joined_125 : decode cX12_joined 125 = .ok (.iload_n 2, 1) := by decide +kernel
theorem dX12_joined_126 : decode cX12_joined 126 = .ok (.isub, 1) := by decide +kernel
theorem dX12_joined_127 : decode cX12_joined 127 = .ok (.ireturn, 1) := by decide +kernel
theorem dX12_joined_128 : decode cX12_joined 128 = .ok (.iload_n 1, 1) := by decide +kernel
theorem dX12_joined_129 : decode cX12_joined 129 = .ok (.iload_n 2, 1) := by decide +kernel
theorem dX12_joined_130 : decode cX12_joined 130 = .ok (.imul, 1) := by decide +kernel
theorem dX12_joined_131 : decode cX12_joined 131 = .ok (.ireturn, 1) := by decide +kernel
theorem dX12_joined_132 : decode cX12_joined 132 = .ok (.iload_n 2, 1) := by decide +kernel
theorem dX12_joined_133 : decode cX12_joined 133 = .ok (.ifCond .ne 7, 3) := by decide +kernel
theorem dX12_joined_136 : decode cX12_joined 136 = .ok (.iconst 0, 1) := by decide +kernel
theorem dX12_joined_137 : decode cX12_joined 137 = .ok (.goto 16, 3) := by decide +kernel
theorem dX12_joined_140 : decode cX12_joined 140 = .ok (.iload_n 2, 1) := by decide +kernel
theorem dX12_joined_141 : decode cX12_joined 141 = .ok (.iconst (-1), 1) := by decide +kernel
theorem dX12_joined_142 : decode cX12_joined 142 = .ok (.if_icmp .ne 8, 3) := by decide +kernel
theorem dX12_joined_145 : decode cX12_joined 145 = .ok (.iload_n 1, 1) := by decide +kernel
theorem dX12_joined_146 : decode cX12_joined 146 = .ok (.ineg, 1) := by decide +kernel
theorem dX12_joined_147 : decode cX12_joined 147 = .ok (.goto 6, 3) := by decide +kernel
theorem dX12_joined_150 : decode cX12_joined 150 = .ok (.iload_n 1, 1) := by decide +kernel
theorem dX12_joined_151 : decode cX12_joined 151 = .ok (.iload_n 2, 1) := by decide +kernel
theorem dX12_joined_152 : decode cX12_joined 152 = .ok (.idiv, 1) := by decide +kernel
theorem dX12_joined_153 : decode cX12_joined 153 = .ok (.ireturn, 1) := by decide +kernel
theorem dX12_joined_154 : decode cX12_joined 154 = .ok (.iload_n 2, 1) := by decide +kernel
theorem dX12_joined_155 : decode cX12_joined 155 = .ok (.ifCond .eq 8, 3) := by decide +kernel
theorem dX12_joined_158 : decode cX12_joined 158 = .ok (.iload_n 2, 1) := by decide +kernel
theorem dX12_joined_159 : decode cX12_joined 159 = .ok (.iconst (-1), 1) := by decide +kernel
theorem dX12_joined_160 : decode cX12_joined 160 = .ok (.if_icmp .ne 7, 3) := by decide +kernel
theorem dX12_joined_163 : decode cX12_joined 163 = .ok (.iconst 0, 1) := by decide +kernel
theorem dX12_joined_164 : decode cX12_joined 164 = .ok (.goto 6, 3) := by decide +kernel
theorem dX12_joined_167 : decode cX12_joined 167 = .ok (.iload_n 1, 1) := by decide +kernel
theorem dX12_joined_168 : decode cX12_joined 168 = .ok (.iload_n 2, 1) := by decide +kernel
theorem dX12_joined_169 : decode cX12_joined 169 = .ok (.irem, 1) := by decide +kernel
theorem dX12_joined_170 : decode cX12_joined 170 = .ok (.ireturn, 1) := by decide +kernel
theorem dX12_joined_171 : decode cX12_joined 171 = .ok (.iload_n 1, 1) := by decide +kernel
theorem dX12_joined_172 : decode cX12_joined 172 = .ok (.iload_n 2, 1) := by decide +kernel
theorem dX12_joined_173 : decode cX12_joined 173 = .ok (.if_icmp .ge 7, 3) := by decide +kernel
theorem dX12_joined_176 : decode cX12_joined 176 = .ok (.iconst 1, 1) := by decide +kernel
theorem dX12_joined_177 : decode cX12_joined 177 = .ok (.goto 4, 3) := by decide +kernel
theorem dX12_joined_180 : decode cX12_joined 180 = .ok (.iconst 0, 1) := by decide +kernel
theorem dX12_joined_181 : decode cX12_joined 181 = .ok (.ireturn, 1) := by decide +kernel
theorem dX12_joined_182 : decode cX12_joined 182 = .ok (.iload_n 1, 1) := by decide +kernel
theorem dX12_joined_183 : decode cX12_joined 183 = .ok (.iload_n 2, 1) := by decide +kernel
theorem dX12_joined_184 : decode cX12_joined 184 = .ok (.if_icmp .le 7, 3) := by decide +kernel
theorem dX12_joined_187 : decode cX12_joined 187 = .ok (.iconst 1, 1) := by decide +kernel
theorem dX12_joined_188 : decode cX12_joined 188 = .ok (.goto 4, 3) := by decide +kernel
theorem dX12_joined_191 : decode cX12_joined 191 = .ok (.iconst 0, 1) := by decide +kernel
theorem dX12_joined_192 : decode cX12_joined 192 = .ok (.ireturn, 1) := by decide +kernel
theorem dX12_joined_193 : decode cX12_joined 193 = .ok (.iload_n 1, 1) := by decide +kernel
theorem dX12_joined_194 : decode cX12_joined 194 = .ok (.iload_n 2, 1) := by decide +kernel
theorem dX12_joined_195 : decode cX12_joined 195 = .ok (.if_icmp .ne 7, 3) := by decide +kernel
theorem dX12_joined_198 : decode cX12_joined 198 = .ok (.iconst 1, 1) := by decide +kernel
theorem dX12_joined_199 : decode cX12_joined 199 = .ok (.goto 4, 3) := by decide +kernel
theorem dX12_joined_202 : decode cX12_joined 202 = .ok (.iconst 0, 1) := by decide +kernel
theorem dX12_joined_203 : decode cX12_joined 203 = .ok (.ireturn, 1) := by decide +kernel
theorem dX12_joined_204 : decode cX12_joined 204 = .ok (.iload_n 1, 1) := by decide +kernel
theorem dX12_joined_205 : decode cX12_joined 205 = .ok (.ifCond .eq 11, 3) := by decide +kernel
theorem dX12_joined_208 : decode cX12_joined 208 = .ok (.iload_n 2, 1) := by decide +kernel
theorem dX12_joined_209 : decode cX12_joined 209 = .ok (.ifCond .eq 7, 3) := by decide +kernel
theorem dX12_joined_212 : decode cX12_joined 212 = .ok (.iconst 1, 1) := by decide +kernel
theorem dX12_joined_213 : decode cX12_joined 213 = .ok (.goto 4, 3) := by decide +kernel
theorem dX12_joined_216 : decode cX12_joined 216 = .ok (.iconst 0, 1) := by decide +kernel
theorem dX12_joined_217 : decode cX12_joined 217 = .ok (.ireturn, 1) := by decide +kernel
theorem dX12_joined_218 : decode cX12_joined 218 = .ok (.iload_n 1, 1) := by decide +kernel
theorem dX12_joined_219 : decode cX12_joined 219 = .ok (.ifCond .ne 7, 3) := by decide +kernel
theorem dX12_joined_222 : decode cX12_joined 222 = .ok (.iload_n 2, 1) := by decide +kernel
theorem dX12_joined_223 : decode cX12_joined 223 = .ok (.ifCond .eq 7, 3) := by decide +kernel
theorem dX12_joined_226 : decode cX12_joined 226 = .ok (.iconst 1, 1) := by decide +kernel
theorem dX12_joined_227 : decode cX12_joined 227 = .ok (.goto 4, 3) := by decide +kernel
theorem dX12_joined_230 : decode cX12_joined 230 = .ok (.iconst 0, 1) := by decide +kernel
theorem dX12_joined_231 : decode cX12_joined 231 = .ok (.ireturn, 1) := by decide +kernel
theorem dX12_worked_0 : decode cX12_worked 0 = .ok (.bipush 40, 2) := by decide +kernel
theorem dX12_worked_2 : decode cX12_worked 2 = .ok (.bipush 125, 2) := by decide +kernel
theorem dX12_worked_4 : decode cX12_worked 4 = .ok (.iload_n 1, 1) := by decide +kernel
theorem dX12_worked_5 : decode cX12_worked 5 = .ok (.imul, 1) := by decide +kernel
theorem dX12_worked_6 : decode cX12_worked 6 = .ok (.iadd, 1) := by decide +kernel
theorem dX12_worked_7 : decode cX12_worked 7 = .ok (.istore_n 2, 1) := by decide +kernel
theorem dX12_worked_8 : decode cX12_worked 8 = .ok (.iconst 0, 1) := by decide +kernel
theorem dX12_worked_9 : decode cX12_worked 9 = .ok (.istore_n 3, 1) := by decide +kernel
theorem dX12_worked_10 : decode cX12_worked 10 = .ok (.iconst 0, 1) := by decide +kernel
theorem dX12_worked_11 : decode cX12_worked 11 = .ok (.istore 4, 2) := by decide +kernel
theorem dX12_worked_13 : decode cX12_worked 13 = .ok (.iload 4, 2) := by decide +kernel
theorem dX12_worked_15 : decode cX12_worked 15 = .ok (.aload_n 0, 1) := by decide +kernel
theorem dX12_worked_16 : decode cX12_worked 16 = .ok (.getfield 7, 3) := by decide +kernel
theorem dX12_worked_19 : decode cX12_worked 19 = .ok (.iload_n 2, 1) := by decide +kernel
theorem dX12_worked_20 : decode cX12_worked 20 = .ok (.iaload, 1) := by decide +kernel
theorem dX12_worked_21 : decode cX12_worked 21 = .ok (.if_icmp .ge 142, 3) := by decide +kernel
theorem dX12_worked_24 : decode cX12_worked 24 = .ok (.aload_n 0, 1) := by decide +kernel
theorem dX12_worked_25 : decode cX12_worked 25 = .ok (.getfield 7, 3) := by decide +kernel
theorem dX12_worked_28 : decode cX12_worked 28 = .ok (.iload_n 2, 1) := by decide +kernel
theorem dX12_worked_29 : decode cX12_worked 29 = .ok (.iconst 1, 1) := by decide +kernel
theorem dX12_worked_30 : decode cX12_worked 30 = .ok (.iadd, 1) := by decide +kernel
theorem dX12_worked_31 : decode cX12_worked 31 = .ok (.iconst 2, 1) := by decide +kernel
theorem dX12_worked_32 : decode cX12_worked 32 = .ok (.iload 4, 2) := by decide +kernel
theorem dX12_worked_34 : decode cX12_worked 34 = .ok (.imul, 1) := by decide +kernel
theorem dX12_worked_35 : decode cX12_worked 35 = .ok (.iadd, 1) := by decide +kernel
theorem dX12_worked_36 : decode cX12_worked 36 = .ok (.iaload, 1) := by decide +kernel
theorem dX12_worked_37 : decode cX12_worked 37 = .ok (.istore 5, 2) := by decide +kernel
theorem dX12_worked_39 : decode cX12_worked 39 = .ok (.aload_n 0, 1) := by decide +kernel
theorem dX12_worked_40 : decode cX12_worked 40 = .ok (.getfield 7, 3) := by decide +kernel
theorem dX12_worked_43 : decode cX12_worked 43 = .ok (.iload_n 2, 1) := by decide +kernel
theorem dX12_worked_44 : decode cX12_worked 44 = .ok (.iconst 2, 1) := by decide +kernel
theorem dX12_worked_45 : decode cX12_worked 45 = .ok (.iadd, 1) := by decide +kernel
theorem dX12_worked_46 : decode cX12_worked 46 = .ok (.iconst 2, 1) := by decide +kernel
theorem dX12_worked_47 : decode cX12_worked 47 = .ok (.iload 4, 2) := by decide +kernel
theorem dX12_worked_49 : decode cX12_worked 49 = .ok (.imul, 1) := by decide +kernel
theorem dX12_worked_50 : decode cX12_worked 50 = .ok (.iadd, 1) := by decide +kernel
theorem dX12_worked_51 : decode cX12_worked 51 = .ok (.iaload, 1) := by decide +kernel
theorem dX12_worked_52 : decode cX12_worked 52 = .ok (.istore 6, 2) := by decide +kernel
theorem dX12_worked_54 : decode cX12_worked 54 = .ok (.iload 5, 2) := by decide +kernel
theorem dX12_worked_56 : decode cX12_worked 56 = .ok (.ifCond .eq 9, 3) := by decide +kernel
theorem dX12_worked_59 : decode cX12_worked 59 = .ok (.iload 5, 2) := by decide +kernel
theorem dX12_worked_61 : decode cX12_worked 61 = .ok (.iconst 1, 1) := by decide +kernel
theorem dX12_worked_62 : decode cX12_worked 62 = .ok (.if_icmp .ne 32, 3) := by decide +kernel
theorem dX12_worked_65 : decode cX12_worked 65 = .ok (.aload_n 0, 1) := by decide +kernel
theorem dX12_worked_66 : decode cX12_worked 66 = .ok (.getfield 25, 3) := by decide +kernel
theorem dX12_worked_69 : decode cX12_worked 69 = .ok (.iload_n 3, 1) := by decide +kernel
theorem dX12_worked_70 : decode cX12_worked 70 = .ok (.iload 5, 2) := by decide +kernel
theorem dX12_worked_72 : decode cX12_worked 72 = .ok (.ifCond .ne 8, 3) := by decide +kernel
theorem dX12_worked_75 : decode cX12_worked 75 = .ok (.iload 6, 2) := by decide +kernel
theorem dX12_worked_77 : decode cX12_worked 77 = .ok (.goto 10, 3) := by decide +kernel
theorem dX12_worked_80 : decode cX12_worked 80 = .ok (.aload_n 0, 1) := by decide +kernel
theorem dX12_worked_81 : decode cX12_worked 81 = .ok (.getfield 22, 3) := by decide +kernel
theorem dX12_worked_84 : decode cX12_worked 84 = .ok (.iload 6, 2) := by decide +kernel
theorem dX12_worked_86 : decode cX12_worked 86 = .ok (.iaload, 1) := by decide +kernel
theorem dX12_worked_87 : decode cX12_worked 87 = .ok (.iastore, 1) := by decide +kernel
theorem dX12_worked_88 : decode cX12_worked 88 = .ok (.iinc 3 1, 3) := by decide +kernel
theorem dX12_worked_91 : decode cX12_worked 91 = .ok (.goto 66, 3) := by decide +kernel
theorem dX12_worked_94 : decode cX12_worked 94 = .ok (.iload 5, 2) := by decide +kernel
theorem dX12_worked_96 : decode cX12_worked 96 = .ok (.iconst 2, 1) := by decide +kernel
theorem dX12_worked_97 : decode cX12_worked 97 = .ok (.if_icmp .ne 30, 3) := by decide +kernel
theorem dX12_worked_100 : decode cX12_worked 100 = .ok (.aload_n 0, 1) := by decide +kernel
theorem dX12_worked_101 : decode cX12_worked 101 = .ok (.getfield 25, 3) := by decide +kernel
theorem dX12_worked_104 : decode cX12_worked 104 = .ok (.iload_n 3, 1) := by decide +kernel
theorem dX12_worked_105 : decode cX12_worked 105 = .ok (.iconst 1, 1) := by decide +kernel
theorem dX12_worked_106 : decode cX12_worked 106 = .ok (.isub, 1) := by decide +kernel
theorem dX12_worked_107 : decode cX12_worked 107 = .ok (.aload_n 0, 1) := by decide +kernel
theorem dX12_worked_108 : decode cX12_worked 108 = .ok (.getfield 25, 3) := by decide +kernel
theorem dX12_worked_111 : decode cX12_worked 111 = .ok (.iload_n 3, 1) := by decide +kernel
theorem dX12_worked_112 : decode cX12_worked 112 = .ok (.iconst 1, 1) := by decide +kernel
theorem dX12_worked_113 : decode cX12_worked 113 = .ok (.isub, 1) := by decide +kernel
theorem dX12_worked_114 : decode cX12_worked 114 = .ok (.iaload, 1) := by decide +kernel
theorem dX12_worked_115 : decode cX12_worked 115 = .ok (.ifCond .ne 7, 3) := by decide +kernel
theorem dX12_worked_118 : decode cX12_worked 118 = .ok (.iconst 1, 1) := by decide +kernel
theorem dX12_worked_119 : decode cX12_worked 119 = .ok (.goto 4, 3) := by decide +kernel
theorem dX12_worked_122 : decode cX12_worked 122 = .ok (.iconst 0, 1) := by decide +kernel
theorem dX12_worked_123 : decode cX12_worked 123 = .ok (.iastore, 1) := by decide +kernel
theorem dX12_worked_124 : decode cX12_worked 124 = .ok (.goto 33, 3) := by decide +kernel
theorem dX12_worked_127 : decode cX12_worked 127 = .ok (.iinc 3 (-1), 3) := by decide +kernel
theorem dX12_worked_130 : decode cX12_worked 130 = .ok (.aload_n 0, 1) := by decide +kernel
theorem dX12_worked_131 : decode cX12_worked 131 = .ok (.getfield 25, 3) := by decide +kernel
theorem dX12_worked_134 : decode cX12_worked 134 = .ok (.iload_n 3, 1) := by decide +kernel
theorem dX12_worked_135 : decode cX12_worked 135 = .ok (.iconst 1, 1) := by decide +kernel
theorem dX12_worked_136 : decode cX12_worked 136 = .ok (.isub, 1) := by decide +kernel
theorem dX12_worked_137 : decode cX12_worked 137 = .ok (.iload 6, 2) := by decide +kernel
theorem dX12_worked_139 : decode cX12_worked 139 = .ok (.aload_n 0, 1) := by decide +kernel
theorem dX12_worked_140 : decode cX12_worked 140 = .ok (.getfield 25, 3) := by decide +kernel
theorem dX12_worked_143 : decode cX12_worked 143 = .ok (.iload_n 3, 1) := by decide +kernel
theorem dX12_worked_144 : decode cX12_worked 144 = .ok (.iconst 1, 1) := by decide +kernel
theorem dX12_worked_145 : decode cX12_worked 145 = .ok (.isub, 1) := by decide +kernel
theorem dX12_worked_146 : decode cX12_worked 146 = .ok (.iaload, 1) := by decide +kernel
theorem dX12_worked_147 : decode cX12_worked 147 = .ok (.aload_n 0, 1) := by decide +kernel
theorem dX12_worked_148 : decode cX12_worked 148 = .ok (.getfield 25, 3) := by decide +kernel
theorem dX12_worked_151 : decode cX12_worked 151 = .ok (.iload_n 3, 1) := by decide +kernel
theorem dX12_worked_152 : decode cX12_worked 152 = .ok (.iaload, 1) := by decide +kernel
theorem dX12_worked_153 : decode cX12_worked 153 = .ok (.invokestatic 119, 3) := by decide +kernel
theorem dX12_worked_156 : decode cX12_worked 156 = .ok (.iastore, 1) := by decide +kernel
theorem dX12_worked_157 : decode cX12_worked 157 = .ok (.iinc 4 1, 3) := by decide +kernel
theorem dX12_worked_160 : decode cX12_worked 160 = .ok (.goto (-147), 3) := by decide +kernel
theorem dX12_worked_163 : decode cX12_worked 163 = .ok (.aload_n 0, 1) := by decide +kernel
theorem dX12_worked_164 : decode cX12_worked 164 = .ok (.getfield 25, 3) := by decide +kernel
theorem dX12_worked_167 : decode cX12_worked 167 = .ok (.iconst 0, 1) := by decide +kernel
theorem dX12_worked_168 : decode cX12_worked 168 = .ok (.iaload, 1) := by decide +kernel
theorem dX12_worked_169 : decode cX12_worked 169 = .ok (.ireturn, 1) := by decide +kernel
theorem dX12_added_0 : decode cX12_added 0 = .ok (.iconst 0, 1) := by decide +kernel
theorem dX12_added_1 : decode cX12_added 1 = .ok (.istore_n 2, 1) := by decide +kernel
theorem dX12_added_2 : decode cX12_added 2 = .ok (.iload_n 0, 1) := by decide +kernel
theorem dX12_added_3 : decode cX12_added 3 = .ok (.istore_n 3, 1) := by decide +kernel
theorem dX12_added_4 : decode cX12_added 4 = .ok (.iload_n 3, 1) := by decide +kernel
theorem dX12_added_5 : decode cX12_added 5 = .ok (.ifCond .le 16, 3) := by decide +kernel
theorem dX12_added_8 : decode cX12_added 8 = .ok (.iload_n 2, 1) := by decide +kernel
theorem dX12_added_9 : decode cX12_added 9 = .ok (.iload_n 3, 1) := by decide +kernel
theorem dX12_added_10 : decode cX12_added 10 = .ok (.iload_n 1, 1) := by decide +kernel
theorem dX12_added_11 : decode cX12_added 11 = .ok (.irem, 1) := by decide +kernel
theorem dX12_added_12 : decode cX12_added 12 = .ok (.iadd, 1) := by decide +kernel
theorem dX12_added_13 : decode cX12_added 13 = .ok (.istore_n 2, 1) := by decide +kernel
theorem dX12_added_14 : decode cX12_added 14 = .ok (.iload_n 3, 1) := by decide +kernel
theorem dX12_added_15 : decode cX12_added 15 = .ok (.iload_n 1, 1) := by decide +kernel
theorem dX12_added_16 : decode cX12_added 16 = .ok (.idiv, 1) := by decide +kernel
theorem dX12_added_17 : decode cX12_added 17 = .ok (.istore_n 3, 1) := by decide +kernel
theorem dX12_added_18 : decode cX12_added 18 = .ok (.goto (-14), 3) := by decide +kernel
theorem dX12_added_21 : decode cX12_added 21 = .ok (.iload_n 2, 1) := by decide +kernel
theorem dX12_added_22 : decode cX12_added 22 = .ok (.ireturn, 1) := by decide +kernel
theorem dX12_rooted_0 : decode cX12_rooted 0 = .ok (.iload_n 0, 1) := by decide +kernel
theorem dX12_rooted_1 : decode cX12_rooted 1 = .ok (.iload_n 1, 1) := by decide +kernel
theorem dX12_rooted_2 : decode cX12_rooted 2 = .ok (.invokestatic 123, 3) := by decide +kernel
theorem dX12_rooted_5 : decode cX12_rooted 5 = .ok (.istore_n 2, 1) := by decide +kernel
theorem dX12_rooted_6 : decode cX12_rooted 6 = .ok (.iload_n 2, 1) := by decide +kernel
theorem dX12_rooted_7 : decode cX12_rooted 7 = .ok (.iload_n 1, 1) := by decide +kernel
theorem dX12_rooted_8 : decode cX12_rooted 8 = .ok (.if_icmp .lt 12, 3) := by decide +kernel
theorem dX12_rooted_11 : decode cX12_rooted 11 = .ok (.iload_n 2, 1) := by decide +kernel
theorem dX12_rooted_12 : decode cX12_rooted 12 = .ok (.iload_n 1, 1) := by decide +kernel
theorem dX12_rooted_13 : decode cX12_rooted 13 = .ok (.invokestatic 123, 3) := by decide +kernel
theorem dX12_rooted_16 : decode cX12_rooted 16 = .ok (.istore_n 2, 1) := by decide +kernel
theorem dX12_rooted_17 : decode cX12_rooted 17 = .ok (.goto (-11), 3) := by decide +kernel
theorem dX12_rooted_20 : decode cX12_rooted 20 = .ok (.iload_n 2, 1) := by decide +kernel
theorem dX12_rooted_21 : decode cX12_rooted 21 = .ok (.ireturn, 1) := by decide +kernel
theorem dX12_asked_0 : decode cX12_asked 0 = .ok (.iload_n 3, 1) := by decide +kernel
theorem dX12_asked_1 : decode cX12_asked 1 = .ok (.ifCond .ne 5, 3) := by decide +kernel
theorem dX12_asked_4 : decode cX12_asked 4 = .ok (.iconst 0, 1) := by decide +kernel
theorem dX12_asked_5 : decode cX12_asked 5 = .ok (.ireturn, 1) := by decide +kernel
theorem dX12_asked_6 : decode cX12_asked 6 = .ok (.aload_n 0, 1) := by decide +kernel
theorem dX12_asked_7 : decode cX12_asked 7 = .ok (.iload_n 1, 1) := by decide +kernel
theorem dX12_asked_8 : decode cX12_asked 8 = .ok (.invokevirtual 127, 3) := by decide +kernel
theorem dX12_asked_11 : decode cX12_asked 11 = .ok (.istore 4, 2) := by decide +kernel
theorem dX12_asked_13 : decode cX12_asked 13 = .ok (.iload_n 2, 1) := by decide +kernel
theorem dX12_asked_14 : decode cX12_asked 14 = .ok (.bipush 10, 2) := by decide +kernel
theorem dX12_asked_16 : decode cX12_asked 16 = .ok (.invokestatic 123, 3) := by decide +kernel
theorem dX12_asked_19 : decode cX12_asked 19 = .ok (.istore 5, 2) := by decide +kernel
theorem dX12_asked_21 : decode cX12_asked 21 = .ok (.aload_n 0, 1) := by decide +kernel
theorem dX12_asked_22 : decode cX12_asked 22 = .ok (.iload_n 1, 1) := by decide +kernel
theorem dX12_asked_23 : decode cX12_asked 23 = .ok (.invokevirtual 130, 3) := by decide +kernel
theorem dX12_asked_26 : decode cX12_asked 26 = .ok (.tableswitch 151 1 6 #[38, 47, 58, 72, 85, 108], 38) := by decide +kernel
theorem dX12_asked_64 : decode cX12_asked 64 = .ok (.iload_n 2, 1) := by decide +kernel
theorem dX12_asked_65 : decode cX12_asked 65 = .ok (.bipush 10, 2) := by decide +kernel
theorem dX12_asked_67 : decode cX12_asked 67 = .ok (.irem, 1) := by decide +kernel
theorem dX12_asked_68 : decode cX12_asked 68 = .ok (.istore 5, 2) := by decide +kernel
theorem dX12_asked_70 : decode cX12_asked 70 = .ok (.goto 107, 3) := by decide +kernel
theorem dX12_asked_73 : decode cX12_asked 73 = .ok (.iload_n 2, 1) := by decide +kernel
theorem dX12_asked_74 : decode cX12_asked 74 = .ok (.bipush 10, 2) := by decide +kernel
theorem dX12_asked_76 : decode cX12_asked 76 = .ok (.invokestatic 133, 3) := by decide +kernel
theorem dX12_asked_79 : decode cX12_asked 79 = .ok (.istore 5, 2) := by decide +kernel
theorem dX12_asked_81 : decode cX12_asked 81 = .ok (.goto 96, 3) := by decide +kernel
theorem dX12_asked_84 : decode cX12_asked 84 = .ok (.iload_n 2, 1) := by decide +kernel
theorem dX12_asked_85 : decode cX12_asked 85 = .ok (.iload 4, 2) := by decide +kernel
theorem dX12_asked_87 : decode cX12_asked 87 = .ok (.iadd, 1) := by decide +kernel
theorem dX12_asked_88 : decode cX12_asked 88 = .ok (.bipush 10, 2) := by decide +kernel
theorem dX12_asked_90 : decode cX12_asked 90 = .ok (.invokestatic 123, 3) := by decide +kernel
theorem dX12_asked_93 : decode cX12_asked 93 = .ok (.istore 5, 2) := by decide +kernel
theorem dX12_asked_95 : decode cX12_asked 95 = .ok (.goto 82, 3) := by decide +kernel
theorem dX12_asked_98 : decode cX12_asked 98 = .ok (.iload_n 2, 1) := by decide +kernel
theorem dX12_asked_99 : decode cX12_asked 99 = .ok (.iload 4, 2) := by decide +kernel
theorem dX12_asked_101 : decode cX12_asked 101 = .ok (.iconst 2, 1) := by decide +kernel
theorem dX12_asked_102 : decode cX12_asked 102 = .ok (.iadd, 1) := by decide +kernel
theorem dX12_asked_103 : decode cX12_asked 103 = .ok (.invokestatic 133, 3) := by decide +kernel
theorem dX12_asked_106 : decode cX12_asked 106 = .ok (.istore 5, 2) := by decide +kernel
theorem dX12_asked_108 : decode cX12_asked 108 = .ok (.goto 69, 3) := by decide +kernel
theorem dX12_asked_111 : decode cX12_asked 111 = .ok (.iload_n 2, 1) := by decide +kernel
theorem dX12_asked_112 : decode cX12_asked 112 = .ok (.bipush 10, 2) := by decide +kernel
theorem dX12_asked_114 : decode cX12_asked 114 = .ok (.irem, 1) := by decide +kernel
theorem dX12_asked_115 : decode cX12_asked 115 = .ok (.iload 4, 2) := by decide +kernel
theorem dX12_asked_117 : decode cX12_asked 117 = .ok (.if_icmp .ge 8, 3) := by decide +kernel
theorem dX12_asked_120 : decode cX12_asked 120 = .ok (.iload 4, 2) := by decide +kernel
theorem dX12_asked_122 : decode cX12_asked 122 = .ok (.goto 7, 3) := by decide +kernel
theorem dX12_asked_125 : decode cX12_asked 125 = .ok (.iload_n 2, 1) := by decide +kernel
theorem dX12_asked_126 : decode cX12_asked 126 = .ok (.bipush 10, 2) := by decide +kernel
theorem dX12_asked_128 : decode cX12_asked 128 = .ok (.irem, 1) := by decide +kernel
theorem dX12_asked_129 : decode cX12_asked 129 = .ok (.istore 5, 2) := by decide +kernel
theorem dX12_asked_131 : decode cX12_asked 131 = .ok (.goto 46, 3) := by decide +kernel
theorem dX12_asked_134 : decode cX12_asked 134 = .ok (.aload_n 0, 1) := by decide +kernel
theorem dX12_asked_135 : decode cX12_asked 135 = .ok (.iconst 0, 1) := by decide +kernel
theorem dX12_asked_136 : decode cX12_asked 136 = .ok (.invokevirtual 116, 3) := by decide +kernel
theorem dX12_asked_139 : decode cX12_asked 139 = .ok (.ifCond .eq 38, 3) := by decide +kernel
theorem dX12_asked_142 : decode cX12_asked 142 = .ok (.aload_n 0, 1) := by decide +kernel
theorem dX12_asked_143 : decode cX12_asked 143 = .ok (.getfield 22, 3) := by decide +kernel
theorem dX12_asked_146 : decode cX12_asked 146 = .ok (.bipush 115, 2) := by decide +kernel
theorem dX12_asked_148 : decode cX12_asked 148 = .ok (.iload_n 2, 1) := by decide +kernel
theorem dX12_asked_149 : decode cX12_asked 149 = .ok (.iastore, 1) := by decide +kernel
theorem dX12_asked_150 : decode cX12_asked 150 = .ok (.aload_n 0, 1) := by decide +kernel
theorem dX12_asked_151 : decode cX12_asked 151 = .ok (.getfield 22, 3) := by decide +kernel
theorem dX12_asked_154 : decode cX12_asked 154 = .ok (.bipush 107, 2) := by decide +kernel
theorem dX12_asked_156 : decode cX12_asked 156 = .ok (.iload_n 3, 1) := by decide +kernel
theorem dX12_asked_157 : decode cX12_asked 157 = .ok (.iastore, 1) := by decide +kernel
theorem dX12_asked_158 : decode cX12_asked 158 = .ok (.aload_n 0, 1) := by decide +kernel
theorem dX12_asked_159 : decode cX12_asked 159 = .ok (.getfield 22, 3) := by decide +kernel
theorem dX12_asked_162 : decode cX12_asked 162 = .ok (.bipush 109, 2) := by decide +kernel
theorem dX12_asked_164 : decode cX12_asked 164 = .ok (.iload 4, 2) := by decide +kernel
theorem dX12_asked_166 : decode cX12_asked 166 = .ok (.iastore, 1) := by decide +kernel
theorem dX12_asked_167 : decode cX12_asked 167 = .ok (.aload_n 0, 1) := by decide +kernel
theorem dX12_asked_168 : decode cX12_asked 168 = .ok (.iconst 0, 1) := by decide +kernel
theorem dX12_asked_169 : decode cX12_asked 169 = .ok (.invokevirtual 136, 3) := by decide +kernel
theorem dX12_asked_172 : decode cX12_asked 172 = .ok (.istore 5, 2) := by decide +kernel
theorem dX12_asked_174 : decode cX12_asked 174 = .ok (.goto 3, 3) := by decide +kernel
theorem dX12_asked_177 : decode cX12_asked 177 = .ok (.iload 5, 2) := by decide +kernel
theorem dX12_asked_179 : decode cX12_asked 179 = .ok (.iconst 0, 1) := by decide +kernel
theorem dX12_asked_180 : decode cX12_asked 180 = .ok (.sipush 9999, 3) := by decide +kernel
theorem dX12_asked_183 : decode cX12_asked 183 = .ok (.invokestatic 139, 3) := by decide +kernel
theorem dX12_asked_186 : decode cX12_asked 186 = .ok (.ireturn, 1) := by decide +kernel
theorem dX12_values_0 : decode cX12_values 0 = .ok (.aload_n 0, 1) := by decide +kernel
theorem dX12_values_1 : decode cX12_values 1 = .ok (.iconst 1, 1) := by decide +kernel
theorem dX12_values_2 : decode cX12_values 2 = .ok (.invokevirtual 116, 3) := by decide +kernel
theorem dX12_values_5 : decode cX12_values 5 = .ok (.ifCond .ne 5, 3) := by decide +kernel
theorem dX12_values_8 : decode cX12_values 8 = .ok (.iconst 0, 1) := by decide +kernel
theorem dX12_values_9 : decode cX12_values 9 = .ok (.ireturn, 1) := by decide +kernel
theorem dX12_values_10 : decode cX12_values 10 = .ok (.aload_n 0, 1) := by decide +kernel
theorem dX12_values_11 : decode cX12_values 11 = .ok (.getfield 22, 3) := by decide +kernel
theorem dX12_values_14 : decode cX12_values 14 = .ok (.bipush 116, 2) := by decide +kernel
theorem dX12_values_16 : decode cX12_values 16 = .ok (.iload_n 1, 1) := by decide +kernel
theorem dX12_values_17 : decode cX12_values 17 = .ok (.iastore, 1) := by decide +kernel
theorem dX12_values_18 : decode cX12_values 18 = .ok (.aload_n 0, 1) := by decide +kernel
theorem dX12_values_19 : decode cX12_values 19 = .ok (.getfield 22, 3) := by decide +kernel
theorem dX12_values_22 : decode cX12_values 22 = .ok (.bipush 112, 2) := by decide +kernel
theorem dX12_values_24 : decode cX12_values 24 = .ok (.aload_n 0, 1) := by decide +kernel
theorem dX12_values_25 : decode cX12_values 25 = .ok (.getfield 7, 3) := by decide +kernel
theorem dX12_values_28 : decode cX12_values 28 = .ok (.bipush 8, 2) := by decide +kernel
theorem dX12_values_30 : decode cX12_values 30 = .ok (.iload_n 1, 1) := by decide +kernel
theorem dX12_values_31 : decode cX12_values 31 = .ok (.iadd, 1) := by decide +kernel
theorem dX12_values_32 : decode cX12_values 32 = .ok (.iaload, 1) := by decide +kernel
theorem dX12_values_33 : decode cX12_values 33 = .ok (.iastore, 1) := by decide +kernel
theorem dX12_values_34 : decode cX12_values 34 = .ok (.aload_n 0, 1) := by decide +kernel
theorem dX12_values_35 : decode cX12_values 35 = .ok (.getfield 22, 3) := by decide +kernel
theorem dX12_values_38 : decode cX12_values 38 = .ok (.bipush 99, 2) := by decide +kernel
theorem dX12_values_40 : decode cX12_values 40 = .ok (.aload_n 0, 1) := by decide +kernel
theorem dX12_values_41 : decode cX12_values 41 = .ok (.getfield 7, 3) := by decide +kernel
theorem dX12_values_44 : decode cX12_values 44 = .ok (.bipush 16, 2) := by decide +kernel
theorem dX12_values_46 : decode cX12_values 46 = .ok (.iload_n 1, 1) := by decide +kernel
theorem dX12_values_47 : decode cX12_values 47 = .ok (.iadd, 1) := by decide +kernel
theorem dX12_values_48 : decode cX12_values 48 = .ok (.iaload, 1) := by decide +kernel
theorem dX12_values_49 : decode cX12_values 49 = .ok (.iastore, 1) := by decide +kernel
theorem dX12_values_50 : decode cX12_values 50 = .ok (.aload_n 0, 1) := by decide +kernel
theorem dX12_values_51 : decode cX12_values 51 = .ok (.iconst 1, 1) := by decide +kernel
theorem dX12_values_52 : decode cX12_values 52 = .ok (.invokevirtual 136, 3) := by decide +kernel
theorem dX12_values_55 : decode cX12_values 55 = .ok (.iconst 0, 1) := by decide +kernel
theorem dX12_values_56 : decode cX12_values 56 = .ok (.bipush 99, 2) := by decide +kernel
theorem dX12_values_58 : decode cX12_values 58 = .ok (.invokestatic 139, 3) := by decide +kernel
theorem dX12_values_61 : decode cX12_values 61 = .ok (.ireturn, 1) := by decide +kernel
theorem dX12_many_0 : decode cX12_many 0 = .ok (.iconst 0, 1) := by decide +kernel
theorem dX12_many_1 : decode cX12_many 1 = .ok (.istore_n 1, 1) := by decide +kernel
theorem dX12_many_2 : decode cX12_many 2 = .ok (.iconst 0, 1) := by decide +kernel
theorem dX12_many_3 : decode cX12_many 3 = .ok (.istore_n 2, 1) := by decide +kernel
theorem dX12_many_4 : decode cX12_many 4 = .ok (.iload_n 2, 1) := by decide +kernel
theorem dX12_many_5 : decode cX12_many 5 = .ok (.bipush 8, 2) := by decide +kernel
theorem dX12_many_7 : decode cX12_many 7 = .ok (.if_icmp .ge 15, 3) := by decide +kernel
theorem dX12_many_10 : decode cX12_many 10 = .ok (.iload_n 1, 1) := by decide +kernel
theorem dX12_many_11 : decode cX12_many 11 = .ok (.aload_n 0, 1) := by decide +kernel
theorem dX12_many_12 : decode cX12_many 12 = .ok (.iload_n 2, 1) := by decide +kernel
theorem dX12_many_13 : decode cX12_many 13 = .ok (.iaload, 1) := by decide +kernel
theorem dX12_many_14 : decode cX12_many 14 = .ok (.iadd, 1) := by decide +kernel
theorem dX12_many_15 : decode cX12_many 15 = .ok (.istore_n 1, 1) := by decide +kernel
theorem dX12_many_16 : decode cX12_many 16 = .ok (.iinc 2 1, 3) := by decide +kernel
theorem dX12_many_19 : decode cX12_many 19 = .ok (.goto (-15), 3) := by decide +kernel
theorem dX12_many_22 : decode cX12_many 22 = .ok (.iload_n 1, 1) := by decide +kernel
theorem dX12_many_23 : decode cX12_many 23 = .ok (.ireturn, 1) := by decide +kernel
theorem dX12_sumOf_0 : decode cX12_sumOf 0 = .ok (.iconst 0, 1) := by decide +kernel
theorem dX12_sumOf_1 : decode cX12_sumOf 1 = .ok (.istore_n 2, 1) := by decide +kernel
theorem dX12_sumOf_2 : decode cX12_sumOf 2 = .ok (.iconst 0, 1) := by decide +kernel
theorem dX12_sumOf_3 : decode cX12_sumOf 3 = .ok (.istore_n 3, 1) := by decide +kernel
theorem dX12_sumOf_4 : decode cX12_sumOf 4 = .ok (.iload_n 3, 1) := by decide +kernel
theorem dX12_sumOf_5 : decode cX12_sumOf 5 = .ok (.bipush 8, 2) := by decide +kernel
theorem dX12_sumOf_7 : decode cX12_sumOf 7 = .ok (.if_icmp .ge 25, 3) := by decide +kernel
theorem dX12_sumOf_10 : decode cX12_sumOf 10 = .ok (.iload_n 2, 1) := by decide +kernel
theorem dX12_sumOf_11 : decode cX12_sumOf 11 = .ok (.aload_n 1, 1) := by decide +kernel
theorem dX12_sumOf_12 : decode cX12_sumOf 12 = .ok (.iload_n 3, 1) := by decide +kernel
theorem dX12_sumOf_13 : decode cX12_sumOf 13 = .ok (.iaload, 1) := by decide +kernel
theorem dX12_sumOf_14 : decode cX12_sumOf 14 = .ok (.aload_n 0, 1) := by decide +kernel
theorem dX12_sumOf_15 : decode cX12_sumOf 15 = .ok (.getfield 7, 3) := by decide +kernel
theorem dX12_sumOf_18 : decode cX12_sumOf 18 = .ok (.bipush 8, 2) := by decide +kernel
theorem dX12_sumOf_20 : decode cX12_sumOf 20 = .ok (.iload_n 3, 1) := by decide +kernel
theorem dX12_sumOf_21 : decode cX12_sumOf 21 = .ok (.iadd, 1) := by decide +kernel
theorem dX12_sumOf_22 : decode cX12_sumOf 22 = .ok (.iaload, 1) := by decide +kernel
theorem dX12_sumOf_23 : decode cX12_sumOf 23 = .ok (.imul, 1) := by decide +kernel
theorem dX12_sumOf_24 : decode cX12_sumOf 24 = .ok (.iadd, 1) := by decide +kernel
theorem dX12_sumOf_25 : decode cX12_sumOf 25 = .ok (.istore_n 2, 1) := by decide +kernel
theorem dX12_sumOf_26 : decode cX12_sumOf 26 = .ok (.iinc 3 1, 3) := by decide +kernel
theorem dX12_sumOf_29 : decode cX12_sumOf 29 = .ok (.goto (-25), 3) := by decide +kernel
theorem dX12_sumOf_32 : decode cX12_sumOf 32 = .ok (.iload_n 2, 1) := by decide +kernel
theorem dX12_sumOf_33 : decode cX12_sumOf 33 = .ok (.ireturn, 1) := by decide +kernel
theorem dX12_costOf_0 : decode cX12_costOf 0 = .ok (.iconst 0, 1) := by decide +kernel
theorem dX12_costOf_1 : decode cX12_costOf 1 = .ok (.istore_n 2, 1) := by decide +kernel
theorem dX12_costOf_2 : decode cX12_costOf 2 = .ok (.iconst 0, 1) := by decide +kernel
theorem dX12_costOf_3 : decode cX12_costOf 3 = .ok (.istore_n 3, 1) := by decide +kernel
theorem dX12_costOf_4 : decode cX12_costOf 4 = .ok (.iload_n 3, 1) := by decide +kernel
theorem dX12_costOf_5 : decode cX12_costOf 5 = .ok (.bipush 8, 2) := by decide +kernel
theorem dX12_costOf_7 : decode cX12_costOf 7 = .ok (.if_icmp .ge 25, 3) := by decide +kernel
theorem dX12_costOf_10 : decode cX12_costOf 10 = .ok (.iload_n 2, 1) := by decide +kernel
theorem dX12_costOf_11 : decode cX12_costOf 11 = .ok (.aload_n 1, 1) := by decide +kernel
theorem dX12_costOf_12 : decode cX12_costOf 12 = .ok (.iload_n 3, 1) := by decide +kernel
theorem dX12_costOf_13 : decode cX12_costOf 13 = .ok (.iaload, 1) := by decide +kernel
theorem dX12_costOf_14 : decode cX12_costOf 14 = .ok (.aload_n 0, 1) := by decide +kernel
theorem dX12_costOf_15 : decode cX12_costOf 15 = .ok (.getfield 7, 3) := by decide +kernel
theorem dX12_costOf_18 : decode cX12_costOf 18 = .ok (.bipush 16, 2) := by decide +kernel
theorem dX12_costOf_20 : decode cX12_costOf 20 = .ok (.iload_n 3, 1) := by decide +kernel
theorem dX12_costOf_21 : decode cX12_costOf 21 = .ok (.iadd, 1) := by decide +kernel
theorem dX12_costOf_22 : decode cX12_costOf 22 = .ok (.iaload, 1) := by decide +kernel
theorem dX12_costOf_23 : decode cX12_costOf 23 = .ok (.imul, 1) := by decide +kernel
theorem dX12_costOf_24 : decode cX12_costOf 24 = .ok (.iadd, 1) := by decide +kernel
theorem dX12_costOf_25 : decode cX12_costOf 25 = .ok (.istore_n 2, 1) := by decide +kernel
theorem dX12_costOf_26 : decode cX12_costOf 26 = .ok (.iinc 3 1, 3) := by decide +kernel
theorem dX12_costOf_29 : decode cX12_costOf 29 = .ok (.goto (-25), 3) := by decide +kernel
theorem dX12_costOf_32 : decode cX12_costOf 32 = .ok (.iload_n 2, 1) := by decide +kernel
theorem dX12_costOf_33 : decode cX12_costOf 33 = .ok (.ireturn, 1) := by decide +kernel
theorem dX12_paid_0 : decode cX12_paid 0 = .ok (.aload_n 0, 1) := by decide +kernel
theorem dX12_paid_1 : decode cX12_paid 1 = .ok (.iload_n 1, 1) := by decide +kernel
theorem dX12_paid_2 : decode cX12_paid 2 = .ok (.aload_n 0, 1) := by decide +kernel
theorem dX12_paid_3 : decode cX12_paid 3 = .ok (.aload_n 2, 1) := by decide +kernel
theorem dX12_paid_4 : decode cX12_paid 4 = .ok (.invokevirtual 142, 3) := by decide +kernel
theorem dX12_paid_7 : decode cX12_paid 7 = .ok (.aload_n 2, 1) := by decide +kernel
theorem dX12_paid_8 : decode cX12_paid 8 = .ok (.invokestatic 146, 3) := by decide +kernel
theorem dX12_paid_11 : decode cX12_paid 11 = .ok (.invokevirtual 149, 3) := by decide +kernel
theorem dX12_paid_14 : decode cX12_paid 14 = .ok (.ireturn, 1) := by decide +kernel
theorem dX12_thing_0 : decode cX12_thing 0 = .ok (.iload_n 1, 1) := by decide +kernel
theorem dX12_thing_1 : decode cX12_thing 1 = .ok (.invokestatic 152, 3) := by decide +kernel
theorem dX12_thing_4 : decode cX12_thing 4 = .ok (.ifCond .eq 41, 3) := by decide +kernel
theorem dX12_thing_7 : decode cX12_thing 7 = .ok (.iload_n 2, 1) := by decide +kernel
theorem dX12_thing_8 : decode cX12_thing 8 = .ok (.iconst 0, 1) := by decide +kernel
theorem dX12_thing_9 : decode cX12_thing 9 = .ok (.iconst 2, 1) := by decide +kernel
theorem dX12_thing_10 : decode cX12_thing 10 = .ok (.invokestatic 59, 3) := by decide +kernel
theorem dX12_thing_13 : decode cX12_thing 13 = .ok (.ifCond .eq 32, 3) := by decide +kernel
theorem dX12_thing_16 : decode cX12_thing 16 = .ok (.iload_n 3, 1) := by decide +kernel
theorem dX12_thing_17 : decode cX12_thing 17 = .ok (.iload_n 2, 1) := by decide +kernel
theorem dX12_thing_18 : decode cX12_thing 18 = .ok (.ifCond .ne 7, 3) := by decide +kernel
theorem dX12_thing_21 : decode cX12_thing 21 = .ok (.iconst 1, 1) := by decide +kernel
theorem dX12_thing_22 : decode cX12_thing 22 = .ok (.goto 4, 3) := by decide +kernel
theorem dX12_thing_25 : decode cX12_thing 25 = .ok (.iconst 0, 1) := by decide +kernel
theorem dX12_thing_26 : decode cX12_thing 26 = .ok (.iload_n 2, 1) := by decide +kernel
theorem dX12_thing_27 : decode cX12_thing 27 = .ok (.iconst 2, 1) := by decide +kernel
theorem dX12_thing_28 : decode cX12_thing 28 = .ok (.if_icmp .ne 8, 3) := by decide +kernel
theorem dX12_thing_31 : decode cX12_thing 31 = .ok (.bipush 99, 2) := by decide +kernel
theorem dX12_thing_33 : decode cX12_thing 33 = .ok (.goto 6, 3) := by decide +kernel
theorem dX12_thing_36 : decode cX12_thing 36 = .ok (.sipush 9999, 3) := by decide +kernel
theorem dX12_thing_39 : decode cX12_thing 39 = .ok (.invokestatic 59, 3) := by decide +kernel
theorem dX12_thing_42 : decode cX12_thing 42 = .ok (.ifCond .ne 9, 3) := by decide +kernel
theorem dX12_thing_45 : decode cX12_thing 45 = .ok (.aload_n 0, 1) := by decide +kernel
theorem dX12_thing_46 : decode cX12_thing 46 = .ok (.iconst 1, 1) := by decide +kernel
theorem dX12_thing_47 : decode cX12_thing 47 = .ok (.invokevirtual 63, 3) := by decide +kernel
theorem dX12_thing_50 : decode cX12_thing 50 = .ok (.ireturn, 1) := by decide +kernel
theorem dX12_thing_51 : decode cX12_thing 51 = .ok (.aload_n 0, 1) := by decide +kernel
theorem dX12_thing_52 : decode cX12_thing 52 = .ok (.bipush 8, 2) := by decide +kernel
theorem dX12_thing_54 : decode cX12_thing 54 = .ok (.bipush 8, 2) := by decide +kernel
theorem dX12_thing_56 : decode cX12_thing 56 = .ok (.iload_n 2, 1) := by decide +kernel
theorem dX12_thing_57 : decode cX12_thing 57 = .ok (.imul, 1) := by decide +kernel
theorem dX12_thing_58 : decode cX12_thing 58 = .ok (.iadd, 1) := by decide +kernel
theorem dX12_thing_59 : decode cX12_thing 59 = .ok (.iload_n 1, 1) := by decide +kernel
theorem dX12_thing_60 : decode cX12_thing 60 = .ok (.iadd, 1) := by decide +kernel
theorem dX12_thing_61 : decode cX12_thing 61 = .ok (.iload_n 3, 1) := by decide +kernel
theorem dX12_thing_62 : decode cX12_thing 62 = .ok (.invokevirtual 155, 3) := by decide +kernel
theorem dX12_thing_65 : decode cX12_thing 65 = .ok (.ireturn, 1) := by decide +kernel
theorem dX12_thingIs_0 : decode cX12_thingIs 0 = .ok (.iload_n 1, 1) := by decide +kernel
theorem dX12_thingIs_1 : decode cX12_thingIs 1 = .ok (.invokestatic 152, 3) := by decide +kernel
theorem dX12_thingIs_4 : decode cX12_thingIs 4 = .ok (.ifCond .eq 12, 3) := by decide +kernel
theorem dX12_thingIs_7 : decode cX12_thingIs 7 = .ok (.iload_n 2, 1) := by decide +kernel
theorem dX12_thingIs_8 : decode cX12_thingIs 8 = .ok (.iconst 0, 1) := by decide +kernel
theorem dX12_thingIs_9 : decode cX12_thingIs 9 = .ok (.iconst 3, 1) := by decide +kernel
theorem dX12_thingIs_10 : decode cX12_thingIs 10 = .ok (.invokestatic 59, 3) := by decide +kernel
theorem dX12_thingIs_13 : decode cX12_thingIs 13 = .ok (.ifCond .ne 9, 3) := by decide +kernel
theorem dX12_thingIs_16 : decode cX12_thingIs 16 = .ok (.aload_n 0, 1) := by decide +kernel
theorem dX12_thingIs_17 : decode cX12_thingIs 17 = .ok (.iconst 1, 1) := by decide +kernel
theorem dX12_thingIs_18 : decode cX12_thingIs 18 = .ok (.invokevirtual 63, 3) := by decide +kernel
theorem dX12_thingIs_21 : decode cX12_thingIs 21 = .ok (.ireturn, 1) := by decide +kernel
theorem dX12_thingIs_22 : decode cX12_thingIs 22 = .ok (.iload_n 2, 1) := by decide +kernel
theorem dX12_thingIs_23 : decode cX12_thingIs 23 = .ok (.iconst 3, 1) := by decide +kernel
theorem dX12_thingIs_24 : decode cX12_thingIs 24 = .ok (.if_icmp .ne 11, 3) := by decide +kernel
theorem dX12_thingIs_27 : decode cX12_thingIs 27 = .ok (.aload_n 0, 1) := by decide +kernel
theorem dX12_thingIs_28 : decode cX12_thingIs 28 = .ok (.iload_n 1, 1) := by decide +kernel
theorem dX12_thingIs_29 : decode cX12_thingIs 29 = .ok (.invokevirtual 158, 3) := by decide +kernel
theorem dX12_thingIs_32 : decode cX12_thingIs 32 = .ok (.goto 17, 3) := by decide +kernel
theorem dX12_thingIs_35 : decode cX12_thingIs 35 = .ok (.aload_n 0, 1) := by decide +kernel
theorem dX12_thingIs_36 : decode cX12_thingIs 36 = .ok (.getfield 7, 3) := by decide +kernel
theorem dX12_thingIs_39 : decode cX12_thingIs 39 = .ok (.bipush 8, 2) := by decide +kernel
theorem dX12_thingIs_41 : decode cX12_thingIs 41 = .ok (.bipush 8, 2) := by decide +kernel
theorem dX12_thingIs_43 : decode cX12_thingIs 43 = .ok (.iload_n 2, 1) := by decide +kernel
theorem dX12_thingIs_44 : decode cX12_thingIs 44 = .ok (.imul, 1) := by decide +kernel
theorem dX12_thingIs_45 : decode cX12_thingIs 45 = .ok (.iadd, 1) := by decide +kernel
theorem dX12_thingIs_46 : decode cX12_thingIs 46 = .ok (.iload_n 1, 1) := by decide +kernel
theorem dX12_thingIs_47 : decode cX12_thingIs 47 = .ok (.iadd, 1) := by decide +kernel
theorem dX12_thingIs_48 : decode cX12_thingIs 48 = .ok (.iaload, 1) := by decide +kernel
theorem dX12_thingIs_49 : decode cX12_thingIs 49 = .ok (.ireturn, 1) := by decide +kernel
theorem dX12_till_0 : decode cX12_till 0 = .ok (.iload_n 1, 1) := by decide +kernel
theorem dX12_till_1 : decode cX12_till 1 = .ok (.invokestatic 161, 3) := by decide +kernel
theorem dX12_till_4 : decode cX12_till 4 = .ok (.ifCond .eq 13, 3) := by decide +kernel
theorem dX12_till_7 : decode cX12_till 7 = .ok (.iload_n 2, 1) := by decide +kernel
theorem dX12_till_8 : decode cX12_till 8 = .ok (.iconst 0, 1) := by decide +kernel
theorem dX12_till_9 : decode cX12_till 9 = .ok (.bipush 69, 2) := by decide +kernel
theorem dX12_till_11 : decode cX12_till 11 = .ok (.invokestatic 59, 3) := by decide +kernel
theorem dX12_till_14 : decode cX12_till 14 = .ok (.ifCond .ne 9, 3) := by decide +kernel
theorem dX12_till_17 : decode cX12_till 17 = .ok (.aload_n 0, 1) := by decide +kernel
theorem dX12_till_18 : decode cX12_till 18 = .ok (.iconst 1, 1) := by decide +kernel
theorem dX12_till_19 : decode cX12_till 19 = .ok (.invokevirtual 63, 3) := by decide +kernel
theorem dX12_till_22 : decode cX12_till 22 = .ok (.ireturn, 1) := by decide +kernel
theorem dX12_till_23 : decode cX12_till 23 = .ok (.bipush 10, 2) := by decide +kernel
theorem dX12_till_25 : decode cX12_till 25 = .ok (.aload_n 0, 1) := by decide +kernel
theorem dX12_till_26 : decode cX12_till 26 = .ok (.iload_n 1, 1) := by decide +kernel
theorem dX12_till_27 : decode cX12_till 27 = .ok (.invokevirtual 130, 3) := by decide +kernel
theorem dX12_till_30 : decode cX12_till 30 = .ok (.imul, 1) := by decide +kernel
theorem dX12_till_31 : decode cX12_till 31 = .ok (.aload_n 0, 1) := by decide +kernel
theorem dX12_till_32 : decode cX12_till 32 = .ok (.iload_n 1, 1) := by decide +kernel
theorem dX12_till_33 : decode cX12_till 33 = .ok (.invokevirtual 127, 3) := by decide +kernel
theorem dX12_till_36 : decode cX12_till 36 = .ok (.iadd, 1) := by decide +kernel
theorem dX12_till_37 : decode cX12_till 37 = .ok (.istore_n 3, 1) := by decide +kernel
theorem dX12_till_38 : decode cX12_till 38 = .ok (.aload_n 0, 1) := by decide +kernel
theorem dX12_till_39 : decode cX12_till 39 = .ok (.getfield 7, 3) := by decide +kernel
theorem dX12_till_42 : decode cX12_till 42 = .ok (.bipush 32, 2) := by decide +kernel
theorem dX12_till_44 : decode cX12_till 44 = .ok (.iconst 2, 1) := by decide +kernel
theorem dX12_till_45 : decode cX12_till 45 = .ok (.iload_n 1, 1) := by decide +kernel
theorem dX12_till_46 : decode cX12_till 46 = .ok (.imul, 1) := by decide +kernel
theorem dX12_till_47 : decode cX12_till 47 = .ok (.iadd, 1) := by decide +kernel
theorem dX12_till_48 : decode cX12_till 48 = .ok (.iload_n 2, 1) := by decide +kernel
theorem dX12_till_49 : decode cX12_till 49 = .ok (.bipush 10, 2) := by decide +kernel
theorem dX12_till_51 : decode cX12_till 51 = .ok (.idiv, 1) := by decide +kernel
theorem dX12_till_52 : decode cX12_till 52 = .ok (.iastore, 1) := by decide +kernel
theorem dX12_till_53 : decode cX12_till 53 = .ok (.aload_n 0, 1) := by decide +kernel
theorem dX12_till_54 : decode cX12_till 54 = .ok (.getfield 7, 3) := by decide +kernel
theorem dX12_till_57 : decode cX12_till 57 = .ok (.bipush 32, 2) := by decide +kernel
theorem dX12_till_59 : decode cX12_till 59 = .ok (.iconst 2, 1) := by decide +kernel
theorem dX12_till_60 : decode cX12_till 60 = .ok (.iload_n 1, 1) := by decide +kernel
theorem dX12_till_61 : decode cX12_till 61 = .ok (.imul, 1) := by decide +kernel
theorem dX12_till_62 : decode cX12_till 62 = .ok (.iadd, 1) := by decide +kernel
theorem dX12_till_63 : decode cX12_till 63 = .ok (.iconst 1, 1) := by decide +kernel
theorem dX12_till_64 : decode cX12_till 64 = .ok (.iadd, 1) := by decide +kernel
theorem dX12_till_65 : decode cX12_till 65 = .ok (.iload_n 2, 1) := by decide +kernel
theorem dX12_till_66 : decode cX12_till 66 = .ok (.bipush 10, 2) := by decide +kernel
theorem dX12_till_68 : decode cX12_till 68 = .ok (.irem, 1) := by decide +kernel
theorem dX12_till_69 : decode cX12_till 69 = .ok (.iastore, 1) := by decide +kernel
theorem dX12_till_70 : decode cX12_till 70 = .ok (.iload_n 3, 1) := by decide +kernel
theorem dX12_till_71 : decode cX12_till 71 = .ok (.ireturn, 1) := by decide +kernel
theorem dX12_tillIs_0 : decode cX12_tillIs 0 = .ok (.iload_n 1, 1) := by decide +kernel
theorem dX12_tillIs_1 : decode cX12_tillIs 1 = .ok (.invokestatic 161, 3) := by decide +kernel
theorem dX12_tillIs_4 : decode cX12_tillIs 4 = .ok (.ifCond .eq 28, 3) := by decide +kernel
theorem dX12_tillIs_7 : decode cX12_tillIs 7 = .ok (.iload_n 2, 1) := by decide +kernel
theorem dX12_tillIs_8 : decode cX12_tillIs 8 = .ok (.iconst 0, 1) := by decide +kernel
theorem dX12_tillIs_9 : decode cX12_tillIs 9 = .ok (.iconst 1, 1) := by decide +kernel
theorem dX12_tillIs_10 : decode cX12_tillIs 10 = .ok (.invokestatic 59, 3) := by decide +kernel
theorem dX12_tillIs_13 : decode cX12_tillIs 13 = .ok (.ifCond .eq 19, 3) := by decide +kernel
theorem dX12_tillIs_16 : decode cX12_tillIs 16 = .ok (.aload_n 0, 1) := by decide +kernel
theorem dX12_tillIs_17 : decode cX12_tillIs 17 = .ok (.getfield 7, 3) := by decide +kernel
theorem dX12_tillIs_20 : decode cX12_tillIs 20 = .ok (.bipush 32, 2) := by decide +kernel
theorem dX12_tillIs_22 : decode cX12_tillIs 22 = .ok (.iconst 2, 1) := by decide +kernel
theorem dX12_tillIs_23 : decode cX12_tillIs 23 = .ok (.iload_n 1, 1) := by decide +kernel
theorem dX12_tillIs_24 : decode cX12_tillIs 24 = .ok (.imul, 1) := by decide +kernel
theorem dX12_tillIs_25 : decode cX12_tillIs 25 = .ok (.iadd, 1) := by decide +kernel
theorem dX12_tillIs_26 : decode cX12_tillIs 26 = .ok (.iload_n 2, 1) := by decide +kernel
theorem dX12_tillIs_27 : decode cX12_tillIs 27 = .ok (.iadd, 1) := by decide +kernel
theorem dX12_tillIs_28 : decode cX12_tillIs 28 = .ok (.iaload, 1) := by decide +kernel
theorem dX12_tillIs_29 : decode cX12_tillIs 29 = .ok (.goto 8, 3) := by decide +kernel
theorem dX12_tillIs_32 : decode cX12_tillIs 32 = .ok (.aload_n 0, 1) := by decide +kernel
theorem dX12_tillIs_33 : decode cX12_tillIs 33 = .ok (.iconst 1, 1) := by decide +kernel
theorem dX12_tillIs_34 : decode cX12_tillIs 34 = .ok (.invokevirtual 63, 3) := by decide +kernel
theorem dX12_tillIs_37 : decode cX12_tillIs 37 = .ok (.ireturn, 1) := by decide +kernel
theorem dX12_isUnder_0 : decode cX12_isUnder 0 = .ok (.iload_n 1, 1) := by decide +kernel
theorem dX12_isUnder_1 : decode cX12_isUnder 1 = .ok (.ifCond .eq 28, 3) := by decide +kernel
theorem dX12_isUnder_4 : decode cX12_isUnder 4 = .ok (.iload_n 0, 1) := by decide +kernel
theorem dX12_isUnder_5 : decode cX12_isUnder 5 = .ok (.iload_n 1, 1) := by decide +kernel
theorem dX12_isUnder_6 : decode cX12_isUnder 6 = .ok (.if_icmp .eq 23, 3) := by decide +kernel
theorem dX12_isUnder_9 : decode cX12_isUnder 9 = .ok (.iload_n 1, 1) := by decide +kernel
theorem dX12_isUnder_10 : decode cX12_isUnder 10 = .ok (.iconst 2, 1) := by decide +kernel
theorem dX12_isUnder_11 : decode cX12_isUnder 11 = .ok (.if_icmp .ne 8, 3) := by decide +kernel
theorem dX12_isUnder_14 : decode cX12_isUnder 14 = .ok (.iload_n 0, 1) := by decide +kernel
theorem dX12_isUnder_15 : decode cX12_isUnder 15 = .ok (.iconst 4, 1) := by decide +kernel
theorem dX12_isUnder_16 : decode cX12_isUnder 16 = .ok (.if_icmp .eq 13, 3) := by decide +kernel
theorem dX12_isUnder_19 : decode cX12_isUnder 19 = .ok (.iload_n 1, 1) := by decide +kernel
theorem dX12_isUnder_20 : decode cX12_isUnder 20 = .ok (.iconst 1, 1) := by decide +kernel
theorem dX12_isUnder_21 : decode cX12_isUnder 21 = .ok (.if_icmp .ne 12, 3) := by decide +kernel
theorem dX12_isUnder_24 : decode cX12_isUnder 24 = .ok (.iload_n 0, 1) := by decide +kernel
theorem dX12_isUnder_25 : decode cX12_isUnder 25 = .ok (.iconst 5, 1) := by decide +kernel
theorem dX12_isUnder_26 : decode cX12_isUnder 26 = .ok (.if_icmp .ne 7, 3) := by decide +kernel
theorem dX12_isUnder_29 : decode cX12_isUnder 29 = .ok (.iconst 1, 1) := by decide +kernel
theorem dX12_isUnder_30 : decode cX12_isUnder 30 = .ok (.goto 4, 3) := by decide +kernel
theorem dX12_isUnder_33 : decode cX12_isUnder 33 = .ok (.iconst 0, 1) := by decide +kernel
theorem dX12_isUnder_34 : decode cX12_isUnder 34 = .ok (.ireturn, 1) := by decide +kernel
theorem dX12_as_0 : decode cX12_as 0 = .ok (.iload_n 1, 1) := by decide +kernel
theorem dX12_as_1 : decode cX12_as 1 = .ok (.invokestatic 161, 3) := by decide +kernel
theorem dX12_as_4 : decode cX12_as 4 = .ok (.ifCond .eq 13, 3) := by decide +kernel
theorem dX12_as_7 : decode cX12_as 7 = .ok (.iload_n 2, 1) := by decide +kernel
theorem dX12_as_8 : decode cX12_as 8 = .ok (.iconst 0, 1) := by decide +kernel
theorem dX12_as_9 : decode cX12_as 9 = .ok (.bipush 6, 2) := by decide +kernel
theorem dX12_as_11 : decode cX12_as 11 = .ok (.invokestatic 59, 3) := by decide +kernel
theorem dX12_as_14 : decode cX12_as 14 = .ok (.ifCond .ne 9, 3) := by decide +kernel
theorem dX12_as_17 : decode cX12_as 17 = .ok (.aload_n 0, 1) := by decide +kernel
theorem dX12_as_18 : decode cX12_as 18 = .ok (.iconst 1, 1) := by decide +kernel
theorem dX12_as_19 : decode cX12_as 19 = .ok (.invokevirtual 63, 3) := by decide +kernel
theorem dX12_as_22 : decode cX12_as 22 = .ok (.ireturn, 1) := by decide +kernel
theorem dX12_as_23 : decode cX12_as 23 = .ok (.aload_n 0, 1) := by decide +kernel
theorem dX12_as_24 : decode cX12_as 24 = .ok (.iload_n 1, 1) := by decide +kernel
theorem dX12_as_25 : decode cX12_as 25 = .ok (.invokevirtual 130, 3) := by decide +kernel
theorem dX12_as_28 : decode cX12_as 28 = .ok (.iload_n 2, 1) := by decide +kernel
theorem dX12_as_29 : decode cX12_as 29 = .ok (.invokestatic 164, 3) := by decide +kernel
theorem dX12_as_32 : decode cX12_as 32 = .ok (.ifCond .eq 11, 3) := by decide +kernel
theorem dX12_as_35 : decode cX12_as 35 = .ok (.aload_n 0, 1) := by decide +kernel
theorem dX12_as_36 : decode cX12_as 36 = .ok (.iload_n 1, 1) := by decide +kernel
theorem dX12_as_37 : decode cX12_as 37 = .ok (.invokevirtual 127, 3) := by decide +kernel
theorem dX12_as_40 : decode cX12_as 40 = .ok (.goto 8, 3) := by decide +kernel
theorem dX12_as_43 : decode cX12_as 43 = .ok (.aload_n 0, 1) := by decide +kernel
theorem dX12_as_44 : decode cX12_as 44 = .ok (.iconst 5, 1) := by decide +kernel
theorem dX12_as_45 : decode cX12_as 45 = .ok (.invokevirtual 63, 3) := by decide +kernel
theorem dX12_as_48 : decode cX12_as 48 = .ok (.ireturn, 1) := by decide +kernel
theorem dX12_figures_0 : decode cX12_figures 0 = .ok (.iload_n 1, 1) := by decide +kernel
theorem dX12_figures_1 : decode cX12_figures 1 = .ok (.ifCond .lt 21, 3) := by decide +kernel
theorem dX12_figures_4 : decode cX12_figures 4 = .ok (.iload_n 2, 1) := by decide +kernel
theorem dX12_figures_5 : decode cX12_figures 5 = .ok (.iconst 2, 1) := by decide +kernel
theorem dX12_figures_6 : decode cX12_figures 6 = .ok (.bipush 11, 2) := by decide +kernel
theorem dX12_figures_8 : decode cX12_figures 8 = .ok (.invokestatic 59, 3) := by decide +kernel
theorem dX12_figures_11 : decode cX12_figures 11 = .ok (.ifCond .eq 11, 3) := by decide +kernel
theorem dX12_figures_14 : decode cX12_figures 14 = .ok (.iload_n 1, 1) := by decide +kernel
theorem dX12_figures_15 : decode cX12_figures 15 = .ok (.iload_n 2, 1) := by decide +kernel
theorem dX12_figures_16 : decode cX12_figures 16 = .ok (.invokestatic 123, 3) := by decide +kernel
theorem dX12_figures_19 : decode cX12_figures 19 = .ok (.goto 8, 3) := by decide +kernel
theorem dX12_figures_22 : decode cX12_figures 22 = .ok (.aload_n 0, 1) := by decide +kernel
theorem dX12_figures_23 : decode cX12_figures 23 = .ok (.iconst 1, 1) := by decide +kernel
theorem dX12_figures_24 : decode cX12_figures 24 = .ok (.invokevirtual 63, 3) := by decide +kernel
theorem dX12_figures_27 : decode cX12_figures 27 = .ok (.ireturn, 1) := by decide +kernel
theorem dX12_asks_0 : decode cX12_asks 0 = .ok (.iload_n 1, 1) := by decide +kernel
theorem dX12_asks_1 : decode cX12_asks 1 = .ok (.invokestatic 161, 3) := by decide +kernel
theorem dX12_asks_4 : decode cX12_asks 4 = .ok (.ifCond .eq 33, 3) := by decide +kernel
theorem dX12_asks_7 : decode cX12_asks 7 = .ok (.iload_n 2, 1) := by decide +kernel
theorem dX12_asks_8 : decode cX12_asks 8 = .ok (.iconst 0, 1) := by decide +kernel
theorem dX12_asks_9 : decode cX12_asks 9 = .ok (.ldc 168, 2) := by decide +kernel
theorem dX12_asks_11 : decode cX12_asks 11 = .ok (.invokestatic 59, 3) := by decide +kernel
theorem dX12_asks_14 : decode cX12_asks 14 = .ok (.ifCond .eq 23, 3) := by decide +kernel
theorem dX12_asks_17 : decode cX12_asks 17 = .ok (.iload_n 3, 1) := by decide +kernel
theorem dX12_asks_18 : decode cX12_asks 18 = .ok (.iconst 0, 1) := by decide +kernel
theorem dX12_asks_19 : decode cX12_asks 19 = .ok (.bipush 30, 2) := by decide +kernel
theorem dX12_asks_21 : decode cX12_asks 21 = .ok (.invokestatic 59, 3) := by decide +kernel
theorem dX12_asks_24 : decode cX12_asks 24 = .ok (.ifCond .eq 13, 3) := by decide +kernel
theorem dX12_asks_27 : decode cX12_asks 27 = .ok (.aload_n 0, 1) := by decide +kernel
theorem dX12_asks_28 : decode cX12_asks 28 = .ok (.iload_n 1, 1) := by decide +kernel
theorem dX12_asks_29 : decode cX12_asks 29 = .ok (.iload_n 2, 1) := by decide +kernel
theorem dX12_asks_30 : decode cX12_asks 30 = .ok (.iload_n 3, 1) := by decide +kernel
theorem dX12_asks_31 : decode cX12_asks 31 = .ok (.invokevirtual 149, 3) := by decide +kernel
theorem dX12_asks_34 : decode cX12_asks 34 = .ok (.goto 8, 3) := by decide +kernel
theorem dX12_asks_37 : decode cX12_asks 37 = .ok (.aload_n 0, 1) := by decide +kernel
theorem dX12_asks_38 : decode cX12_asks 38 = .ok (.iconst 1, 1) := by decide +kernel
theorem dX12_asks_39 : decode cX12_asks 39 = .ok (.invokevirtual 63, 3) := by decide +kernel
theorem dX12_asks_42 : decode cX12_asks 42 = .ok (.ireturn, 1) := by decide +kernel
theorem dX12_tells_0 : decode cX12_tells 0 = .ok (.aload_n 0, 1) := by decide +kernel
theorem dX12_tells_1 : decode cX12_tells 1 = .ok (.getfield 46, 3) := by decide +kernel
theorem dX12_tells_4 : decode cX12_tells 4 = .ok (.iload_n 1, 1) := by decide +kernel
theorem dX12_tells_5 : decode cX12_tells 5 = .ok (.iaload, 1) := by decide +kernel
theorem dX12_tells_6 : decode cX12_tells 6 = .ok (.ifCond .ne 5, 3) := by decide +kernel
theorem dX12_tells_9 : decode cX12_tells 9 = .ok (.iconst 2, 1) := by decide +kernel
theorem dX12_tells_10 : decode cX12_tells 10 = .ok (.ireturn, 1) := by decide +kernel
theorem dX12_tells_11 : decode cX12_tells 11 = .ok (.iconst 0, 1) := by decide +kernel
theorem dX12_tells_12 : decode cX12_tells 12 = .ok (.istore 4, 2) := by decide +kernel
theorem dX12_tells_14 : decode cX12_tells 14 = .ok (.iload 4, 2) := by decide +kernel
theorem dX12_tells_16 : decode cX12_tells 16 = .ok (.bipush 8, 2) := by decide +kernel
theorem dX12_tells_18 : decode cX12_tells 18 = .ok (.if_icmp .ge 40, 3) := by decide +kernel
theorem dX12_tells_21 : decode cX12_tells 21 = .ok (.aload_n 2, 1) := by decide +kernel
theorem dX12_tells_22 : decode cX12_tells 22 = .ok (.iload 4, 2) := by decide +kernel
theorem dX12_tells_24 : decode cX12_tells 24 = .ok (.iload 4, 2) := by decide +kernel
theorem dX12_tells_26 : decode cX12_tells 26 = .ok (.aload_n 0, 1) := by decide +kernel
theorem dX12_tells_27 : decode cX12_tells 27 = .ok (.getfield 49, 3) := by decide +kernel
theorem dX12_tells_30 : decode cX12_tells 30 = .ok (.iload_n 1, 1) := by decide +kernel
theorem dX12_tells_31 : decode cX12_tells 31 = .ok (.iaload, 1) := by decide +kernel
theorem dX12_tells_32 : decode cX12_tells 32 = .ok (.if_icmp .ge 18, 3) := by decide +kernel
theorem dX12_tells_35 : decode cX12_tells 35 = .ok (.aload_n 0, 1) := by decide +kernel
theorem dX12_tells_36 : decode cX12_tells 36 = .ok (.getfield 52, 3) := by decide +kernel
theorem dX12_tells_39 : decode cX12_tells 39 = .ok (.bipush 24, 2) := by decide +kernel
theorem dX12_tells_41 : decode cX12_tells 41 = .ok (.iload_n 1, 1) := by decide +kernel
theorem dX12_tells_42 : decode cX12_tells 42 = .ok (.imul, 1) := by decide +kernel
theorem dX12_tells_43 : decode cX12_tells 43 = .ok (.iload 4, 2) := by decide +kernel
theorem dX12_tells_45 : decode cX12_tells 45 = .ok (.iadd, 1) := by decide +kernel
theorem dX12_tells_46 : decode cX12_tells 46 = .ok (.iaload, 1) := by decide +kernel
theorem dX12_tells_47 : decode cX12_tells 47 = .ok (.goto 4, 3) := by decide +kernel
theorem dX12_tells_50 : decode cX12_tells 50 = .ok (.iconst 0, 1) := by decide +kernel
theorem dX12_tells_51 : decode cX12_tells 51 = .ok (.iastore, 1) := by decide +kernel
theorem dX12_tells_52 : decode cX12_tells 52 = .ok (.iinc 4 1, 3) := by decide +kernel
theorem dX12_tells_55 : decode cX12_tells 55 = .ok (.goto (-41), 3) := by decide +kernel
theorem dX12_tells_58 : decode cX12_tells 58 = .ok (.iconst 0, 1) := by decide +kernel
theorem dX12_tells_59 : decode cX12_tells 59 = .ok (.istore 4, 2) := by decide +kernel
theorem dX12_tells_61 : decode cX12_tells 61 = .ok (.iload 4, 2) := by decide +kernel
theorem dX12_tells_63 : decode cX12_tells 63 = .ok (.bipush 8, 2) := by decide +kernel
theorem dX12_tells_65 : decode cX12_tells 65 = .ok (.if_icmp .ge 24, 3) := by decide +kernel
theorem dX12_tells_68 : decode cX12_tells 68 = .ok (.aload_n 2, 1) := by decide +kernel
theorem dX12_tells_69 : decode cX12_tells 69 = .ok (.iload 4, 2) := by decide +kernel
theorem dX12_tells_71 : decode cX12_tells 71 = .ok (.iaload, 1) := by decide +kernel
theorem dX12_tells_72 : decode cX12_tells 72 = .ok (.iconst 0, 1) := by decide +kernel
theorem dX12_tells_73 : decode cX12_tells 73 = .ok (.bipush 9, 2) := by decide +kernel
theorem dX12_tells_75 : decode cX12_tells 75 = .ok (.invokestatic 59, 3) := by decide +kernel
theorem dX12_tells_78 : decode cX12_tells 78 = .ok (.ifCond .ne 5, 3) := by decide +kernel
theorem dX12_tells_81 : decode cX12_tells 81 = .ok (.iconst 1, 1) := by decide +kernel
theorem dX12_tells_82 : decode cX12_tells 82 = .ok (.ireturn, 1) := by decide +kernel
theorem dX12_tells_83 : decode cX12_tells 83 = .ok (.iinc 4 1, 3) := by decide +kernel
theorem dX12_tells_86 : decode cX12_tells 86 = .ok (.goto (-25), 3) := by decide +kernel
theorem dX12_tells_89 : decode cX12_tells 89 = .ok (.aload_n 2, 1) := by decide +kernel
theorem dX12_tells_90 : decode cX12_tells 90 = .ok (.invokestatic 146, 3) := by decide +kernel
theorem dX12_tells_93 : decode cX12_tells 93 = .ok (.iload_n 3, 1) := by decide +kernel
theorem dX12_tells_94 : decode cX12_tells 94 = .ok (.if_icmp .le 7, 3) := by decide +kernel
theorem dX12_tells_97 : decode cX12_tells 97 = .ok (.iconst 4, 1) := by decide +kernel
theorem dX12_tells_98 : decode cX12_tells 98 = .ok (.goto 4, 3) := by decide +kernel
theorem dX12_tells_101 : decode cX12_tells 101 = .ok (.iconst 0, 1) := by decide +kernel
theorem dX12_tells_102 : decode cX12_tells 102 = .ok (.ireturn, 1) := by decide +kernel
theorem dX12_lacks_0 : decode cX12_lacks 0 = .ok (.iload_n 1, 1) := by decide +kernel
theorem dX12_lacks_1 : decode cX12_lacks 1 = .ok (.invokestatic 169, 3) := by decide +kernel
theorem dX12_lacks_4 : decode cX12_lacks 4 = .ok (.ifCond .eq 28, 3) := by decide +kernel
theorem dX12_lacks_7 : decode cX12_lacks 7 = .ok (.iload_n 2, 1) := by decide +kernel
theorem dX12_lacks_8 : decode cX12_lacks 8 = .ok (.invokestatic 161, 3) := by decide +kernel
theorem dX12_lacks_11 : decode cX12_lacks 11 = .ok (.ifCond .eq 21, 3) := by decide +kernel
theorem dX12_lacks_14 : decode cX12_lacks 14 = .ok (.iload_n 3, 1) := by decide +kernel
theorem dX12_lacks_15 : decode cX12_lacks 15 = .ok (.ifCond .eq 17, 3) := by decide +kernel
theorem dX12_lacks_18 : decode cX12_lacks 18 = .ok (.aload_n 0, 1) := by decide +kernel
theorem dX12_lacks_19 : decode cX12_lacks 19 = .ok (.iload_n 1, 1) := by decide +kernel
theorem dX12_lacks_20 : decode cX12_lacks 20 = .ok (.aload_n 0, 1) := by decide +kernel
theorem dX12_lacks_21 : decode cX12_lacks 21 = .ok (.getfield 28, 3) := by decide +kernel
theorem dX12_lacks_24 : decode cX12_lacks 24 = .ok (.iload 4, 2) := by decide +kernel
theorem dX12_lacks_26 : decode cX12_lacks 26 = .ok (.invokevirtual 172, 3) := by decide +kernel
theorem dX12_lacks_29 : decode cX12_lacks 29 = .ok (.goto 4, 3) := by decide +kernel
theorem dX12_lacks_32 : decode cX12_lacks 32 = .ok (.iconst 1, 1) := by decide +kernel
theorem dX12_lacks_33 : decode cX12_lacks 33 = .ok (.ireturn, 1) := by decide +kernel
theorem dX12_basket_0 : decode cX12_basket 0 = .ok (.aload_n 0, 1) := by decide +kernel
theorem dX12_basket_1 : decode cX12_basket 1 = .ok (.iload_n 1, 1) := by decide +kernel
theorem dX12_basket_2 : decode cX12_basket 2 = .ok (.iconst 0, 1) := by decide +kernel
theorem dX12_basket_3 : decode cX12_basket 3 = .ok (.iload_n 2, 1) := by decide +kernel
theorem dX12_basket_4 : decode cX12_basket 4 = .ok (.iconst 0, 1) := by decide +kernel
theorem dX12_basket_5 : decode cX12_basket 5 = .ok (.iconst 2, 1) := by decide +kernel
theorem dX12_basket_6 : decode cX12_basket 6 = .ok (.invokestatic 59, 3) := by decide +kernel
theorem dX12_basket_9 : decode cX12_basket 9 = .ok (.bipush 30, 2) := by decide +kernel
theorem dX12_basket_11 : decode cX12_basket 11 = .ok (.invokevirtual 176, 3) := by decide +kernel
theorem dX12_basket_14 : decode cX12_basket 14 = .ok (.istore_n 3, 1) := by decide +kernel
theorem dX12_basket_15 : decode cX12_basket 15 = .ok (.iload_n 3, 1) := by decide +kernel
theorem dX12_basket_16 : decode cX12_basket 16 = .ok (.ifCond .le 9, 3) := by decide +kernel
theorem dX12_basket_19 : decode cX12_basket 19 = .ok (.aload_n 0, 1) := by decide +kernel
theorem dX12_basket_20 : decode cX12_basket 20 = .ok (.iload_n 3, 1) := by decide +kernel
theorem dX12_basket_21 : decode cX12_basket 21 = .ok (.invokevirtual 63, 3) := by decide +kernel
theorem dX12_basket_24 : decode cX12_basket 24 = .ok (.ireturn, 1) := by decide +kernel
theorem dX12_basket_25 : decode cX12_basket 25 = .ok (.iload_n 2, 1) := by decide +kernel
theorem dX12_basket_26 : decode cX12_basket 26 = .ok (.ifCond .ne 13, 3) := by decide +kernel
theorem dX12_basket_29 : decode cX12_basket 29 = .ok (.aload_n 0, 1) := by decide +kernel
theorem dX12_basket_30 : decode cX12_basket 30 = .ok (.getfield 28, 3) := by decide +kernel
theorem dX12_basket_33 : decode cX12_basket 33 = .ok (.invokestatic 146, 3) := by decide +kernel
theorem dX12_basket_36 : decode cX12_basket 36 = .ok (.goto 27, 3) := by decide +kernel
theorem dX12_basket_39 : decode cX12_basket 39 = .ok (.iload_n 2, 1) := by decide +kernel
theorem dX12_basket_40 : decode cX12_basket 40 = .ok (.iconst 1, 1) := by decide +kernel
theorem dX12_basket_41 : decode cX12_basket 41 = .ok (.if_icmp .ne 14, 3) := by decide +kernel
theorem dX12_basket_44 : decode cX12_basket 44 = .ok (.aload_n 0, 1) := by decide +kernel
theorem dX12_basket_45 : decode cX12_basket 45 = .ok (.aload_n 0, 1) := by decide +kernel
theorem dX12_basket_46 : decode cX12_basket 46 = .ok (.getfield 28, 3) := by decide +kernel
theorem dX12_basket_49 : decode cX12_basket 49 = .ok (.invokevirtual 142, 3) := by decide +kernel
theorem dX12_basket_52 : decode cX12_basket 52 = .ok (.goto 11, 3) := by decide +kernel
theorem dX12_basket_55 : decode cX12_basket 55 = .ok (.aload_n 0, 1) := by decide +kernel
theorem dX12_basket_56 : decode cX12_basket 56 = .ok (.aload_n 0, 1) := by decide +kernel
theorem dX12_basket_57 : decode cX12_basket 57 = .ok (.getfield 28, 3) := by decide +kernel
theorem dX12_basket_60 : decode cX12_basket 60 = .ok (.invokevirtual 180, 3) := by decide +kernel
theorem dX12_basket_63 : decode cX12_basket 63 = .ok (.ireturn, 1) := by decide +kernel
theorem dX12_pays_0 : decode cX12_pays 0 = .ok (.aload_n 0, 1) := by decide +kernel
theorem dX12_pays_1 : decode cX12_pays 1 = .ok (.iload_n 1, 1) := by decide +kernel
theorem dX12_pays_2 : decode cX12_pays 2 = .ok (.iload_n 2, 1) := by decide +kernel
theorem dX12_pays_3 : decode cX12_pays 3 = .ok (.iconst 1, 1) := by decide +kernel
theorem dX12_pays_4 : decode cX12_pays 4 = .ok (.bipush 30, 2) := by decide +kernel
theorem dX12_pays_6 : decode cX12_pays 6 = .ok (.invokevirtual 176, 3) := by decide +kernel
theorem dX12_pays_9 : decode cX12_pays 9 = .ok (.istore_n 3, 1) := by decide +kernel
theorem dX12_pays_10 : decode cX12_pays 10 = .ok (.iload_n 3, 1) := by decide +kernel
theorem dX12_pays_11 : decode cX12_pays 11 = .ok (.ifCond .le 11, 3) := by decide +kernel
theorem dX12_pays_14 : decode cX12_pays 14 = .ok (.aload_n 0, 1) := by decide +kernel
theorem dX12_pays_15 : decode cX12_pays 15 = .ok (.iload_n 3, 1) := by decide +kernel
theorem dX12_pays_16 : decode cX12_pays 16 = .ok (.invokevirtual 63, 3) := by decide +kernel
theorem dX12_pays_19 : decode cX12_pays 19 = .ok (.goto 12, 3) := by decide +kernel
theorem dX12_pays_22 : decode cX12_pays 22 = .ok (.aload_n 0, 1) := by decide +kernel
theorem dX12_pays_23 : decode cX12_pays 23 = .ok (.iload_n 2, 1) := by decide +kernel
theorem dX12_pays_24 : decode cX12_pays 24 = .ok (.aload_n 0, 1) := by decide +kernel
theorem dX12_pays_25 : decode cX12_pays 25 = .ok (.getfield 28, 3) := by decide +kernel
theorem dX12_pays_28 : decode cX12_pays 28 = .ok (.invokevirtual 183, 3) := by decide +kernel
theorem dX12_pays_31 : decode cX12_pays 31 = .ok (.ireturn, 1) := by decide +kernel
theorem dX12_isInStock_0 : decode cX12_isInStock 0 = .ok (.iconst 1, 1) := by decide +kernel
theorem dX12_isInStock_1 : decode cX12_isInStock 1 = .ok (.istore_n 2, 1) := by decide +kernel
theorem dX12_isInStock_2 : decode cX12_isInStock 2 = .ok (.iconst 0, 1) := by decide +kernel
theorem dX12_isInStock_3 : decode cX12_isInStock 3 = .ok (.istore_n 3, 1) := by decide +kernel
theorem dX12_isInStock_4 : decode cX12_isInStock 4 = .ok (.iload_n 3, 1) := by decide +kernel
theorem dX12_isInStock_5 : decode cX12_isInStock 5 = .ok (.bipush 8, 2) := by decide +kernel
theorem dX12_isInStock_7 : decode cX12_isInStock 7 = .ok (.if_icmp .ge 34, 3) := by decide +kernel
theorem dX12_isInStock_10 : decode cX12_isInStock 10 = .ok (.iload_n 2, 1) := by decide +kernel
theorem dX12_isInStock_11 : decode cX12_isInStock 11 = .ok (.ifCond .eq 22, 3) := by decide +kernel
theorem dX12_isInStock_14 : decode cX12_isInStock 14 = .ok (.aload_n 1, 1) := by decide +kernel
theorem dX12_isInStock_15 : decode cX12_isInStock 15 = .ok (.iload_n 3, 1) := by decide +kernel
theorem dX12_isInStock_16 : decode cX12_isInStock 16 = .ok (.iaload, 1) := by decide +kernel
theorem dX12_isInStock_17 : decode cX12_isInStock 17 = .ok (.aload_n 0, 1) := by decide +kernel
theorem dX12_isInStock_18 : decode cX12_isInStock 18 = .ok (.getfield 7, 3) := by decide +kernel
theorem dX12_isInStock_21 : decode cX12_isInStock 21 = .ok (.bipush 24, 2) := by decide +kernel
theorem dX12_isInStock_23 : decode cX12_isInStock 23 = .ok (.iload_n 3, 1) := by decide +kernel
theorem dX12_isInStock_24 : decode cX12_isInStock 24 = .ok (.iadd, 1) := by decide +kernel
theorem dX12_isInStock_25 : decode cX12_isInStock 25 = .ok (.iaload, 1) := by decide +kernel
theorem dX12_isInStock_26 : decode cX12_isInStock 26 = .ok (.if_icmp .gt 7, 3) := by decide +kernel
theorem dX12_isInStock_29 : decode cX12_isInStock 29 = .ok (.iconst 1, 1) := by decide +kernel
theorem dX12_isInStock_30 : decode cX12_isInStock 30 = .ok (.goto 4, 3) := by decide +kernel
theorem dX12_isInStock_33 : decode cX12_isInStock 33 = .ok (.iconst 0, 1) := by decide +kernel
theorem dX12_isInStock_34 : decode cX12_isInStock 34 = .ok (.istore_n 2, 1) := by decide +kernel
theorem dX12_isInStock_35 : decode cX12_isInStock 35 = .ok (.iinc 3 1, 3) := by decide +kernel
theorem dX12_isInStock_38 : decode cX12_isInStock 38 = .ok (.goto (-34), 3) := by decide +kernel
theorem dX12_isInStock_41 : decode cX12_isInStock 41 = .ok (.iload_n 2, 1) := by decide +kernel
theorem dX12_isInStock_42 : decode cX12_isInStock 42 = .ok (.ireturn, 1) := by decide +kernel
theorem dX12_goes_0 : decode cX12_goes 0 = .ok (.aload_n 0, 1) := by decide +kernel
theorem dX12_goes_1 : decode cX12_goes 1 = .ok (.iload_n 1, 1) := by decide +kernel
theorem dX12_goes_2 : decode cX12_goes 2 = .ok (.aload_n 2, 1) := by decide +kernel
theorem dX12_goes_3 : decode cX12_goes 3 = .ok (.invokevirtual 183, 3) := by decide +kernel
theorem dX12_goes_6 : decode cX12_goes 6 = .ok (.istore_n 3, 1) := by decide +kernel
theorem dX12_goes_7 : decode cX12_goes 7 = .ok (.aload_n 0, 1) := by decide +kernel
theorem dX12_goes_8 : decode cX12_goes 8 = .ok (.getfield 7, 3) := by decide +kernel
theorem dX12_goes_11 : decode cX12_goes 11 = .ok (.iconst 1, 1) := by decide +kernel
theorem dX12_goes_12 : decode cX12_goes 12 = .ok (.aload_n 0, 1) := by decide +kernel
theorem dX12_goes_13 : decode cX12_goes 13 = .ok (.getfield 7, 3) := by decide +kernel
theorem dX12_goes_16 : decode cX12_goes 16 = .ok (.iconst 1, 1) := by decide +kernel
theorem dX12_goes_17 : decode cX12_goes 17 = .ok (.iaload, 1) := by decide +kernel
theorem dX12_goes_18 : decode cX12_goes 18 = .ok (.iload_n 3, 1) := by decide +kernel
theorem dX12_goes_19 : decode cX12_goes 19 = .ok (.iadd, 1) := by decide +kernel
theorem dX12_goes_20 : decode cX12_goes 20 = .ok (.iconst 0, 1) := by decide +kernel
theorem dX12_goes_21 : decode cX12_goes 21 = .ok (.ldc 187, 2) := by decide +kernel
theorem dX12_goes_23 : decode cX12_goes 23 = .ok (.invokestatic 139, 3) := by decide +kernel
theorem dX12_goes_26 : decode cX12_goes 26 = .ok (.iastore, 1) := by decide +kernel
theorem dX12_goes_27 : decode cX12_goes 27 = .ok (.aload_n 0, 1) := by decide +kernel
theorem dX12_goes_28 : decode cX12_goes 28 = .ok (.getfield 7, 3) := by decide +kernel
theorem dX12_goes_31 : decode cX12_goes 31 = .ok (.iconst 2, 1) := by decide +kernel
theorem dX12_goes_32 : decode cX12_goes 32 = .ok (.aload_n 0, 1) := by decide +kernel
theorem dX12_goes_33 : decode cX12_goes 33 = .ok (.getfield 7, 3) := by decide +kernel
theorem dX12_goes_36 : decode cX12_goes 36 = .ok (.iconst 2, 1) := by decide +kernel
theorem dX12_goes_37 : decode cX12_goes 37 = .ok (.iaload, 1) := by decide +kernel
theorem dX12_goes_38 : decode cX12_goes 38 = .ok (.aload_n 0, 1) := by decide +kernel
theorem dX12_goes_39 : decode cX12_goes 39 = .ok (.aload_n 2, 1) := by decide +kernel
theorem dX12_goes_40 : decode cX12_goes 40 = .ok (.invokevirtual 180, 3) := by decide +kernel
theorem dX12_goes_43 : decode cX12_goes 43 = .ok (.iadd, 1) := by decide +kernel
theorem dX12_goes_44 : decode cX12_goes 44 = .ok (.iconst 0, 1) := by decide +kernel
theorem dX12_goes_45 : decode cX12_goes 45 = .ok (.ldc 187, 2) := by decide +kernel
theorem dX12_goes_47 : decode cX12_goes 47 = .ok (.invokestatic 139, 3) := by decide +kernel
theorem dX12_goes_50 : decode cX12_goes 50 = .ok (.iastore, 1) := by decide +kernel
theorem dX12_goes_51 : decode cX12_goes 51 = .ok (.aload_n 0, 1) := by decide +kernel
theorem dX12_goes_52 : decode cX12_goes 52 = .ok (.getfield 7, 3) := by decide +kernel
theorem dX12_goes_55 : decode cX12_goes 55 = .ok (.iconst 0, 1) := by decide +kernel
theorem dX12_goes_56 : decode cX12_goes 56 = .ok (.aload_n 0, 1) := by decide +kernel
theorem dX12_goes_57 : decode cX12_goes 57 = .ok (.getfield 7, 3) := by decide +kernel
theorem dX12_goes_60 : decode cX12_goes 60 = .ok (.iconst 0, 1) := by decide +kernel
theorem dX12_goes_61 : decode cX12_goes 61 = .ok (.iaload, 1) := by decide +kernel
theorem dX12_goes_62 : decode cX12_goes 62 = .ok (.iconst 1, 1) := by decide +kernel
theorem dX12_goes_63 : decode cX12_goes 63 = .ok (.iadd, 1) := by decide +kernel
theorem dX12_goes_64 : decode cX12_goes 64 = .ok (.iconst 0, 1) := by decide +kernel
theorem dX12_goes_65 : decode cX12_goes 65 = .ok (.sipush 9999, 3) := by decide +kernel
theorem dX12_goes_68 : decode cX12_goes 68 = .ok (.invokestatic 139, 3) := by decide +kernel
theorem dX12_goes_71 : decode cX12_goes 71 = .ok (.iastore, 1) := by decide +kernel
theorem dX12_goes_72 : decode cX12_goes 72 = .ok (.iconst 0, 1) := by decide +kernel
theorem dX12_goes_73 : decode cX12_goes 73 = .ok (.istore 4, 2) := by decide +kernel
theorem dX12_goes_75 : decode cX12_goes 75 = .ok (.iload 4, 2) := by decide +kernel
theorem dX12_goes_77 : decode cX12_goes 77 = .ok (.bipush 8, 2) := by decide +kernel
theorem dX12_goes_79 : decode cX12_goes 79 = .ok (.if_icmp .ge 26, 3) := by decide +kernel
theorem dX12_goes_82 : decode cX12_goes 82 = .ok (.aload_n 0, 1) := by decide +kernel
theorem dX12_goes_83 : decode cX12_goes 83 = .ok (.getfield 7, 3) := by decide +kernel
theorem dX12_goes_86 : decode cX12_goes 86 = .ok (.bipush 24, 2) := by decide +kernel
theorem dX12_goes_88 : decode cX12_goes 88 = .ok (.iload 4, 2) := by decide +kernel
theorem dX12_goes_90 : decode cX12_goes 90 = .ok (.iadd, 1) := by decide +kernel
theorem dX12_goes_91 : decode cX12_goes 91 = .ok (.dup2, 1) := by decide +kernel
theorem dX12_goes_92 : decode cX12_goes 92 = .ok (.iaload, 1) := by decide +kernel
theorem dX12_goes_93 : decode cX12_goes 93 = .ok (.aload_n 2, 1) := by decide +kernel
theorem dX12_goes_94 : decode cX12_goes 94 = .ok (.iload 4, 2) := by decide +kernel
theorem dX12_goes_96 : decode cX12_goes 96 = .ok (.iaload, 1) := by decide +kernel
theorem dX12_goes_97 : decode cX12_goes 97 = .ok (.isub, 1) := by decide +kernel
theorem dX12_goes_98 : decode cX12_goes 98 = .ok (.iastore, 1) := by decide +kernel
theorem dX12_goes_99 : decode cX12_goes 99 = .ok (.iinc 4 1, 3) := by decide +kernel
theorem dX12_goes_102 : decode cX12_goes 102 = .ok (.goto (-27), 3) := by decide +kernel
theorem dX12_goes_105 : decode cX12_goes 105 = .ok (.iload_n 3, 1) := by decide +kernel
theorem dX12_goes_106 : decode cX12_goes 106 = .ok (.ireturn, 1) := by decide +kernel
theorem dX12_go_0 : decode cX12_go 0 = .ok (.aload_n 0, 1) := by decide +kernel
theorem dX12_go_1 : decode cX12_go 1 = .ok (.iload_n 1, 1) := by decide +kernel
theorem dX12_go_2 : decode cX12_go 2 = .ok (.iload_n 2, 1) := by decide +kernel
theorem dX12_go_3 : decode cX12_go 3 = .ok (.iconst 1, 1) := by decide +kernel
theorem dX12_go_4 : decode cX12_go 4 = .ok (.bipush 30, 2) := by decide +kernel
theorem dX12_go_6 : decode cX12_go 6 = .ok (.invokevirtual 176, 3) := by decide +kernel
theorem dX12_go_9 : decode cX12_go 9 = .ok (.istore_n 3, 1) := by decide +kernel
theorem dX12_go_10 : decode cX12_go 10 = .ok (.iload_n 3, 1) := by decide +kernel
theorem dX12_go_11 : decode cX12_go 11 = .ok (.ifCond .ne 16, 3) := by decide +kernel
theorem dX12_go_14 : decode cX12_go 14 = .ok (.aload_n 0, 1) := by decide +kernel
theorem dX12_go_15 : decode cX12_go 15 = .ok (.aload_n 0, 1) := by decide +kernel
theorem dX12_go_16 : decode cX12_go 16 = .ok (.getfield 28, 3) := by decide +kernel
theorem dX12_go_19 : decode cX12_go 19 = .ok (.invokevirtual 188, 3) := by decide +kernel
theorem dX12_go_22 : decode cX12_go 22 = .ok (.ifCond .ne 5, 3) := by decide +kernel
theorem dX12_go_25 : decode cX12_go 25 = .ok (.iconst 3, 1) := by decide +kernel
theorem dX12_go_26 : decode cX12_go 26 = .ok (.istore_n 3, 1) := by decide +kernel
theorem dX12_go_27 : decode cX12_go 27 = .ok (.iload_n 3, 1) := by decide +kernel
theorem dX12_go_28 : decode cX12_go 28 = .ok (.ifCond .le 11, 3) := by decide +kernel
theorem dX12_go_31 : decode cX12_go 31 = .ok (.aload_n 0, 1) := by decide +kernel
theorem dX12_go_32 : decode cX12_go 32 = .ok (.iload_n 3, 1) := by decide +kernel
theorem dX12_go_33 : decode cX12_go 33 = .ok (.invokevirtual 63, 3) := by decide +kernel
theorem dX12_go_36 : decode cX12_go 36 = .ok (.goto 12, 3) := by decide +kernel
theorem dX12_go_39 : decode cX12_go 39 = .ok (.aload_n 0, 1) := by decide +kernel
theorem dX12_go_40 : decode cX12_go 40 = .ok (.iload_n 2, 1) := by decide +kernel
theorem dX12_go_41 : decode cX12_go 41 = .ok (.aload_n 0, 1) := by decide +kernel
theorem dX12_go_42 : decode cX12_go 42 = .ok (.getfield 28, 3) := by decide +kernel
theorem dX12_go_45 : decode cX12_go 45 = .ok (.invokevirtual 192, 3) := by decide +kernel
theorem dX12_go_48 : decode cX12_go 48 = .ok (.ireturn, 1) := by decide +kernel
theorem dX12_draw_0 : decode cX12_draw 0 = .ok (.aload_n 0, 1) := by decide +kernel
theorem dX12_draw_1 : decode cX12_draw 1 = .ok (.getfield 7, 3) := by decide +kernel
theorem dX12_draw_4 : decode cX12_draw 4 = .ok (.iconst 5, 1) := by decide +kernel
theorem dX12_draw_5 : decode cX12_draw 5 = .ok (.aload_n 0, 1) := by decide +kernel
theorem dX12_draw_6 : decode cX12_draw 6 = .ok (.getfield 7, 3) := by decide +kernel
theorem dX12_draw_9 : decode cX12_draw 9 = .ok (.iconst 5, 1) := by decide +kernel
theorem dX12_draw_10 : decode cX12_draw 10 = .ok (.iaload, 1) := by decide +kernel
theorem dX12_draw_11 : decode cX12_draw 11 = .ok (.ldc 195, 2) := by decide +kernel
theorem dX12_draw_13 : decode cX12_draw 13 = .ok (.imul, 1) := by decide +kernel
theorem dX12_draw_14 : decode cX12_draw 14 = .ok (.sipush 12345, 3) := by decide +kernel
theorem dX12_draw_17 : decode cX12_draw 17 = .ok (.iadd, 1) := by decide +kernel
theorem dX12_draw_18 : decode cX12_draw 18 = .ok (.iastore, 1) := by decide +kernel
theorem dX12_draw_19 : decode cX12_draw 19 = .ok (.aload_n 0, 1) := by decide +kernel
theorem dX12_draw_20 : decode cX12_draw 20 = .ok (.getfield 7, 3) := by decide +kernel
theorem dX12_draw_23 : decode cX12_draw 23 = .ok (.iconst 5, 1) := by decide +kernel
theorem dX12_draw_24 : decode cX12_draw 24 = .ok (.iaload, 1) := by decide +kernel
theorem dX12_draw_25 : decode cX12_draw 25 = .ok (.bipush 8, 2) := by decide +kernel
theorem dX12_draw_27 : decode cX12_draw 27 = .ok (.iushr, 1) := by decide +kernel
theorem dX12_draw_28 : decode cX12_draw 28 = .ok (.ireturn, 1) := by decide +kernel
theorem dX12_draws_0 : decode cX12_draws 0 = .ok (.iload_n 1, 1) := by decide +kernel
theorem dX12_draws_1 : decode cX12_draws 1 = .ok (.iconst 1, 1) := by decide +kernel
theorem dX12_draws_2 : decode cX12_draws 2 = .ok (.bipush 60, 2) := by decide +kernel
theorem dX12_draws_4 : decode cX12_draws 4 = .ok (.invokestatic 59, 3) := by decide +kernel
theorem dX12_draws_7 : decode cX12_draws 7 = .ok (.ifCond .ne 9, 3) := by decide +kernel
theorem dX12_draws_10 : decode cX12_draws 10 = .ok (.aload_n 0, 1) := by decide +kernel
theorem dX12_draws_11 : decode cX12_draws 11 = .ok (.iconst 1, 1) := by decide +kernel
theorem dX12_draws_12 : decode cX12_draws 12 = .ok (.invokevirtual 63, 3) := by decide +kernel
theorem dX12_draws_15 : decode cX12_draws 15 = .ok (.ireturn, 1) := by decide +kernel
theorem dX12_draws_16 : decode cX12_draws 16 = .ok (.iconst 0, 1) := by decide +kernel
theorem dX12_draws_17 : decode cX12_draws 17 = .ok (.istore_n 2, 1) := by decide +kernel
theorem dX12_draws_18 : decode cX12_draws 18 = .ok (.iconst 0, 1) := by decide +kernel
theorem dX12_draws_19 : decode cX12_draws 19 = .ok (.istore_n 3, 1) := by decide +kernel
theorem dX12_draws_20 : decode cX12_draws 20 = .ok (.iload_n 3, 1) := by decide +kernel
theorem dX12_draws_21 : decode cX12_draws 21 = .ok (.iload_n 1, 1) := by decide +kernel
theorem dX12_draws_22 : decode cX12_draws 22 = .ok (.if_icmp .ge 91, 3) := by decide +kernel
theorem dX12_draws_25 : decode cX12_draws 25 = .ok (.iconst 0, 1) := by decide +kernel
theorem dX12_draws_26 : decode cX12_draws 26 = .ok (.istore 4, 2) := by decide +kernel
theorem dX12_draws_28 : decode cX12_draws 28 = .ok (.iload 4, 2) := by decide +kernel
theorem dX12_draws_30 : decode cX12_draws 30 = .ok (.bipush 8, 2) := by decide +kernel
theorem dX12_draws_32 : decode cX12_draws 32 = .ok (.if_icmp .ge 17, 3) := by decide +kernel
theorem dX12_draws_35 : decode cX12_draws 35 = .ok (.aload_n 0, 1) := by decide +kernel
theorem dX12_draws_36 : decode cX12_draws 36 = .ok (.getfield 28, 3) := by decide +kernel
theorem dX12_draws_39 : decode cX12_draws 39 = .ok (.iload 4, 2) := by decide +kernel
theorem dX12_draws_41 : decode cX12_draws 41 = .ok (.iconst 0, 1) := by decide +kernel
theorem dX12_draws_42 : decode cX12_draws 42 = .ok (.iastore, 1) := by decide +kernel
theorem dX12_draws_43 : decode cX12_draws 43 = .ok (.iinc 4 1, 3) := by decide +kernel
theorem dX12_draws_46 : decode cX12_draws 46 = .ok (.goto (-18), 3) := by decide +kernel
theorem dX12_draws_49 : decode cX12_draws 49 = .ok (.aload_n 0, 1) := by decide +kernel
theorem dX12_draws_50 : decode cX12_draws 50 = .ok (.invokevirtual 196, 3) := by decide +kernel
theorem dX12_draws_53 : decode cX12_draws 53 = .ok (.bipush 8, 2) := by decide +kernel
theorem dX12_draws_55 : decode cX12_draws 55 = .ok (.irem, 1) := by decide +kernel
theorem dX12_draws_56 : decode cX12_draws 56 = .ok (.istore 4, 2) := by decide +kernel
theorem dX12_draws_58 : decode cX12_draws 58 = .ok (.aload_n 0, 1) := by decide +kernel
theorem dX12_draws_59 : decode cX12_draws 59 = .ok (.getfield 28, 3) := by decide +kernel
theorem dX12_draws_62 : decode cX12_draws 62 = .ok (.iload 4, 2) := by decide +kernel
theorem dX12_draws_64 : decode cX12_draws 64 = .ok (.aload_n 0, 1) := by decide +kernel
theorem dX12_draws_65 : decode cX12_draws 65 = .ok (.invokevirtual 196, 3) := by decide +kernel
theorem dX12_draws_68 : decode cX12_draws 68 = .ok (.iconst 4, 1) := by decide +kernel
theorem dX12_draws_69 : decode cX12_draws 69 = .ok (.irem, 1) := by decide +kernel
theorem dX12_draws_70 : decode cX12_draws 70 = .ok (.iconst 1, 1) := by decide +kernel
theorem dX12_draws_71 : decode cX12_draws 71 = .ok (.iadd, 1) := by decide +kernel
theorem dX12_draws_72 : decode cX12_draws 72 = .ok (.iastore, 1) := by decide +kernel
theorem dX12_draws_73 : decode cX12_draws 73 = .ok (.aload_n 0, 1) := by decide +kernel
theorem dX12_draws_74 : decode cX12_draws 74 = .ok (.invokevirtual 196, 3) := by decide +kernel
theorem dX12_draws_77 : decode cX12_draws 77 = .ok (.iconst 4, 1) := by decide +kernel
theorem dX12_draws_78 : decode cX12_draws 78 = .ok (.irem, 1) := by decide +kernel
theorem dX12_draws_79 : decode cX12_draws 79 = .ok (.istore 5, 2) := by decide +kernel
theorem dX12_draws_81 : decode cX12_draws 81 = .ok (.aload_n 0, 1) := by decide +kernel
theorem dX12_draws_82 : decode cX12_draws 82 = .ok (.aload_n 0, 1) := by decide +kernel
theorem dX12_draws_83 : decode cX12_draws 83 = .ok (.getfield 28, 3) := by decide +kernel
theorem dX12_draws_86 : decode cX12_draws 86 = .ok (.invokevirtual 188, 3) := by decide +kernel
theorem dX12_draws_89 : decode cX12_draws 89 = .ok (.ifCond .eq 18, 3) := by decide +kernel
theorem dX12_draws_92 : decode cX12_draws 92 = .ok (.aload_n 0, 1) := by decide +kernel
theorem dX12_draws_93 : decode cX12_draws 93 = .ok (.iload 5, 2) := by decide +kernel
theorem dX12_draws_95 : decode cX12_draws 95 = .ok (.aload_n 0, 1) := by decide +kernel
theorem dX12_draws_96 : decode cX12_draws 96 = .ok (.getfield 28, 3) := by decide +kernel
theorem dX12_draws_99 : decode cX12_draws 99 = .ok (.invokevirtual 192, 3) := by decide +kernel
theorem dX12_draws_102 : decode cX12_draws 102 = .ok (.istore 6, 2) := by decide +kernel
theorem dX12_draws_104 : decode cX12_draws 104 = .ok (.iinc 2 1, 3) := by decide +kernel
theorem dX12_draws_107 : decode cX12_draws 107 = .ok (.iinc 3 1, 3) := by decide +kernel
theorem dX12_draws_110 : decode cX12_draws 110 = .ok (.goto (-90), 3) := by decide +kernel
theorem dX12_draws_113 : decode cX12_draws 113 = .ok (.iload_n 2, 1) := by decide +kernel
theorem dX12_draws_114 : decode cX12_draws 114 = .ok (.ireturn, 1) := by decide +kernel
theorem dX12_seed_0 : decode cX12_seed 0 = .ok (.aload_n 0, 1) := by decide +kernel
theorem dX12_seed_1 : decode cX12_seed 1 = .ok (.iconst 5, 1) := by decide +kernel
theorem dX12_seed_2 : decode cX12_seed 2 = .ok (.iload_n 1, 1) := by decide +kernel
theorem dX12_seed_3 : decode cX12_seed 3 = .ok (.invokevirtual 155, 3) := by decide +kernel
theorem dX12_seed_6 : decode cX12_seed 6 = .ok (.ireturn, 1) := by decide +kernel
theorem dX12_tries_0 : decode cX12_tries 0 = .ok (.iload_n 2, 1) := by decide +kernel
theorem dX12_tries_1 : decode cX12_tries 1 = .ok (.bipush 8, 2) := by decide +kernel
theorem dX12_tries_3 : decode cX12_tries 3 = .ok (.if_icmp .ne 172, 3) := by decide +kernel
theorem dX12_tries_6 : decode cX12_tries 6 = .ok (.aload_n 0, 1) := by decide +kernel
theorem dX12_tries_7 : decode cX12_tries 7 = .ok (.iload_n 1, 1) := by decide +kernel
theorem dX12_tries_8 : decode cX12_tries 8 = .ok (.aload_n 0, 1) := by decide +kernel
theorem dX12_tries_9 : decode cX12_tries 9 = .ok (.getfield 34, 3) := by decide +kernel
theorem dX12_tries_12 : decode cX12_tries 12 = .ok (.invokevirtual 183, 3) := by decide +kernel
theorem dX12_tries_15 : decode cX12_tries 15 = .ok (.istore 5, 2) := by decide +kernel
theorem dX12_tries_17 : decode cX12_tries 17 = .ok (.iconst 0, 1) := by decide +kernel
theorem dX12_tries_18 : decode cX12_tries 18 = .ok (.istore 6, 2) := by decide +kernel
theorem dX12_tries_20 : decode cX12_tries 20 = .ok (.iload 6, 2) := by decide +kernel
theorem dX12_tries_22 : decode cX12_tries 22 = .ok (.bipush 8, 2) := by decide +kernel
theorem dX12_tries_24 : decode cX12_tries 24 = .ok (.if_icmp .ge 37, 3) := by decide +kernel
theorem dX12_tries_27 : decode cX12_tries 27 = .ok (.iload 5, 2) := by decide +kernel
theorem dX12_tries_29 : decode cX12_tries 29 = .ok (.aload_n 0, 1) := by decide +kernel
theorem dX12_tries_30 : decode cX12_tries 30 = .ok (.getfield 34, 3) := by decide +kernel
theorem dX12_tries_33 : decode cX12_tries 33 = .ok (.iload 6, 2) := by decide +kernel
theorem dX12_tries_35 : decode cX12_tries 35 = .ok (.iaload, 1) := by decide +kernel
theorem dX12_tries_36 : decode cX12_tries 36 = .ok (.aload_n 0, 1) := by decide +kernel
theorem dX12_tries_37 : decode cX12_tries 37 = .ok (.getfield 28, 3) := by decide +kernel
theorem dX12_tries_40 : decode cX12_tries 40 = .ok (.iload 6, 2) := by decide +kernel
theorem dX12_tries_42 : decode cX12_tries 42 = .ok (.iaload, 1) := by decide +kernel
theorem dX12_tries_43 : decode cX12_tries 43 = .ok (.isub, 1) := by decide +kernel
theorem dX12_tries_44 : decode cX12_tries 44 = .ok (.aload_n 0, 1) := by decide +kernel
theorem dX12_tries_45 : decode cX12_tries 45 = .ok (.getfield 40, 3) := by decide +kernel
theorem dX12_tries_48 : decode cX12_tries 48 = .ok (.iload 6, 2) := by decide +kernel
theorem dX12_tries_50 : decode cX12_tries 50 = .ok (.iaload, 1) := by decide +kernel
theorem dX12_tries_51 : decode cX12_tries 51 = .ok (.imul, 1) := by decide +kernel
theorem dX12_tries_52 : decode cX12_tries 52 = .ok (.isub, 1) := by decide +kernel
theorem dX12_tries_53 : decode cX12_tries 53 = .ok (.istore 5, 2) := by decide +kernel
theorem dX12_tries_55 : decode cX12_tries 55 = .ok (.iinc 6 1, 3) := by decide +kernel
theorem dX12_tries_58 : decode cX12_tries 58 = .ok (.goto (-38), 3) := by decide +kernel
theorem dX12_tries_61 : decode cX12_tries 61 = .ok (.aload_n 0, 1) := by decide +kernel
theorem dX12_tries_62 : decode cX12_tries 62 = .ok (.getfield 199, 3) := by decide +kernel
theorem dX12_tries_65 : decode cX12_tries 65 = .ok (.iconst (-1), 1) := by decide +kernel
theorem dX12_tries_66 : decode cX12_tries 66 = .ok (.if_icmp .eq 30, 3) := by decide +kernel
theorem dX12_tries_69 : decode cX12_tries 69 = .ok (.iload 5, 2) := by decide +kernel
theorem dX12_tries_71 : decode cX12_tries 71 = .ok (.aload_n 0, 1) := by decide +kernel
theorem dX12_tries_72 : decode cX12_tries 72 = .ok (.getfield 202, 3) := by decide +kernel
theorem dX12_tries_75 : decode cX12_tries 75 = .ok (.if_icmp .lt 21, 3) := by decide +kernel
theorem dX12_tries_78 : decode cX12_tries 78 = .ok (.iload 5, 2) := by decide +kernel
theorem dX12_tries_80 : decode cX12_tries 80 = .ok (.aload_n 0, 1) := by decide +kernel
theorem dX12_tries_81 : decode cX12_tries 81 = .ok (.getfield 202, 3) := by decide +kernel
theorem dX12_tries_84 : decode cX12_tries 84 = .ok (.if_icmp .ne 16, 3) := by decide +kernel
theorem dX12_tries_87 : decode cX12_tries 87 = .ok (.iload 4, 2) := by decide +kernel
theorem dX12_tries_89 : decode cX12_tries 89 = .ok (.aload_n 0, 1) := by decide +kernel
theorem dX12_tries_90 : decode cX12_tries 90 = .ok (.getfield 199, 3) := by decide +kernel
theorem dX12_tries_93 : decode cX12_tries 93 = .ok (.if_icmp .ge 7, 3) := by decide +kernel
theorem dX12_tries_96 : decode cX12_tries 96 = .ok (.iconst 1, 1) := by decide +kernel
theorem dX12_tries_97 : decode cX12_tries 97 = .ok (.goto 4, 3) := by decide +kernel
theorem dX12_tries_100 : decode cX12_tries 100 = .ok (.iconst 0, 1) := by decide +kernel
theorem dX12_tries_101 : decode cX12_tries 101 = .ok (.istore 6, 2) := by decide +kernel
theorem dX12_tries_103 : decode cX12_tries 103 = .ok (.iconst 0, 1) := by decide +kernel
theorem dX12_tries_104 : decode cX12_tries 104 = .ok (.istore 7, 2) := by decide +kernel
theorem dX12_tries_106 : decode cX12_tries 106 = .ok (.iload 7, 2) := by decide +kernel
theorem dX12_tries_108 : decode cX12_tries 108 = .ok (.bipush 8, 2) := by decide +kernel
theorem dX12_tries_110 : decode cX12_tries 110 = .ok (.if_icmp .ge 28, 3) := by decide +kernel
theorem dX12_tries_113 : decode cX12_tries 113 = .ok (.iload 6, 2) := by decide +kernel
theorem dX12_tries_115 : decode cX12_tries 115 = .ok (.ifCond .eq 23, 3) := by decide +kernel
theorem dX12_tries_118 : decode cX12_tries 118 = .ok (.aload_n 0, 1) := by decide +kernel
theorem dX12_tries_119 : decode cX12_tries 119 = .ok (.getfield 37, 3) := by decide +kernel
theorem dX12_tries_122 : decode cX12_tries 122 = .ok (.iload 7, 2) := by decide +kernel
theorem dX12_tries_124 : decode cX12_tries 124 = .ok (.aload_n 0, 1) := by decide +kernel
theorem dX12_tries_125 : decode cX12_tries 125 = .ok (.getfield 34, 3) := by decide +kernel
theorem dX12_tries_128 : decode cX12_tries 128 = .ok (.iload 7, 2) := by decide +kernel
theorem dX12_tries_130 : decode cX12_tries 130 = .ok (.iaload, 1) := by decide +kernel
theorem dX12_tries_131 : decode cX12_tries 131 = .ok (.iastore, 1) := by decide +kernel
theorem dX12_tries_132 : decode cX12_tries 132 = .ok (.iinc 7 1, 3) := by decide +kernel
theorem dX12_tries_135 : decode cX12_tries 135 = .ok (.goto (-29), 3) := by decide +kernel
theorem dX12_tries_138 : decode cX12_tries 138 = .ok (.aload_n 0, 1) := by decide +kernel
theorem dX12_tries_139 : decode cX12_tries 139 = .ok (.iload 6, 2) := by decide +kernel
theorem dX12_tries_141 : decode cX12_tries 141 = .ok (.ifCond .eq 8, 3) := by decide +kernel
theorem dX12_tries_144 : decode cX12_tries 144 = .ok (.iload 5, 2) := by decide +kernel
theorem dX12_tries_146 : decode cX12_tries 146 = .ok (.goto 7, 3) := by decide +kernel
theorem dX12_tries_149 : decode cX12_tries 149 = .ok (.aload_n 0, 1) := by decide +kernel
theorem dX12_tries_150 : decode cX12_tries 150 = .ok (.getfield 202, 3) := by decide +kernel
theorem dX12_tries_153 : decode cX12_tries 153 = .ok (.putfield 202, 3) := by decide +kernel
theorem dX12_tries_156 : decode cX12_tries 156 = .ok (.aload_n 0, 1) := by decide +kernel
theorem dX12_tries_157 : decode cX12_tries 157 = .ok (.iload 6, 2) := by decide +kernel
theorem dX12_tries_159 : decode cX12_tries 159 = .ok (.ifCond .eq 8, 3) := by decide +kernel
theorem dX12_tries_162 : decode cX12_tries 162 = .ok (.iload 4, 2) := by decide +kernel
theorem dX12_tries_164 : decode cX12_tries 164 = .ok (.goto 7, 3) := by decide +kernel
theorem dX12_tries_167 : decode cX12_tries 167 = .ok (.aload_n 0, 1) := by decide +kernel
theorem dX12_tries_168 : decode cX12_tries 168 = .ok (.getfield 199, 3) := by decide +kernel
theorem dX12_tries_171 : decode cX12_tries 171 = .ok (.putfield 199, 3) := by decide +kernel
theorem dX12_tries_174 : decode cX12_tries 174 = .ok (.return_, 1) := by decide +kernel
theorem dX12_tries_175 : decode cX12_tries 175 = .ok (.iconst 0, 1) := by decide +kernel
theorem dX12_tries_176 : decode cX12_tries 176 = .ok (.istore 5, 2) := by decide +kernel
theorem dX12_tries_178 : decode cX12_tries 178 = .ok (.iload 5, 2) := by decide +kernel
theorem dX12_tries_180 : decode cX12_tries 180 = .ok (.iload_n 3, 1) := by decide +kernel
theorem dX12_tries_181 : decode cX12_tries 181 = .ok (.if_icmp .gt 55, 3) := by decide +kernel
theorem dX12_tries_184 : decode cX12_tries 184 = .ok (.aload_n 0, 1) := by decide +kernel
theorem dX12_tries_185 : decode cX12_tries 185 = .ok (.getfield 28, 3) := by decide +kernel
theorem dX12_tries_188 : decode cX12_tries 188 = .ok (.iload_n 2, 1) := by decide +kernel
theorem dX12_tries_189 : decode cX12_tries 189 = .ok (.iaload, 1) := by decide +kernel
theorem dX12_tries_190 : decode cX12_tries 190 = .ok (.iload 5, 2) := by decide +kernel
theorem dX12_tries_192 : decode cX12_tries 192 = .ok (.iadd, 1) := by decide +kernel
theorem dX12_tries_193 : decode cX12_tries 193 = .ok (.bipush 9, 2) := by decide +kernel
theorem dX12_tries_195 : decode cX12_tries 195 = .ok (.if_icmp .gt 41, 3) := by decide +kernel
theorem dX12_tries_198 : decode cX12_tries 198 = .ok (.aload_n 0, 1) := by decide +kernel
theorem dX12_tries_199 : decode cX12_tries 199 = .ok (.getfield 34, 3) := by decide +kernel
theorem dX12_tries_202 : decode cX12_tries 202 = .ok (.iload_n 2, 1) := by decide +kernel
theorem dX12_tries_203 : decode cX12_tries 203 = .ok (.aload_n 0, 1) := by decide +kernel
theorem dX12_tries_204 : decode cX12_tries 204 = .ok (.getfield 28, 3) := by decide +kernel
theorem dX12_tries_207 : decode cX12_tries 207 = .ok (.iload_n 2, 1) := by decide +kernel
theorem dX12_tries_208 : decode cX12_tries 208 = .ok (.iaload, 1) := by decide +kernel
theorem dX12_tries_209 : decode cX12_tries 209 = .ok (.iload 5, 2) := by decide +kernel
theorem dX12_tries_211 : decode cX12_tries 211 = .ok (.iadd, 1) := by decide +kernel
theorem dX12_tries_212 : decode cX12_tries 212 = .ok (.iastore, 1) := by decide +kernel
theorem dX12_tries_213 : decode cX12_tries 213 = .ok (.aload_n 0, 1) := by decide +kernel
theorem dX12_tries_214 : decode cX12_tries 214 = .ok (.iload_n 1, 1) := by decide +kernel
theorem dX12_tries_215 : decode cX12_tries 215 = .ok (.iload_n 2, 1) := by decide +kernel
theorem dX12_tries_216 : decode cX12_tries 216 = .ok (.iconst 1, 1) := by decide +kernel
theorem dX12_tries_217 : decode cX12_tries 217 = .ok (.iadd, 1) := by decide +kernel
theorem dX12_tries_218 : decode cX12_tries 218 = .ok (.iload_n 3, 1) := by decide +kernel
theorem dX12_tries_219 : decode cX12_tries 219 = .ok (.iload 5, 2) := by decide +kernel
theorem dX12_tries_221 : decode cX12_tries 221 = .ok (.isub, 1) := by decide +kernel
theorem dX12_tries_222 : decode cX12_tries 222 = .ok (.iload 4, 2) := by decide +kernel
theorem dX12_tries_224 : decode cX12_tries 224 = .ok (.iload 5, 2) := by decide +kernel
theorem dX12_tries_226 : decode cX12_tries 226 = .ok (.iadd, 1) := by decide +kernel
theorem dX12_tries_227 : decode cX12_tries 227 = .ok (.invokevirtual 205, 3) := by decide +kernel
theorem dX12_tries_230 : decode cX12_tries 230 = .ok (.iinc 5 1, 3) := by decide +kernel
theorem dX12_tries_233 : decode cX12_tries 233 = .ok (.goto (-55), 3) := by decide +kernel
theorem dX12_tries_236 : decode cX12_tries 236 = .ok (.aload_n 0, 1) := by decide +kernel
theorem dX12_tries_237 : decode cX12_tries 237 = .ok (.getfield 34, 3) := by decide +kernel
theorem dX12_tries_240 : decode cX12_tries 240 = .ok (.iload_n 2, 1) := by decide +kernel
theorem dX12_tries_241 : decode cX12_tries 241 = .ok (.aload_n 0, 1) := by decide +kernel
theorem dX12_tries_242 : decode cX12_tries 242 = .ok (.getfield 28, 3) := by decide +kernel
theorem dX12_tries_245 : decode cX12_tries 245 = .ok (.iload_n 2, 1) := by decide +kernel
theorem dX12_tries_246 : decode cX12_tries 246 = .ok (.iaload, 1) := by decide +kernel
theorem dX12_tries_247 : decode cX12_tries 247 = .ok (.iastore, 1) := by decide +kernel
theorem dX12_tries_248 : decode cX12_tries 248 = .ok (.return_, 1) := by decide +kernel
theorem dX12_seeks_0 : decode cX12_seeks 0 = .ok (.bipush 30, 2) := by decide +kernel
theorem dX12_seeks_2 : decode cX12_seeks 2 = .ok (.aload_n 0, 1) := by decide +kernel
theorem dX12_seeks_3 : decode cX12_seeks 3 = .ok (.getfield 28, 3) := by decide +kernel
theorem dX12_seeks_6 : decode cX12_seeks 6 = .ok (.invokestatic 146, 3) := by decide +kernel
theorem dX12_seeks_9 : decode cX12_seeks 9 = .ok (.isub, 1) := by decide +kernel
theorem dX12_seeks_10 : decode cX12_seeks 10 = .ok (.istore_n 3, 1) := by decide +kernel
theorem dX12_seeks_11 : decode cX12_seeks 11 = .ok (.iconst 0, 1) := by decide +kernel
theorem dX12_seeks_12 : decode cX12_seeks 12 = .ok (.istore 4, 2) := by decide +kernel
theorem dX12_seeks_14 : decode cX12_seeks 14 = .ok (.iload 4, 2) := by decide +kernel
theorem dX12_seeks_16 : decode cX12_seeks 16 = .ok (.bipush 8, 2) := by decide +kernel
theorem dX12_seeks_18 : decode cX12_seeks 18 = .ok (.if_icmp .ge 22, 3) := by decide +kernel
theorem dX12_seeks_21 : decode cX12_seeks 21 = .ok (.aload_n 0, 1) := by decide +kernel
theorem dX12_seeks_22 : decode cX12_seeks 22 = .ok (.getfield 40, 3) := by decide +kernel
theorem dX12_seeks_25 : decode cX12_seeks 25 = .ok (.iload 4, 2) := by decide +kernel
theorem dX12_seeks_27 : decode cX12_seeks 27 = .ok (.aload_n 0, 1) := by decide +kernel
theorem dX12_seeks_28 : decode cX12_seeks 28 = .ok (.iload 4, 2) := by decide +kernel
theorem dX12_seeks_30 : decode cX12_seeks 30 = .ok (.invokevirtual 158, 3) := by decide +kernel
theorem dX12_seeks_33 : decode cX12_seeks 33 = .ok (.iastore, 1) := by decide +kernel
theorem dX12_seeks_34 : decode cX12_seeks 34 = .ok (.iinc 4 1, 3) := by decide +kernel
theorem dX12_seeks_37 : decode cX12_seeks 37 = .ok (.goto (-23), 3) := by decide +kernel
theorem dX12_seeks_40 : decode cX12_seeks 40 = .ok (.aload_n 0, 1) := by decide +kernel
theorem dX12_seeks_41 : decode cX12_seeks 41 = .ok (.iconst (-1), 1) := by decide +kernel
theorem dX12_seeks_42 : decode cX12_seeks 42 = .ok (.putfield 199, 3) := by decide +kernel
theorem dX12_seeks_45 : decode cX12_seeks 45 = .ok (.aload_n 0, 1) := by decide +kernel
theorem dX12_seeks_46 : decode cX12_seeks 46 = .ok (.iload_n 1, 1) := by decide +kernel
theorem dX12_seeks_47 : decode cX12_seeks 47 = .ok (.iconst 0, 1) := by decide +kernel
theorem dX12_seeks_48 : decode cX12_seeks 48 = .ok (.iload_n 2, 1) := by decide +kernel
theorem dX12_seeks_49 : decode cX12_seeks 49 = .ok (.iload_n 3, 1) := by decide +kernel
theorem dX12_seeks_50 : decode cX12_seeks 50 = .ok (.if_icmp .ge 7, 3) := by decide +kernel
theorem dX12_seeks_53 : decode cX12_seeks 53 = .ok (.iload_n 2, 1) := by decide +kernel
theorem dX12_seeks_54 : decode cX12_seeks 54 = .ok (.goto 4, 3) := by decide +kernel
theorem dX12_seeks_57 : decode cX12_seeks 57 = .ok (.iload_n 3, 1) := by decide +kernel
theorem dX12_seeks_58 : decode cX12_seeks 58 = .ok (.iconst 0, 1) := by decide +kernel
theorem dX12_seeks_59 : decode cX12_seeks 59 = .ok (.invokevirtual 205, 3) := by decide +kernel
theorem dX12_seeks_62 : decode cX12_seeks 62 = .ok (.return_, 1) := by decide +kernel
theorem dX12_more_0 : decode cX12_more 0 = .ok (.aload_n 0, 1) := by decide +kernel
theorem dX12_more_1 : decode cX12_more 1 = .ok (.iload_n 1, 1) := by decide +kernel
theorem dX12_more_2 : decode cX12_more 2 = .ok (.iload_n 2, 1) := by decide +kernel
theorem dX12_more_3 : decode cX12_more 3 = .ok (.iload_n 3, 1) := by decide +kernel
theorem dX12_more_4 : decode cX12_more 4 = .ok (.iconst 0, 1) := by decide +kernel
theorem dX12_more_5 : decode cX12_more 5 = .ok (.iconst 4, 1) := by decide +kernel
theorem dX12_more_6 : decode cX12_more 6 = .ok (.invokestatic 59, 3) := by decide +kernel
theorem dX12_more_9 : decode cX12_more 9 = .ok (.ifCond .eq 19, 3) := by decide +kernel
theorem dX12_more_12 : decode cX12_more 12 = .ok (.iload 4, 2) := by decide +kernel
theorem dX12_more_14 : decode cX12_more 14 = .ok (.bipush (-2), 2) := by decide +kernel
theorem dX12_more_16 : decode cX12_more 16 = .ok (.bipush 7, 2) := by decide +kernel
theorem dX12_more_18 : decode cX12_more 18 = .ok (.invokestatic 59, 3) := by decide +kernel
theorem dX12_more_21 : decode cX12_more 21 = .ok (.ifCond .eq 7, 3) := by decide +kernel
theorem dX12_more_24 : decode cX12_more 24 = .ok (.iconst 1, 1) := by decide +kernel
theorem dX12_more_25 : decode cX12_more 25 = .ok (.goto 4, 3) := by decide +kernel
theorem dX12_more_28 : decode cX12_more 28 = .ok (.iconst 0, 1) := by decide +kernel
theorem dX12_more_29 : decode cX12_more 29 = .ok (.bipush 30, 2) := by decide +kernel
theorem dX12_more_31 : decode cX12_more 31 = .ok (.invokevirtual 176, 3) := by decide +kernel
theorem dX12_more_34 : decode cX12_more 34 = .ok (.istore 5, 2) := by decide +kernel
theorem dX12_more_36 : decode cX12_more 36 = .ok (.iload 5, 2) := by decide +kernel
theorem dX12_more_38 : decode cX12_more 38 = .ok (.ifCond .le 10, 3) := by decide +kernel
theorem dX12_more_41 : decode cX12_more 41 = .ok (.aload_n 0, 1) := by decide +kernel
theorem dX12_more_42 : decode cX12_more 42 = .ok (.iload 5, 2) := by decide +kernel
theorem dX12_more_44 : decode cX12_more 44 = .ok (.invokevirtual 63, 3) := by decide +kernel
theorem dX12_more_47 : decode cX12_more 47 = .ok (.ireturn, 1) := by decide +kernel
theorem dX12_more_48 : decode cX12_more 48 = .ok (.aload_n 0, 1) := by decide +kernel
theorem dX12_more_49 : decode cX12_more 49 = .ok (.iload_n 2, 1) := by decide +kernel
theorem dX12_more_50 : decode cX12_more 50 = .ok (.iload_n 3, 1) := by decide +kernel
theorem dX12_more_51 : decode cX12_more 51 = .ok (.invokevirtual 209, 3) := by decide +kernel
theorem dX12_more_54 : decode cX12_more 54 = .ok (.iload 4, 2) := by decide +kernel
theorem dX12_more_56 : decode cX12_more 56 = .ok (.bipush (-2), 2) := by decide +kernel
theorem dX12_more_58 : decode cX12_more 58 = .ok (.if_icmp .ne 10, 3) := by decide +kernel
theorem dX12_more_61 : decode cX12_more 61 = .ok (.aload_n 0, 1) := by decide +kernel
theorem dX12_more_62 : decode cX12_more 62 = .ok (.getfield 202, 3) := by decide +kernel
theorem dX12_more_65 : decode cX12_more 65 = .ok (.goto 36, 3) := by decide +kernel
theorem dX12_more_68 : decode cX12_more 68 = .ok (.iload 4, 2) := by decide +kernel
theorem dX12_more_70 : decode cX12_more 70 = .ok (.iconst (-1), 1) := by decide +kernel
theorem dX12_more_71 : decode cX12_more 71 = .ok (.if_icmp .ne 15, 3) := by decide +kernel
theorem dX12_more_74 : decode cX12_more 74 = .ok (.aload_n 0, 1) := by decide +kernel
theorem dX12_more_75 : decode cX12_more 75 = .ok (.iload_n 2, 1) := by decide +kernel
theorem dX12_more_76 : decode cX12_more 76 = .ok (.aload_n 0, 1) := by decide +kernel
theorem dX12_more_77 : decode cX12_more 77 = .ok (.getfield 37, 3) := by decide +kernel
theorem dX12_more_80 : decode cX12_more 80 = .ok (.invokevirtual 183, 3) := by decide +kernel
theorem dX12_more_83 : decode cX12_more 83 = .ok (.goto 18, 3) := by decide +kernel
theorem dX12_more_86 : decode cX12_more 86 = .ok (.aload_n 0, 1) := by decide +kernel
theorem dX12_more_87 : decode cX12_more 87 = .ok (.getfield 37, 3) := by decide +kernel
theorem dX12_more_90 : decode cX12_more 90 = .ok (.iload 4, 2) := by decide +kernel
theorem dX12_more_92 : decode cX12_more 92 = .ok (.iaload, 1) := by decide +kernel
theorem dX12_more_93 : decode cX12_more 93 = .ok (.aload_n 0, 1) := by decide +kernel
theorem dX12_more_94 : decode cX12_more 94 = .ok (.getfield 28, 3) := by decide +kernel
theorem dX12_more_97 : decode cX12_more 97 = .ok (.iload 4, 2) := by decide +kernel
theorem dX12_more_99 : decode cX12_more 99 = .ok (.iaload, 1) := by decide +kernel
theorem dX12_more_100 : decode cX12_more 100 = .ok (.isub, 1) := by decide +kernel
theorem dX12_more_101 : decode cX12_more 101 = .ok (.ireturn, 1) := by decide +kernel
theorem dX12_parts_0 : decode cX12_parts 0 = .ok (.iload_n 2, 1) := by decide +kernel
theorem dX12_parts_1 : decode cX12_parts 1 = .ok (.bipush 8, 2) := by decide +kernel
theorem dX12_parts_3 : decode cX12_parts 3 = .ok (.if_icmp .ne 52, 3) := by decide +kernel
theorem dX12_parts_6 : decode cX12_parts 6 = .ok (.aload_n 0, 1) := by decide +kernel
theorem dX12_parts_7 : decode cX12_parts 7 = .ok (.iload_n 1, 1) := by decide +kernel
theorem dX12_parts_8 : decode cX12_parts 8 = .ok (.aload_n 0, 1) := by decide +kernel
theorem dX12_parts_9 : decode cX12_parts 9 = .ok (.getfield 34, 3) := by decide +kernel
theorem dX12_parts_12 : decode cX12_parts 12 = .ok (.invokevirtual 183, 3) := by decide +kernel
theorem dX12_parts_15 : decode cX12_parts 15 = .ok (.aload_n 0, 1) := by decide +kernel
theorem dX12_parts_16 : decode cX12_parts 16 = .ok (.iload_n 1, 1) := by decide +kernel
theorem dX12_parts_17 : decode cX12_parts 17 = .ok (.aload_n 0, 1) := by decide +kernel
theorem dX12_parts_18 : decode cX12_parts 18 = .ok (.getfield 31, 3) := by decide +kernel
theorem dX12_parts_21 : decode cX12_parts 21 = .ok (.invokevirtual 183, 3) := by decide +kernel
theorem dX12_parts_24 : decode cX12_parts 24 = .ok (.iadd, 1) := by decide +kernel
theorem dX12_parts_25 : decode cX12_parts 25 = .ok (.istore_n 3, 1) := by decide +kernel
theorem dX12_parts_26 : decode cX12_parts 26 = .ok (.aload_n 0, 1) := by decide +kernel
theorem dX12_parts_27 : decode cX12_parts 27 = .ok (.aload_n 0, 1) := by decide +kernel
theorem dX12_parts_28 : decode cX12_parts 28 = .ok (.getfield 212, 3) := by decide +kernel
theorem dX12_parts_31 : decode cX12_parts 31 = .ok (.iconst (-1), 1) := by decide +kernel
theorem dX12_parts_32 : decode cX12_parts 32 = .ok (.if_icmp .eq 11, 3) := by decide +kernel
theorem dX12_parts_35 : decode cX12_parts 35 = .ok (.iload_n 3, 1) := by decide +kernel
theorem dX12_parts_36 : decode cX12_parts 36 = .ok (.aload_n 0, 1) := by decide +kernel
theorem dX12_parts_37 : decode cX12_parts 37 = .ok (.getfield 212, 3) := by decide +kernel
theorem dX12_parts_40 : decode cX12_parts 40 = .ok (.if_icmp .ge 7, 3) := by decide +kernel
theorem dX12_parts_43 : decode cX12_parts 43 = .ok (.iload_n 3, 1) := by decide +kernel
theorem dX12_parts_44 : decode cX12_parts 44 = .ok (.goto 7, 3) := by decide +kernel
theorem dX12_parts_47 : decode cX12_parts 47 = .ok (.aload_n 0, 1) := by decide +kernel
theorem dX12_parts_48 : decode cX12_parts 48 = .ok (.getfield 212, 3) := by decide +kernel
theorem dX12_parts_51 : decode cX12_parts 51 = .ok (.putfield 212, 3) := by decide +kernel
theorem dX12_parts_54 : decode cX12_parts 54 = .ok (.return_, 1) := by decide +kernel
theorem dX12_parts_55 : decode cX12_parts 55 = .ok (.iconst 0, 1) := by decide +kernel
theorem dX12_parts_56 : decode cX12_parts 56 = .ok (.istore_n 3, 1) := by decide +kernel
theorem dX12_parts_57 : decode cX12_parts 57 = .ok (.iload_n 3, 1) := by decide +kernel
theorem dX12_parts_58 : decode cX12_parts 58 = .ok (.aload_n 0, 1) := by decide +kernel
theorem dX12_parts_59 : decode cX12_parts 59 = .ok (.getfield 28, 3) := by decide +kernel
theorem dX12_parts_62 : decode cX12_parts 62 = .ok (.iload_n 2, 1) := by decide +kernel
theorem dX12_parts_63 : decode cX12_parts 63 = .ok (.iaload, 1) := by decide +kernel
theorem dX12_parts_64 : decode cX12_parts 64 = .ok (.if_icmp .gt 38, 3) := by decide +kernel
theorem dX12_parts_67 : decode cX12_parts 67 = .ok (.aload_n 0, 1) := by decide +kernel
theorem dX12_parts_68 : decode cX12_parts 68 = .ok (.getfield 34, 3) := by decide +kernel
theorem dX12_parts_71 : decode cX12_parts 71 = .ok (.iload_n 2, 1) := by decide +kernel
theorem dX12_parts_72 : decode cX12_parts 72 = .ok (.iload_n 3, 1) := by decide +kernel
theorem dX12_parts_73 : decode cX12_parts 73 = .ok (.iastore, 1) := by decide +kernel
theorem dX12_parts_74 : decode cX12_parts 74 = .ok (.aload_n 0, 1) := by decide +kernel
theorem dX12_parts_75 : decode cX12_parts 75 = .ok (.getfield 31, 3) := by decide +kernel
theorem dX12_parts_78 : decode cX12_parts 78 = .ok (.iload_n 2, 1) := by decide +kernel
theorem dX12_parts_79 : decode cX12_parts 79 = .ok (.aload_n 0, 1) := by decide +kernel
theorem dX12_parts_80 : decode cX12_parts 80 = .ok (.getfield 28, 3) := by decide +kernel
theorem dX12_parts_83 : decode cX12_parts 83 = .ok (.iload_n 2, 1) := by decide +kernel
theorem dX12_parts_84 : decode cX12_parts 84 = .ok (.iaload, 1) := by decide +kernel
theorem dX12_parts_85 : decode cX12_parts 85 = .ok (.iload_n 3, 1) := by decide +kernel
theorem dX12_parts_86 : decode cX12_parts 86 = .ok (.isub, 1) := by decide +kernel
theorem dX12_parts_87 : decode cX12_parts 87 = .ok (.iastore, 1) := by decide +kernel
theorem dX12_parts_88 : decode cX12_parts 88 = .ok (.aload_n 0, 1) := by decide +kernel
theorem dX12_parts_89 : decode cX12_parts 89 = .ok (.iload_n 1, 1) := by decide +kernel
theorem dX12_parts_90 : decode cX12_parts 90 = .ok (.iload_n 2, 1) := by decide +kernel
theorem dX12_parts_91 : decode cX12_parts 91 = .ok (.iconst 1, 1) := by decide +kernel
theorem dX12_parts_92 : decode cX12_parts 92 = .ok (.iadd, 1) := by decide +kernel
theorem dX12_parts_93 : decode cX12_parts 93 = .ok (.invokevirtual 215, 3) := by decide +kernel
theorem dX12_parts_96 : decode cX12_parts 96 = .ok (.iinc 3 1, 3) := by decide +kernel
theorem dX12_parts_99 : decode cX12_parts 99 = .ok (.goto (-42), 3) := by decide +kernel
theorem dX12_parts_102 : decode cX12_parts 102 = .ok (.return_, 1) := by decide +kernel
theorem dX12_inTwo_0 : decode cX12_inTwo 0 = .ok (.aload_n 0, 1) := by decide +kernel
theorem dX12_inTwo_1 : decode cX12_inTwo 1 = .ok (.iload_n 1, 1) := by decide +kernel
theorem dX12_inTwo_2 : decode cX12_inTwo 2 = .ok (.iload_n 2, 1) := by decide +kernel
theorem dX12_inTwo_3 : decode cX12_inTwo 3 = .ok (.iconst 1, 1) := by decide +kernel
theorem dX12_inTwo_4 : decode cX12_inTwo 4 = .ok (.bipush 12, 2) := by decide +kernel
theorem dX12_inTwo_6 : decode cX12_inTwo 6 = .ok (.invokevirtual 176, 3) := by decide +kernel
theorem dX12_inTwo_9 : decode cX12_inTwo 9 = .ok (.istore_n 3, 1) := by decide +kernel
theorem dX12_inTwo_10 : decode cX12_inTwo 10 = .ok (.iload_n 3, 1) := by decide +kernel
theorem dX12_inTwo_11 : decode cX12_inTwo 11 = .ok (.ifCond .le 9, 3) := by decide +kernel
theorem dX12_inTwo_14 : decode cX12_inTwo 14 = .ok (.aload_n 0, 1) := by decide +kernel
theorem dX12_inTwo_15 : decode cX12_inTwo 15 = .ok (.iload_n 3, 1) := by decide +kernel
theorem dX12_inTwo_16 : decode cX12_inTwo 16 = .ok (.invokevirtual 63, 3) := by decide +kernel
theorem dX12_inTwo_19 : decode cX12_inTwo 19 = .ok (.ireturn, 1) := by decide +kernel
theorem dX12_inTwo_20 : decode cX12_inTwo 20 = .ok (.aload_n 0, 1) := by decide +kernel
theorem dX12_inTwo_21 : decode cX12_inTwo 21 = .ok (.iconst (-1), 1) := by decide +kernel
theorem dX12_inTwo_22 : decode cX12_inTwo 22 = .ok (.putfield 212, 3) := by decide +kernel
theorem dX12_inTwo_25 : decode cX12_inTwo 25 = .ok (.aload_n 0, 1) := by decide +kernel
theorem dX12_inTwo_26 : decode cX12_inTwo 26 = .ok (.iload_n 2, 1) := by decide +kernel
theorem dX12_inTwo_27 : decode cX12_inTwo 27 = .ok (.iconst 0, 1) := by decide +kernel
theorem dX12_inTwo_28 : decode cX12_inTwo 28 = .ok (.invokevirtual 215, 3) := by decide +kernel
theorem dX12_inTwo_31 : decode cX12_inTwo 31 = .ok (.aload_n 0, 1) := by decide +kernel
theorem dX12_inTwo_32 : decode cX12_inTwo 32 = .ok (.getfield 212, 3) := by decide +kernel
theorem dX12_inTwo_35 : decode cX12_inTwo 35 = .ok (.ireturn, 1) := by decide +kernel
theorem dX12_together_0 : decode cX12_together 0 = .ok (.aload_n 0, 1) := by decide +kernel
theorem dX12_together_1 : decode cX12_together 1 = .ok (.iload_n 1, 1) := by decide +kernel
theorem dX12_together_2 : decode cX12_together 2 = .ok (.iload_n 3, 1) := by decide +kernel
theorem dX12_together_3 : decode cX12_together 3 = .ok (.iload_n 2, 1) := by decide +kernel
theorem dX12_together_4 : decode cX12_together 4 = .ok (.invokestatic 169, 3) := by decide +kernel
theorem dX12_together_7 : decode cX12_together 7 = .ok (.bipush 99, 2) := by decide +kernel
theorem dX12_together_9 : decode cX12_together 9 = .ok (.invokevirtual 176, 3) := by decide +kernel
theorem dX12_together_12 : decode cX12_together 12 = .ok (.istore 4, 2) := by decide +kernel
theorem dX12_together_14 : decode cX12_together 14 = .ok (.iload 4, 2) := by decide +kernel
theorem dX12_together_16 : decode cX12_together 16 = .ok (.ifCond .eq 30, 3) := by decide +kernel
theorem dX12_together_19 : decode cX12_together 19 = .ok (.iload 4, 2) := by decide +kernel
theorem dX12_together_21 : decode cX12_together 21 = .ok (.iconst 1, 1) := by decide +kernel
theorem dX12_together_22 : decode cX12_together 22 = .ok (.if_icmp .ne 57, 3) := by decide +kernel
theorem dX12_together_25 : decode cX12_together 25 = .ok (.iload_n 1, 1) := by decide +kernel
theorem dX12_together_26 : decode cX12_together 26 = .ok (.invokestatic 169, 3) := by decide +kernel
theorem dX12_together_29 : decode cX12_together 29 = .ok (.ifCond .eq 50, 3) := by decide +kernel
theorem dX12_together_32 : decode cX12_together 32 = .ok (.iload_n 2, 1) := by decide +kernel
theorem dX12_together_33 : decode cX12_together 33 = .ok (.invokestatic 169, 3) := by decide +kernel
theorem dX12_together_36 : decode cX12_together 36 = .ok (.ifCond .eq 43, 3) := by decide +kernel
theorem dX12_together_39 : decode cX12_together 39 = .ok (.iload_n 3, 1) := by decide +kernel
theorem dX12_together_40 : decode cX12_together 40 = .ok (.invokestatic 161, 3) := by decide +kernel
theorem dX12_together_43 : decode cX12_together 43 = .ok (.ifCond .eq 36, 3) := by decide +kernel
theorem dX12_together_46 : decode cX12_together 46 = .ok (.aload_n 0, 1) := by decide +kernel
theorem dX12_together_47 : decode cX12_together 47 = .ok (.iload_n 2, 1) := by decide +kernel
theorem dX12_together_48 : decode cX12_together 48 = .ok (.aload_n 0, 1) := by decide +kernel
theorem dX12_together_49 : decode cX12_together 49 = .ok (.getfield 31, 3) := by decide +kernel
theorem dX12_together_52 : decode cX12_together 52 = .ok (.bipush 99, 2) := by decide +kernel
theorem dX12_together_54 : decode cX12_together 54 = .ok (.invokevirtual 172, 3) := by decide +kernel
theorem dX12_together_57 : decode cX12_together 57 = .ok (.istore 5, 2) := by decide +kernel
theorem dX12_together_59 : decode cX12_together 59 = .ok (.iload 5, 2) := by decide +kernel
theorem dX12_together_61 : decode cX12_together 61 = .ok (.iconst 2, 1) := by decide +kernel
theorem dX12_together_62 : decode cX12_together 62 = .ok (.if_icmp .eq 8, 3) := by decide +kernel
theorem dX12_together_65 : decode cX12_together 65 = .ok (.iload 4, 2) := by decide +kernel
theorem dX12_together_67 : decode cX12_together 67 = .ok (.ifCond .ne 8, 3) := by decide +kernel
theorem dX12_together_70 : decode cX12_together 70 = .ok (.iload 5, 2) := by decide +kernel
theorem dX12_together_72 : decode cX12_together 72 = .ok (.goto 5, 3) := by decide +kernel
theorem dX12_together_75 : decode cX12_together 75 = .ok (.iload 4, 2) := by decide +kernel
theorem dX12_together_77 : decode cX12_together 77 = .ok (.istore 4, 2) := by decide +kernel
theorem dX12_together_79 : decode cX12_together 79 = .ok (.iload 4, 2) := by decide +kernel
theorem dX12_together_81 : decode cX12_together 81 = .ok (.ifCond .ne 26, 3) := by decide +kernel
theorem dX12_together_84 : decode cX12_together 84 = .ok (.aload_n 0, 1) := by decide +kernel
theorem dX12_together_85 : decode cX12_together 85 = .ok (.getfield 28, 3) := by decide +kernel
theorem dX12_together_88 : decode cX12_together 88 = .ok (.invokestatic 146, 3) := by decide +kernel
theorem dX12_together_91 : decode cX12_together 91 = .ok (.aload_n 0, 1) := by decide +kernel
theorem dX12_together_92 : decode cX12_together 92 = .ok (.getfield 31, 3) := by decide +kernel
theorem dX12_together_95 : decode cX12_together 95 = .ok (.invokestatic 146, 3) := by decide +kernel
theorem dX12_together_98 : decode cX12_together 98 = .ok (.iadd, 1) := by decide +kernel
theorem dX12_together_99 : decode cX12_together 99 = .ok (.bipush 30, 2) := by decide +kernel
theorem dX12_together_101 : decode cX12_together 101 = .ok (.if_icmp .le 6, 3) := by decide +kernel
theorem dX12_together_104 : decode cX12_together 104 = .ok (.iconst 4, 1) := by decide +kernel
theorem dX12_together_105 : decode cX12_together 105 = .ok (.istore 4, 2) := by decide +kernel
theorem dX12_together_107 : decode cX12_together 107 = .ok (.iload 4, 2) := by decide +kernel
theorem dX12_together_109 : decode cX12_together 109 = .ok (.ifCond .le 10, 3) := by decide +kernel
theorem dX12_together_112 : decode cX12_together 112 = .ok (.aload_n 0, 1) := by decide +kernel
theorem dX12_together_113 : decode cX12_together 113 = .ok (.iload 4, 2) := by decide +kernel
theorem dX12_together_115 : decode cX12_together 115 = .ok (.invokevirtual 63, 3) := by decide +kernel
theorem dX12_together_118 : decode cX12_together 118 = .ok (.ireturn, 1) := by decide +kernel
theorem dX12_together_119 : decode cX12_together 119 = .ok (.iconst 0, 1) := by decide +kernel
theorem dX12_together_120 : decode cX12_together 120 = .ok (.istore 5, 2) := by decide +kernel
theorem dX12_together_122 : decode cX12_together 122 = .ok (.iload 5, 2) := by decide +kernel
theorem dX12_together_124 : decode cX12_together 124 = .ok (.bipush 8, 2) := by decide +kernel
theorem dX12_together_126 : decode cX12_together 126 = .ok (.if_icmp .ge 31, 3) := by decide +kernel
theorem dX12_together_129 : decode cX12_together 129 = .ok (.aload_n 0, 1) := by decide +kernel
theorem dX12_together_130 : decode cX12_together 130 = .ok (.getfield 34, 3) := by decide +kernel
theorem dX12_together_133 : decode cX12_together 133 = .ok (.iload 5, 2) := by decide +kernel
theorem dX12_together_135 : decode cX12_together 135 = .ok (.aload_n 0, 1) := by decide +kernel
theorem dX12_together_136 : decode cX12_together 136 = .ok (.getfield 28, 3) := by decide +kernel
theorem dX12_together_139 : decode cX12_together 139 = .ok (.iload 5, 2) := by decide +kernel
theorem dX12_together_141 : decode cX12_together 141 = .ok (.iaload, 1) := by decide +kernel
theorem dX12_together_142 : decode cX12_together 142 = .ok (.aload_n 0, 1) := by decide +kernel
theorem dX12_together_143 : decode cX12_together 143 = .ok (.getfield 31, 3) := by decide +kernel
theorem dX12_together_146 : decode cX12_together 146 = .ok (.iload 5, 2) := by decide +kernel
theorem dX12_together_148 : decode cX12_together 148 = .ok (.iaload, 1) := by decide +kernel
theorem dX12_together_149 : decode cX12_together 149 = .ok (.iadd, 1) := by decide +kernel
theorem dX12_together_150 : decode cX12_together 150 = .ok (.iastore, 1) := by decide +kernel
theorem dX12_together_151 : decode cX12_together 151 = .ok (.iinc 5 1, 3) := by decide +kernel
theorem dX12_together_154 : decode cX12_together 154 = .ok (.goto (-32), 3) := by decide +kernel
theorem dX12_together_157 : decode cX12_together 157 = .ok (.aload_n 0, 1) := by decide +kernel
theorem dX12_together_158 : decode cX12_together 158 = .ok (.iload_n 3, 1) := by decide +kernel
theorem dX12_together_159 : decode cX12_together 159 = .ok (.aload_n 0, 1) := by decide +kernel
theorem dX12_together_160 : decode cX12_together 160 = .ok (.getfield 28, 3) := by decide +kernel
theorem dX12_together_163 : decode cX12_together 163 = .ok (.invokevirtual 183, 3) := by decide +kernel
theorem dX12_together_166 : decode cX12_together 166 = .ok (.aload_n 0, 1) := by decide +kernel
theorem dX12_together_167 : decode cX12_together 167 = .ok (.iload_n 3, 1) := by decide +kernel
theorem dX12_together_168 : decode cX12_together 168 = .ok (.aload_n 0, 1) := by decide +kernel
theorem dX12_together_169 : decode cX12_together 169 = .ok (.getfield 31, 3) := by decide +kernel
theorem dX12_together_172 : decode cX12_together 172 = .ok (.invokevirtual 183, 3) := by decide +kernel
theorem dX12_together_175 : decode cX12_together 175 = .ok (.iadd, 1) := by decide +kernel
theorem dX12_together_176 : decode cX12_together 176 = .ok (.aload_n 0, 1) := by decide +kernel
theorem dX12_together_177 : decode cX12_together 177 = .ok (.iload_n 3, 1) := by decide +kernel
theorem dX12_together_178 : decode cX12_together 178 = .ok (.aload_n 0, 1) := by decide +kernel
theorem dX12_together_179 : decode cX12_together 179 = .ok (.getfield 34, 3) := by decide +kernel
theorem dX12_together_182 : decode cX12_together 182 = .ok (.invokevirtual 183, 3) := by decide +kernel
theorem dX12_together_185 : decode cX12_together 185 = .ok (.isub, 1) := by decide +kernel
theorem dX12_together_186 : decode cX12_together 186 = .ok (.ireturn, 1) := by decide +kernel
theorem dX12_worth_0 : decode cX12_worth 0 = .ok (.aload_n 0, 1) := by decide +kernel
theorem dX12_worth_1 : decode cX12_worth 1 = .ok (.iload_n 1, 1) := by decide +kernel
theorem dX12_worth_2 : decode cX12_worth 2 = .ok (.iload_n 2, 1) := by decide +kernel
theorem dX12_worth_3 : decode cX12_worth 3 = .ok (.iload_n 3, 1) := by decide +kernel
theorem dX12_worth_4 : decode cX12_worth 4 = .ok (.invokestatic 152, 3) := by decide +kernel
theorem dX12_worth_7 : decode cX12_worth 7 = .ok (.bipush 29, 2) := by decide +kernel
theorem dX12_worth_9 : decode cX12_worth 9 = .ok (.invokevirtual 176, 3) := by decide +kernel
theorem dX12_worth_12 : decode cX12_worth 12 = .ok (.istore 4, 2) := by decide +kernel
theorem dX12_worth_14 : decode cX12_worth 14 = .ok (.iload 4, 2) := by decide +kernel
theorem dX12_worth_16 : decode cX12_worth 16 = .ok (.ifCond .le 10, 3) := by decide +kernel
theorem dX12_worth_19 : decode cX12_worth 19 = .ok (.aload_n 0, 1) := by decide +kernel
theorem dX12_worth_20 : decode cX12_worth 20 = .ok (.iload 4, 2) := by decide +kernel
theorem dX12_worth_22 : decode cX12_worth 22 = .ok (.invokevirtual 63, 3) := by decide +kernel
theorem dX12_worth_25 : decode cX12_worth 25 = .ok (.ireturn, 1) := by decide +kernel
theorem dX12_worth_26 : decode cX12_worth 26 = .ok (.aload_n 0, 1) := by decide +kernel
theorem dX12_worth_27 : decode cX12_worth 27 = .ok (.iload_n 2, 1) := by decide +kernel
theorem dX12_worth_28 : decode cX12_worth 28 = .ok (.aload_n 0, 1) := by decide +kernel
theorem dX12_worth_29 : decode cX12_worth 29 = .ok (.getfield 28, 3) := by decide +kernel
theorem dX12_worth_32 : decode cX12_worth 32 = .ok (.invokevirtual 183, 3) := by decide +kernel
theorem dX12_worth_35 : decode cX12_worth 35 = .ok (.istore 5, 2) := by decide +kernel
theorem dX12_worth_37 : decode cX12_worth 37 = .ok (.aload_n 0, 1) := by decide +kernel
theorem dX12_worth_38 : decode cX12_worth 38 = .ok (.getfield 28, 3) := by decide +kernel
theorem dX12_worth_41 : decode cX12_worth 41 = .ok (.iload_n 3, 1) := by decide +kernel
theorem dX12_worth_42 : decode cX12_worth 42 = .ok (.dup2, 1) := by decide +kernel
theorem dX12_worth_43 : decode cX12_worth 43 = .ok (.iaload, 1) := by decide +kernel
theorem dX12_worth_44 : decode cX12_worth 44 = .ok (.iconst 1, 1) := by decide +kernel
theorem dX12_worth_45 : decode cX12_worth 45 = .ok (.iadd, 1) := by decide +kernel
theorem dX12_worth_46 : decode cX12_worth 46 = .ok (.iastore, 1) := by decide +kernel
theorem dX12_worth_47 : decode cX12_worth 47 = .ok (.iload 5, 2) := by decide +kernel
theorem dX12_worth_49 : decode cX12_worth 49 = .ok (.aload_n 0, 1) := by decide +kernel
theorem dX12_worth_50 : decode cX12_worth 50 = .ok (.iload_n 2, 1) := by decide +kernel
theorem dX12_worth_51 : decode cX12_worth 51 = .ok (.aload_n 0, 1) := by decide +kernel
theorem dX12_worth_52 : decode cX12_worth 52 = .ok (.getfield 28, 3) := by decide +kernel
theorem dX12_worth_55 : decode cX12_worth 55 = .ok (.invokevirtual 183, 3) := by decide +kernel
theorem dX12_worth_58 : decode cX12_worth 58 = .ok (.isub, 1) := by decide +kernel
theorem dX12_worth_59 : decode cX12_worth 59 = .ok (.ireturn, 1) := by decide +kernel
theorem dX12_dearer_0 : decode cX12_dearer 0 = .ok (.aload_n 0, 1) := by decide +kernel
theorem dX12_dearer_1 : decode cX12_dearer 1 = .ok (.iload_n 1, 1) := by decide +kernel
theorem dX12_dearer_2 : decode cX12_dearer 2 = .ok (.iload_n 2, 1) := by decide +kernel
theorem dX12_dearer_3 : decode cX12_dearer 3 = .ok (.iload_n 3, 1) := by decide +kernel
theorem dX12_dearer_4 : decode cX12_dearer 4 = .ok (.iconst 0, 1) := by decide +kernel
theorem dX12_dearer_5 : decode cX12_dearer 5 = .ok (.iconst 2, 1) := by decide +kernel
theorem dX12_dearer_6 : decode cX12_dearer 6 = .ok (.invokestatic 59, 3) := by decide +kernel
theorem dX12_dearer_9 : decode cX12_dearer 9 = .ok (.bipush 30, 2) := by decide +kernel
theorem dX12_dearer_11 : decode cX12_dearer 11 = .ok (.invokevirtual 176, 3) := by decide +kernel
theorem dX12_dearer_14 : decode cX12_dearer 14 = .ok (.istore 4, 2) := by decide +kernel
theorem dX12_dearer_16 : decode cX12_dearer 16 = .ok (.iload 4, 2) := by decide +kernel
theorem dX12_dearer_18 : decode cX12_dearer 18 = .ok (.ifCond .le 10, 3) := by decide +kernel
theorem dX12_dearer_21 : decode cX12_dearer 21 = .ok (.aload_n 0, 1) := by decide +kernel
theorem dX12_dearer_22 : decode cX12_dearer 22 = .ok (.iload 4, 2) := by decide +kernel
theorem dX12_dearer_24 : decode cX12_dearer 24 = .ok (.invokevirtual 63, 3) := by decide +kernel
theorem dX12_dearer_27 : decode cX12_dearer 27 = .ok (.ireturn, 1) := by decide +kernel
theorem dX12_dearer_28 : decode cX12_dearer 28 = .ok (.iconst (-1), 1) := by decide +kernel
theorem dX12_dearer_29 : decode cX12_dearer 29 = .ok (.istore 5, 2) := by decide +kernel
theorem dX12_dearer_31 : decode cX12_dearer 31 = .ok (.iconst 0, 1) := by decide +kernel
theorem dX12_dearer_32 : decode cX12_dearer 32 = .ok (.istore 6, 2) := by decide +kernel
theorem dX12_dearer_34 : decode cX12_dearer 34 = .ok (.iconst 0, 1) := by decide +kernel
theorem dX12_dearer_35 : decode cX12_dearer 35 = .ok (.istore 7, 2) := by decide +kernel
theorem dX12_dearer_37 : decode cX12_dearer 37 = .ok (.iload 7, 2) := by decide +kernel
theorem dX12_dearer_39 : decode cX12_dearer 39 = .ok (.bipush 8, 2) := by decide +kernel
theorem dX12_dearer_41 : decode cX12_dearer 41 = .ok (.if_icmp .ge 119, 3) := by decide +kernel
theorem dX12_dearer_44 : decode cX12_dearer 44 = .ok (.aload_n 0, 1) := by decide +kernel
theorem dX12_dearer_45 : decode cX12_dearer 45 = .ok (.getfield 7, 3) := by decide +kernel
theorem dX12_dearer_48 : decode cX12_dearer 48 = .ok (.bipush 8, 2) := by decide +kernel
theorem dX12_dearer_50 : decode cX12_dearer 50 = .ok (.iload 7, 2) := by decide +kernel
theorem dX12_dearer_52 : decode cX12_dearer 52 = .ok (.iadd, 1) := by decide +kernel
theorem dX12_dearer_53 : decode cX12_dearer 53 = .ok (.iaload, 1) := by decide +kernel
theorem dX12_dearer_54 : decode cX12_dearer 54 = .ok (.istore 8, 2) := by decide +kernel
theorem dX12_dearer_56 : decode cX12_dearer 56 = .ok (.iconst 0, 1) := by decide +kernel
theorem dX12_dearer_57 : decode cX12_dearer 57 = .ok (.istore 9, 2) := by decide +kernel
theorem dX12_dearer_59 : decode cX12_dearer 59 = .ok (.iload 9, 2) := by decide +kernel
theorem dX12_dearer_61 : decode cX12_dearer 61 = .ok (.bipush 10, 2) := by decide +kernel
theorem dX12_dearer_63 : decode cX12_dearer 63 = .ok (.if_icmp .ge 79, 3) := by decide +kernel
theorem dX12_dearer_66 : decode cX12_dearer 66 = .ok (.iload 8, 2) := by decide +kernel
theorem dX12_dearer_68 : decode cX12_dearer 68 = .ok (.iload 9, 2) := by decide +kernel
theorem dX12_dearer_70 : decode cX12_dearer 70 = .ok (.iadd, 1) := by decide +kernel
theorem dX12_dearer_71 : decode cX12_dearer 71 = .ok (.sipush 9999, 3) := by decide +kernel
theorem dX12_dearer_74 : decode cX12_dearer 74 = .ok (.if_icmp .gt 68, 3) := by decide +kernel
theorem dX12_dearer_77 : decode cX12_dearer 77 = .ok (.aload_n 0, 1) := by decide +kernel
theorem dX12_dearer_78 : decode cX12_dearer 78 = .ok (.getfield 7, 3) := by decide +kernel
theorem dX12_dearer_81 : decode cX12_dearer 81 = .ok (.bipush 8, 2) := by decide +kernel
theorem dX12_dearer_83 : decode cX12_dearer 83 = .ok (.iload 7, 2) := by decide +kernel
theorem dX12_dearer_85 : decode cX12_dearer 85 = .ok (.iadd, 1) := by decide +kernel
theorem dX12_dearer_86 : decode cX12_dearer 86 = .ok (.iload 8, 2) := by decide +kernel
theorem dX12_dearer_88 : decode cX12_dearer 88 = .ok (.iload 9, 2) := by decide +kernel
theorem dX12_dearer_90 : decode cX12_dearer 90 = .ok (.iadd, 1) := by decide +kernel
theorem dX12_dearer_91 : decode cX12_dearer 91 = .ok (.iastore, 1) := by decide +kernel
theorem dX12_dearer_92 : decode cX12_dearer 92 = .ok (.aload_n 0, 1) := by decide +kernel
theorem dX12_dearer_93 : decode cX12_dearer 93 = .ok (.iload_n 2, 1) := by decide +kernel
theorem dX12_dearer_94 : decode cX12_dearer 94 = .ok (.iload_n 3, 1) := by decide +kernel
theorem dX12_dearer_95 : decode cX12_dearer 95 = .ok (.invokevirtual 209, 3) := by decide +kernel
theorem dX12_dearer_98 : decode cX12_dearer 98 = .ok (.aload_n 0, 1) := by decide +kernel
theorem dX12_dearer_99 : decode cX12_dearer 99 = .ok (.iload_n 2, 1) := by decide +kernel
theorem dX12_dearer_100 : decode cX12_dearer 100 = .ok (.aload_n 0, 1) := by decide +kernel
theorem dX12_dearer_101 : decode cX12_dearer 101 = .ok (.getfield 37, 3) := by decide +kernel
theorem dX12_dearer_104 : decode cX12_dearer 104 = .ok (.invokevirtual 183, 3) := by decide +kernel
theorem dX12_dearer_107 : decode cX12_dearer 107 = .ok (.istore 10, 2) := by decide +kernel
theorem dX12_dearer_109 : decode cX12_dearer 109 = .ok (.iload 5, 2) := by decide +kernel
theorem dX12_dearer_111 : decode cX12_dearer 111 = .ok (.iconst (-1), 1) := by decide +kernel
theorem dX12_dearer_112 : decode cX12_dearer 112 = .ok (.if_icmp .eq 10, 3) := by decide +kernel
theorem dX12_dearer_115 : decode cX12_dearer 115 = .ok (.iload 10, 2) := by decide +kernel
theorem dX12_dearer_117 : decode cX12_dearer 117 = .ok (.iload 6, 2) := by decide +kernel
theorem dX12_dearer_119 : decode cX12_dearer 119 = .ok (.if_icmp .le 17, 3) := by decide +kernel
theorem dX12_dearer_122 : decode cX12_dearer 122 = .ok (.bipush 10, 2) := by decide +kernel
theorem dX12_dearer_124 : decode cX12_dearer 124 = .ok (.iload 7, 2) := by decide +kernel
theorem dX12_dearer_126 : decode cX12_dearer 126 = .ok (.imul, 1) := by decide +kernel
theorem dX12_dearer_127 : decode cX12_dearer 127 = .ok (.iload 9, 2) := by decide +kernel
theorem dX12_dearer_129 : decode cX12_dearer 129 = .ok (.iadd, 1) := by decide +kernel
theorem dX12_dearer_130 : decode cX12_dearer 130 = .ok (.istore 5, 2) := by decide +kernel
theorem dX12_dearer_132 : decode cX12_dearer 132 = .ok (.iload 10, 2) := by decide +kernel
theorem dX12_dearer_134 : decode cX12_dearer 134 = .ok (.istore 6, 2) := by decide +kernel
theorem dX12_dearer_136 : decode cX12_dearer 136 = .ok (.iinc 9 1, 3) := by decide +kernel
theorem dX12_dearer_139 : decode cX12_dearer 139 = .ok (.goto (-80), 3) := by decide +kernel
theorem dX12_dearer_142 : decode cX12_dearer 142 = .ok (.aload_n 0, 1) := by decide +kernel
theorem dX12_dearer_143 : decode cX12_dearer 143 = .ok (.getfield 7, 3) := by decide +kernel
theorem dX12_dearer_146 : decode cX12_dearer 146 = .ok (.bipush 8, 2) := by decide +kernel
theorem dX12_dearer_148 : decode cX12_dearer 148 = .ok (.iload 7, 2) := by decide +kernel
theorem dX12_dearer_150 : decode cX12_dearer 150 = .ok (.iadd, 1) := by decide +kernel
theorem dX12_dearer_151 : decode cX12_dearer 151 = .ok (.iload 8, 2) := by decide +kernel
theorem dX12_dearer_153 : decode cX12_dearer 153 = .ok (.iastore, 1) := by decide +kernel
theorem dX12_dearer_154 : decode cX12_dearer 154 = .ok (.iinc 7 1, 3) := by decide +kernel
theorem dX12_dearer_157 : decode cX12_dearer 157 = .ok (.goto (-120), 3) := by decide +kernel
theorem dX12_dearer_160 : decode cX12_dearer 160 = .ok (.iload 5, 2) := by decide +kernel
theorem dX12_dearer_162 : decode cX12_dearer 162 = .ok (.ireturn, 1) := by decide +kernel
theorem dX12_small_0 : decode cX12_small 0 = .ok (.iload_n 2, 1) := by decide +kernel
theorem dX12_small_1 : decode cX12_small 1 = .ok (.bipush 8, 2) := by decide +kernel
theorem dX12_small_3 : decode cX12_small 3 = .ok (.if_icmp .ne 136, 3) := by decide +kernel
theorem dX12_small_6 : decode cX12_small 6 = .ok (.aload_n 0, 1) := by decide +kernel
theorem dX12_small_7 : decode cX12_small 7 = .ok (.getfield 34, 3) := by decide +kernel
theorem dX12_small_10 : decode cX12_small 10 = .ok (.invokestatic 146, 3) := by decide +kernel
theorem dX12_small_13 : decode cX12_small 13 = .ok (.ifCond .le 125, 3) := by decide +kernel
theorem dX12_small_16 : decode cX12_small 16 = .ok (.aload_n 0, 1) := by decide +kernel
theorem dX12_small_17 : decode cX12_small 17 = .ok (.iload_n 1, 1) := by decide +kernel
theorem dX12_small_18 : decode cX12_small 18 = .ok (.aload_n 0, 1) := by decide +kernel
theorem dX12_small_19 : decode cX12_small 19 = .ok (.getfield 34, 3) := by decide +kernel
theorem dX12_small_22 : decode cX12_small 22 = .ok (.invokevirtual 183, 3) := by decide +kernel
theorem dX12_small_25 : decode cX12_small 25 = .ok (.istore 5, 2) := by decide +kernel
theorem dX12_small_27 : decode cX12_small 27 = .ok (.aload_n 0, 1) := by decide +kernel
theorem dX12_small_28 : decode cX12_small 28 = .ok (.aload_n 0, 1) := by decide +kernel
theorem dX12_small_29 : decode cX12_small 29 = .ok (.getfield 218, 3) := by decide +kernel
theorem dX12_small_32 : decode cX12_small 32 = .ok (.iconst (-1), 1) := by decide +kernel
theorem dX12_small_33 : decode cX12_small 33 = .ok (.if_icmp .eq 12, 3) := by decide +kernel
theorem dX12_small_36 : decode cX12_small 36 = .ok (.iload 5, 2) := by decide +kernel
theorem dX12_small_38 : decode cX12_small 38 = .ok (.aload_n 0, 1) := by decide +kernel
theorem dX12_small_39 : decode cX12_small 39 = .ok (.getfield 218, 3) := by decide +kernel
theorem dX12_small_42 : decode cX12_small 42 = .ok (.if_icmp .ge 8, 3) := by decide +kernel
theorem dX12_small_45 : decode cX12_small 45 = .ok (.iload 5, 2) := by decide +kernel
theorem dX12_small_47 : decode cX12_small 47 = .ok (.goto 7, 3) := by decide +kernel
theorem dX12_small_50 : decode cX12_small 50 = .ok (.aload_n 0, 1) := by decide +kernel
theorem dX12_small_51 : decode cX12_small 51 = .ok (.getfield 218, 3) := by decide +kernel
theorem dX12_small_54 : decode cX12_small 54 = .ok (.putfield 218, 3) := by decide +kernel
theorem dX12_small_57 : decode cX12_small 57 = .ok (.iload 5, 2) := by decide +kernel
theorem dX12_small_59 : decode cX12_small 59 = .ok (.iload 4, 2) := by decide +kernel
theorem dX12_small_61 : decode cX12_small 61 = .ok (.if_icmp .ne 77, 3) := by decide +kernel
theorem dX12_small_64 : decode cX12_small 64 = .ok (.iconst 0, 1) := by decide +kernel
theorem dX12_small_65 : decode cX12_small 65 = .ok (.istore 6, 2) := by decide +kernel
theorem dX12_small_67 : decode cX12_small 67 = .ok (.iconst 0, 1) := by decide +kernel
theorem dX12_small_68 : decode cX12_small 68 = .ok (.istore 7, 2) := by decide +kernel
theorem dX12_small_70 : decode cX12_small 70 = .ok (.iload 7, 2) := by decide +kernel
theorem dX12_small_72 : decode cX12_small 72 = .ok (.bipush 8, 2) := by decide +kernel
theorem dX12_small_74 : decode cX12_small 74 = .ok (.if_icmp .ge 24, 3) := by decide +kernel
theorem dX12_small_77 : decode cX12_small 77 = .ok (.bipush 10, 2) := by decide +kernel
theorem dX12_small_79 : decode cX12_small 79 = .ok (.iload 6, 2) := by decide +kernel
theorem dX12_small_81 : decode cX12_small 81 = .ok (.imul, 1) := by decide +kernel
theorem dX12_small_82 : decode cX12_small 82 = .ok (.aload_n 0, 1) := by decide +kernel
theorem dX12_small_83 : decode cX12_small 83 = .ok (.getfield 34, 3) := by decide +kernel
theorem dX12_small_86 : decode cX12_small 86 = .ok (.iload 7, 2) := by decide +kernel
theorem dX12_small_88 : decode cX12_small 88 = .ok (.iaload, 1) := by decide +kernel
theorem dX12_small_89 : decode cX12_small 89 = .ok (.iadd, 1) := by decide +kernel
theorem dX12_small_90 : decode cX12_small 90 = .ok (.istore 6, 2) := by decide +kernel
theorem dX12_small_92 : decode cX12_small 92 = .ok (.iinc 7 1, 3) := by decide +kernel
theorem dX12_small_95 : decode cX12_small 95 = .ok (.goto (-25), 3) := by decide +kernel
theorem dX12_small_98 : decode cX12_small 98 = .ok (.aload_n 0, 1) := by decide +kernel
theorem dX12_small_99 : decode cX12_small 99 = .ok (.dup, 1) := by decide +kernel
theorem dX12_small_100 : decode cX12_small 100 = .ok (.getfield 221, 3) := by decide +kernel
theorem dX12_small_103 : decode cX12_small 103 = .ok (.iconst 1, 1) := by decide +kernel
theorem dX12_small_104 : decode cX12_small 104 = .ok (.iadd, 1) := by decide +kernel
theorem dX12_small_105 : decode cX12_small 105 = .ok (.putfield 221, 3) := by decide +kernel
theorem dX12_small_108 : decode cX12_small 108 = .ok (.aload_n 0, 1) := by decide +kernel
theorem dX12_small_109 : decode cX12_small 109 = .ok (.aload_n 0, 1) := by decide +kernel
theorem dX12_small_110 : decode cX12_small 110 = .ok (.getfield 224, 3) := by decide +kernel
theorem dX12_small_113 : decode cX12_small 113 = .ok (.iconst (-1), 1) := by decide +kernel
theorem dX12_small_114 : decode cX12_small 114 = .ok (.if_icmp .eq 12, 3) := by decide +kernel
theorem dX12_small_117 : decode cX12_small 117 = .ok (.iload 6, 2) := by decide +kernel
theorem dX12_small_119 : decode cX12_small 119 = .ok (.aload_n 0, 1) := by decide +kernel
theorem dX12_small_120 : decode cX12_small 120 = .ok (.getfield 224, 3) := by decide +kernel
theorem dX12_small_123 : decode cX12_small 123 = .ok (.if_icmp .ge 8, 3) := by decide +kernel
theorem dX12_small_126 : decode cX12_small 126 = .ok (.iload 6, 2) := by decide +kernel
theorem dX12_small_128 : decode cX12_small 128 = .ok (.goto 7, 3) := by decide +kernel
theorem dX12_small_131 : decode cX12_small 131 = .ok (.aload_n 0, 1) := by decide +kernel
theorem dX12_small_132 : decode cX12_small 132 = .ok (.getfield 224, 3) := by decide +kernel
theorem dX12_small_135 : decode cX12_small 135 = .ok (.putfield 224, 3) := by decide +kernel
theorem dX12_small_138 : decode cX12_small 138 = .ok (.return_, 1) := by decide +kernel
theorem dX12_small_139 : decode cX12_small 139 = .ok (.iconst 0, 1) := by decide +kernel
theorem dX12_small_140 : decode cX12_small 140 = .ok (.istore 5, 2) := by decide +kernel
theorem dX12_small_142 : decode cX12_small 142 = .ok (.iload 5, 2) := by decide +kernel
theorem dX12_small_144 : decode cX12_small 144 = .ok (.iload_n 3, 1) := by decide +kernel
theorem dX12_small_145 : decode cX12_small 145 = .ok (.if_icmp .gt 31, 3) := by decide +kernel
theorem dX12_small_148 : decode cX12_small 148 = .ok (.aload_n 0, 1) := by decide +kernel
theorem dX12_small_149 : decode cX12_small 149 = .ok (.getfield 34, 3) := by decide +kernel
theorem dX12_small_152 : decode cX12_small 152 = .ok (.iload_n 2, 1) := by decide +kernel
theorem dX12_small_153 : decode cX12_small 153 = .ok (.iload 5, 2) := by decide +kernel
theorem dX12_small_155 : decode cX12_small 155 = .ok (.iastore, 1) := by decide +kernel
theorem dX12_small_156 : decode cX12_small 156 = .ok (.aload_n 0, 1) := by decide +kernel
theorem dX12_small_157 : decode cX12_small 157 = .ok (.iload_n 1, 1) := by decide +kernel
theorem dX12_small_158 : decode cX12_small 158 = .ok (.iload_n 2, 1) := by decide +kernel
theorem dX12_small_159 : decode cX12_small 159 = .ok (.iconst 1, 1) := by decide +kernel
theorem dX12_small_160 : decode cX12_small 160 = .ok (.iadd, 1) := by decide +kernel
theorem dX12_small_161 : decode cX12_small 161 = .ok (.iload_n 3, 1) := by decide +kernel
theorem dX12_small_162 : decode cX12_small 162 = .ok (.iload 5, 2) := by decide +kernel
theorem dX12_small_164 : decode cX12_small 164 = .ok (.isub, 1) := by decide +kernel
theorem dX12_small_165 : decode cX12_small 165 = .ok (.iload 4, 2) := by decide +kernel
theorem dX12_small_167 : decode cX12_small 167 = .ok (.invokevirtual 227, 3) := by decide +kernel
theorem dX12_small_170 : decode cX12_small 170 = .ok (.iinc 5 1, 3) := by decide +kernel
theorem dX12_small_173 : decode cX12_small 173 = .ok (.goto (-31), 3) := by decide +kernel
theorem dX12_small_176 : decode cX12_small 176 = .ok (.aload_n 0, 1) := by decide +kernel
theorem dX12_small_177 : decode cX12_small 177 = .ok (.getfield 34, 3) := by decide +kernel
theorem dX12_small_180 : decode cX12_small 180 = .ok (.iload_n 2, 1) := by decide +kernel
theorem dX12_small_181 : decode cX12_small 181 = .ok (.iconst 0, 1) := by decide +kernel
theorem dX12_small_182 : decode cX12_small 182 = .ok (.iastore, 1) := by decide +kernel
theorem dX12_small_183 : decode cX12_small 183 = .ok (.return_, 1) := by decide +kernel
theorem dX12_allSmall_0 : decode cX12_allSmall 0 = .ok (.aload_n 0, 1) := by decide +kernel
theorem dX12_allSmall_1 : decode cX12_allSmall 1 = .ok (.iconst 0, 1) := by decide +kernel
theorem dX12_allSmall_2 : decode cX12_allSmall 2 = .ok (.putfield 221, 3) := by decide +kernel
theorem dX12_allSmall_5 : decode cX12_allSmall 5 = .ok (.aload_n 0, 1) := by decide +kernel
theorem dX12_allSmall_6 : decode cX12_allSmall 6 = .ok (.iconst (-1), 1) := by decide +kernel
theorem dX12_allSmall_7 : decode cX12_allSmall 7 = .ok (.putfield 224, 3) := by decide +kernel
theorem dX12_allSmall_10 : decode cX12_allSmall 10 = .ok (.aload_n 0, 1) := by decide +kernel
theorem dX12_allSmall_11 : decode cX12_allSmall 11 = .ok (.iconst (-1), 1) := by decide +kernel
theorem dX12_allSmall_12 : decode cX12_allSmall 12 = .ok (.putfield 218, 3) := by decide +kernel
theorem dX12_allSmall_15 : decode cX12_allSmall 15 = .ok (.aload_n 0, 1) := by decide +kernel
theorem dX12_allSmall_16 : decode cX12_allSmall 16 = .ok (.iload_n 1, 1) := by decide +kernel
theorem dX12_allSmall_17 : decode cX12_allSmall 17 = .ok (.iconst 0, 1) := by decide +kernel
theorem dX12_allSmall_18 : decode cX12_allSmall 18 = .ok (.iconst 3, 1) := by decide +kernel
theorem dX12_allSmall_19 : decode cX12_allSmall 19 = .ok (.iload_n 2, 1) := by decide +kernel
theorem dX12_allSmall_20 : decode cX12_allSmall 20 = .ok (.invokevirtual 227, 3) := by decide +kernel
theorem dX12_allSmall_23 : decode cX12_allSmall 23 = .ok (.return_, 1) := by decide +kernel
theorem dX12_nines_0 : decode cX12_nines 0 = .ok (.iload_n 1, 1) := by decide +kernel
theorem dX12_nines_1 : decode cX12_nines 1 = .ok (.iconst (-1), 1) := by decide +kernel
theorem dX12_nines_2 : decode cX12_nines 2 = .ok (.iconst 3, 1) := by decide +kernel
theorem dX12_nines_3 : decode cX12_nines 3 = .ok (.invokestatic 59, 3) := by decide +kernel
theorem dX12_nines_6 : decode cX12_nines 6 = .ok (.ifCond .ne 9, 3) := by decide +kernel
theorem dX12_nines_9 : decode cX12_nines 9 = .ok (.aload_n 0, 1) := by decide +kernel
theorem dX12_nines_10 : decode cX12_nines 10 = .ok (.iconst 1, 1) := by decide +kernel
theorem dX12_nines_11 : decode cX12_nines 11 = .ok (.invokevirtual 63, 3) := by decide +kernel
theorem dX12_nines_14 : decode cX12_nines 14 = .ok (.ireturn, 1) := by decide +kernel
theorem dX12_nines_15 : decode cX12_nines 15 = .ok (.iload_n 1, 1) := by decide +kernel
theorem dX12_nines_16 : decode cX12_nines 16 = .ok (.iconst (-1), 1) := by decide +kernel
theorem dX12_nines_17 : decode cX12_nines 17 = .ok (.if_icmp .ne 54, 3) := by decide +kernel
theorem dX12_nines_20 : decode cX12_nines 20 = .ok (.iconst 1, 1) := by decide +kernel
theorem dX12_nines_21 : decode cX12_nines 21 = .ok (.istore_n 2, 1) := by decide +kernel
theorem dX12_nines_22 : decode cX12_nines 22 = .ok (.iconst 0, 1) := by decide +kernel
theorem dX12_nines_23 : decode cX12_nines 23 = .ok (.istore_n 3, 1) := by decide +kernel
theorem dX12_nines_24 : decode cX12_nines 24 = .ok (.iload_n 3, 1) := by decide +kernel
theorem dX12_nines_25 : decode cX12_nines 25 = .ok (.bipush 8, 2) := by decide +kernel
theorem dX12_nines_27 : decode cX12_nines 27 = .ok (.if_icmp .ge 34, 3) := by decide +kernel
theorem dX12_nines_30 : decode cX12_nines 30 = .ok (.iload_n 2, 1) := by decide +kernel
theorem dX12_nines_31 : decode cX12_nines 31 = .ok (.ifCond .eq 22, 3) := by decide +kernel
theorem dX12_nines_34 : decode cX12_nines 34 = .ok (.aload_n 0, 1) := by decide +kernel
theorem dX12_nines_35 : decode cX12_nines 35 = .ok (.getfield 7, 3) := by decide +kernel
theorem dX12_nines_38 : decode cX12_nines 38 = .ok (.bipush 8, 2) := by decide +kernel
theorem dX12_nines_40 : decode cX12_nines 40 = .ok (.iload_n 3, 1) := by decide +kernel
theorem dX12_nines_41 : decode cX12_nines 41 = .ok (.iadd, 1) := by decide +kernel
theorem dX12_nines_42 : decode cX12_nines 42 = .ok (.iaload, 1) := by decide +kernel
theorem dX12_nines_43 : decode cX12_nines 43 = .ok (.bipush 9, 2) := by decide +kernel
theorem dX12_nines_45 : decode cX12_nines 45 = .ok (.irem, 1) := by decide +kernel
theorem dX12_nines_46 : decode cX12_nines 46 = .ok (.ifCond .ne 7, 3) := by decide +kernel
theorem dX12_nines_49 : decode cX12_nines 49 = .ok (.iconst 1, 1) := by decide +kernel
theorem dX12_nines_50 : decode cX12_nines 50 = .ok (.goto 4, 3) := by decide +kernel
theorem dX12_nines_53 : decode cX12_nines 53 = .ok (.iconst 0, 1) := by decide +kernel
theorem dX12_nines_54 : decode cX12_nines 54 = .ok (.istore_n 2, 1) := by decide +kernel
theorem dX12_nines_55 : decode cX12_nines 55 = .ok (.iinc 3 1, 3) := by decide +kernel
theorem dX12_nines_58 : decode cX12_nines 58 = .ok (.goto (-34), 3) := by decide +kernel
theorem dX12_nines_61 : decode cX12_nines 61 = .ok (.iload_n 2, 1) := by decide +kernel
theorem dX12_nines_62 : decode cX12_nines 62 = .ok (.ifCond .eq 7, 3) := by decide +kernel
theorem dX12_nines_65 : decode cX12_nines 65 = .ok (.iconst 1, 1) := by decide +kernel
theorem dX12_nines_66 : decode cX12_nines 66 = .ok (.goto 4, 3) := by decide +kernel
theorem dX12_nines_69 : decode cX12_nines 69 = .ok (.iconst 0, 1) := by decide +kernel
theorem dX12_nines_70 : decode cX12_nines 70 = .ok (.ireturn, 1) := by decide +kernel
theorem dX12_nines_71 : decode cX12_nines 71 = .ok (.aload_n 0, 1) := by decide +kernel
theorem dX12_nines_72 : decode cX12_nines 72 = .ok (.iload_n 1, 1) := by decide +kernel
theorem dX12_nines_73 : decode cX12_nines 73 = .ok (.iconst (-1), 1) := by decide +kernel
theorem dX12_nines_74 : decode cX12_nines 74 = .ok (.invokevirtual 230, 3) := by decide +kernel
theorem dX12_nines_77 : decode cX12_nines 77 = .ok (.aload_n 0, 1) := by decide +kernel
theorem dX12_nines_78 : decode cX12_nines 78 = .ok (.getfield 218, 3) := by decide +kernel
theorem dX12_nines_81 : decode cX12_nines 81 = .ok (.ireturn, 1) := by decide +kernel
theorem dX12_divisor_0 : decode cX12_divisor 0 = .ok (.iload_n 0, 1) := by decide +kernel
theorem dX12_divisor_1 : decode cX12_divisor 1 = .ok (.istore_n 2, 1) := by decide +kernel
theorem dX12_divisor_2 : decode cX12_divisor 2 = .ok (.iload_n 1, 1) := by decide +kernel
theorem dX12_divisor_3 : decode cX12_divisor 3 = .ok (.istore_n 3, 1) := by decide +kernel
theorem dX12_divisor_4 : decode cX12_divisor 4 = .ok (.iload_n 3, 1) := by decide +kernel
theorem dX12_divisor_5 : decode cX12_divisor 5 = .ok (.ifCond .eq 16, 3) := by decide +kernel
theorem dX12_divisor_8 : decode cX12_divisor 8 = .ok (.iload_n 2, 1) := by decide +kernel
theorem dX12_divisor_9 : decode cX12_divisor 9 = .ok (.iload_n 3, 1) := by decide +kernel
theorem dX12_divisor_10 : decode cX12_divisor 10 = .ok (.irem, 1) := by decide +kernel
theorem dX12_divisor_11 : decode cX12_divisor 11 = .ok (.istore 4, 2) := by decide +kernel
theorem dX12_divisor_13 : decode cX12_divisor 13 = .ok (.iload_n 3, 1) := by decide +kernel
theorem dX12_divisor_14 : decode cX12_divisor 14 = .ok (.istore_n 2, 1) := by decide +kernel
theorem dX12_divisor_15 : decode cX12_divisor 15 = .ok (.iload 4, 2) := by decide +kernel
theorem dX12_divisor_17 : decode cX12_divisor 17 = .ok (.istore_n 3, 1) := by decide +kernel
theorem dX12_divisor_18 : decode cX12_divisor 18 = .ok (.goto (-14), 3) := by decide +kernel
theorem dX12_divisor_21 : decode cX12_divisor 21 = .ok (.iload_n 2, 1) := by decide +kernel
theorem dX12_divisor_22 : decode cX12_divisor 22 = .ok (.ireturn, 1) := by decide +kernel
theorem dX12_erring_0 : decode cX12_erring 0 = .ok (.iload_n 3, 1) := by decide +kernel
theorem dX12_erring_1 : decode cX12_erring 1 = .ok (.ifCond .lt 40, 3) := by decide +kernel
theorem dX12_erring_4 : decode cX12_erring 4 = .ok (.iload_n 3, 1) := by decide +kernel
theorem dX12_erring_5 : decode cX12_erring 5 = .ok (.bipush 17, 2) := by decide +kernel
theorem dX12_erring_7 : decode cX12_erring 7 = .ok (.idiv, 1) := by decide +kernel
theorem dX12_erring_8 : decode cX12_erring 8 = .ok (.bipush 16, 2) := by decide +kernel
theorem dX12_erring_10 : decode cX12_erring 10 = .ok (.if_icmp .gt 31, 3) := by decide +kernel
theorem dX12_erring_13 : decode cX12_erring 13 = .ok (.iload_n 3, 1) := by decide +kernel
theorem dX12_erring_14 : decode cX12_erring 14 = .ok (.bipush 17, 2) := by decide +kernel
theorem dX12_erring_16 : decode cX12_erring 16 = .ok (.idiv, 1) := by decide +kernel
theorem dX12_erring_17 : decode cX12_erring 17 = .ok (.iload_n 3, 1) := by decide +kernel
theorem dX12_erring_18 : decode cX12_erring 18 = .ok (.bipush 17, 2) := by decide +kernel
theorem dX12_erring_20 : decode cX12_erring 20 = .ok (.irem, 1) := by decide +kernel
theorem dX12_erring_21 : decode cX12_erring 21 = .ok (.iadd, 1) := by decide +kernel
theorem dX12_erring_22 : decode cX12_erring 22 = .ok (.bipush 16, 2) := by decide +kernel
theorem dX12_erring_24 : decode cX12_erring 24 = .ok (.if_icmp .gt 17, 3) := by decide +kernel
theorem dX12_erring_27 : decode cX12_erring 27 = .ok (.iload 4, 2) := by decide +kernel
theorem dX12_erring_29 : decode cX12_erring 29 = .ok (.iconst 0, 1) := by decide +kernel
theorem dX12_erring_30 : decode cX12_erring 30 = .ok (.iconst 1, 1) := by decide +kernel
theorem dX12_erring_31 : decode cX12_erring 31 = .ok (.invokestatic 59, 3) := by decide +kernel
theorem dX12_erring_34 : decode cX12_erring 34 = .ok (.ifCond .eq 7, 3) := by decide +kernel
theorem dX12_erring_37 : decode cX12_erring 37 = .ok (.iconst 1, 1) := by decide +kernel
theorem dX12_erring_38 : decode cX12_erring 38 = .ok (.goto 4, 3) := by decide +kernel
theorem dX12_erring_41 : decode cX12_erring 41 = .ok (.iconst 0, 1) := by decide +kernel
theorem dX12_erring_42 : decode cX12_erring 42 = .ok (.istore 5, 2) := by decide +kernel
theorem dX12_erring_44 : decode cX12_erring 44 = .ok (.aload_n 0, 1) := by decide +kernel
theorem dX12_erring_45 : decode cX12_erring 45 = .ok (.iload_n 1, 1) := by decide +kernel
theorem dX12_erring_46 : decode cX12_erring 46 = .ok (.iload_n 2, 1) := by decide +kernel
theorem dX12_erring_47 : decode cX12_erring 47 = .ok (.iload 5, 2) := by decide +kernel
theorem dX12_erring_49 : decode cX12_erring 49 = .ok (.bipush 30, 2) := by decide +kernel
theorem dX12_erring_51 : decode cX12_erring 51 = .ok (.invokevirtual 176, 3) := by decide +kernel
theorem dX12_erring_54 : decode cX12_erring 54 = .ok (.istore 6, 2) := by decide +kernel
theorem dX12_erring_56 : decode cX12_erring 56 = .ok (.iload 6, 2) := by decide +kernel
theorem dX12_erring_58 : decode cX12_erring 58 = .ok (.ifCond .le 11, 3) := by decide +kernel
theorem dX12_erring_61 : decode cX12_erring 61 = .ok (.aload_n 0, 1) := by decide +kernel
theorem dX12_erring_62 : decode cX12_erring 62 = .ok (.iload 6, 2) := by decide +kernel
theorem dX12_erring_64 : decode cX12_erring 64 = .ok (.invokevirtual 63, 3) := by decide +kernel
theorem dX12_erring_67 : decode cX12_erring 67 = .ok (.i2l, 1) := by decide +kernel
theorem dX12_erring_68 : decode cX12_erring 68 = .ok (.lreturn, 1) := by decide +kernel
theorem dX12_erring_69 : decode cX12_erring 69 = .ok (.aload_n 0, 1) := by decide +kernel
theorem dX12_erring_70 : decode cX12_erring 70 = .ok (.iload_n 2, 1) := by decide +kernel
theorem dX12_erring_71 : decode cX12_erring 71 = .ok (.aload_n 0, 1) := by decide +kernel
theorem dX12_erring_72 : decode cX12_erring 72 = .ok (.getfield 28, 3) := by decide +kernel
theorem dX12_erring_75 : decode cX12_erring 75 = .ok (.invokevirtual 183, 3) := by decide +kernel
theorem dX12_erring_78 : decode cX12_erring 78 = .ok (.istore 7, 2) := by decide +kernel
theorem dX12_erring_80 : decode cX12_erring 80 = .ok (.aload_n 0, 1) := by decide +kernel
theorem dX12_erring_81 : decode cX12_erring 81 = .ok (.getfield 28, 3) := by decide +kernel
theorem dX12_erring_84 : decode cX12_erring 84 = .ok (.invokestatic 146, 3) := by decide +kernel
theorem dX12_erring_87 : decode cX12_erring 87 = .ok (.ifCond .ne 7, 3) := by decide +kernel
theorem dX12_erring_90 : decode cX12_erring 90 = .ok (.iconst 0, 1) := by decide +kernel
theorem dX12_erring_91 : decode cX12_erring 91 = .ok (.goto 27, 3) := by decide +kernel
theorem dX12_erring_94 : decode cX12_erring 94 = .ok (.bipush 16, 2) := by decide +kernel
theorem dX12_erring_96 : decode cX12_erring 96 = .ok (.iload 7, 2) := by decide +kernel
theorem dX12_erring_98 : decode cX12_erring 98 = .ok (.imul, 1) := by decide +kernel
theorem dX12_erring_99 : decode cX12_erring 99 = .ok (.iload_n 3, 1) := by decide +kernel
theorem dX12_erring_100 : decode cX12_erring 100 = .ok (.bipush 17, 2) := by decide +kernel
theorem dX12_erring_102 : decode cX12_erring 102 = .ok (.idiv, 1) := by decide +kernel
theorem dX12_erring_103 : decode cX12_erring 103 = .ok (.iadd, 1) := by decide +kernel
theorem dX12_erring_104 : decode cX12_erring 104 = .ok (.iload 7, 2) := by decide +kernel
theorem dX12_erring_106 : decode cX12_erring 106 = .ok (.ifCond .le 10, 3) := by decide +kernel
theorem dX12_erring_109 : decode cX12_erring 109 = .ok (.iload_n 3, 1) := by decide +kernel
theorem dX12_erring_110 : decode cX12_erring 110 = .ok (.bipush 17, 2) := by decide +kernel
theorem dX12_erring_112 : decode cX12_erring 112 = .ok (.irem, 1) := by decide +kernel
theorem dX12_erring_113 : decode cX12_erring 113 = .ok (.goto 4, 3) := by decide +kernel
theorem dX12_erring_116 : decode cX12_erring 116 = .ok (.iconst 0, 1) := by decide +kernel
theorem dX12_erring_117 : decode cX12_erring 117 = .ok (.isub, 1) := by decide +kernel
theorem dX12_erring_118 : decode cX12_erring 118 = .ok (.istore 8, 2) := by decide +kernel
theorem dX12_erring_120 : decode cX12_erring 120 = .ok (.iload 8, 2) := by decide +kernel
theorem dX12_erring_122 : decode cX12_erring 122 = .ok (.bipush 16, 2) := by decide +kernel
theorem dX12_erring_124 : decode cX12_erring 124 = .ok (.invokestatic 233, 3) := by decide +kernel
theorem dX12_erring_127 : decode cX12_erring 127 = .ok (.istore 9, 2) := by decide +kernel
theorem dX12_erring_129 : decode cX12_erring 129 = .ok (.iload 4, 2) := by decide +kernel
theorem dX12_erring_131 : decode cX12_erring 131 = .ok (.ifCond .ne 12, 3) := by decide +kernel
theorem dX12_erring_134 : decode cX12_erring 134 = .ok (.iload 8, 2) := by decide +kernel
theorem dX12_erring_136 : decode cX12_erring 136 = .ok (.iload 9, 2) := by decide +kernel
theorem dX12_erring_138 : decode cX12_erring 138 = .ok (.idiv, 1) := by decide +kernel
theorem dX12_erring_139 : decode cX12_erring 139 = .ok (.i2l, 1) := by decide +kernel
theorem dX12_erring_140 : decode cX12_erring 140 = .ok (.goto 9, 3) := by decide +kernel
theorem dX12_erring_143 : decode cX12_erring 143 = .ok (.bipush 16, 2) := by decide +kernel
theorem dX12_erring_145 : decode cX12_erring 145 = .ok (.iload 9, 2) := by decide +kernel
theorem dX12_erring_147 : decode cX12_erring 147 = .ok (.idiv, 1) := by decide +kernel
theorem dX12_erring_148 : decode cX12_erring 148 = .ok (.i2l, 1) := by decide +kernel
theorem dX12_erring_149 : decode cX12_erring 149 = .ok (.lreturn, 1) := by decide +kernel
theorem dX12_wasIn_0 : decode cX12_wasIn 0 = .ok (.iload_n 1, 1) := by decide +kernel
theorem dX12_wasIn_1 : decode cX12_wasIn 1 = .ok (.invokestatic 161, 3) := by decide +kernel
theorem dX12_wasIn_4 : decode cX12_wasIn 4 = .ok (.ifCond .eq 23, 3) := by decide +kernel
theorem dX12_wasIn_7 : decode cX12_wasIn 7 = .ok (.iload_n 2, 1) := by decide +kernel
theorem dX12_wasIn_8 : decode cX12_wasIn 8 = .ok (.iconst 0, 1) := by decide +kernel
theorem dX12_wasIn_9 : decode cX12_wasIn 9 = .ok (.sipush 9999, 3) := by decide +kernel
theorem dX12_wasIn_12 : decode cX12_wasIn 12 = .ok (.invokestatic 59, 3) := by decide +kernel
theorem dX12_wasIn_15 : decode cX12_wasIn 15 = .ok (.ifCond .eq 12, 3) := by decide +kernel
theorem dX12_wasIn_18 : decode cX12_wasIn 18 = .ok (.iload_n 3, 1) := by decide +kernel
theorem dX12_wasIn_19 : decode cX12_wasIn 19 = .ok (.iconst 0, 1) := by decide +kernel
theorem dX12_wasIn_20 : decode cX12_wasIn 20 = .ok (.iconst 1, 1) := by decide +kernel
theorem dX12_wasIn_21 : decode cX12_wasIn 21 = .ok (.invokestatic 59, 3) := by decide +kernel
theorem dX12_wasIn_24 : decode cX12_wasIn 24 = .ok (.ifCond .ne 9, 3) := by decide +kernel
theorem dX12_wasIn_27 : decode cX12_wasIn 27 = .ok (.aload_n 0, 1) := by decide +kernel
theorem dX12_wasIn_28 : decode cX12_wasIn 28 = .ok (.iconst 1, 1) := by decide +kernel
theorem dX12_wasIn_29 : decode cX12_wasIn 29 = .ok (.invokevirtual 63, 3) := by decide +kernel
theorem dX12_wasIn_32 : decode cX12_wasIn 32 = .ok (.ireturn, 1) := by decide +kernel
theorem dX12_wasIn_33 : decode cX12_wasIn 33 = .ok (.aload_n 0, 1) := by decide +kernel
theorem dX12_wasIn_34 : decode cX12_wasIn 34 = .ok (.iload_n 1, 1) := by decide +kernel
theorem dX12_wasIn_35 : decode cX12_wasIn 35 = .ok (.iload_n 2, 1) := by decide +kernel
theorem dX12_wasIn_36 : decode cX12_wasIn 36 = .ok (.invokevirtual 230, 3) := by decide +kernel
theorem dX12_wasIn_39 : decode cX12_wasIn 39 = .ok (.iload_n 3, 1) := by decide +kernel
theorem dX12_wasIn_40 : decode cX12_wasIn 40 = .ok (.ifCond .ne 10, 3) := by decide +kernel
theorem dX12_wasIn_43 : decode cX12_wasIn 43 = .ok (.aload_n 0, 1) := by decide +kernel
theorem dX12_wasIn_44 : decode cX12_wasIn 44 = .ok (.getfield 221, 3) := by decide +kernel
theorem dX12_wasIn_47 : decode cX12_wasIn 47 = .ok (.goto 23, 3) := by decide +kernel
theorem dX12_wasIn_50 : decode cX12_wasIn 50 = .ok (.aload_n 0, 1) := by decide +kernel
theorem dX12_wasIn_51 : decode cX12_wasIn 51 = .ok (.getfield 224, 3) := by decide +kernel
theorem dX12_wasIn_54 : decode cX12_wasIn 54 = .ok (.iconst (-1), 1) := by decide +kernel
theorem dX12_wasIn_55 : decode cX12_wasIn 55 = .ok (.if_icmp .ne 11, 3) := by decide +kernel
theorem dX12_wasIn_58 : decode cX12_wasIn 58 = .ok (.aload_n 0, 1) := by decide +kernel
theorem dX12_wasIn_59 : decode cX12_wasIn 59 = .ok (.iconst 2, 1) := by decide +kernel
theorem dX12_wasIn_60 : decode cX12_wasIn 60 = .ok (.invokevirtual 63, 3) := by decide +kernel
theorem dX12_wasIn_63 : decode cX12_wasIn 63 = .ok (.goto 7, 3) := by decide +kernel
theorem dX12_wasIn_66 : decode cX12_wasIn 66 = .ok (.aload_n 0, 1) := by decide +kernel
theorem dX12_wasIn_67 : decode cX12_wasIn 67 = .ok (.getfield 224, 3) := by decide +kernel
theorem dX12_wasIn_70 : decode cX12_wasIn 70 = .ok (.ireturn, 1) := by decide +kernel
theorem dX12_begins_0 : decode cX12_begins 0 = .ok (.aload_n 0, 1) := by decide +kernel
theorem dX12_begins_1 : decode cX12_begins 1 = .ok (.getfield 236, 3) := by decide +kernel
theorem dX12_begins_4 : decode cX12_begins 4 = .ok (.bipush 30, 2) := by decide +kernel
theorem dX12_begins_6 : decode cX12_begins 6 = .ok (.if_icmp .ge 23, 3) := by decide +kernel
theorem dX12_begins_9 : decode cX12_begins 9 = .ok (.aload_n 0, 1) := by decide +kernel
theorem dX12_begins_10 : decode cX12_begins 10 = .ok (.getfield 43, 3) := by decide +kernel
theorem dX12_begins_13 : decode cX12_begins 13 = .ok (.aload_n 0, 1) := by decide +kernel
theorem dX12_begins_14 : decode cX12_begins 14 = .ok (.getfield 236, 3) := by decide +kernel
theorem dX12_begins_17 : decode cX12_begins 17 = .ok (.iload_n 1, 1) := by decide +kernel
theorem dX12_begins_18 : decode cX12_begins 18 = .ok (.iastore, 1) := by decide +kernel
theorem dX12_begins_19 : decode cX12_begins 19 = .ok (.aload_n 0, 1) := by decide +kernel
theorem dX12_begins_20 : decode cX12_begins 20 = .ok (.dup, 1) := by decide +kernel
theorem dX12_begins_21 : decode cX12_begins 21 = .ok (.getfield 236, 3) := by decide +kernel
theorem dX12_begins_24 : decode cX12_begins 24 = .ok (.iconst 1, 1) := by decide +kernel
theorem dX12_begins_25 : decode cX12_begins 25 = .ok (.iadd, 1) := by decide +kernel
theorem dX12_begins_26 : decode cX12_begins 26 = .ok (.putfield 236, 3) := by decide +kernel
theorem dX12_begins_29 : decode cX12_begins 29 = .ok (.return_, 1) := by decide +kernel
theorem dX12_above_0 : decode cX12_above 0 = .ok (.iload_n 0, 1) := by decide +kernel
theorem dX12_above_1 : decode cX12_above 1 = .ok (.iconst 5, 1) := by decide +kernel
theorem dX12_above_2 : decode cX12_above 2 = .ok (.if_icmp .ne 7, 3) := by decide +kernel
theorem dX12_above_5 : decode cX12_above 5 = .ok (.iconst 1, 1) := by decide +kernel
theorem dX12_above_6 : decode cX12_above 6 = .ok (.goto 13, 3) := by decide +kernel
theorem dX12_above_9 : decode cX12_above 9 = .ok (.iload_n 0, 1) := by decide +kernel
theorem dX12_above_10 : decode cX12_above 10 = .ok (.iconst 4, 1) := by decide +kernel
theorem dX12_above_11 : decode cX12_above 11 = .ok (.if_icmp .ne 7, 3) := by decide +kernel
theorem dX12_above_14 : decode cX12_above 14 = .ok (.iconst 2, 1) := by decide +kernel
theorem dX12_above_15 : decode cX12_above 15 = .ok (.goto 4, 3) := by decide +kernel
theorem dX12_above_18 : decode cX12_above 18 = .ok (.iconst 0, 1) := by decide +kernel
theorem dX12_above_19 : decode cX12_above 19 = .ok (.ireturn, 1) := by decide +kernel
theorem dX12_addsAs_0 : decode cX12_addsAs 0 = .ok (.iload_n 1, 1) := by decide +kernel
theorem dX12_addsAs_1 : decode cX12_addsAs 1 = .ok (.tableswitch 102 0 6 #[43, 56, 102, 102, 102, 75, 93], 43) := by decide +kernel
theorem dX12_addsAs_44 : decode cX12_addsAs 44 = .ok (.aload_n 0, 1) := by decide +kernel
theorem dX12_addsAs_45 : decode cX12_addsAs 45 = .ok (.bipush 10, 2) := by decide +kernel
theorem dX12_addsAs_47 : decode cX12_addsAs 47 = .ok (.invokevirtual 239, 3) := by decide +kernel
theorem dX12_addsAs_50 : decode cX12_addsAs 50 = .ok (.iload_n 2, 1) := by decide +kernel
theorem dX12_addsAs_51 : decode cX12_addsAs 51 = .ok (.aload_n 0, 1) := by decide +kernel
theorem dX12_addsAs_52 : decode cX12_addsAs 52 = .ok (.getfield 243, 3) := by decide +kernel
theorem dX12_addsAs_55 : decode cX12_addsAs 55 = .ok (.iadd, 1) := by decide +kernel
theorem dX12_addsAs_56 : decode cX12_addsAs 56 = .ok (.ireturn, 1) := by decide +kernel
theorem dX12_addsAs_57 : decode cX12_addsAs 57 = .ok (.aload_n 0, 1) := by decide +kernel
theorem dX12_addsAs_58 : decode cX12_addsAs 58 = .ok (.bipush 20, 2) := by decide +kernel
theorem dX12_addsAs_60 : decode cX12_addsAs 60 = .ok (.invokevirtual 239, 3) := by decide +kernel
theorem dX12_addsAs_63 : decode cX12_addsAs 63 = .ok (.aload_n 0, 1) := by decide +kernel
theorem dX12_addsAs_64 : decode cX12_addsAs 64 = .ok (.iconst 1, 1) := by decide +kernel
theorem dX12_addsAs_65 : decode cX12_addsAs 65 = .ok (.invokestatic 246, 3) := by decide +kernel
theorem dX12_addsAs_68 : decode cX12_addsAs 68 = .ok (.iload_n 2, 1) := by decide +kernel
theorem dX12_addsAs_69 : decode cX12_addsAs 69 = .ok (.invokevirtual 249, 3) := by decide +kernel
theorem dX12_addsAs_72 : decode cX12_addsAs 72 = .ok (.bipush 9, 2) := by decide +kernel
theorem dX12_addsAs_74 : decode cX12_addsAs 74 = .ok (.isub, 1) := by decide +kernel
theorem dX12_addsAs_75 : decode cX12_addsAs 75 = .ok (.ireturn, 1) := by decide +kernel
theorem dX12_addsAs_76 : decode cX12_addsAs 76 = .ok (.aload_n 0, 1) := by decide +kernel
theorem dX12_addsAs_77 : decode cX12_addsAs 77 = .ok (.bipush 50, 2) := by decide +kernel
theorem dX12_addsAs_79 : decode cX12_addsAs 79 = .ok (.invokevirtual 239, 3) := by decide +kernel
theorem dX12_addsAs_82 : decode cX12_addsAs 82 = .ok (.aload_n 0, 1) := by decide +kernel
theorem dX12_addsAs_83 : decode cX12_addsAs 83 = .ok (.iconst 5, 1) := by decide +kernel
theorem dX12_addsAs_84 : decode cX12_addsAs 84 = .ok (.invokestatic 246, 3) := by decide +kernel
theorem dX12_addsAs_87 : decode cX12_addsAs 87 = .ok (.iload_n 2, 1) := by decide +kernel
theorem dX12_addsAs_88 : decode cX12_addsAs 88 = .ok (.invokevirtual 249, 3) := by decide +kernel
theorem dX12_addsAs_91 : decode cX12_addsAs 91 = .ok (.iconst 3, 1) := by decide +kernel
theorem dX12_addsAs_92 : decode cX12_addsAs 92 = .ok (.imul, 1) := by decide +kernel
theorem dX12_addsAs_93 : decode cX12_addsAs 93 = .ok (.ireturn, 1) := by decide +kernel
theorem dX12_addsAs_94 : decode cX12_addsAs 94 = .ok (.aload_n 0, 1) := by decide +kernel
theorem dX12_addsAs_95 : decode cX12_addsAs 95 = .ok (.bipush 70, 2) := by decide +kernel
theorem dX12_addsAs_97 : decode cX12_addsAs 97 = .ok (.invokevirtual 239, 3) := by decide +kernel
theorem dX12_addsAs_100 : decode cX12_addsAs 100 = .ok (.bipush 9, 2) := by decide +kernel
theorem dX12_addsAs_102 : decode cX12_addsAs 102 = .ok (.ireturn, 1) := by decide +kernel
theorem dX12_addsAs_103 : decode cX12_addsAs 103 = .ok (.aload_n 0, 1) := by decide +kernel
theorem dX12_addsAs_104 : decode cX12_addsAs 104 = .ok (.iload_n 1, 1) := by decide +kernel
theorem dX12_addsAs_105 : decode cX12_addsAs 105 = .ok (.invokestatic 246, 3) := by decide +kernel
theorem dX12_addsAs_108 : decode cX12_addsAs 108 = .ok (.iload_n 2, 1) := by decide +kernel
theorem dX12_addsAs_109 : decode cX12_addsAs 109 = .ok (.invokevirtual 249, 3) := by decide +kernel
theorem dX12_addsAs_112 : decode cX12_addsAs 112 = .ok (.ireturn, 1) := by decide +kernel
theorem dX12_comesAs_0 : decode cX12_comesAs 0 = .ok (.iload_n 1, 1) := by decide +kernel
theorem dX12_comesAs_1 : decode cX12_comesAs 1 = .ok (.tableswitch 127 0 6 #[43, 127, 65, 127, 83, 127, 101], 43) := by decide +kernel
theorem dX12_comesAs_44 : decode cX12_comesAs 44 = .ok (.aload_n 0, 1) := by decide +kernel
theorem dX12_comesAs_45 : decode cX12_comesAs 45 = .ok (.bipush 11, 2) := by decide +kernel
theorem dX12_comesAs_47 : decode cX12_comesAs 47 = .ok (.invokevirtual 239, 3) := by decide +kernel
theorem dX12_comesAs_50 : decode cX12_comesAs 50 = .ok (.aload_n 0, 1) := by decide +kernel
theorem dX12_comesAs_51 : decode cX12_comesAs 51 = .ok (.aload_n 0, 1) := by decide +kernel
theorem dX12_comesAs_52 : decode cX12_comesAs 52 = .ok (.aload_n 0, 1) := by decide +kernel
theorem dX12_comesAs_53 : decode cX12_comesAs 53 = .ok (.getfield 243, 3) := by decide +kernel
theorem dX12_comesAs_56 : decode cX12_comesAs 56 = .ok (.invokevirtual 130, 3) := by decide +kernel
theorem dX12_comesAs_59 : decode cX12_comesAs 59 = .ok (.iload_n 2, 1) := by decide +kernel
theorem dX12_comesAs_60 : decode cX12_comesAs 60 = .ok (.invokevirtual 249, 3) := by decide +kernel
theorem dX12_comesAs_63 : decode cX12_comesAs 63 = .ok (.iconst 2, 1) := by decide +kernel
theorem dX12_comesAs_64 : decode cX12_comesAs 64 = .ok (.imul, 1) := by decide +kernel
theorem dX12_comesAs_65 : decode cX12_comesAs 65 = .ok (.ireturn, 1) := by decide +kernel
theorem dX12_comesAs_66 : decode cX12_comesAs 66 = .ok (.aload_n 0, 1) := by decide +kernel
theorem dX12_comesAs_67 : decode cX12_comesAs 67 = .ok (.bipush 30, 2) := by decide +kernel
theorem dX12_comesAs_69 : decode cX12_comesAs 69 = .ok (.invokevirtual 239, 3) := by decide +kernel
theorem dX12_comesAs_72 : decode cX12_comesAs 72 = .ok (.iconst 0, 1) := by decide +kernel
theorem dX12_comesAs_73 : decode cX12_comesAs 73 = .ok (.aload_n 0, 1) := by decide +kernel
theorem dX12_comesAs_74 : decode cX12_comesAs 74 = .ok (.iconst 2, 1) := by decide +kernel
theorem dX12_comesAs_75 : decode cX12_comesAs 75 = .ok (.invokestatic 246, 3) := by decide +kernel
theorem dX12_comesAs_78 : decode cX12_comesAs 78 = .ok (.iload_n 2, 1) := by decide +kernel
theorem dX12_comesAs_79 : decode cX12_comesAs 79 = .ok (.invokevirtual 252, 3) := by decide +kernel
theorem dX12_comesAs_82 : decode cX12_comesAs 82 = .ok (.isub, 1) := by decide +kernel
theorem dX12_comesAs_83 : decode cX12_comesAs 83 = .ok (.ireturn, 1) := by decide +kernel
theorem dX12_comesAs_84 : decode cX12_comesAs 84 = .ok (.aload_n 0, 1) := by decide +kernel
theorem dX12_comesAs_85 : decode cX12_comesAs 85 = .ok (.bipush 60, 2) := by decide +kernel
theorem dX12_comesAs_87 : decode cX12_comesAs 87 = .ok (.invokevirtual 239, 3) := by decide +kernel
theorem dX12_comesAs_90 : decode cX12_comesAs 90 = .ok (.aload_n 0, 1) := by decide +kernel
theorem dX12_comesAs_91 : decode cX12_comesAs 91 = .ok (.iconst 4, 1) := by decide +kernel
theorem dX12_comesAs_92 : decode cX12_comesAs 92 = .ok (.invokestatic 246, 3) := by decide +kernel
theorem dX12_comesAs_95 : decode cX12_comesAs 95 = .ok (.iload_n 2, 1) := by decide +kernel
theorem dX12_comesAs_96 : decode cX12_comesAs 96 = .ok (.iconst 1, 1) := by decide +kernel
theorem dX12_comesAs_97 : decode cX12_comesAs 97 = .ok (.iadd, 1) := by decide +kernel
theorem dX12_comesAs_98 : decode cX12_comesAs 98 = .ok (.invokevirtual 252, 3) := by decide +kernel
theorem dX12_comesAs_101 : decode cX12_comesAs 101 = .ok (.ireturn, 1) := by decide +kernel
theorem dX12_comesAs_102 : decode cX12_comesAs 102 = .ok (.aload_n 0, 1) := by decide +kernel
theorem dX12_comesAs_103 : decode cX12_comesAs 103 = .ok (.bipush 71, 2) := by decide +kernel
theorem dX12_comesAs_105 : decode cX12_comesAs 105 = .ok (.invokevirtual 239, 3) := by decide +kernel
theorem dX12_comesAs_108 : decode cX12_comesAs 108 = .ok (.aload_n 0, 1) := by decide +kernel
theorem dX12_comesAs_109 : decode cX12_comesAs 109 = .ok (.bipush 6, 2) := by decide +kernel
theorem dX12_comesAs_111 : decode cX12_comesAs 111 = .ok (.invokestatic 246, 3) := by decide +kernel
theorem dX12_comesAs_114 : decode cX12_comesAs 114 = .ok (.iload_n 2, 1) := by decide +kernel
theorem dX12_comesAs_115 : decode cX12_comesAs 115 = .ok (.invokevirtual 252, 3) := by decide +kernel
theorem dX12_comesAs_118 : decode cX12_comesAs 118 = .ok (.aload_n 0, 1) := by decide +kernel
theorem dX12_comesAs_119 : decode cX12_comesAs 119 = .ok (.aload_n 0, 1) := by decide +kernel
theorem dX12_comesAs_120 : decode cX12_comesAs 120 = .ok (.getfield 243, 3) := by decide +kernel
theorem dX12_comesAs_123 : decode cX12_comesAs 123 = .ok (.invokevirtual 127, 3) := by decide +kernel
theorem dX12_comesAs_126 : decode cX12_comesAs 126 = .ok (.iadd, 1) := by decide +kernel
theorem dX12_comesAs_127 : decode cX12_comesAs 127 = .ok (.ireturn, 1) := by decide +kernel
theorem dX12_comesAs_128 : decode cX12_comesAs 128 = .ok (.aload_n 0, 1) := by decide +kernel
theorem dX12_comesAs_129 : decode cX12_comesAs 129 = .ok (.iload_n 1, 1) := by decide +kernel
theorem dX12_comesAs_130 : decode cX12_comesAs 130 = .ok (.invokestatic 246, 3) := by decide +kernel
theorem dX12_comesAs_133 : decode cX12_comesAs 133 = .ok (.iload_n 2, 1) := by decide +kernel
theorem dX12_comesAs_134 : decode cX12_comesAs 134 = .ok (.invokevirtual 252, 3) := by decide +kernel
theorem dX12_comesAs_137 : decode cX12_comesAs 137 = .ok (.ireturn, 1) := by decide +kernel
theorem dX12_givesAs_0 : decode cX12_givesAs 0 = .ok (.iload_n 1, 1) := by decide +kernel
theorem dX12_givesAs_1 : decode cX12_givesAs 1 = .ok (.lookupswitch 103 #[(0, 35), (3, 64), (5, 82)], 35) := by decide +kernel
theorem dX12_givesAs_36 : decode cX12_givesAs 36 = .ok (.aload_n 0, 1) := by decide +kernel
theorem dX12_givesAs_37 : decode cX12_givesAs 37 = .ok (.bipush 12, 2) := by decide +kernel
theorem dX12_givesAs_39 : decode cX12_givesAs 39 = .ok (.invokevirtual 239, 3) := by decide +kernel
theorem dX12_givesAs_42 : decode cX12_givesAs 42 = .ok (.aload_n 0, 1) := by decide +kernel
theorem dX12_givesAs_43 : decode cX12_givesAs 43 = .ok (.aload_n 0, 1) := by decide +kernel
theorem dX12_givesAs_44 : decode cX12_givesAs 44 = .ok (.aload_n 0, 1) := by decide +kernel
theorem dX12_givesAs_45 : decode cX12_givesAs 45 = .ok (.getfield 243, 3) := by decide +kernel
theorem dX12_givesAs_48 : decode cX12_givesAs 48 = .ok (.invokevirtual 130, 3) := by decide +kernel
theorem dX12_givesAs_51 : decode cX12_givesAs 51 = .ok (.iload_n 2, 1) := by decide +kernel
theorem dX12_givesAs_52 : decode cX12_givesAs 52 = .ok (.invokevirtual 252, 3) := by decide +kernel
theorem dX12_givesAs_55 : decode cX12_givesAs 55 = .ok (.aload_n 0, 1) := by decide +kernel
theorem dX12_givesAs_56 : decode cX12_givesAs 56 = .ok (.aload_n 0, 1) := by decide +kernel
theorem dX12_givesAs_57 : decode cX12_givesAs 57 = .ok (.getfield 243, 3) := by decide +kernel
theorem dX12_givesAs_60 : decode cX12_givesAs 60 = .ok (.invokevirtual 127, 3) := by decide +kernel
theorem dX12_givesAs_63 : decode cX12_givesAs 63 = .ok (.isub, 1) := by decide +kernel
theorem dX12_givesAs_64 : decode cX12_givesAs 64 = .ok (.ireturn, 1) := by decide +kernel
theorem dX12_givesAs_65 : decode cX12_givesAs 65 = .ok (.aload_n 0, 1) := by decide +kernel
theorem dX12_givesAs_66 : decode cX12_givesAs 66 = .ok (.bipush 40, 2) := by decide +kernel
theorem dX12_givesAs_68 : decode cX12_givesAs 68 = .ok (.invokevirtual 239, 3) := by decide +kernel
theorem dX12_givesAs_71 : decode cX12_givesAs 71 = .ok (.aload_n 0, 1) := by decide +kernel
theorem dX12_givesAs_72 : decode cX12_givesAs 72 = .ok (.iconst 3, 1) := by decide +kernel
theorem dX12_givesAs_73 : decode cX12_givesAs 73 = .ok (.invokestatic 246, 3) := by decide +kernel
theorem dX12_givesAs_76 : decode cX12_givesAs 76 = .ok (.iload_n 2, 1) := by decide +kernel
theorem dX12_givesAs_77 : decode cX12_givesAs 77 = .ok (.iconst 2, 1) := by decide +kernel
theorem dX12_givesAs_78 : decode cX12_givesAs 78 = .ok (.idiv, 1) := by decide +kernel
theorem dX12_givesAs_79 : decode cX12_givesAs 79 = .ok (.invokevirtual 255, 3) := by decide +kernel
theorem dX12_givesAs_82 : decode cX12_givesAs 82 = .ok (.ireturn, 1) := by decide +kernel
theorem dX12_givesAs_83 : decode cX12_givesAs 83 = .ok (.aload_n 0, 1) := by decide +kernel
theorem dX12_givesAs_84 : decode cX12_givesAs 84 = .ok (.bipush 51, 2) := by decide +kernel
theorem dX12_givesAs_86 : decode cX12_givesAs 86 = .ok (.invokevirtual 239, 3) := by decide +kernel
theorem dX12_givesAs_89 : decode cX12_givesAs 89 = .ok (.aload_n 0, 1) := by decide +kernel
theorem dX12_givesAs_90 : decode cX12_givesAs 90 = .ok (.iconst 5, 1) := by decide +kernel
theorem dX12_givesAs_91 : decode cX12_givesAs 91 = .ok (.invokestatic 246, 3) := by decide +kernel
theorem dX12_givesAs_94 : decode cX12_givesAs 94 = .ok (.iload_n 2, 1) := by decide +kernel
theorem dX12_givesAs_95 : decode cX12_givesAs 95 = .ok (.invokevirtual 255, 3) := by decide +kernel
theorem dX12_givesAs_98 : decode cX12_givesAs 98 = .ok (.aload_n 0, 1) := by decide +kernel
theorem dX12_givesAs_99 : decode cX12_givesAs 99 = .ok (.getfield 243, 3) := by decide +kernel
theorem dX12_givesAs_102 : decode cX12_givesAs 102 = .ok (.ixor, 1) := by decide +kernel
theorem dX12_givesAs_103 : decode cX12_givesAs 103 = .ok (.ireturn, 1) := by decide +kernel
theorem dX12_givesAs_104 : decode cX12_givesAs 104 = .ok (.aload_n 0, 1) := by decide +kernel
theorem dX12_givesAs_105 : decode cX12_givesAs 105 = .ok (.iload_n 1, 1) := by decide +kernel
theorem dX12_givesAs_106 : decode cX12_givesAs 106 = .ok (.invokestatic 246, 3) := by decide +kernel
theorem dX12_givesAs_109 : decode cX12_givesAs 109 = .ok (.iload_n 2, 1) := by decide +kernel
theorem dX12_givesAs_110 : decode cX12_givesAs 110 = .ok (.invokevirtual 255, 3) := by decide +kernel
theorem dX12_givesAs_113 : decode cX12_givesAs 113 = .ok (.ireturn, 1) := by decide +kernel
theorem dX12_partsAs_0 : decode cX12_partsAs 0 = .ok (.iload_n 1, 1) := by decide +kernel
theorem dX12_partsAs_1 : decode cX12_partsAs 1 = .ok (.lookupswitch 127 #[(0, 27), (1, 82)], 27) := by decide +kernel
theorem dX12_partsAs_28 : decode cX12_partsAs 28 = .ok (.aload_n 0, 1) := by decide +kernel
theorem dX12_partsAs_29 : decode cX12_partsAs 29 = .ok (.bipush 13, 2) := by decide +kernel
theorem dX12_partsAs_31 : decode cX12_partsAs 31 = .ok (.invokevirtual 239, 3) := by decide +kernel
theorem dX12_partsAs_34 : decode cX12_partsAs 34 = .ok (.aload_n 0, 1) := by decide +kernel
theorem dX12_partsAs_35 : decode cX12_partsAs 35 = .ok (.aload_n 0, 1) := by decide +kernel
theorem dX12_partsAs_36 : decode cX12_partsAs 36 = .ok (.getfield 243, 3) := by decide +kernel
theorem dX12_partsAs_39 : decode cX12_partsAs 39 = .ok (.invokevirtual 127, 3) := by decide +kernel
theorem dX12_partsAs_42 : decode cX12_partsAs 42 = .ok (.aload_n 0, 1) := by decide +kernel
theorem dX12_partsAs_43 : decode cX12_partsAs 43 = .ok (.getfield 243, 3) := by decide +kernel
theorem dX12_partsAs_46 : decode cX12_partsAs 46 = .ok (.isub, 1) := by decide +kernel
theorem dX12_partsAs_47 : decode cX12_partsAs 47 = .ok (.istore_n 3, 1) := by decide +kernel
theorem dX12_partsAs_48 : decode cX12_partsAs 48 = .ok (.aload_n 0, 1) := by decide +kernel
theorem dX12_partsAs_49 : decode cX12_partsAs 49 = .ok (.iload_n 3, 1) := by decide +kernel
theorem dX12_partsAs_50 : decode cX12_partsAs 50 = .ok (.ifCond .ne 7, 3) := by decide +kernel
theorem dX12_partsAs_53 : decode cX12_partsAs 53 = .ok (.iconst 1, 1) := by decide +kernel
theorem dX12_partsAs_54 : decode cX12_partsAs 54 = .ok (.goto 4, 3) := by decide +kernel
theorem dX12_partsAs_57 : decode cX12_partsAs 57 = .ok (.iconst 0, 1) := by decide +kernel
theorem dX12_partsAs_58 : decode cX12_partsAs 58 = .ok (.putfield 258, 3) := by decide +kernel
theorem dX12_partsAs_61 : decode cX12_partsAs 61 = .ok (.iload_n 3, 1) := by decide +kernel
theorem dX12_partsAs_62 : decode cX12_partsAs 62 = .ok (.ifCond .ne 7, 3) := by decide +kernel
theorem dX12_partsAs_65 : decode cX12_partsAs 65 = .ok (.iconst 0, 1) := by decide +kernel
theorem dX12_partsAs_66 : decode cX12_partsAs 66 = .ok (.goto 16, 3) := by decide +kernel
theorem dX12_partsAs_69 : decode cX12_partsAs 69 = .ok (.iload_n 3, 1) := by decide +kernel
theorem dX12_partsAs_70 : decode cX12_partsAs 70 = .ok (.iconst (-1), 1) := by decide +kernel
theorem dX12_partsAs_71 : decode cX12_partsAs 71 = .ok (.if_icmp .ne 8, 3) := by decide +kernel
theorem dX12_partsAs_74 : decode cX12_partsAs 74 = .ok (.iload_n 2, 1) := by decide +kernel
theorem dX12_partsAs_75 : decode cX12_partsAs 75 = .ok (.ineg, 1) := by decide +kernel
theorem dX12_partsAs_76 : decode cX12_partsAs 76 = .ok (.goto 6, 3) := by decide +kernel
theorem dX12_partsAs_79 : decode cX12_partsAs 79 = .ok (.iload_n 2, 1) := by decide +kernel
theorem dX12_partsAs_80 : decode cX12_partsAs 80 = .ok (.iload_n 3, 1) := by decide +kernel
theorem dX12_partsAs_81 : decode cX12_partsAs 81 = .ok (.idiv, 1) := by decide +kernel
theorem dX12_partsAs_82 : decode cX12_partsAs 82 = .ok (.ireturn, 1) := by decide +kernel
theorem dX12_partsAs_83 : decode cX12_partsAs 83 = .ok (.aload_n 0, 1) := by decide +kernel
theorem dX12_partsAs_84 : decode cX12_partsAs 84 = .ok (.bipush 21, 2) := by decide +kernel
theorem dX12_partsAs_86 : decode cX12_partsAs 86 = .ok (.invokevirtual 239, 3) := by decide +kernel
theorem dX12_partsAs_89 : decode cX12_partsAs 89 = .ok (.aload_n 0, 1) := by decide +kernel
theorem dX12_partsAs_90 : decode cX12_partsAs 90 = .ok (.iconst 1, 1) := by decide +kernel
theorem dX12_partsAs_91 : decode cX12_partsAs 91 = .ok (.invokestatic 246, 3) := by decide +kernel
theorem dX12_partsAs_94 : decode cX12_partsAs 94 = .ok (.iload_n 2, 1) := by decide +kernel
theorem dX12_partsAs_95 : decode cX12_partsAs 95 = .ok (.invokevirtual 262, 3) := by decide +kernel
theorem dX12_partsAs_98 : decode cX12_partsAs 98 = .ok (.istore 4, 2) := by decide +kernel
theorem dX12_partsAs_100 : decode cX12_partsAs 100 = .ok (.aload_n 0, 1) := by decide +kernel
theorem dX12_partsAs_101 : decode cX12_partsAs 101 = .ok (.getfield 258, 3) := by decide +kernel
theorem dX12_partsAs_104 : decode cX12_partsAs 104 = .ok (.ifCond .eq 7, 3) := by decide +kernel
theorem dX12_partsAs_107 : decode cX12_partsAs 107 = .ok (.iconst 0, 1) := by decide +kernel
theorem dX12_partsAs_108 : decode cX12_partsAs 108 = .ok (.goto 19, 3) := by decide +kernel
theorem dX12_partsAs_111 : decode cX12_partsAs 111 = .ok (.iload 4, 2) := by decide +kernel
theorem dX12_partsAs_113 : decode cX12_partsAs 113 = .ok (.aload_n 0, 1) := by decide +kernel
theorem dX12_partsAs_114 : decode cX12_partsAs 114 = .ok (.aload_n 0, 1) := by decide +kernel
theorem dX12_partsAs_115 : decode cX12_partsAs 115 = .ok (.aload_n 0, 1) := by decide +kernel
theorem dX12_partsAs_116 : decode cX12_partsAs 116 = .ok (.getfield 243, 3) := by decide +kernel
theorem dX12_partsAs_119 : decode cX12_partsAs 119 = .ok (.invokevirtual 130, 3) := by decide +kernel
theorem dX12_partsAs_122 : decode cX12_partsAs 122 = .ok (.iconst 1, 1) := by decide +kernel
theorem dX12_partsAs_123 : decode cX12_partsAs 123 = .ok (.invokevirtual 252, 3) := by decide +kernel
theorem dX12_partsAs_126 : decode cX12_partsAs 126 = .ok (.iadd, 1) := by decide +kernel
theorem dX12_partsAs_127 : decode cX12_partsAs 127 = .ok (.ireturn, 1) := by decide +kernel
theorem dX12_partsAs_128 : decode cX12_partsAs 128 = .ok (.aload_n 0, 1) := by decide +kernel
theorem dX12_partsAs_129 : decode cX12_partsAs 129 = .ok (.iload_n 1, 1) := by decide +kernel
theorem dX12_partsAs_130 : decode cX12_partsAs 130 = .ok (.invokestatic 246, 3) := by decide +kernel
theorem dX12_partsAs_133 : decode cX12_partsAs 133 = .ok (.iload_n 2, 1) := by decide +kernel
theorem dX12_partsAs_134 : decode cX12_partsAs 134 = .ok (.invokevirtual 262, 3) := by decide +kernel
theorem dX12_partsAs_137 : decode cX12_partsAs 137 = .ok (.ireturn, 1) := by decide +kernel
theorem dX12_voice_0 : decode cX12_voice 0 = .ok (.iload_n 1, 1) := by decide +kernel
theorem dX12_voice_1 : decode cX12_voice 1 = .ok (.invokestatic 161, 3) := by decide +kernel
theorem dX12_voice_4 : decode cX12_voice 4 = .ok (.ifCond .eq 12, 3) := by decide +kernel
theorem dX12_voice_7 : decode cX12_voice 7 = .ok (.iload_n 2, 1) := by decide +kernel
theorem dX12_voice_8 : decode cX12_voice 8 = .ok (.iconst 0, 1) := by decide +kernel
theorem dX12_voice_9 : decode cX12_voice 9 = .ok (.iconst 3, 1) := by decide +kernel
theorem dX12_voice_10 : decode cX12_voice 10 = .ok (.invokestatic 59, 3) := by decide +kernel
theorem dX12_voice_13 : decode cX12_voice 13 = .ok (.ifCond .ne 9, 3) := by decide +kernel
theorem dX12_voice_16 : decode cX12_voice 16 = .ok (.aload_n 0, 1) := by decide +kernel
theorem dX12_voice_17 : decode cX12_voice 17 = .ok (.iconst 1, 1) := by decide +kernel
theorem dX12_voice_18 : decode cX12_voice 18 = .ok (.invokevirtual 63, 3) := by decide +kernel
theorem dX12_voice_21 : decode cX12_voice 21 = .ok (.ireturn, 1) := by decide +kernel
theorem dX12_voice_22 : decode cX12_voice 22 = .ok (.aload_n 0, 1) := by decide +kernel
theorem dX12_voice_23 : decode cX12_voice 23 = .ok (.iconst 0, 1) := by decide +kernel
theorem dX12_voice_24 : decode cX12_voice 24 = .ok (.putfield 236, 3) := by decide +kernel
theorem dX12_voice_27 : decode cX12_voice 27 = .ok (.aload_n 0, 1) := by decide +kernel
theorem dX12_voice_28 : decode cX12_voice 28 = .ok (.iload_n 1, 1) := by decide +kernel
theorem dX12_voice_29 : decode cX12_voice 29 = .ok (.putfield 243, 3) := by decide +kernel
theorem dX12_voice_32 : decode cX12_voice 32 = .ok (.aload_n 0, 1) := by decide +kernel
theorem dX12_voice_33 : decode cX12_voice 33 = .ok (.iconst 0, 1) := by decide +kernel
theorem dX12_voice_34 : decode cX12_voice 34 = .ok (.putfield 258, 3) := by decide +kernel
theorem dX12_voice_37 : decode cX12_voice 37 = .ok (.aload_n 0, 1) := by decide +kernel
theorem dX12_voice_38 : decode cX12_voice 38 = .ok (.iload_n 1, 1) := by decide +kernel
theorem dX12_voice_39 : decode cX12_voice 39 = .ok (.invokevirtual 130, 3) := by decide +kernel
theorem dX12_voice_42 : decode cX12_voice 42 = .ok (.istore 4, 2) := by decide +kernel
theorem dX12_voice_44 : decode cX12_voice 44 = .ok (.iload_n 2, 1) := by decide +kernel
theorem dX12_voice_45 : decode cX12_voice 45 = .ok (.ifCond .ne 13, 3) := by decide +kernel
theorem dX12_voice_48 : decode cX12_voice 48 = .ok (.aload_n 0, 1) := by decide +kernel
theorem dX12_voice_49 : decode cX12_voice 49 = .ok (.iload 4, 2) := by decide +kernel
theorem dX12_voice_51 : decode cX12_voice 51 = .ok (.iload_n 3, 1) := by decide +kernel
theorem dX12_voice_52 : decode cX12_voice 52 = .ok (.invokevirtual 249, 3) := by decide +kernel
theorem dX12_voice_55 : decode cX12_voice 55 = .ok (.goto 40, 3) := by decide +kernel
theorem dX12_voice_58 : decode cX12_voice 58 = .ok (.iload_n 2, 1) := by decide +kernel
theorem dX12_voice_59 : decode cX12_voice 59 = .ok (.iconst 1, 1) := by decide +kernel
theorem dX12_voice_60 : decode cX12_voice 60 = .ok (.if_icmp .ne 13, 3) := by decide +kernel
theorem dX12_voice_63 : decode cX12_voice 63 = .ok (.aload_n 0, 1) := by decide +kernel
theorem dX12_voice_64 : decode cX12_voice 64 = .ok (.iload 4, 2) := by decide +kernel
theorem dX12_voice_66 : decode cX12_voice 66 = .ok (.iload_n 3, 1) := by decide +kernel
theorem dX12_voice_67 : decode cX12_voice 67 = .ok (.invokevirtual 252, 3) := by decide +kernel
theorem dX12_voice_70 : decode cX12_voice 70 = .ok (.goto 25, 3) := by decide +kernel
theorem dX12_voice_73 : decode cX12_voice 73 = .ok (.iload_n 2, 1) := by decide +kernel
theorem dX12_voice_74 : decode cX12_voice 74 = .ok (.iconst 2, 1) := by decide +kernel
theorem dX12_voice_75 : decode cX12_voice 75 = .ok (.if_icmp .ne 13, 3) := by decide +kernel
theorem dX12_voice_78 : decode cX12_voice 78 = .ok (.aload_n 0, 1) := by decide +kernel
theorem dX12_voice_79 : decode cX12_voice 79 = .ok (.iload 4, 2) := by decide +kernel
theorem dX12_voice_81 : decode cX12_voice 81 = .ok (.iload_n 3, 1) := by decide +kernel
theorem dX12_voice_82 : decode cX12_voice 82 = .ok (.invokevirtual 255, 3) := by decide +kernel
theorem dX12_voice_85 : decode cX12_voice 85 = .ok (.goto 10, 3) := by decide +kernel
theorem dX12_voice_88 : decode cX12_voice 88 = .ok (.aload_n 0, 1) := by decide +kernel
theorem dX12_voice_89 : decode cX12_voice 89 = .ok (.iload 4, 2) := by decide +kernel
theorem dX12_voice_91 : decode cX12_voice 91 = .ok (.iload_n 3, 1) := by decide +kernel
theorem dX12_voice_92 : decode cX12_voice 92 = .ok (.invokevirtual 262, 3) := by decide +kernel
theorem dX12_voice_95 : decode cX12_voice 95 = .ok (.istore 5, 2) := by decide +kernel
theorem dX12_voice_97 : decode cX12_voice 97 = .ok (.aload_n 0, 1) := by decide +kernel
theorem dX12_voice_98 : decode cX12_voice 98 = .ok (.getfield 258, 3) := by decide +kernel
theorem dX12_voice_101 : decode cX12_voice 101 = .ok (.ifCond .eq 12, 3) := by decide +kernel
theorem dX12_voice_104 : decode cX12_voice 104 = .ok (.aload_n 0, 1) := by decide +kernel
theorem dX12_voice_105 : decode cX12_voice 105 = .ok (.bipush 6, 2) := by decide +kernel
theorem dX12_voice_107 : decode cX12_voice 107 = .ok (.invokevirtual 63, 3) := by decide +kernel
theorem dX12_voice_110 : decode cX12_voice 110 = .ok (.goto 5, 3) := by decide +kernel
theorem dX12_voice_113 : decode cX12_voice 113 = .ok (.iload 5, 2) := by decide +kernel
theorem dX12_voice_115 : decode cX12_voice 115 = .ok (.ireturn, 1) := by decide +kernel
theorem dX12_body_0 : decode cX12_body 0 = .ok (.iload_n 1, 1) := by decide +kernel
theorem dX12_body_1 : decode cX12_body 1 = .ok (.iconst 0, 1) := by decide +kernel
theorem dX12_body_2 : decode cX12_body 2 = .ok (.aload_n 0, 1) := by decide +kernel
theorem dX12_body_3 : decode cX12_body 3 = .ok (.getfield 236, 3) := by decide +kernel
theorem dX12_body_6 : decode cX12_body 6 = .ok (.iconst 1, 1) := by decide +kernel
theorem dX12_body_7 : decode cX12_body 7 = .ok (.isub, 1) := by decide +kernel
theorem dX12_body_8 : decode cX12_body 8 = .ok (.invokestatic 59, 3) := by decide +kernel
theorem dX12_body_11 : decode cX12_body 11 = .ok (.ifCond .eq 12, 3) := by decide +kernel
theorem dX12_body_14 : decode cX12_body 14 = .ok (.aload_n 0, 1) := by decide +kernel
theorem dX12_body_15 : decode cX12_body 15 = .ok (.getfield 43, 3) := by decide +kernel
theorem dX12_body_18 : decode cX12_body 18 = .ok (.iload_n 1, 1) := by decide +kernel
theorem dX12_body_19 : decode cX12_body 19 = .ok (.iaload, 1) := by decide +kernel
theorem dX12_body_20 : decode cX12_body 20 = .ok (.goto 8, 3) := by decide +kernel
theorem dX12_body_23 : decode cX12_body 23 = .ok (.aload_n 0, 1) := by decide +kernel
theorem dX12_body_24 : decode cX12_body 24 = .ok (.iconst 2, 1) := by decide +kernel
theorem dX12_body_25 : decode cX12_body 25 = .ok (.invokevirtual 63, 3) := by decide +kernel
theorem dX12_body_28 : decode cX12_body 28 = .ok (.ireturn, 1) := by decide +kernel
theorem dX12_isSheet_0 : decode cX12_isSheet 0 = .ok (.iload_n 0, 1) := by decide +kernel
theorem dX12_isSheet_1 : decode cX12_isSheet 1 = .ok (.iconst 0, 1) := by decide +kernel
theorem dX12_isSheet_2 : decode cX12_isSheet 2 = .ok (.iconst 3, 1) := by decide +kernel
theorem dX12_isSheet_3 : decode cX12_isSheet 3 = .ok (.invokestatic 59, 3) := by decide +kernel
theorem dX12_isSheet_6 : decode cX12_isSheet 6 = .ok (.ireturn, 1) := by decide +kernel
theorem dX12_sheet_0 : decode cX12_sheet 0 = .ok (.iload_n 1, 1) := by decide +kernel
theorem dX12_sheet_1 : decode cX12_sheet 1 = .ok (.invokestatic 169, 3) := by decide +kernel
theorem dX12_sheet_4 : decode cX12_sheet 4 = .ok (.ifCond .eq 25, 3) := by decide +kernel
theorem dX12_sheet_7 : decode cX12_sheet 7 = .ok (.iload_n 2, 1) := by decide +kernel
theorem dX12_sheet_8 : decode cX12_sheet 8 = .ok (.ifCond .eq 27, 3) := by decide +kernel
theorem dX12_sheet_11 : decode cX12_sheet 11 = .ok (.iload_n 2, 1) := by decide +kernel
theorem dX12_sheet_12 : decode cX12_sheet 12 = .ok (.bipush 8, 2) := by decide +kernel
theorem dX12_sheet_14 : decode cX12_sheet 14 = .ok (.if_icmp .eq 21, 3) := by decide +kernel
theorem dX12_sheet_17 : decode cX12_sheet 17 = .ok (.iload_n 2, 1) := by decide +kernel
theorem dX12_sheet_18 : decode cX12_sheet 18 = .ok (.bipush 16, 2) := by decide +kernel
theorem dX12_sheet_20 : decode cX12_sheet 20 = .ok (.if_icmp .eq 15, 3) := by decide +kernel
theorem dX12_sheet_23 : decode cX12_sheet 23 = .ok (.iload_n 2, 1) := by decide +kernel
theorem dX12_sheet_24 : decode cX12_sheet 24 = .ok (.bipush 32, 2) := by decide +kernel
theorem dX12_sheet_26 : decode cX12_sheet 26 = .ok (.if_icmp .eq 9, 3) := by decide +kernel
theorem dX12_sheet_29 : decode cX12_sheet 29 = .ok (.aload_n 0, 1) := by decide +kernel
theorem dX12_sheet_30 : decode cX12_sheet 30 = .ok (.iconst 1, 1) := by decide +kernel
theorem dX12_sheet_31 : decode cX12_sheet 31 = .ok (.invokevirtual 63, 3) := by decide +kernel
theorem dX12_sheet_34 : decode cX12_sheet 34 = .ok (.ireturn, 1) := by decide +kernel
theorem dX12_sheet_35 : decode cX12_sheet 35 = .ok (.iload_n 2, 1) := by decide +kernel
theorem dX12_sheet_36 : decode cX12_sheet 36 = .ok (.ifCond .eq 13, 3) := by decide +kernel
theorem dX12_sheet_39 : decode cX12_sheet 39 = .ok (.iload_n 3, 1) := by decide +kernel
theorem dX12_sheet_40 : decode cX12_sheet 40 = .ok (.ifCond .ge 9, 3) := by decide +kernel
theorem dX12_sheet_43 : decode cX12_sheet 43 = .ok (.aload_n 0, 1) := by decide +kernel
theorem dX12_sheet_44 : decode cX12_sheet 44 = .ok (.iconst 3, 1) := by decide +kernel
theorem dX12_sheet_45 : decode cX12_sheet 45 = .ok (.invokevirtual 63, 3) := by decide +kernel
theorem dX12_sheet_48 : decode cX12_sheet 48 = .ok (.ireturn, 1) := by decide +kernel
theorem dX12_sheet_49 : decode cX12_sheet 49 = .ok (.iload_n 2, 1) := by decide +kernel
theorem dX12_sheet_50 : decode cX12_sheet 50 = .ok (.ifCond .eq 15, 3) := by decide +kernel
theorem dX12_sheet_53 : decode cX12_sheet 53 = .ok (.iload_n 3, 1) := by decide +kernel
theorem dX12_sheet_54 : decode cX12_sheet 54 = .ok (.bipush 24, 2) := by decide +kernel
theorem dX12_sheet_56 : decode cX12_sheet 56 = .ok (.if_icmp .le 9, 3) := by decide +kernel
theorem dX12_sheet_59 : decode cX12_sheet 59 = .ok (.aload_n 0, 1) := by decide +kernel
theorem dX12_sheet_60 : decode cX12_sheet 60 = .ok (.iconst 1, 1) := by decide +kernel
theorem dX12_sheet_61 : decode cX12_sheet 61 = .ok (.invokevirtual 63, 3) := by decide +kernel
theorem dX12_sheet_64 : decode cX12_sheet 64 = .ok (.ireturn, 1) := by decide +kernel
theorem dX12_sheet_65 : decode cX12_sheet 65 = .ok (.aload_n 0, 1) := by decide +kernel
theorem dX12_sheet_66 : decode cX12_sheet 66 = .ok (.getfield 46, 3) := by decide +kernel
theorem dX12_sheet_69 : decode cX12_sheet 69 = .ok (.iload_n 1, 1) := by decide +kernel
theorem dX12_sheet_70 : decode cX12_sheet 70 = .ok (.iload_n 2, 1) := by decide +kernel
theorem dX12_sheet_71 : decode cX12_sheet 71 = .ok (.iastore, 1) := by decide +kernel
theorem dX12_sheet_72 : decode cX12_sheet 72 = .ok (.aload_n 0, 1) := by decide +kernel
theorem dX12_sheet_73 : decode cX12_sheet 73 = .ok (.getfield 49, 3) := by decide +kernel
theorem dX12_sheet_76 : decode cX12_sheet 76 = .ok (.iload_n 1, 1) := by decide +kernel
theorem dX12_sheet_77 : decode cX12_sheet 77 = .ok (.iload_n 2, 1) := by decide +kernel
theorem dX12_sheet_78 : decode cX12_sheet 78 = .ok (.ifCond .ne 7, 3) := by decide +kernel
theorem dX12_sheet_81 : decode cX12_sheet 81 = .ok (.iconst 0, 1) := by decide +kernel
theorem dX12_sheet_82 : decode cX12_sheet 82 = .ok (.goto 4, 3) := by decide +kernel
theorem dX12_sheet_85 : decode cX12_sheet 85 = .ok (.iload_n 3, 1) := by decide +kernel
theorem dX12_sheet_86 : decode cX12_sheet 86 = .ok (.iastore, 1) := by decide +kernel
theorem dX12_sheet_87 : decode cX12_sheet 87 = .ok (.iconst 0, 1) := by decide +kernel
theorem dX12_sheet_88 : decode cX12_sheet 88 = .ok (.istore 4, 2) := by decide +kernel
theorem dX12_sheet_90 : decode cX12_sheet 90 = .ok (.iload 4, 2) := by decide +kernel
theorem dX12_sheet_92 : decode cX12_sheet 92 = .ok (.bipush 24, 2) := by decide +kernel
theorem dX12_sheet_94 : decode cX12_sheet 94 = .ok (.if_icmp .ge 22, 3) := by decide +kernel
theorem dX12_sheet_97 : decode cX12_sheet 97 = .ok (.aload_n 0, 1) := by decide +kernel
theorem dX12_sheet_98 : decode cX12_sheet 98 = .ok (.getfield 52, 3) := by decide +kernel
theorem dX12_sheet_101 : decode cX12_sheet 101 = .ok (.bipush 24, 2) := by decide +kernel
theorem dX12_sheet_103 : decode cX12_sheet 103 = .ok (.iload_n 1, 1) := by decide +kernel
theorem dX12_sheet_104 : decode cX12_sheet 104 = .ok (.imul, 1) := by decide +kernel
theorem dX12_sheet_105 : decode cX12_sheet 105 = .ok (.iload 4, 2) := by decide +kernel
theorem dX12_sheet_107 : decode cX12_sheet 107 = .ok (.iadd, 1) := by decide +kernel
theorem dX12_sheet_108 : decode cX12_sheet 108 = .ok (.iconst 0, 1) := by decide +kernel
theorem dX12_sheet_109 : decode cX12_sheet 109 = .ok (.iastore, 1) := by decide +kernel
theorem dX12_sheet_110 : decode cX12_sheet 110 = .ok (.iinc 4 1, 3) := by decide +kernel
theorem dX12_sheet_113 : decode cX12_sheet 113 = .ok (.goto (-23), 3) := by decide +kernel
theorem dX12_sheet_116 : decode cX12_sheet 116 = .ok (.iconst 1, 1) := by decide +kernel
theorem dX12_sheet_117 : decode cX12_sheet 117 = .ok (.ireturn, 1) := by decide +kernel
theorem dX12_put_0 : decode cX12_put 0 = .ok (.iload_n 1, 1) := by decide +kernel
theorem dX12_put_1 : decode cX12_put 1 = .ok (.invokestatic 169, 3) := by decide +kernel
theorem dX12_put_4 : decode cX12_put 4 = .ok (.ifCond .ne 9, 3) := by decide +kernel
theorem dX12_put_7 : decode cX12_put 7 = .ok (.aload_n 0, 1) := by decide +kernel
theorem dX12_put_8 : decode cX12_put 8 = .ok (.iconst 1, 1) := by decide +kernel
theorem dX12_put_9 : decode cX12_put 9 = .ok (.invokevirtual 63, 3) := by decide +kernel
theorem dX12_put_12 : decode cX12_put 12 = .ok (.ireturn, 1) := by decide +kernel
theorem dX12_put_13 : decode cX12_put 13 = .ok (.aload_n 0, 1) := by decide +kernel
theorem dX12_put_14 : decode cX12_put 14 = .ok (.getfield 46, 3) := by decide +kernel
theorem dX12_put_17 : decode cX12_put 17 = .ok (.iload_n 1, 1) := by decide +kernel
theorem dX12_put_18 : decode cX12_put 18 = .ok (.iaload, 1) := by decide +kernel
theorem dX12_put_19 : decode cX12_put 19 = .ok (.ifCond .ne 9, 3) := by decide +kernel
theorem dX12_put_22 : decode cX12_put 22 = .ok (.aload_n 0, 1) := by decide +kernel
theorem dX12_put_23 : decode cX12_put 23 = .ok (.iconst 2, 1) := by decide +kernel
theorem dX12_put_24 : decode cX12_put 24 = .ok (.invokevirtual 63, 3) := by decide +kernel
theorem dX12_put_27 : decode cX12_put 27 = .ok (.ireturn, 1) := by decide +kernel
theorem dX12_put_28 : decode cX12_put 28 = .ok (.iload_n 2, 1) := by decide +kernel
theorem dX12_put_29 : decode cX12_put 29 = .ok (.iconst 0, 1) := by decide +kernel
theorem dX12_put_30 : decode cX12_put 30 = .ok (.aload_n 0, 1) := by decide +kernel
theorem dX12_put_31 : decode cX12_put 31 = .ok (.getfield 49, 3) := by decide +kernel
theorem dX12_put_34 : decode cX12_put 34 = .ok (.iload_n 1, 1) := by decide +kernel
theorem dX12_put_35 : decode cX12_put 35 = .ok (.iaload, 1) := by decide +kernel
theorem dX12_put_36 : decode cX12_put 36 = .ok (.iconst 1, 1) := by decide +kernel
theorem dX12_put_37 : decode cX12_put 37 = .ok (.isub, 1) := by decide +kernel
theorem dX12_put_38 : decode cX12_put 38 = .ok (.invokestatic 59, 3) := by decide +kernel
theorem dX12_put_41 : decode cX12_put 41 = .ok (.ifCond .ne 9, 3) := by decide +kernel
theorem dX12_put_44 : decode cX12_put 44 = .ok (.aload_n 0, 1) := by decide +kernel
theorem dX12_put_45 : decode cX12_put 45 = .ok (.iconst 1, 1) := by decide +kernel
theorem dX12_put_46 : decode cX12_put 46 = .ok (.invokevirtual 63, 3) := by decide +kernel
theorem dX12_put_49 : decode cX12_put 49 = .ok (.ireturn, 1) := by decide +kernel
theorem dX12_put_50 : decode cX12_put 50 = .ok (.bipush 32, 2) := by decide +kernel
theorem dX12_put_52 : decode cX12_put 52 = .ok (.aload_n 0, 1) := by decide +kernel
theorem dX12_put_53 : decode cX12_put 53 = .ok (.getfield 46, 3) := by decide +kernel
theorem dX12_put_56 : decode cX12_put 56 = .ok (.iload_n 1, 1) := by decide +kernel
theorem dX12_put_57 : decode cX12_put 57 = .ok (.iaload, 1) := by decide +kernel
theorem dX12_put_58 : decode cX12_put 58 = .ok (.isub, 1) := by decide +kernel
theorem dX12_put_59 : decode cX12_put 59 = .ok (.istore 4, 2) := by decide +kernel
theorem dX12_put_61 : decode cX12_put 61 = .ok (.aload_n 0, 1) := by decide +kernel
theorem dX12_put_62 : decode cX12_put 62 = .ok (.getfield 52, 3) := by decide +kernel
theorem dX12_put_65 : decode cX12_put 65 = .ok (.bipush 24, 2) := by decide +kernel
theorem dX12_put_67 : decode cX12_put 67 = .ok (.iload_n 1, 1) := by decide +kernel
theorem dX12_put_68 : decode cX12_put 68 = .ok (.imul, 1) := by decide +kernel
theorem dX12_put_69 : decode cX12_put 69 = .ok (.iload_n 2, 1) := by decide +kernel
theorem dX12_put_70 : decode cX12_put 70 = .ok (.iadd, 1) := by decide +kernel
theorem dX12_put_71 : decode cX12_put 71 = .ok (.iload_n 3, 1) := by decide +kernel
theorem dX12_put_72 : decode cX12_put 72 = .ok (.iload 4, 2) := by decide +kernel
theorem dX12_put_74 : decode cX12_put 74 = .ok (.ishl, 1) := by decide +kernel
theorem dX12_put_75 : decode cX12_put 75 = .ok (.iload 4, 2) := by decide +kernel
theorem dX12_put_77 : decode cX12_put 77 = .ok (.ishr, 1) := by decide +kernel
theorem dX12_put_78 : decode cX12_put 78 = .ok (.iastore, 1) := by decide +kernel
theorem dX12_put_79 : decode cX12_put 79 = .ok (.iconst 1, 1) := by decide +kernel
theorem dX12_put_80 : decode cX12_put 80 = .ok (.ireturn, 1) := by decide +kernel
theorem dX12_move_0 : decode cX12_move 0 = .ok (.iload_n 1, 1) := by decide +kernel
theorem dX12_move_1 : decode cX12_move 1 = .ok (.invokestatic 169, 3) := by decide +kernel
theorem dX12_move_4 : decode cX12_move 4 = .ok (.ifCond .eq 10, 3) := by decide +kernel
theorem dX12_move_7 : decode cX12_move 7 = .ok (.iload_n 3, 1) := by decide +kernel
theorem dX12_move_8 : decode cX12_move 8 = .ok (.invokestatic 169, 3) := by decide +kernel
theorem dX12_move_11 : decode cX12_move 11 = .ok (.ifCond .ne 9, 3) := by decide +kernel
theorem dX12_move_14 : decode cX12_move 14 = .ok (.aload_n 0, 1) := by decide +kernel
theorem dX12_move_15 : decode cX12_move 15 = .ok (.iconst 1, 1) := by decide +kernel
theorem dX12_move_16 : decode cX12_move 16 = .ok (.invokevirtual 63, 3) := by decide +kernel
theorem dX12_move_19 : decode cX12_move 19 = .ok (.ireturn, 1) := by decide +kernel
theorem dX12_move_20 : decode cX12_move 20 = .ok (.aload_n 0, 1) := by decide +kernel
theorem dX12_move_21 : decode cX12_move 21 = .ok (.getfield 46, 3) := by decide +kernel
theorem dX12_move_24 : decode cX12_move 24 = .ok (.iload_n 1, 1) := by decide +kernel
theorem dX12_move_25 : decode cX12_move 25 = .ok (.iaload, 1) := by decide +kernel
theorem dX12_move_26 : decode cX12_move 26 = .ok (.ifCond .eq 12, 3) := by decide +kernel
theorem dX12_move_29 : decode cX12_move 29 = .ok (.aload_n 0, 1) := by decide +kernel
theorem dX12_move_30 : decode cX12_move 30 = .ok (.getfield 46, 3) := by decide +kernel
theorem dX12_move_33 : decode cX12_move 33 = .ok (.iload_n 3, 1) := by decide +kernel
theorem dX12_move_34 : decode cX12_move 34 = .ok (.iaload, 1) := by decide +kernel
theorem dX12_move_35 : decode cX12_move 35 = .ok (.ifCond .ne 9, 3) := by decide +kernel
theorem dX12_move_38 : decode cX12_move 38 = .ok (.aload_n 0, 1) := by decide +kernel
theorem dX12_move_39 : decode cX12_move 39 = .ok (.iconst 2, 1) := by decide +kernel
theorem dX12_move_40 : decode cX12_move 40 = .ok (.invokevirtual 63, 3) := by decide +kernel
theorem dX12_move_43 : decode cX12_move 43 = .ok (.ireturn, 1) := by decide +kernel
theorem dX12_move_44 : decode cX12_move 44 = .ok (.aload_n 0, 1) := by decide +kernel
theorem dX12_move_45 : decode cX12_move 45 = .ok (.getfield 46, 3) := by decide +kernel
theorem dX12_move_48 : decode cX12_move 48 = .ok (.iload_n 1, 1) := by decide +kernel
theorem dX12_move_49 : decode cX12_move 49 = .ok (.iaload, 1) := by decide +kernel
theorem dX12_move_50 : decode cX12_move 50 = .ok (.aload_n 0, 1) := by decide +kernel
theorem dX12_move_51 : decode cX12_move 51 = .ok (.getfield 46, 3) := by decide +kernel
theorem dX12_move_54 : decode cX12_move 54 = .ok (.iload_n 3, 1) := by decide +kernel
theorem dX12_move_55 : decode cX12_move 55 = .ok (.iaload, 1) := by decide +kernel
theorem dX12_move_56 : decode cX12_move 56 = .ok (.if_icmp .eq 9, 3) := by decide +kernel
theorem dX12_move_59 : decode cX12_move 59 = .ok (.aload_n 0, 1) := by decide +kernel
theorem dX12_move_60 : decode cX12_move 60 = .ok (.iconst 5, 1) := by decide +kernel
theorem dX12_move_61 : decode cX12_move 61 = .ok (.invokevirtual 63, 3) := by decide +kernel
theorem dX12_move_64 : decode cX12_move 64 = .ok (.ireturn, 1) := by decide +kernel
theorem dX12_move_65 : decode cX12_move 65 = .ok (.iload 5, 2) := by decide +kernel
theorem dX12_move_67 : decode cX12_move 67 = .ok (.ifCond .lt 39, 3) := by decide +kernel
theorem dX12_move_70 : decode cX12_move 70 = .ok (.iload_n 2, 1) := by decide +kernel
theorem dX12_move_71 : decode cX12_move 71 = .ok (.ifCond .lt 35, 3) := by decide +kernel
theorem dX12_move_74 : decode cX12_move 74 = .ok (.iload 4, 2) := by decide +kernel
theorem dX12_move_76 : decode cX12_move 76 = .ok (.ifCond .lt 30, 3) := by decide +kernel
theorem dX12_move_79 : decode cX12_move 79 = .ok (.iload_n 2, 1) := by decide +kernel
theorem dX12_move_80 : decode cX12_move 80 = .ok (.aload_n 0, 1) := by decide +kernel
theorem dX12_move_81 : decode cX12_move 81 = .ok (.getfield 49, 3) := by decide +kernel
theorem dX12_move_84 : decode cX12_move 84 = .ok (.iload_n 1, 1) := by decide +kernel
theorem dX12_move_85 : decode cX12_move 85 = .ok (.iaload, 1) := by decide +kernel
theorem dX12_move_86 : decode cX12_move 86 = .ok (.iload 5, 2) := by decide +kernel
theorem dX12_move_88 : decode cX12_move 88 = .ok (.isub, 1) := by decide +kernel
theorem dX12_move_89 : decode cX12_move 89 = .ok (.if_icmp .gt 17, 3) := by decide +kernel
theorem dX12_move_92 : decode cX12_move 92 = .ok (.iload 4, 2) := by decide +kernel
theorem dX12_move_94 : decode cX12_move 94 = .ok (.aload_n 0, 1) := by decide +kernel
theorem dX12_move_95 : decode cX12_move 95 = .ok (.getfield 49, 3) := by decide +kernel
theorem dX12_move_98 : decode cX12_move 98 = .ok (.iload_n 3, 1) := by decide +kernel
theorem dX12_move_99 : decode cX12_move 99 = .ok (.iaload, 1) := by decide +kernel
theorem dX12_move_100 : decode cX12_move 100 = .ok (.iload 5, 2) := by decide +kernel
theorem dX12_move_102 : decode cX12_move 102 = .ok (.isub, 1) := by decide +kernel
theorem dX12_move_103 : decode cX12_move 103 = .ok (.if_icmp .le 9, 3) := by decide +kernel
theorem dX12_move_106 : decode cX12_move 106 = .ok (.aload_n 0, 1) := by decide +kernel
theorem dX12_move_107 : decode cX12_move 107 = .ok (.iconst 1, 1) := by decide +kernel
theorem dX12_move_108 : decode cX12_move 108 = .ok (.invokevirtual 63, 3) := by decide +kernel
theorem dX12_move_111 : decode cX12_move 111 = .ok (.ireturn, 1) := by decide +kernel
theorem dX12_move_112 : decode cX12_move 112 = .ok (.iconst 0, 1) := by decide +kernel
theorem dX12_move_113 : decode cX12_move 113 = .ok (.istore 6, 2) := by decide +kernel
theorem dX12_move_115 : decode cX12_move 115 = .ok (.iload 6, 2) := by decide +kernel
theorem dX12_move_117 : decode cX12_move 117 = .ok (.iload 5, 2) := by decide +kernel
theorem dX12_move_119 : decode cX12_move 119 = .ok (.if_icmp .ge 30, 3) := by decide +kernel
theorem dX12_move_122 : decode cX12_move 122 = .ok (.aload_n 0, 1) := by decide +kernel
theorem dX12_move_123 : decode cX12_move 123 = .ok (.getfield 55, 3) := by decide +kernel
theorem dX12_move_126 : decode cX12_move 126 = .ok (.iload 6, 2) := by decide +kernel
theorem dX12_move_128 : decode cX12_move 128 = .ok (.aload_n 0, 1) := by decide +kernel
theorem dX12_move_129 : decode cX12_move 129 = .ok (.getfield 52, 3) := by decide +kernel
theorem dX12_move_132 : decode cX12_move 132 = .ok (.bipush 24, 2) := by decide +kernel
theorem dX12_move_134 : decode cX12_move 134 = .ok (.iload_n 1, 1) := by decide +kernel
theorem dX12_move_135 : decode cX12_move 135 = .ok (.imul, 1) := by decide +kernel
theorem dX12_move_136 : decode cX12_move 136 = .ok (.iload_n 2, 1) := by decide +kernel
theorem dX12_move_137 : decode cX12_move 137 = .ok (.iadd, 1) := by decide +kernel
theorem dX12_move_138 : decode cX12_move 138 = .ok (.iload 6, 2) := by decide +kernel
theorem dX12_move_140 : decode cX12_move 140 = .ok (.iadd, 1) := by decide +kernel
theorem dX12_move_141 : decode cX12_move 141 = .ok (.iaload, 1) := by decide +kernel
theorem dX12_move_142 : decode cX12_move 142 = .ok (.iastore, 1) := by decide +kernel
theorem dX12_move_143 : decode cX12_move 143 = .ok (.iinc 6 1, 3) := by decide +kernel
theorem dX12_move_146 : decode cX12_move 146 = .ok (.goto (-31), 3) := by decide +kernel
theorem dX12_move_149 : decode cX12_move 149 = .ok (.iconst 0, 1) := by decide +kernel
theorem dX12_move_150 : decode cX12_move 150 = .ok (.istore 6, 2) := by decide +kernel
theorem dX12_move_152 : decode cX12_move 152 = .ok (.iload 6, 2) := by decide +kernel
theorem dX12_move_154 : decode cX12_move 154 = .ok (.iload 5, 2) := by decide +kernel
theorem dX12_move_156 : decode cX12_move 156 = .ok (.if_icmp .ge 31, 3) := by decide +kernel
theorem dX12_move_159 : decode cX12_move 159 = .ok (.aload_n 0, 1) := by decide +kernel
theorem dX12_move_160 : decode cX12_move 160 = .ok (.getfield 52, 3) := by decide +kernel
theorem dX12_move_163 : decode cX12_move 163 = .ok (.bipush 24, 2) := by decide +kernel
theorem dX12_move_165 : decode cX12_move 165 = .ok (.iload_n 3, 1) := by decide +kernel
theorem dX12_move_166 : decode cX12_move 166 = .ok (.imul, 1) := by decide +kernel
theorem dX12_move_167 : decode cX12_move 167 = .ok (.iload 4, 2) := by decide +kernel
theorem dX12_move_169 : decode cX12_move 169 = .ok (.iadd, 1) := by decide +kernel
theorem dX12_move_170 : decode cX12_move 170 = .ok (.iload 6, 2) := by decide +kernel
theorem dX12_move_172 : decode cX12_move 172 = .ok (.iadd, 1) := by decide +kernel
theorem dX12_move_173 : decode cX12_move 173 = .ok (.aload_n 0, 1) := by decide +kernel
theorem dX12_move_174 : decode cX12_move 174 = .ok (.getfield 55, 3) := by decide +kernel
theorem dX12_move_177 : decode cX12_move 177 = .ok (.iload 6, 2) := by decide +kernel
theorem dX12_move_179 : decode cX12_move 179 = .ok (.iaload, 1) := by decide +kernel
theorem dX12_move_180 : decode cX12_move 180 = .ok (.iastore, 1) := by decide +kernel
theorem dX12_move_181 : decode cX12_move 181 = .ok (.iinc 6 1, 3) := by decide +kernel
theorem dX12_move_184 : decode cX12_move 184 = .ok (.goto (-32), 3) := by decide +kernel
theorem dX12_move_187 : decode cX12_move 187 = .ok (.iload 5, 2) := by decide +kernel
theorem dX12_move_189 : decode cX12_move 189 = .ok (.ireturn, 1) := by decide +kernel
theorem dX12_prices_0 : decode cX12_prices 0 = .ok (.iload_n 1, 1) := by decide +kernel
theorem dX12_prices_1 : decode cX12_prices 1 = .ok (.invokestatic 169, 3) := by decide +kernel
theorem dX12_prices_4 : decode cX12_prices 4 = .ok (.ifCond .ne 9, 3) := by decide +kernel
theorem dX12_prices_7 : decode cX12_prices 7 = .ok (.aload_n 0, 1) := by decide +kernel
theorem dX12_prices_8 : decode cX12_prices 8 = .ok (.iconst 1, 1) := by decide +kernel
theorem dX12_prices_9 : decode cX12_prices 9 = .ok (.invokevirtual 63, 3) := by decide +kernel
theorem dX12_prices_12 : decode cX12_prices 12 = .ok (.ireturn, 1) := by decide +kernel
theorem dX12_prices_13 : decode cX12_prices 13 = .ok (.aload_n 0, 1) := by decide +kernel
theorem dX12_prices_14 : decode cX12_prices 14 = .ok (.getfield 46, 3) := by decide +kernel
theorem dX12_prices_17 : decode cX12_prices 17 = .ok (.iload_n 1, 1) := by decide +kernel
theorem dX12_prices_18 : decode cX12_prices 18 = .ok (.iaload, 1) := by decide +kernel
theorem dX12_prices_19 : decode cX12_prices 19 = .ok (.ifCond .ne 9, 3) := by decide +kernel
theorem dX12_prices_22 : decode cX12_prices 22 = .ok (.aload_n 0, 1) := by decide +kernel
theorem dX12_prices_23 : decode cX12_prices 23 = .ok (.iconst 2, 1) := by decide +kernel
theorem dX12_prices_24 : decode cX12_prices 24 = .ok (.invokevirtual 63, 3) := by decide +kernel
theorem dX12_prices_27 : decode cX12_prices 27 = .ok (.ireturn, 1) := by decide +kernel
theorem dX12_prices_28 : decode cX12_prices 28 = .ok (.iconst 0, 1) := by decide +kernel
theorem dX12_prices_29 : decode cX12_prices 29 = .ok (.istore_n 2, 1) := by decide +kernel
theorem dX12_prices_30 : decode cX12_prices 30 = .ok (.iload_n 2, 1) := by decide +kernel
theorem dX12_prices_31 : decode cX12_prices 31 = .ok (.aload_n 0, 1) := by decide +kernel
theorem dX12_prices_32 : decode cX12_prices 32 = .ok (.getfield 49, 3) := by decide +kernel
theorem dX12_prices_35 : decode cX12_prices 35 = .ok (.iload_n 1, 1) := by decide +kernel
theorem dX12_prices_36 : decode cX12_prices 36 = .ok (.iaload, 1) := by decide +kernel
theorem dX12_prices_37 : decode cX12_prices 37 = .ok (.if_icmp .ge 56, 3) := by decide +kernel
theorem dX12_prices_40 : decode cX12_prices 40 = .ok (.iload_n 2, 1) := by decide +kernel
theorem dX12_prices_41 : decode cX12_prices 41 = .ok (.bipush 8, 2) := by decide +kernel
theorem dX12_prices_43 : decode cX12_prices 43 = .ok (.if_icmp .ge 50, 3) := by decide +kernel
theorem dX12_prices_46 : decode cX12_prices 46 = .ok (.aload_n 0, 1) := by decide +kernel
theorem dX12_prices_47 : decode cX12_prices 47 = .ok (.getfield 52, 3) := by decide +kernel
theorem dX12_prices_50 : decode cX12_prices 50 = .ok (.bipush 24, 2) := by decide +kernel
theorem dX12_prices_52 : decode cX12_prices 52 = .ok (.iload_n 1, 1) := by decide +kernel
theorem dX12_prices_53 : decode cX12_prices 53 = .ok (.imul, 1) := by decide +kernel
theorem dX12_prices_54 : decode cX12_prices 54 = .ok (.iload_n 2, 1) := by decide +kernel
theorem dX12_prices_55 : decode cX12_prices 55 = .ok (.iadd, 1) := by decide +kernel
theorem dX12_prices_56 : decode cX12_prices 56 = .ok (.iaload, 1) := by decide +kernel
theorem dX12_prices_57 : decode cX12_prices 57 = .ok (.iconst 1, 1) := by decide +kernel
theorem dX12_prices_58 : decode cX12_prices 58 = .ok (.sipush 9999, 3) := by decide +kernel
theorem dX12_prices_61 : decode cX12_prices 61 = .ok (.invokestatic 59, 3) := by decide +kernel
theorem dX12_prices_64 : decode cX12_prices 64 = .ok (.ifCond .eq 29, 3) := by decide +kernel
theorem dX12_prices_67 : decode cX12_prices 67 = .ok (.aload_n 0, 1) := by decide +kernel
theorem dX12_prices_68 : decode cX12_prices 68 = .ok (.getfield 7, 3) := by decide +kernel
theorem dX12_prices_71 : decode cX12_prices 71 = .ok (.bipush 8, 2) := by decide +kernel
theorem dX12_prices_73 : decode cX12_prices 73 = .ok (.iload_n 2, 1) := by decide +kernel
theorem dX12_prices_74 : decode cX12_prices 74 = .ok (.iadd, 1) := by decide +kernel
theorem dX12_prices_75 : decode cX12_prices 75 = .ok (.aload_n 0, 1) := by decide +kernel
theorem dX12_prices_76 : decode cX12_prices 76 = .ok (.getfield 52, 3) := by decide +kernel
theorem dX12_prices_79 : decode cX12_prices 79 = .ok (.bipush 24, 2) := by decide +kernel
theorem dX12_prices_81 : decode cX12_prices 81 = .ok (.iload_n 1, 1) := by decide +kernel
theorem dX12_prices_82 : decode cX12_prices 82 = .ok (.imul, 1) := by decide +kernel
theorem dX12_prices_83 : decode cX12_prices 83 = .ok (.iload_n 2, 1) := by decide +kernel
theorem dX12_prices_84 : decode cX12_prices 84 = .ok (.iadd, 1) := by decide +kernel
theorem dX12_prices_85 : decode cX12_prices 85 = .ok (.iaload, 1) := by decide +kernel
theorem dX12_prices_86 : decode cX12_prices 86 = .ok (.iastore, 1) := by decide +kernel
theorem dX12_prices_87 : decode cX12_prices 87 = .ok (.iinc 2 1, 3) := by decide +kernel
theorem dX12_prices_90 : decode cX12_prices 90 = .ok (.goto (-60), 3) := by decide +kernel
theorem dX12_prices_93 : decode cX12_prices 93 = .ok (.iload_n 2, 1) := by decide +kernel
theorem dX12_prices_94 : decode cX12_prices 94 = .ok (.ireturn, 1) := by decide +kernel
theorem dX12_image_0 : decode cX12_image 0 = .ok (.aload_n 0, 1) := by decide +kernel
theorem dX12_image_1 : decode cX12_image 1 = .ok (.getfield 7, 3) := by decide +kernel
theorem dX12_image_4 : decode cX12_image 4 = .ok (.aload_n 0, 1) := by decide +kernel
theorem dX12_image_5 : decode cX12_image 5 = .ok (.getfield 13, 3) := by decide +kernel
theorem dX12_image_8 : decode cX12_image 8 = .ok (.invokestatic 265, 3) := by decide +kernel
theorem dX12_image_11 : decode cX12_image 11 = .ok (.aload_n 0, 1) := by decide +kernel
theorem dX12_image_12 : decode cX12_image 12 = .ok (.dup, 1) := by decide +kernel
theorem dX12_image_13 : decode cX12_image 13 = .ok (.getfield 269, 3) := by decide +kernel
theorem dX12_image_16 : decode cX12_image 16 = .ok (.iconst 1, 1) := by decide +kernel
theorem dX12_image_17 : decode cX12_image 17 = .ok (.iadd, 1) := by decide +kernel
theorem dX12_image_18 : decode cX12_image 18 = .ok (.putfield 269, 3) := by decide +kernel
theorem dX12_image_21 : decode cX12_image 21 = .ok (.aload_n 0, 1) := by decide +kernel
theorem dX12_image_22 : decode cX12_image 22 = .ok (.getfield 269, 3) := by decide +kernel
theorem dX12_image_25 : decode cX12_image 25 = .ok (.ireturn, 1) := by decide +kernel
theorem dX12_restore_0 : decode cX12_restore 0 = .ok (.aload_n 0, 1) := by decide +kernel
theorem dX12_restore_1 : decode cX12_restore 1 = .ok (.getfield 269, 3) := by decide +kernel
theorem dX12_restore_4 : decode cX12_restore 4 = .ok (.ifCond .ne 9, 3) := by decide +kernel
theorem dX12_restore_7 : decode cX12_restore 7 = .ok (.aload_n 0, 1) := by decide +kernel
theorem dX12_restore_8 : decode cX12_restore 8 = .ok (.iconst 2, 1) := by decide +kernel
theorem dX12_restore_9 : decode cX12_restore 9 = .ok (.invokevirtual 63, 3) := by decide +kernel
theorem dX12_restore_12 : decode cX12_restore 12 = .ok (.ireturn, 1) := by decide +kernel
theorem dX12_restore_13 : decode cX12_restore 13 = .ok (.aload_n 0, 1) := by decide +kernel
theorem dX12_restore_14 : decode cX12_restore 14 = .ok (.getfield 13, 3) := by decide +kernel
theorem dX12_restore_17 : decode cX12_restore 17 = .ok (.aload_n 0, 1) := by decide +kernel
theorem dX12_restore_18 : decode cX12_restore 18 = .ok (.getfield 7, 3) := by decide +kernel
theorem dX12_restore_21 : decode cX12_restore 21 = .ok (.invokestatic 265, 3) := by decide +kernel
theorem dX12_restore_24 : decode cX12_restore 24 = .ok (.aload_n 0, 1) := by decide +kernel
theorem dX12_restore_25 : decode cX12_restore 25 = .ok (.getfield 7, 3) := by decide +kernel
theorem dX12_restore_28 : decode cX12_restore 28 = .ok (.iconst 0, 1) := by decide +kernel
theorem dX12_restore_29 : decode cX12_restore 29 = .ok (.iaload, 1) := by decide +kernel
theorem dX12_restore_30 : decode cX12_restore 30 = .ok (.ireturn, 1) := by decide +kernel
theorem dX12_tell_0 : decode cX12_tell 0 = .ok (.aload_n 0, 1) := by decide +kernel
theorem dX12_tell_1 : decode cX12_tell 1 = .ok (.getfield 7, 3) := by decide +kernel
theorem dX12_tell_4 : decode cX12_tell 4 = .ok (.iconst 4, 1) := by decide +kernel
theorem dX12_tell_5 : decode cX12_tell 5 = .ok (.iaload, 1) := by decide +kernel
theorem dX12_tell_6 : decode cX12_tell 6 = .ok (.bipush 24, 2) := by decide +kernel
theorem dX12_tell_8 : decode cX12_tell 8 = .ok (.if_icmp .ne 9, 3) := by decide +kernel
theorem dX12_tell_11 : decode cX12_tell 11 = .ok (.aload_n 0, 1) := by decide +kernel
theorem dX12_tell_12 : decode cX12_tell 12 = .ok (.iconst 4, 1) := by decide +kernel
theorem dX12_tell_13 : decode cX12_tell 13 = .ok (.invokevirtual 63, 3) := by decide +kernel
theorem dX12_tell_16 : decode cX12_tell 16 = .ok (.ireturn, 1) := by decide +kernel
theorem dX12_tell_17 : decode cX12_tell 17 = .ok (.aload_n 0, 1) := by decide +kernel
theorem dX12_tell_18 : decode cX12_tell 18 = .ok (.getfield 7, 3) := by decide +kernel
theorem dX12_tell_21 : decode cX12_tell 21 = .ok (.sipush 350, 3) := by decide +kernel
theorem dX12_tell_24 : decode cX12_tell 24 = .ok (.aload_n 0, 1) := by decide +kernel
theorem dX12_tell_25 : decode cX12_tell 25 = .ok (.getfield 7, 3) := by decide +kernel
theorem dX12_tell_28 : decode cX12_tell 28 = .ok (.iconst 4, 1) := by decide +kernel
theorem dX12_tell_29 : decode cX12_tell 29 = .ok (.iaload, 1) := by decide +kernel
theorem dX12_tell_30 : decode cX12_tell 30 = .ok (.iadd, 1) := by decide +kernel
theorem dX12_tell_31 : decode cX12_tell 31 = .ok (.iload_n 1, 1) := by decide +kernel
theorem dX12_tell_32 : decode cX12_tell 32 = .ok (.iastore, 1) := by decide +kernel
theorem dX12_tell_33 : decode cX12_tell 33 = .ok (.aload_n 0, 1) := by decide +kernel
theorem dX12_tell_34 : decode cX12_tell 34 = .ok (.getfield 7, 3) := by decide +kernel
theorem dX12_tell_37 : decode cX12_tell 37 = .ok (.iconst 4, 1) := by decide +kernel
theorem dX12_tell_38 : decode cX12_tell 38 = .ok (.dup2, 1) := by decide +kernel
theorem dX12_tell_39 : decode cX12_tell 39 = .ok (.iaload, 1) := by decide +kernel
theorem dX12_tell_40 : decode cX12_tell 40 = .ok (.iconst 1, 1) := by decide +kernel
theorem dX12_tell_41 : decode cX12_tell 41 = .ok (.iadd, 1) := by decide +kernel
theorem dX12_tell_42 : decode cX12_tell 42 = .ok (.iastore, 1) := by decide +kernel
theorem dX12_tell_43 : decode cX12_tell 43 = .ok (.aload_n 0, 1) := by decide +kernel
theorem dX12_tell_44 : decode cX12_tell 44 = .ok (.getfield 7, 3) := by decide +kernel
theorem dX12_tell_47 : decode cX12_tell 47 = .ok (.iconst 4, 1) := by decide +kernel
theorem dX12_tell_48 : decode cX12_tell 48 = .ok (.iaload, 1) := by decide +kernel
theorem dX12_tell_49 : decode cX12_tell 49 = .ok (.ireturn, 1) := by decide +kernel
theorem dX12_check_0 : decode cX12_check 0 = .ok (.aload_n 0, 1) := by decide +kernel
theorem dX12_check_1 : decode cX12_check 1 = .ok (.getfield 7, 3) := by decide +kernel
theorem dX12_check_4 : decode cX12_check 4 = .ok (.iconst 4, 1) := by decide +kernel
theorem dX12_check_5 : decode cX12_check 5 = .ok (.iaload, 1) := by decide +kernel
theorem dX12_check_6 : decode cX12_check 6 = .ok (.istore_n 2, 1) := by decide +kernel
theorem dX12_check_7 : decode cX12_check 7 = .ok (.aload_n 0, 1) := by decide +kernel
theorem dX12_check_8 : decode cX12_check 8 = .ok (.getfield 7, 3) := by decide +kernel
theorem dX12_check_11 : decode cX12_check 11 = .ok (.iconst 4, 1) := by decide +kernel
theorem dX12_check_12 : decode cX12_check 12 = .ok (.iconst 0, 1) := by decide +kernel
theorem dX12_check_13 : decode cX12_check 13 = .ok (.iastore, 1) := by decide +kernel
theorem dX12_check_14 : decode cX12_check 14 = .ok (.iload_n 1, 1) := by decide +kernel
theorem dX12_check_15 : decode cX12_check 15 = .ok (.invokestatic 161, 3) := by decide +kernel
theorem dX12_check_18 : decode cX12_check 18 = .ok (.ifCond .ne 9, 3) := by decide +kernel
theorem dX12_check_21 : decode cX12_check 21 = .ok (.aload_n 0, 1) := by decide +kernel
theorem dX12_check_22 : decode cX12_check 22 = .ok (.iconst 1, 1) := by decide +kernel
theorem dX12_check_23 : decode cX12_check 23 = .ok (.invokevirtual 63, 3) := by decide +kernel
theorem dX12_check_26 : decode cX12_check 26 = .ok (.ireturn, 1) := by decide +kernel
theorem dX12_check_27 : decode cX12_check 27 = .ok (.iconst 0, 1) := by decide +kernel
theorem dX12_check_28 : decode cX12_check 28 = .ok (.istore_n 3, 1) := by decide +kernel
theorem dX12_check_29 : decode cX12_check 29 = .ok (.iload_n 3, 1) := by decide +kernel
theorem dX12_check_30 : decode cX12_check 30 = .ok (.iload_n 2, 1) := by decide +kernel
theorem dX12_check_31 : decode cX12_check 31 = .ok (.if_icmp .ge 31, 3) := by decide +kernel
theorem dX12_check_34 : decode cX12_check 34 = .ok (.aload_n 0, 1) := by decide +kernel
theorem dX12_check_35 : decode cX12_check 35 = .ok (.getfield 7, 3) := by decide +kernel
theorem dX12_check_38 : decode cX12_check 38 = .ok (.sipush 350, 3) := by decide +kernel
theorem dX12_check_41 : decode cX12_check 41 = .ok (.iload_n 3, 1) := by decide +kernel
theorem dX12_check_42 : decode cX12_check 42 = .ok (.iadd, 1) := by decide +kernel
theorem dX12_check_43 : decode cX12_check 43 = .ok (.iaload, 1) := by decide +kernel
theorem dX12_check_44 : decode cX12_check 44 = .ok (.aload_n 0, 1) := by decide +kernel
theorem dX12_check_45 : decode cX12_check 45 = .ok (.iload_n 1, 1) := by decide +kernel
theorem dX12_check_46 : decode cX12_check 46 = .ok (.iconst 1, 1) := by decide +kernel
theorem dX12_check_47 : decode cX12_check 47 = .ok (.iload_n 3, 1) := by decide +kernel
theorem dX12_check_48 : decode cX12_check 48 = .ok (.iadd, 1) := by decide +kernel
theorem dX12_check_49 : decode cX12_check 49 = .ok (.iconst 1, 1) := by decide +kernel
theorem dX12_check_50 : decode cX12_check 50 = .ok (.invokevirtual 149, 3) := by decide +kernel
theorem dX12_check_53 : decode cX12_check 53 = .ok (.if_icmp .ne 9, 3) := by decide +kernel
theorem dX12_check_56 : decode cX12_check 56 = .ok (.iinc 3 1, 3) := by decide +kernel
theorem dX12_check_59 : decode cX12_check 59 = .ok (.goto (-30), 3) := by decide +kernel
theorem dX12_check_62 : decode cX12_check 62 = .ok (.iload_n 3, 1) := by decide +kernel
theorem dX12_check_63 : decode cX12_check 63 = .ok (.iload_n 2, 1) := by decide +kernel
theorem dX12_check_64 : decode cX12_check 64 = .ok (.if_icmp .ne 7, 3) := by decide +kernel
theorem dX12_check_67 : decode cX12_check 67 = .ok (.iconst 0, 1) := by decide +kernel
theorem dX12_check_68 : decode cX12_check 68 = .ok (.goto 6, 3) := by decide +kernel
theorem dX12_check_71 : decode cX12_check 71 = .ok (.iconst 1, 1) := by decide +kernel
theorem dX12_check_72 : decode cX12_check 72 = .ok (.iload_n 3, 1) := by decide +kernel
theorem dX12_check_73 : decode cX12_check 73 = .ok (.iadd, 1) := by decide +kernel
theorem dX12_check_74 : decode cX12_check 74 = .ok (.ireturn, 1) := by decide +kernel
theorem dX12_count_0 : decode cX12_count 0 = .ok (.iconst 0, 1) := by decide +kernel
theorem dX12_count_1 : decode cX12_count 1 = .ok (.istore_n 2, 1) := by decide +kernel
theorem dX12_count_2 : decode cX12_count 2 = .ok (.iconst 0, 1) := by decide +kernel
theorem dX12_count_3 : decode cX12_count 3 = .ok (.istore_n 3, 1) := by decide +kernel
theorem dX12_count_4 : decode cX12_count 4 = .ok (.iload_n 3, 1) := by decide +kernel
theorem dX12_count_5 : decode cX12_count 5 = .ok (.bipush 8, 2) := by decide +kernel
theorem dX12_count_7 : decode cX12_count 7 = .ok (.if_icmp .ge 21, 3) := by decide +kernel
theorem dX12_count_10 : decode cX12_count 10 = .ok (.iload_n 2, 1) := by decide +kernel
theorem dX12_count_11 : decode cX12_count 11 = .ok (.aload_n 0, 1) := by decide +kernel
theorem dX12_count_12 : decode cX12_count 12 = .ok (.getfield 7, 3) := by decide +kernel
theorem dX12_count_15 : decode cX12_count 15 = .ok (.bipush 24, 2) := by decide +kernel
theorem dX12_count_17 : decode cX12_count 17 = .ok (.iload_n 3, 1) := by decide +kernel
theorem dX12_count_18 : decode cX12_count 18 = .ok (.iadd, 1) := by decide +kernel
theorem dX12_count_19 : decode cX12_count 19 = .ok (.iaload, 1) := by decide +kernel
theorem dX12_count_20 : decode cX12_count 20 = .ok (.iadd, 1) := by decide +kernel
theorem dX12_count_21 : decode cX12_count 21 = .ok (.istore_n 2, 1) := by decide +kernel
theorem dX12_count_22 : decode cX12_count 22 = .ok (.iinc 3 1, 3) := by decide +kernel
theorem dX12_count_25 : decode cX12_count 25 = .ok (.goto (-21), 3) := by decide +kernel
theorem dX12_count_28 : decode cX12_count 28 = .ok (.iload_n 1, 1) := by decide +kernel
theorem dX12_count_29 : decode cX12_count 29 = .ok (.tableswitch 96 0 7 #[47, 54, 61, 68, 70, 77, 84, 89], 47) := by decide +kernel
theorem dX12_count_76 : decode cX12_count 76 = .ok (.aload_n 0, 1) := by decide +kernel
theorem dX12_count_77 : decode cX12_count 77 = .ok (.getfield 7, 3) := by decide +kernel
theorem dX12_count_80 : decode cX12_count 80 = .ok (.iconst 0, 1) := by decide +kernel
theorem dX12_count_81 : decode cX12_count 81 = .ok (.iaload, 1) := by decide +kernel
theorem dX12_count_82 : decode cX12_count 82 = .ok (.ireturn, 1) := by decide +kernel
theorem dX12_count_83 : decode cX12_count 83 = .ok (.aload_n 0, 1) := by decide +kernel
theorem dX12_count_84 : decode cX12_count 84 = .ok (.getfield 7, 3) := by decide +kernel
theorem dX12_count_87 : decode cX12_count 87 = .ok (.iconst 1, 1) := by decide +kernel
theorem dX12_count_88 : decode cX12_count 88 = .ok (.iaload, 1) := by decide +kernel
theorem dX12_count_89 : decode cX12_count 89 = .ok (.ireturn, 1) := by decide +kernel
theorem dX12_count_90 : decode cX12_count 90 = .ok (.aload_n 0, 1) := by decide +kernel
theorem dX12_count_91 : decode cX12_count 91 = .ok (.getfield 7, 3) := by decide +kernel
theorem dX12_count_94 : decode cX12_count 94 = .ok (.iconst 2, 1) := by decide +kernel
theorem dX12_count_95 : decode cX12_count 95 = .ok (.iaload, 1) := by decide +kernel
theorem dX12_count_96 : decode cX12_count 96 = .ok (.ireturn, 1) := by decide +kernel
theorem dX12_count_97 : decode cX12_count 97 = .ok (.iload_n 2, 1) := by decide +kernel
theorem dX12_count_98 : decode cX12_count 98 = .ok (.ireturn, 1) := by decide +kernel
theorem dX12_count_99 : decode cX12_count 99 = .ok (.aload_n 0, 1) := by decide +kernel
theorem dX12_count_100 : decode cX12_count 100 = .ok (.getfield 7, 3) := by decide +kernel
theorem dX12_count_103 : decode cX12_count 103 = .ok (.iconst 3, 1) := by decide +kernel
theorem dX12_count_104 : decode cX12_count 104 = .ok (.iaload, 1) := by decide +kernel
theorem dX12_count_105 : decode cX12_count 105 = .ok (.ireturn, 1) := by decide +kernel
theorem dX12_count_106 : decode cX12_count 106 = .ok (.aload_n 0, 1) := by decide +kernel
theorem dX12_count_107 : decode cX12_count 107 = .ok (.getfield 7, 3) := by decide +kernel
theorem dX12_count_110 : decode cX12_count 110 = .ok (.iconst 4, 1) := by decide +kernel
theorem dX12_count_111 : decode cX12_count 111 = .ok (.iaload, 1) := by decide +kernel
theorem dX12_count_112 : decode cX12_count 112 = .ok (.ireturn, 1) := by decide +kernel
theorem dX12_count_113 : decode cX12_count 113 = .ok (.aload_n 0, 1) := by decide +kernel
theorem dX12_count_114 : decode cX12_count 114 = .ok (.getfield 236, 3) := by decide +kernel
theorem dX12_count_117 : decode cX12_count 117 = .ok (.ireturn, 1) := by decide +kernel
theorem dX12_count_118 : decode cX12_count 118 = .ok (.aload_n 0, 1) := by decide +kernel
theorem dX12_count_119 : decode cX12_count 119 = .ok (.getfield 7, 3) := by decide +kernel
theorem dX12_count_122 : decode cX12_count 122 = .ok (.iconst 5, 1) := by decide +kernel
theorem dX12_count_123 : decode cX12_count 123 = .ok (.iaload, 1) := by decide +kernel
theorem dX12_count_124 : decode cX12_count 124 = .ok (.ireturn, 1) := by decide +kernel
theorem dX12_count_125 : decode cX12_count 125 = .ok (.aload_n 0, 1) := by decide +kernel
theorem dX12_count_126 : decode cX12_count 126 = .ok (.iconst 1, 1) := by decide +kernel
theorem dX12_count_127 : decode cX12_count 127 = .ok (.invokevirtual 63, 3) := by decide +kernel
theorem dX12_count_130 : decode cX12_count 130 = .ok (.ireturn, 1) := by decide +kernel
theorem dX12_told_0 : decode cX12_told 0 = .ok (.iload_n 1, 1) := by decide +kernel
theorem dX12_told_1 : decode cX12_told 1 = .ok (.iconst 1, 1) := by decide +kernel
theorem dX12_told_2 : decode cX12_told 2 = .ok (.bipush 6, 2) := by decide +kernel
theorem dX12_told_4 : decode cX12_told 4 = .ok (.invokestatic 59, 3) := by decide +kernel
theorem dX12_told_7 : decode cX12_told 7 = .ok (.ifCond .eq 12, 3) := by decide +kernel
theorem dX12_told_10 : decode cX12_told 10 = .ok (.aload_n 0, 1) := by decide +kernel
theorem dX12_told_11 : decode cX12_told 11 = .ok (.getfield 16, 3) := by decide +kernel
theorem dX12_told_14 : decode cX12_told 14 = .ok (.iload_n 1, 1) := by decide +kernel
theorem dX12_told_15 : decode cX12_told 15 = .ok (.iaload, 1) := by decide +kernel
theorem dX12_told_16 : decode cX12_told 16 = .ok (.goto 8, 3) := by decide +kernel
theorem dX12_told_19 : decode cX12_told 19 = .ok (.aload_n 0, 1) := by decide +kernel
theorem dX12_told_20 : decode cX12_told 20 = .ok (.iconst 1, 1) := by decide +kernel
theorem dX12_told_21 : decode cX12_told 21 = .ok (.invokevirtual 63, 3) := by decide +kernel
theorem dX12_told_24 : decode cX12_told 24 = .ok (.ireturn, 1) := by decide +kernel
