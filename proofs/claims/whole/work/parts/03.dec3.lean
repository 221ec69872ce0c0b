theorem d_X12_goes_195 : decode (gw_mC M_X12_goes) 195 = .ok (.getfield 16, 3) := by decide +kernel
theorem d_X12_goes_198 : decode (gw_mC M_X12_goes) 198 = .ok (.bipush 16, 2) := by decide +kernel
theorem d_X12_goes_200 : decode (gw_mC M_X12_goes) 200 = .ok (.iload 4, 2) := by decide +kernel
theorem d_X12_goes_202 : decode (gw_mC M_X12_goes) 202 = .ok (.iadd, 1) := by decide +kernel
theorem d_X12_goes_203 : decode (gw_mC M_X12_goes) 203 = .ok (.iaload, 1) := by decide +kernel
theorem d_X12_goes_204 : decode (gw_mC M_X12_goes) 204 = .ok (.iastore, 1) := by decide +kernel
theorem d_X12_goes_205 : decode (gw_mC M_X12_goes) 205 = .ok (.return_, 1) := by decide +kernel
theorem d_X12_goes_206 : decode (gw_mC M_X12_goes) 206 = .ok (.iinc 3 1, 3) := by decide +kernel
theorem d_X12_goes_209 : decode (gw_mC M_X12_goes) 209 = .ok (.goto (-159), 3) := by decide +kernel
theorem d_X12_goes_212 : decode (gw_mC M_X12_goes) 212 = .ok (.return_, 1) := by decide +kernel
theorem d_X12_behind_0 : decode (gw_mC M_X12_behind) 0 = .ok (.sipush 1000, 3) := by decide +kernel
theorem d_X12_behind_3 : decode (gw_mC M_X12_behind) 3 = .ok (.istore_n 2, 1) := by decide +kernel
theorem d_X12_behind_4 : decode (gw_mC M_X12_behind) 4 = .ok (.iconst 0, 1) := by decide +kernel
theorem d_X12_behind_5 : decode (gw_mC M_X12_behind) 5 = .ok (.istore_n 3, 1) := by decide +kernel
theorem d_X12_behind_6 : decode (gw_mC M_X12_behind) 6 = .ok (.iload_n 3, 1) := by decide +kernel
theorem d_X12_behind_7 : decode (gw_mC M_X12_behind) 7 = .ok (.aload_n 0, 1) := by decide +kernel
theorem d_X12_behind_8 : decode (gw_mC M_X12_behind) 8 = .ok (.getfield 120, 3) := by decide +kernel
theorem d_X12_behind_11 : decode (gw_mC M_X12_behind) 11 = .ok (.if_icmp .ge 114, 3) := by decide +kernel
theorem d_X12_behind_14 : decode (gw_mC M_X12_behind) 14 = .ok (.aload_n 0, 1) := by decide +kernel
theorem d_X12_behind_15 : decode (gw_mC M_X12_behind) 15 = .ok (.iload_n 3, 1) := by decide +kernel
theorem d_X12_behind_16 : decode (gw_mC M_X12_behind) 16 = .ok (.invokevirtual 196, 3) := by decide +kernel
theorem d_X12_behind_19 : decode (gw_mC M_X12_behind) 19 = .ok (.ifCond .ne 100, 3) := by decide +kernel
theorem d_X12_behind_22 : decode (gw_mC M_X12_behind) 22 = .ok (.aload_n 0, 1) := by decide +kernel
theorem d_X12_behind_23 : decode (gw_mC M_X12_behind) 23 = .ok (.getfield 43, 3) := by decide +kernel
theorem d_X12_behind_26 : decode (gw_mC M_X12_behind) 26 = .ok (.iload_n 3, 1) := by decide +kernel
theorem d_X12_behind_27 : decode (gw_mC M_X12_behind) 27 = .ok (.iaload, 1) := by decide +kernel
theorem d_X12_behind_28 : decode (gw_mC M_X12_behind) 28 = .ok (.iload_n 2, 1) := by decide +kernel
theorem d_X12_behind_29 : decode (gw_mC M_X12_behind) 29 = .ok (.if_icmp .ge 12, 3) := by decide +kernel
theorem d_X12_behind_32 : decode (gw_mC M_X12_behind) 32 = .ok (.aload_n 0, 1) := by decide +kernel
theorem d_X12_behind_33 : decode (gw_mC M_X12_behind) 33 = .ok (.getfield 43, 3) := by decide +kernel
theorem d_X12_behind_36 : decode (gw_mC M_X12_behind) 36 = .ok (.iload_n 3, 1) := by decide +kernel
theorem d_X12_behind_37 : decode (gw_mC M_X12_behind) 37 = .ok (.iaload, 1) := by decide +kernel
theorem d_X12_behind_38 : decode (gw_mC M_X12_behind) 38 = .ok (.goto 4, 3) := by decide +kernel
theorem d_X12_behind_41 : decode (gw_mC M_X12_behind) 41 = .ok (.iload_n 2, 1) := by decide +kernel
theorem d_X12_behind_42 : decode (gw_mC M_X12_behind) 42 = .ok (.istore_n 2, 1) := by decide +kernel
theorem d_X12_behind_43 : decode (gw_mC M_X12_behind) 43 = .ok (.aload_n 0, 1) := by decide +kernel
theorem d_X12_behind_44 : decode (gw_mC M_X12_behind) 44 = .ok (.getfield 55, 3) := by decide +kernel
theorem d_X12_behind_47 : decode (gw_mC M_X12_behind) 47 = .ok (.iload_n 3, 1) := by decide +kernel
theorem d_X12_behind_48 : decode (gw_mC M_X12_behind) 48 = .ok (.dup2, 1) := by decide +kernel
theorem d_X12_behind_49 : decode (gw_mC M_X12_behind) 49 = .ok (.iaload, 1) := by decide +kernel
theorem d_X12_behind_50 : decode (gw_mC M_X12_behind) 50 = .ok (.aload_n 0, 1) := by decide +kernel
theorem d_X12_behind_51 : decode (gw_mC M_X12_behind) 51 = .ok (.getfield 43, 3) := by decide +kernel
theorem d_X12_behind_54 : decode (gw_mC M_X12_behind) 54 = .ok (.iload_n 3, 1) := by decide +kernel
theorem d_X12_behind_55 : decode (gw_mC M_X12_behind) 55 = .ok (.iaload, 1) := by decide +kernel
theorem d_X12_behind_56 : decode (gw_mC M_X12_behind) 56 = .ok (.aload_n 0, 1) := by decide +kernel
theorem d_X12_behind_57 : decode (gw_mC M_X12_behind) 57 = .ok (.getfield 199, 3) := by decide +kernel
theorem d_X12_behind_60 : decode (gw_mC M_X12_behind) 60 = .ok (.if_icmp .ne 18, 3) := by decide +kernel
theorem d_X12_behind_63 : decode (gw_mC M_X12_behind) 63 = .ok (.aload_n 0, 1) := by decide +kernel
theorem d_X12_behind_64 : decode (gw_mC M_X12_behind) 64 = .ok (.getfield 199, 3) := by decide +kernel
theorem d_X12_behind_67 : decode (gw_mC M_X12_behind) 67 = .ok (.aload_n 0, 1) := by decide +kernel
theorem d_X12_behind_68 : decode (gw_mC M_X12_behind) 68 = .ok (.getfield 88, 3) := by decide +kernel
theorem d_X12_behind_71 : decode (gw_mC M_X12_behind) 71 = .ok (.if_icmp .ge 7, 3) := by decide +kernel
theorem d_X12_behind_74 : decode (gw_mC M_X12_behind) 74 = .ok (.iconst 1, 1) := by decide +kernel
theorem d_X12_behind_75 : decode (gw_mC M_X12_behind) 75 = .ok (.goto 4, 3) := by decide +kernel
theorem d_X12_behind_78 : decode (gw_mC M_X12_behind) 78 = .ok (.iconst 0, 1) := by decide +kernel
theorem d_X12_behind_79 : decode (gw_mC M_X12_behind) 79 = .ok (.iadd, 1) := by decide +kernel
theorem d_X12_behind_80 : decode (gw_mC M_X12_behind) 80 = .ok (.iastore, 1) := by decide +kernel
theorem d_X12_behind_81 : decode (gw_mC M_X12_behind) 81 = .ok (.aload_n 0, 1) := by decide +kernel
theorem d_X12_behind_82 : decode (gw_mC M_X12_behind) 82 = .ok (.getfield 58, 3) := by decide +kernel
theorem d_X12_behind_85 : decode (gw_mC M_X12_behind) 85 = .ok (.iload_n 3, 1) := by decide +kernel
theorem d_X12_behind_86 : decode (gw_mC M_X12_behind) 86 = .ok (.aload_n 0, 1) := by decide +kernel
theorem d_X12_behind_87 : decode (gw_mC M_X12_behind) 87 = .ok (.getfield 43, 3) := by decide +kernel
theorem d_X12_behind_90 : decode (gw_mC M_X12_behind) 90 = .ok (.iload_n 3, 1) := by decide +kernel
theorem d_X12_behind_91 : decode (gw_mC M_X12_behind) 91 = .ok (.iaload, 1) := by decide +kernel
theorem d_X12_behind_92 : decode (gw_mC M_X12_behind) 92 = .ok (.aload_n 0, 1) := by decide +kernel
theorem d_X12_behind_93 : decode (gw_mC M_X12_behind) 93 = .ok (.getfield 88, 3) := by decide +kernel
theorem d_X12_behind_96 : decode (gw_mC M_X12_behind) 96 = .ok (.if_icmp .ne 16, 3) := by decide +kernel
theorem d_X12_behind_99 : decode (gw_mC M_X12_behind) 99 = .ok (.aload_n 0, 1) := by decide +kernel
theorem d_X12_behind_100 : decode (gw_mC M_X12_behind) 100 = .ok (.getfield 58, 3) := by decide +kernel
theorem d_X12_behind_103 : decode (gw_mC M_X12_behind) 103 = .ok (.iload_n 3, 1) := by decide +kernel
theorem d_X12_behind_104 : decode (gw_mC M_X12_behind) 104 = .ok (.iaload, 1) := by decide +kernel
theorem d_X12_behind_105 : decode (gw_mC M_X12_behind) 105 = .ok (.ifCond .ge 7, 3) := by decide +kernel
theorem d_X12_behind_108 : decode (gw_mC M_X12_behind) 108 = .ok (.iload_n 1, 1) := by decide +kernel
theorem d_X12_behind_109 : decode (gw_mC M_X12_behind) 109 = .ok (.goto 9, 3) := by decide +kernel
theorem d_X12_behind_112 : decode (gw_mC M_X12_behind) 112 = .ok (.aload_n 0, 1) := by decide +kernel
theorem d_X12_behind_113 : decode (gw_mC M_X12_behind) 113 = .ok (.getfield 58, 3) := by decide +kernel
theorem d_X12_behind_116 : decode (gw_mC M_X12_behind) 116 = .ok (.iload_n 3, 1) := by decide +kernel
theorem d_X12_behind_117 : decode (gw_mC M_X12_behind) 117 = .ok (.iaload, 1) := by decide +kernel
theorem d_X12_behind_118 : decode (gw_mC M_X12_behind) 118 = .ok (.iastore, 1) := by decide +kernel
theorem d_X12_behind_119 : decode (gw_mC M_X12_behind) 119 = .ok (.iinc 3 1, 3) := by decide +kernel
theorem d_X12_behind_122 : decode (gw_mC M_X12_behind) 122 = .ok (.goto (-116), 3) := by decide +kernel
theorem d_X12_behind_125 : decode (gw_mC M_X12_behind) 125 = .ok (.iload_n 2, 1) := by decide +kernel
theorem d_X12_behind_126 : decode (gw_mC M_X12_behind) 126 = .ok (.sipush 1000, 3) := by decide +kernel
theorem d_X12_behind_129 : decode (gw_mC M_X12_behind) 129 = .ok (.if_icmp .ne 8, 3) := by decide +kernel
theorem d_X12_behind_132 : decode (gw_mC M_X12_behind) 132 = .ok (.bipush (-4), 2) := by decide +kernel
theorem d_X12_behind_134 : decode (gw_mC M_X12_behind) 134 = .ok (.goto 9, 3) := by decide +kernel
theorem d_X12_behind_137 : decode (gw_mC M_X12_behind) 137 = .ok (.aload_n 0, 1) := by decide +kernel
theorem d_X12_behind_138 : decode (gw_mC M_X12_behind) 138 = .ok (.getfield 199, 3) := by decide +kernel
theorem d_X12_behind_141 : decode (gw_mC M_X12_behind) 141 = .ok (.iload_n 2, 1) := by decide +kernel
theorem d_X12_behind_142 : decode (gw_mC M_X12_behind) 142 = .ok (.isub, 1) := by decide +kernel
theorem d_X12_behind_143 : decode (gw_mC M_X12_behind) 143 = .ok (.istore_n 3, 1) := by decide +kernel
theorem d_X12_behind_144 : decode (gw_mC M_X12_behind) 144 = .ok (.aload_n 0, 1) := by decide +kernel
theorem d_X12_behind_145 : decode (gw_mC M_X12_behind) 145 = .ok (.iload_n 3, 1) := by decide +kernel
theorem d_X12_behind_146 : decode (gw_mC M_X12_behind) 146 = .ok (.aload_n 0, 1) := by decide +kernel
theorem d_X12_behind_147 : decode (gw_mC M_X12_behind) 147 = .ok (.getfield 246, 3) := by decide +kernel
theorem d_X12_behind_150 : decode (gw_mC M_X12_behind) 150 = .ok (.if_icmp .le 7, 3) := by decide +kernel
theorem d_X12_behind_153 : decode (gw_mC M_X12_behind) 153 = .ok (.iload_n 3, 1) := by decide +kernel
theorem d_X12_behind_154 : decode (gw_mC M_X12_behind) 154 = .ok (.goto 7, 3) := by decide +kernel
theorem d_X12_behind_157 : decode (gw_mC M_X12_behind) 157 = .ok (.aload_n 0, 1) := by decide +kernel
theorem d_X12_behind_158 : decode (gw_mC M_X12_behind) 158 = .ok (.getfield 246, 3) := by decide +kernel
theorem d_X12_behind_161 : decode (gw_mC M_X12_behind) 161 = .ok (.putfield 246, 3) := by decide +kernel
theorem d_X12_behind_164 : decode (gw_mC M_X12_behind) 164 = .ok (.aload_n 0, 1) := by decide +kernel
theorem d_X12_behind_165 : decode (gw_mC M_X12_behind) 165 = .ok (.aload_n 0, 1) := by decide +kernel
theorem d_X12_behind_166 : decode (gw_mC M_X12_behind) 166 = .ok (.iconst 0, 1) := by decide +kernel
theorem d_X12_behind_167 : decode (gw_mC M_X12_behind) 167 = .ok (.invokevirtual 214, 3) := by decide +kernel
theorem d_X12_behind_170 : decode (gw_mC M_X12_behind) 170 = .ok (.aload_n 0, 1) := by decide +kernel
theorem d_X12_behind_171 : decode (gw_mC M_X12_behind) 171 = .ok (.iconst 1, 1) := by decide +kernel
theorem d_X12_behind_172 : decode (gw_mC M_X12_behind) 172 = .ok (.invokevirtual 214, 3) := by decide +kernel
theorem d_X12_behind_175 : decode (gw_mC M_X12_behind) 175 = .ok (.if_icmp .ne 12, 3) := by decide +kernel
theorem d_X12_behind_178 : decode (gw_mC M_X12_behind) 178 = .ok (.aload_n 0, 1) := by decide +kernel
theorem d_X12_behind_179 : decode (gw_mC M_X12_behind) 179 = .ok (.getfield 223, 3) := by decide +kernel
theorem d_X12_behind_182 : decode (gw_mC M_X12_behind) 182 = .ok (.iconst 1, 1) := by decide +kernel
theorem d_X12_behind_183 : decode (gw_mC M_X12_behind) 183 = .ok (.iadd, 1) := by decide +kernel
theorem d_X12_behind_184 : decode (gw_mC M_X12_behind) 184 = .ok (.goto 4, 3) := by decide +kernel
theorem d_X12_behind_187 : decode (gw_mC M_X12_behind) 187 = .ok (.iconst 0, 1) := by decide +kernel
theorem d_X12_behind_188 : decode (gw_mC M_X12_behind) 188 = .ok (.putfield 223, 3) := by decide +kernel
theorem d_X12_behind_191 : decode (gw_mC M_X12_behind) 191 = .ok (.aload_n 0, 1) := by decide +kernel
theorem d_X12_behind_192 : decode (gw_mC M_X12_behind) 192 = .ok (.getfield 61, 3) := by decide +kernel
theorem d_X12_behind_195 : decode (gw_mC M_X12_behind) 195 = .ok (.bipush 12, 2) := by decide +kernel
theorem d_X12_behind_197 : decode (gw_mC M_X12_behind) 197 = .ok (.iload_n 1, 1) := by decide +kernel
theorem d_X12_behind_198 : decode (gw_mC M_X12_behind) 198 = .ok (.imul, 1) := by decide +kernel
theorem d_X12_behind_199 : decode (gw_mC M_X12_behind) 199 = .ok (.aload_n 0, 1) := by decide +kernel
theorem d_X12_behind_200 : decode (gw_mC M_X12_behind) 200 = .ok (.getfield 199, 3) := by decide +kernel
theorem d_X12_behind_203 : decode (gw_mC M_X12_behind) 203 = .ok (.iastore, 1) := by decide +kernel
theorem d_X12_behind_204 : decode (gw_mC M_X12_behind) 204 = .ok (.aload_n 0, 1) := by decide +kernel
theorem d_X12_behind_205 : decode (gw_mC M_X12_behind) 205 = .ok (.getfield 61, 3) := by decide +kernel
theorem d_X12_behind_208 : decode (gw_mC M_X12_behind) 208 = .ok (.bipush 12, 2) := by decide +kernel
theorem d_X12_behind_210 : decode (gw_mC M_X12_behind) 210 = .ok (.iload_n 1, 1) := by decide +kernel
theorem d_X12_behind_211 : decode (gw_mC M_X12_behind) 211 = .ok (.imul, 1) := by decide +kernel
theorem d_X12_behind_212 : decode (gw_mC M_X12_behind) 212 = .ok (.iconst 1, 1) := by decide +kernel
theorem d_X12_behind_213 : decode (gw_mC M_X12_behind) 213 = .ok (.iadd, 1) := by decide +kernel
theorem d_X12_behind_214 : decode (gw_mC M_X12_behind) 214 = .ok (.iload_n 3, 1) := by decide +kernel
theorem d_X12_behind_215 : decode (gw_mC M_X12_behind) 215 = .ok (.iastore, 1) := by decide +kernel
theorem d_X12_behind_216 : decode (gw_mC M_X12_behind) 216 = .ok (.iconst 0, 1) := by decide +kernel
theorem d_X12_behind_217 : decode (gw_mC M_X12_behind) 217 = .ok (.istore 4, 2) := by decide +kernel
theorem d_X12_behind_219 : decode (gw_mC M_X12_behind) 219 = .ok (.iload 4, 2) := by decide +kernel
theorem d_X12_behind_221 : decode (gw_mC M_X12_behind) 221 = .ok (.aload_n 0, 1) := by decide +kernel
theorem d_X12_behind_222 : decode (gw_mC M_X12_behind) 222 = .ok (.getfield 120, 3) := by decide +kernel
theorem d_X12_behind_225 : decode (gw_mC M_X12_behind) 225 = .ok (.if_icmp .ge 30, 3) := by decide +kernel
theorem d_X12_behind_228 : decode (gw_mC M_X12_behind) 228 = .ok (.aload_n 0, 1) := by decide +kernel
theorem d_X12_behind_229 : decode (gw_mC M_X12_behind) 229 = .ok (.getfield 61, 3) := by decide +kernel
theorem d_X12_behind_232 : decode (gw_mC M_X12_behind) 232 = .ok (.bipush 12, 2) := by decide +kernel
theorem d_X12_behind_234 : decode (gw_mC M_X12_behind) 234 = .ok (.iload_n 1, 1) := by decide +kernel
theorem d_X12_behind_235 : decode (gw_mC M_X12_behind) 235 = .ok (.imul, 1) := by decide +kernel
theorem d_X12_behind_236 : decode (gw_mC M_X12_behind) 236 = .ok (.iconst 2, 1) := by decide +kernel
theorem d_X12_behind_237 : decode (gw_mC M_X12_behind) 237 = .ok (.iadd, 1) := by decide +kernel
theorem d_X12_behind_238 : decode (gw_mC M_X12_behind) 238 = .ok (.iload 4, 2) := by decide +kernel
theorem d_X12_behind_240 : decode (gw_mC M_X12_behind) 240 = .ok (.iadd, 1) := by decide +kernel
theorem d_X12_behind_241 : decode (gw_mC M_X12_behind) 241 = .ok (.aload_n 0, 1) := by decide +kernel
theorem d_X12_behind_242 : decode (gw_mC M_X12_behind) 242 = .ok (.getfield 43, 3) := by decide +kernel
theorem d_X12_behind_245 : decode (gw_mC M_X12_behind) 245 = .ok (.iload 4, 2) := by decide +kernel
theorem d_X12_behind_247 : decode (gw_mC M_X12_behind) 247 = .ok (.iaload, 1) := by decide +kernel
theorem d_X12_behind_248 : decode (gw_mC M_X12_behind) 248 = .ok (.iastore, 1) := by decide +kernel
theorem d_X12_behind_249 : decode (gw_mC M_X12_behind) 249 = .ok (.iinc 4 1, 3) := by decide +kernel
theorem d_X12_behind_252 : decode (gw_mC M_X12_behind) 252 = .ok (.goto (-33), 3) := by decide +kernel
theorem d_X12_behind_255 : decode (gw_mC M_X12_behind) 255 = .ok (.return_, 1) := by decide +kernel
theorem d_X12_walks_0 : decode (gw_mC M_X12_walks) 0 = .ok (.aload_n 0, 1) := by decide +kernel
theorem d_X12_walks_1 : decode (gw_mC M_X12_walks) 1 = .ok (.iconst 0, 1) := by decide +kernel
theorem d_X12_walks_2 : decode (gw_mC M_X12_walks) 2 = .ok (.putfield 199, 3) := by decide +kernel
theorem d_X12_walks_5 : decode (gw_mC M_X12_walks) 5 = .ok (.aload_n 0, 1) := by decide +kernel
theorem d_X12_walks_6 : decode (gw_mC M_X12_walks) 6 = .ok (.iconst 0, 1) := by decide +kernel
theorem d_X12_walks_7 : decode (gw_mC M_X12_walks) 7 = .ok (.putfield 211, 3) := by decide +kernel
theorem d_X12_walks_10 : decode (gw_mC M_X12_walks) 10 = .ok (.aload_n 0, 1) := by decide +kernel
theorem d_X12_walks_11 : decode (gw_mC M_X12_walks) 11 = .ok (.iconst 0, 1) := by decide +kernel
theorem d_X12_walks_12 : decode (gw_mC M_X12_walks) 12 = .ok (.putfield 217, 3) := by decide +kernel
theorem d_X12_walks_15 : decode (gw_mC M_X12_walks) 15 = .ok (.aload_n 0, 1) := by decide +kernel
theorem d_X12_walks_16 : decode (gw_mC M_X12_walks) 16 = .ok (.iconst 0, 1) := by decide +kernel
theorem d_X12_walks_17 : decode (gw_mC M_X12_walks) 17 = .ok (.putfield 220, 3) := by decide +kernel
theorem d_X12_walks_20 : decode (gw_mC M_X12_walks) 20 = .ok (.aload_n 0, 1) := by decide +kernel
theorem d_X12_walks_21 : decode (gw_mC M_X12_walks) 21 = .ok (.iconst 0, 1) := by decide +kernel
theorem d_X12_walks_22 : decode (gw_mC M_X12_walks) 22 = .ok (.putfield 226, 3) := by decide +kernel
theorem d_X12_walks_25 : decode (gw_mC M_X12_walks) 25 = .ok (.aload_n 0, 1) := by decide +kernel
theorem d_X12_walks_26 : decode (gw_mC M_X12_walks) 26 = .ok (.iconst 0, 1) := by decide +kernel
theorem d_X12_walks_27 : decode (gw_mC M_X12_walks) 27 = .ok (.putfield 223, 3) := by decide +kernel
theorem d_X12_walks_30 : decode (gw_mC M_X12_walks) 30 = .ok (.aload_n 0, 1) := by decide +kernel
theorem d_X12_walks_31 : decode (gw_mC M_X12_walks) 31 = .ok (.iconst 0, 1) := by decide +kernel
theorem d_X12_walks_32 : decode (gw_mC M_X12_walks) 32 = .ok (.putfield 205, 3) := by decide +kernel
theorem d_X12_walks_35 : decode (gw_mC M_X12_walks) 35 = .ok (.aload_n 0, 1) := by decide +kernel
theorem d_X12_walks_36 : decode (gw_mC M_X12_walks) 36 = .ok (.bipush (-4), 2) := by decide +kernel
theorem d_X12_walks_38 : decode (gw_mC M_X12_walks) 38 = .ok (.putfield 236, 3) := by decide +kernel
theorem d_X12_walks_41 : decode (gw_mC M_X12_walks) 41 = .ok (.aload_n 0, 1) := by decide +kernel
theorem d_X12_walks_42 : decode (gw_mC M_X12_walks) 42 = .ok (.bipush (-4), 2) := by decide +kernel
theorem d_X12_walks_44 : decode (gw_mC M_X12_walks) 44 = .ok (.putfield 246, 3) := by decide +kernel
theorem d_X12_walks_47 : decode (gw_mC M_X12_walks) 47 = .ok (.iconst 0, 1) := by decide +kernel
theorem d_X12_walks_48 : decode (gw_mC M_X12_walks) 48 = .ok (.istore_n 1, 1) := by decide +kernel
theorem d_X12_walks_49 : decode (gw_mC M_X12_walks) 49 = .ok (.iload_n 1, 1) := by decide +kernel
theorem d_X12_walks_50 : decode (gw_mC M_X12_walks) 50 = .ok (.aload_n 0, 1) := by decide +kernel
theorem d_X12_walks_51 : decode (gw_mC M_X12_walks) 51 = .ok (.getfield 120, 3) := by decide +kernel
theorem d_X12_walks_54 : decode (gw_mC M_X12_walks) 54 = .ok (.if_icmp .ge 53, 3) := by decide +kernel
theorem d_X12_walks_57 : decode (gw_mC M_X12_walks) 57 = .ok (.aload_n 0, 1) := by decide +kernel
theorem d_X12_walks_58 : decode (gw_mC M_X12_walks) 58 = .ok (.getfield 43, 3) := by decide +kernel
theorem d_X12_walks_61 : decode (gw_mC M_X12_walks) 61 = .ok (.iload_n 1, 1) := by decide +kernel
theorem d_X12_walks_62 : decode (gw_mC M_X12_walks) 62 = .ok (.iconst 0, 1) := by decide +kernel
theorem d_X12_walks_63 : decode (gw_mC M_X12_walks) 63 = .ok (.iastore, 1) := by decide +kernel
theorem d_X12_walks_64 : decode (gw_mC M_X12_walks) 64 = .ok (.aload_n 0, 1) := by decide +kernel
theorem d_X12_walks_65 : decode (gw_mC M_X12_walks) 65 = .ok (.getfield 46, 3) := by decide +kernel
theorem d_X12_walks_68 : decode (gw_mC M_X12_walks) 68 = .ok (.iload_n 1, 1) := by decide +kernel
theorem d_X12_walks_69 : decode (gw_mC M_X12_walks) 69 = .ok (.iconst 0, 1) := by decide +kernel
theorem d_X12_walks_70 : decode (gw_mC M_X12_walks) 70 = .ok (.iastore, 1) := by decide +kernel
theorem d_X12_walks_71 : decode (gw_mC M_X12_walks) 71 = .ok (.aload_n 0, 1) := by decide +kernel
theorem d_X12_walks_72 : decode (gw_mC M_X12_walks) 72 = .ok (.getfield 49, 3) := by decide +kernel
theorem d_X12_walks_75 : decode (gw_mC M_X12_walks) 75 = .ok (.iload_n 1, 1) := by decide +kernel
theorem d_X12_walks_76 : decode (gw_mC M_X12_walks) 76 = .ok (.bipush (-4), 2) := by decide +kernel
theorem d_X12_walks_78 : decode (gw_mC M_X12_walks) 78 = .ok (.iastore, 1) := by decide +kernel
theorem d_X12_walks_79 : decode (gw_mC M_X12_walks) 79 = .ok (.aload_n 0, 1) := by decide +kernel
theorem d_X12_walks_80 : decode (gw_mC M_X12_walks) 80 = .ok (.getfield 52, 3) := by decide +kernel
theorem d_X12_walks_83 : decode (gw_mC M_X12_walks) 83 = .ok (.iload_n 1, 1) := by decide +kernel
theorem d_X12_walks_84 : decode (gw_mC M_X12_walks) 84 = .ok (.iconst 0, 1) := by decide +kernel
theorem d_X12_walks_85 : decode (gw_mC M_X12_walks) 85 = .ok (.iastore, 1) := by decide +kernel
theorem d_X12_walks_86 : decode (gw_mC M_X12_walks) 86 = .ok (.aload_n 0, 1) := by decide +kernel
theorem d_X12_walks_87 : decode (gw_mC M_X12_walks) 87 = .ok (.getfield 55, 3) := by decide +kernel
theorem d_X12_walks_90 : decode (gw_mC M_X12_walks) 90 = .ok (.iload_n 1, 1) := by decide +kernel
theorem d_X12_walks_91 : decode (gw_mC M_X12_walks) 91 = .ok (.iconst 0, 1) := by decide +kernel
theorem d_X12_walks_92 : decode (gw_mC M_X12_walks) 92 = .ok (.iastore, 1) := by decide +kernel
theorem d_X12_walks_93 : decode (gw_mC M_X12_walks) 93 = .ok (.aload_n 0, 1) := by decide +kernel
theorem d_X12_walks_94 : decode (gw_mC M_X12_walks) 94 = .ok (.getfield 58, 3) := by decide +kernel
theorem d_X12_walks_97 : decode (gw_mC M_X12_walks) 97 = .ok (.iload_n 1, 1) := by decide +kernel
theorem d_X12_walks_98 : decode (gw_mC M_X12_walks) 98 = .ok (.bipush (-4), 2) := by decide +kernel
theorem d_X12_walks_100 : decode (gw_mC M_X12_walks) 100 = .ok (.iastore, 1) := by decide +kernel
theorem d_X12_walks_101 : decode (gw_mC M_X12_walks) 101 = .ok (.iinc 1 1, 3) := by decide +kernel
theorem d_X12_walks_104 : decode (gw_mC M_X12_walks) 104 = .ok (.goto (-55), 3) := by decide +kernel
theorem d_X12_walks_107 : decode (gw_mC M_X12_walks) 107 = .ok (.iconst 0, 1) := by decide +kernel
theorem d_X12_walks_108 : decode (gw_mC M_X12_walks) 108 = .ok (.istore_n 1, 1) := by decide +kernel
theorem d_X12_walks_109 : decode (gw_mC M_X12_walks) 109 = .ok (.iload_n 1, 1) := by decide +kernel
theorem d_X12_walks_110 : decode (gw_mC M_X12_walks) 110 = .ok (.sipush 300, 3) := by decide +kernel
theorem d_X12_walks_113 : decode (gw_mC M_X12_walks) 113 = .ok (.if_icmp .ge 49, 3) := by decide +kernel
theorem d_X12_walks_116 : decode (gw_mC M_X12_walks) 116 = .ok (.aload_n 0, 1) := by decide +kernel
theorem d_X12_walks_117 : decode (gw_mC M_X12_walks) 117 = .ok (.iload_n 1, 1) := by decide +kernel
theorem d_X12_walks_118 : decode (gw_mC M_X12_walks) 118 = .ok (.invokevirtual 249, 3) := by decide +kernel
theorem d_X12_walks_121 : decode (gw_mC M_X12_walks) 121 = .ok (.iconst 0, 1) := by decide +kernel
theorem d_X12_walks_122 : decode (gw_mC M_X12_walks) 122 = .ok (.istore_n 2, 1) := by decide +kernel
theorem d_X12_walks_123 : decode (gw_mC M_X12_walks) 123 = .ok (.iload_n 2, 1) := by decide +kernel
theorem d_X12_walks_124 : decode (gw_mC M_X12_walks) 124 = .ok (.aload_n 0, 1) := by decide +kernel
theorem d_X12_walks_125 : decode (gw_mC M_X12_walks) 125 = .ok (.getfield 120, 3) := by decide +kernel
theorem d_X12_walks_128 : decode (gw_mC M_X12_walks) 128 = .ok (.if_icmp .ge 23, 3) := by decide +kernel
theorem d_X12_walks_131 : decode (gw_mC M_X12_walks) 131 = .ok (.aload_n 0, 1) := by decide +kernel
theorem d_X12_walks_132 : decode (gw_mC M_X12_walks) 132 = .ok (.iload_n 2, 1) := by decide +kernel
theorem d_X12_walks_133 : decode (gw_mC M_X12_walks) 133 = .ok (.invokevirtual 196, 3) := by decide +kernel
theorem d_X12_walks_136 : decode (gw_mC M_X12_walks) 136 = .ok (.ifCond .ne 9, 3) := by decide +kernel
theorem d_X12_walks_139 : decode (gw_mC M_X12_walks) 139 = .ok (.aload_n 0, 1) := by decide +kernel
theorem d_X12_walks_140 : decode (gw_mC M_X12_walks) 140 = .ok (.iload_n 2, 1) := by decide +kernel
theorem d_X12_walks_141 : decode (gw_mC M_X12_walks) 141 = .ok (.iload_n 1, 1) := by decide +kernel
theorem d_X12_walks_142 : decode (gw_mC M_X12_walks) 142 = .ok (.invokevirtual 252, 3) := by decide +kernel
theorem d_X12_walks_145 : decode (gw_mC M_X12_walks) 145 = .ok (.iinc 2 1, 3) := by decide +kernel
theorem d_X12_walks_148 : decode (gw_mC M_X12_walks) 148 = .ok (.goto (-25), 3) := by decide +kernel
theorem d_X12_walks_151 : decode (gw_mC M_X12_walks) 151 = .ok (.aload_n 0, 1) := by decide +kernel
theorem d_X12_walks_152 : decode (gw_mC M_X12_walks) 152 = .ok (.iload_n 1, 1) := by decide +kernel
theorem d_X12_walks_153 : decode (gw_mC M_X12_walks) 153 = .ok (.invokevirtual 256, 3) := by decide +kernel
theorem d_X12_walks_156 : decode (gw_mC M_X12_walks) 156 = .ok (.iinc 1 1, 3) := by decide +kernel
theorem d_X12_walks_159 : decode (gw_mC M_X12_walks) 159 = .ok (.goto (-50), 3) := by decide +kernel
theorem d_X12_walks_162 : decode (gw_mC M_X12_walks) 162 = .ok (.return_, 1) := by decide +kernel
theorem d_X12_fate_0 : decode (gw_mC M_X12_fate) 0 = .ok (.aload_n 0, 1) := by decide +kernel
theorem d_X12_fate_1 : decode (gw_mC M_X12_fate) 1 = .ok (.iload_n 1, 1) := by decide +kernel
theorem d_X12_fate_2 : decode (gw_mC M_X12_fate) 2 = .ok (.invokevirtual 132, 3) := by decide +kernel
theorem d_X12_fate_5 : decode (gw_mC M_X12_fate) 5 = .ok (.ifCond .eq 15, 3) := by decide +kernel
theorem d_X12_fate_8 : decode (gw_mC M_X12_fate) 8 = .ok (.iload_n 2, 1) := by decide +kernel
theorem d_X12_fate_9 : decode (gw_mC M_X12_fate) 9 = .ok (.i2l, 1) := by decide +kernel
theorem d_X12_fate_10 : decode (gw_mC M_X12_fate) 10 = .ok (.lconst 0, 1) := by decide +kernel
theorem d_X12_fate_11 : decode (gw_mC M_X12_fate) 11 = .ok (.ldc2_w 106, 3) := by decide +kernel
theorem d_X12_fate_14 : decode (gw_mC M_X12_fate) 14 = .ok (.invokestatic 98, 3) := by decide +kernel
theorem d_X12_fate_17 : decode (gw_mC M_X12_fate) 17 = .ok (.ifCond .ne 5, 3) := by decide +kernel
theorem d_X12_fate_20 : decode (gw_mC M_X12_fate) 20 = .ok (.iconst (-1), 1) := by decide +kernel
theorem d_X12_fate_21 : decode (gw_mC M_X12_fate) 21 = .ok (.ireturn, 1) := by decide +kernel
theorem d_X12_fate_22 : decode (gw_mC M_X12_fate) 22 = .ok (.aload_n 0, 1) := by decide +kernel
theorem d_X12_fate_23 : decode (gw_mC M_X12_fate) 23 = .ok (.invokevirtual 259, 3) := by decide +kernel
theorem d_X12_fate_26 : decode (gw_mC M_X12_fate) 26 = .ok (.iload_n 2, 1) := by decide +kernel
theorem d_X12_fate_27 : decode (gw_mC M_X12_fate) 27 = .ok (.ifCond .ne 12, 3) := by decide +kernel
theorem d_X12_fate_30 : decode (gw_mC M_X12_fate) 30 = .ok (.aload_n 0, 1) := by decide +kernel
theorem d_X12_fate_31 : decode (gw_mC M_X12_fate) 31 = .ok (.getfield 52, 3) := by decide +kernel
theorem d_X12_fate_34 : decode (gw_mC M_X12_fate) 34 = .ok (.iload_n 1, 1) := by decide +kernel
theorem d_X12_fate_35 : decode (gw_mC M_X12_fate) 35 = .ok (.iaload, 1) := by decide +kernel
theorem d_X12_fate_36 : decode (gw_mC M_X12_fate) 36 = .ok (.goto 37, 3) := by decide +kernel
theorem d_X12_fate_39 : decode (gw_mC M_X12_fate) 39 = .ok (.iload_n 2, 1) := by decide +kernel
theorem d_X12_fate_40 : decode (gw_mC M_X12_fate) 40 = .ok (.iconst 1, 1) := by decide +kernel
theorem d_X12_fate_41 : decode (gw_mC M_X12_fate) 41 = .ok (.if_icmp .ne 12, 3) := by decide +kernel
theorem d_X12_fate_44 : decode (gw_mC M_X12_fate) 44 = .ok (.aload_n 0, 1) := by decide +kernel
theorem d_X12_fate_45 : decode (gw_mC M_X12_fate) 45 = .ok (.getfield 55, 3) := by decide +kernel
theorem d_X12_fate_48 : decode (gw_mC M_X12_fate) 48 = .ok (.iload_n 1, 1) := by decide +kernel
theorem d_X12_fate_49 : decode (gw_mC M_X12_fate) 49 = .ok (.iaload, 1) := by decide +kernel
theorem d_X12_fate_50 : decode (gw_mC M_X12_fate) 50 = .ok (.goto 23, 3) := by decide +kernel
theorem d_X12_fate_53 : decode (gw_mC M_X12_fate) 53 = .ok (.iload_n 2, 1) := by decide +kernel
theorem d_X12_fate_54 : decode (gw_mC M_X12_fate) 54 = .ok (.iconst 2, 1) := by decide +kernel
theorem d_X12_fate_55 : decode (gw_mC M_X12_fate) 55 = .ok (.if_icmp .ne 12, 3) := by decide +kernel
theorem d_X12_fate_58 : decode (gw_mC M_X12_fate) 58 = .ok (.aload_n 0, 1) := by decide +kernel
theorem d_X12_fate_59 : decode (gw_mC M_X12_fate) 59 = .ok (.getfield 58, 3) := by decide +kernel
theorem d_X12_fate_62 : decode (gw_mC M_X12_fate) 62 = .ok (.iload_n 1, 1) := by decide +kernel
theorem d_X12_fate_63 : decode (gw_mC M_X12_fate) 63 = .ok (.iaload, 1) := by decide +kernel
theorem d_X12_fate_64 : decode (gw_mC M_X12_fate) 64 = .ok (.goto 9, 3) := by decide +kernel
theorem d_X12_fate_67 : decode (gw_mC M_X12_fate) 67 = .ok (.aload_n 0, 1) := by decide +kernel
theorem d_X12_fate_68 : decode (gw_mC M_X12_fate) 68 = .ok (.getfield 49, 3) := by decide +kernel
theorem d_X12_fate_71 : decode (gw_mC M_X12_fate) 71 = .ok (.iload_n 1, 1) := by decide +kernel
theorem d_X12_fate_72 : decode (gw_mC M_X12_fate) 72 = .ok (.iaload, 1) := by decide +kernel
theorem d_X12_fate_73 : decode (gw_mC M_X12_fate) 73 = .ok (.ireturn, 1) := by decide +kernel
theorem d_X12_at_0 : decode (gw_mC M_X12_at) 0 = .ok (.iload_n 1, 1) := by decide +kernel
theorem d_X12_at_1 : decode (gw_mC M_X12_at) 1 = .ok (.i2l, 1) := by decide +kernel
theorem d_X12_at_2 : decode (gw_mC M_X12_at) 2 = .ok (.lconst 0, 1) := by decide +kernel
theorem d_X12_at_3 : decode (gw_mC M_X12_at) 3 = .ok (.ldc2_w 262, 3) := by decide +kernel
theorem d_X12_at_6 : decode (gw_mC M_X12_at) 6 = .ok (.invokestatic 98, 3) := by decide +kernel
theorem d_X12_at_9 : decode (gw_mC M_X12_at) 9 = .ok (.ifCond .eq 21, 3) := by decide +kernel
theorem d_X12_at_12 : decode (gw_mC M_X12_at) 12 = .ok (.iload_n 2, 1) := by decide +kernel
theorem d_X12_at_13 : decode (gw_mC M_X12_at) 13 = .ok (.i2l, 1) := by decide +kernel
theorem d_X12_at_14 : decode (gw_mC M_X12_at) 14 = .ok (.ldc2_w 264, 3) := by decide +kernel
theorem d_X12_at_17 : decode (gw_mC M_X12_at) 17 = .ok (.aload_n 0, 1) := by decide +kernel
theorem d_X12_at_18 : decode (gw_mC M_X12_at) 18 = .ok (.getfield 120, 3) := by decide +kernel
theorem d_X12_at_21 : decode (gw_mC M_X12_at) 21 = .ok (.iconst 1, 1) := by decide +kernel
theorem d_X12_at_22 : decode (gw_mC M_X12_at) 22 = .ok (.isub, 1) := by decide +kernel
theorem d_X12_at_23 : decode (gw_mC M_X12_at) 23 = .ok (.i2l, 1) := by decide +kernel
theorem d_X12_at_24 : decode (gw_mC M_X12_at) 24 = .ok (.invokestatic 98, 3) := by decide +kernel
theorem d_X12_at_27 : decode (gw_mC M_X12_at) 27 = .ok (.ifCond .ne 5, 3) := by decide +kernel
theorem d_X12_at_30 : decode (gw_mC M_X12_at) 30 = .ok (.iconst (-1), 1) := by decide +kernel
theorem d_X12_at_31 : decode (gw_mC M_X12_at) 31 = .ok (.ireturn, 1) := by decide +kernel
theorem d_X12_at_32 : decode (gw_mC M_X12_at) 32 = .ok (.aload_n 0, 1) := by decide +kernel
theorem d_X12_at_33 : decode (gw_mC M_X12_at) 33 = .ok (.invokevirtual 259, 3) := by decide +kernel
theorem d_X12_at_36 : decode (gw_mC M_X12_at) 36 = .ok (.aload_n 0, 1) := by decide +kernel
theorem d_X12_at_37 : decode (gw_mC M_X12_at) 37 = .ok (.getfield 61, 3) := by decide +kernel
theorem d_X12_at_40 : decode (gw_mC M_X12_at) 40 = .ok (.bipush 12, 2) := by decide +kernel
theorem d_X12_at_42 : decode (gw_mC M_X12_at) 42 = .ok (.iload_n 1, 1) := by decide +kernel
theorem d_X12_at_43 : decode (gw_mC M_X12_at) 43 = .ok (.imul, 1) := by decide +kernel
theorem d_X12_at_44 : decode (gw_mC M_X12_at) 44 = .ok (.iload_n 2, 1) := by decide +kernel
theorem d_X12_at_45 : decode (gw_mC M_X12_at) 45 = .ok (.iconst (-1), 1) := by decide +kernel
theorem d_X12_at_46 : decode (gw_mC M_X12_at) 46 = .ok (.if_icmp .ne 7, 3) := by decide +kernel
theorem d_X12_at_49 : decode (gw_mC M_X12_at) 49 = .ok (.iconst 0, 1) := by decide +kernel
theorem d_X12_at_50 : decode (gw_mC M_X12_at) 50 = .ok (.goto 16, 3) := by decide +kernel
theorem d_X12_at_53 : decode (gw_mC M_X12_at) 53 = .ok (.iload_n 2, 1) := by decide +kernel
theorem d_X12_at_54 : decode (gw_mC M_X12_at) 54 = .ok (.bipush (-2), 2) := by decide +kernel
theorem d_X12_at_56 : decode (gw_mC M_X12_at) 56 = .ok (.if_icmp .ne 7, 3) := by decide +kernel
theorem d_X12_at_59 : decode (gw_mC M_X12_at) 59 = .ok (.iconst 1, 1) := by decide +kernel
theorem d_X12_at_60 : decode (gw_mC M_X12_at) 60 = .ok (.goto 6, 3) := by decide +kernel
theorem d_X12_at_63 : decode (gw_mC M_X12_at) 63 = .ok (.iconst 2, 1) := by decide +kernel
theorem d_X12_at_64 : decode (gw_mC M_X12_at) 64 = .ok (.iload_n 2, 1) := by decide +kernel
theorem d_X12_at_65 : decode (gw_mC M_X12_at) 65 = .ok (.iadd, 1) := by decide +kernel
theorem d_X12_at_66 : decode (gw_mC M_X12_at) 66 = .ok (.iadd, 1) := by decide +kernel
theorem d_X12_at_67 : decode (gw_mC M_X12_at) 67 = .ok (.iaload, 1) := by decide +kernel
theorem d_X12_at_68 : decode (gw_mC M_X12_at) 68 = .ok (.ireturn, 1) := by decide +kernel
theorem d_X12_heardAll_0 : decode (gw_mC M_X12_heardAll) 0 = .ok (.iconst 0, 1) := by decide +kernel
theorem d_X12_heardAll_1 : decode (gw_mC M_X12_heardAll) 1 = .ok (.istore_n 1, 1) := by decide +kernel
theorem d_X12_heardAll_2 : decode (gw_mC M_X12_heardAll) 2 = .ok (.iconst 0, 1) := by decide +kernel
theorem d_X12_heardAll_3 : decode (gw_mC M_X12_heardAll) 3 = .ok (.istore_n 2, 1) := by decide +kernel
theorem d_X12_heardAll_4 : decode (gw_mC M_X12_heardAll) 4 = .ok (.iload_n 2, 1) := by decide +kernel
theorem d_X12_heardAll_5 : decode (gw_mC M_X12_heardAll) 5 = .ok (.aload_n 0, 1) := by decide +kernel
theorem d_X12_heardAll_6 : decode (gw_mC M_X12_heardAll) 6 = .ok (.getfield 120, 3) := by decide +kernel
theorem d_X12_heardAll_9 : decode (gw_mC M_X12_heardAll) 9 = .ok (.if_icmp .ge 18, 3) := by decide +kernel
theorem d_X12_heardAll_12 : decode (gw_mC M_X12_heardAll) 12 = .ok (.iload_n 1, 1) := by decide +kernel
theorem d_X12_heardAll_13 : decode (gw_mC M_X12_heardAll) 13 = .ok (.aload_n 0, 1) := by decide +kernel
theorem d_X12_heardAll_14 : decode (gw_mC M_X12_heardAll) 14 = .ok (.getfield 52, 3) := by decide +kernel
theorem d_X12_heardAll_17 : decode (gw_mC M_X12_heardAll) 17 = .ok (.iload_n 2, 1) := by decide +kernel
theorem d_X12_heardAll_18 : decode (gw_mC M_X12_heardAll) 18 = .ok (.iaload, 1) := by decide +kernel
theorem d_X12_heardAll_19 : decode (gw_mC M_X12_heardAll) 19 = .ok (.iadd, 1) := by decide +kernel
theorem d_X12_heardAll_20 : decode (gw_mC M_X12_heardAll) 20 = .ok (.istore_n 1, 1) := by decide +kernel
theorem d_X12_heardAll_21 : decode (gw_mC M_X12_heardAll) 21 = .ok (.iinc 2 1, 3) := by decide +kernel
theorem d_X12_heardAll_24 : decode (gw_mC M_X12_heardAll) 24 = .ok (.goto (-20), 3) := by decide +kernel
theorem d_X12_heardAll_27 : decode (gw_mC M_X12_heardAll) 27 = .ok (.iload_n 1, 1) := by decide +kernel
theorem d_X12_heardAll_28 : decode (gw_mC M_X12_heardAll) 28 = .ok (.ireturn, 1) := by decide +kernel
theorem d_X12_leastOff_0 : decode (gw_mC M_X12_leastOff) 0 = .ok (.bipush (-4), 2) := by decide +kernel
theorem d_X12_leastOff_2 : decode (gw_mC M_X12_leastOff) 2 = .ok (.istore_n 1, 1) := by decide +kernel
theorem d_X12_leastOff_3 : decode (gw_mC M_X12_leastOff) 3 = .ok (.iconst 0, 1) := by decide +kernel
theorem d_X12_leastOff_4 : decode (gw_mC M_X12_leastOff) 4 = .ok (.istore_n 2, 1) := by decide +kernel
theorem d_X12_leastOff_5 : decode (gw_mC M_X12_leastOff) 5 = .ok (.iload_n 2, 1) := by decide +kernel
theorem d_X12_leastOff_6 : decode (gw_mC M_X12_leastOff) 6 = .ok (.aload_n 0, 1) := by decide +kernel
theorem d_X12_leastOff_7 : decode (gw_mC M_X12_leastOff) 7 = .ok (.getfield 120, 3) := by decide +kernel
theorem d_X12_leastOff_10 : decode (gw_mC M_X12_leastOff) 10 = .ok (.if_icmp .ge 34, 3) := by decide +kernel
theorem d_X12_leastOff_13 : decode (gw_mC M_X12_leastOff) 13 = .ok (.iload_n 1, 1) := by decide +kernel
theorem d_X12_leastOff_14 : decode (gw_mC M_X12_leastOff) 14 = .ok (.ifCond .lt 13, 3) := by decide +kernel
theorem d_X12_leastOff_17 : decode (gw_mC M_X12_leastOff) 17 = .ok (.aload_n 0, 1) := by decide +kernel
theorem d_X12_leastOff_18 : decode (gw_mC M_X12_leastOff) 18 = .ok (.getfield 52, 3) := by decide +kernel
theorem d_X12_leastOff_21 : decode (gw_mC M_X12_leastOff) 21 = .ok (.iload_n 2, 1) := by decide +kernel
theorem d_X12_leastOff_22 : decode (gw_mC M_X12_leastOff) 22 = .ok (.iaload, 1) := by decide +kernel
theorem d_X12_leastOff_23 : decode (gw_mC M_X12_leastOff) 23 = .ok (.iload_n 1, 1) := by decide +kernel
theorem d_X12_leastOff_24 : decode (gw_mC M_X12_leastOff) 24 = .ok (.if_icmp .ge 12, 3) := by decide +kernel
theorem d_X12_leastOff_27 : decode (gw_mC M_X12_leastOff) 27 = .ok (.aload_n 0, 1) := by decide +kernel
theorem d_X12_leastOff_28 : decode (gw_mC M_X12_leastOff) 28 = .ok (.getfield 52, 3) := by decide +kernel
theorem d_X12_leastOff_31 : decode (gw_mC M_X12_leastOff) 31 = .ok (.iload_n 2, 1) := by decide +kernel
theorem d_X12_leastOff_32 : decode (gw_mC M_X12_leastOff) 32 = .ok (.iaload, 1) := by decide +kernel
theorem d_X12_leastOff_33 : decode (gw_mC M_X12_leastOff) 33 = .ok (.goto 4, 3) := by decide +kernel
theorem d_X12_leastOff_36 : decode (gw_mC M_X12_leastOff) 36 = .ok (.iload_n 1, 1) := by decide +kernel
theorem d_X12_leastOff_37 : decode (gw_mC M_X12_leastOff) 37 = .ok (.istore_n 1, 1) := by decide +kernel
theorem d_X12_leastOff_38 : decode (gw_mC M_X12_leastOff) 38 = .ok (.iinc 2 1, 3) := by decide +kernel
theorem d_X12_leastOff_41 : decode (gw_mC M_X12_leastOff) 41 = .ok (.goto (-36), 3) := by decide +kernel
theorem d_X12_leastOff_44 : decode (gw_mC M_X12_leastOff) 44 = .ok (.iload_n 1, 1) := by decide +kernel
theorem d_X12_leastOff_45 : decode (gw_mC M_X12_leastOff) 45 = .ok (.ireturn, 1) := by decide +kernel
theorem d_X12_allThere_0 : decode (gw_mC M_X12_allThere) 0 = .ok (.bipush (-4), 2) := by decide +kernel
theorem d_X12_allThere_2 : decode (gw_mC M_X12_allThere) 2 = .ok (.istore_n 1, 1) := by decide +kernel
theorem d_X12_allThere_3 : decode (gw_mC M_X12_allThere) 3 = .ok (.iconst 0, 1) := by decide +kernel
theorem d_X12_allThere_4 : decode (gw_mC M_X12_allThere) 4 = .ok (.istore_n 2, 1) := by decide +kernel
theorem d_X12_allThere_5 : decode (gw_mC M_X12_allThere) 5 = .ok (.iload_n 2, 1) := by decide +kernel
theorem d_X12_allThere_6 : decode (gw_mC M_X12_allThere) 6 = .ok (.aload_n 0, 1) := by decide +kernel
theorem d_X12_allThere_7 : decode (gw_mC M_X12_allThere) 7 = .ok (.getfield 120, 3) := by decide +kernel
theorem d_X12_allThere_10 : decode (gw_mC M_X12_allThere) 10 = .ok (.if_icmp .ge 42, 3) := by decide +kernel
theorem d_X12_allThere_13 : decode (gw_mC M_X12_allThere) 13 = .ok (.aload_n 0, 1) := by decide +kernel
theorem d_X12_allThere_14 : decode (gw_mC M_X12_allThere) 14 = .ok (.getfield 58, 3) := by decide +kernel
theorem d_X12_allThere_17 : decode (gw_mC M_X12_allThere) 17 = .ok (.iload_n 2, 1) := by decide +kernel
theorem d_X12_allThere_18 : decode (gw_mC M_X12_allThere) 18 = .ok (.iaload, 1) := by decide +kernel
theorem d_X12_allThere_19 : decode (gw_mC M_X12_allThere) 19 = .ok (.ifCond .ge 6, 3) := by decide +kernel
theorem d_X12_allThere_22 : decode (gw_mC M_X12_allThere) 22 = .ok (.bipush (-4), 2) := by decide +kernel
theorem d_X12_allThere_24 : decode (gw_mC M_X12_allThere) 24 = .ok (.ireturn, 1) := by decide +kernel
theorem d_X12_allThere_25 : decode (gw_mC M_X12_allThere) 25 = .ok (.aload_n 0, 1) := by decide +kernel
theorem d_X12_allThere_26 : decode (gw_mC M_X12_allThere) 26 = .ok (.getfield 58, 3) := by decide +kernel
theorem d_X12_allThere_29 : decode (gw_mC M_X12_allThere) 29 = .ok (.iload_n 2, 1) := by decide +kernel
theorem d_X12_allThere_30 : decode (gw_mC M_X12_allThere) 30 = .ok (.iaload, 1) := by decide +kernel
theorem d_X12_allThere_31 : decode (gw_mC M_X12_allThere) 31 = .ok (.iload_n 1, 1) := by decide +kernel
theorem d_X12_allThere_32 : decode (gw_mC M_X12_allThere) 32 = .ok (.if_icmp .le 12, 3) := by decide +kernel
theorem d_X12_allThere_35 : decode (gw_mC M_X12_allThere) 35 = .ok (.aload_n 0, 1) := by decide +kernel
theorem d_X12_allThere_36 : decode (gw_mC M_X12_allThere) 36 = .ok (.getfield 58, 3) := by decide +kernel
theorem d_X12_allThere_39 : decode (gw_mC M_X12_allThere) 39 = .ok (.iload_n 2, 1) := by decide +kernel
theorem d_X12_allThere_40 : decode (gw_mC M_X12_allThere) 40 = .ok (.iaload, 1) := by decide +kernel
theorem d_X12_allThere_41 : decode (gw_mC M_X12_allThere) 41 = .ok (.goto 4, 3) := by decide +kernel
theorem d_X12_allThere_44 : decode (gw_mC M_X12_allThere) 44 = .ok (.iload_n 1, 1) := by decide +kernel
theorem d_X12_allThere_45 : decode (gw_mC M_X12_allThere) 45 = .ok (.istore_n 1, 1) := by decide +kernel
theorem d_X12_allThere_46 : decode (gw_mC M_X12_allThere) 46 = .ok (.iinc 2 1, 3) := by decide +kernel
theorem d_X12_allThere_49 : decode (gw_mC M_X12_allThere) 49 = .ok (.goto (-44), 3) := by decide +kernel
theorem d_X12_allThere_52 : decode (gw_mC M_X12_allThere) 52 = .ok (.iload_n 1, 1) := by decide +kernel
theorem d_X12_allThere_53 : decode (gw_mC M_X12_allThere) 53 = .ok (.ireturn, 1) := by decide +kernel
theorem d_X12_all_0 : decode (gw_mC M_X12_all) 0 = .ok (.iload_n 1, 1) := by decide +kernel
theorem d_X12_all_1 : decode (gw_mC M_X12_all) 1 = .ok (.i2l, 1) := by decide +kernel
theorem d_X12_all_2 : decode (gw_mC M_X12_all) 2 = .ok (.lconst 0, 1) := by decide +kernel
theorem d_X12_all_3 : decode (gw_mC M_X12_all) 3 = .ok (.ldc2_w 266, 3) := by decide +kernel
theorem d_X12_all_6 : decode (gw_mC M_X12_all) 6 = .ok (.invokestatic 98, 3) := by decide +kernel
theorem d_X12_all_9 : decode (gw_mC M_X12_all) 9 = .ok (.ifCond .ne 5, 3) := by decide +kernel
theorem d_X12_all_12 : decode (gw_mC M_X12_all) 12 = .ok (.iconst (-1), 1) := by decide +kernel
theorem d_X12_all_13 : decode (gw_mC M_X12_all) 13 = .ok (.ireturn, 1) := by decide +kernel
theorem d_X12_all_14 : decode (gw_mC M_X12_all) 14 = .ok (.aload_n 0, 1) := by decide +kernel
theorem d_X12_all_15 : decode (gw_mC M_X12_all) 15 = .ok (.invokevirtual 259, 3) := by decide +kernel
theorem d_X12_all_18 : decode (gw_mC M_X12_all) 18 = .ok (.iconst 0, 1) := by decide +kernel
theorem d_X12_all_19 : decode (gw_mC M_X12_all) 19 = .ok (.istore_n 2, 1) := by decide +kernel
theorem d_X12_all_20 : decode (gw_mC M_X12_all) 20 = .ok (.iconst 0, 1) := by decide +kernel
theorem d_X12_all_21 : decode (gw_mC M_X12_all) 21 = .ok (.istore_n 3, 1) := by decide +kernel
theorem d_X12_all_22 : decode (gw_mC M_X12_all) 22 = .ok (.iload_n 3, 1) := by decide +kernel
theorem d_X12_all_23 : decode (gw_mC M_X12_all) 23 = .ok (.aload_n 0, 1) := by decide +kernel
theorem d_X12_all_24 : decode (gw_mC M_X12_all) 24 = .ok (.getfield 120, 3) := by decide +kernel
theorem d_X12_all_27 : decode (gw_mC M_X12_all) 27 = .ok (.if_icmp .ge 27, 3) := by decide +kernel
theorem d_X12_all_30 : decode (gw_mC M_X12_all) 30 = .ok (.iload_n 2, 1) := by decide +kernel
theorem d_X12_all_31 : decode (gw_mC M_X12_all) 31 = .ok (.aload_n 0, 1) := by decide +kernel
theorem d_X12_all_32 : decode (gw_mC M_X12_all) 32 = .ok (.iload_n 3, 1) := by decide +kernel
theorem d_X12_all_33 : decode (gw_mC M_X12_all) 33 = .ok (.invokevirtual 196, 3) := by decide +kernel
theorem d_X12_all_36 : decode (gw_mC M_X12_all) 36 = .ok (.ifCond .eq 9, 3) := by decide +kernel
theorem d_X12_all_39 : decode (gw_mC M_X12_all) 39 = .ok (.iconst 1, 1) := by decide +kernel
theorem d_X12_all_40 : decode (gw_mC M_X12_all) 40 = .ok (.iload_n 3, 1) := by decide +kernel
theorem d_X12_all_41 : decode (gw_mC M_X12_all) 41 = .ok (.ishl, 1) := by decide +kernel
theorem d_X12_all_42 : decode (gw_mC M_X12_all) 42 = .ok (.goto 4, 3) := by decide +kernel
theorem d_X12_all_45 : decode (gw_mC M_X12_all) 45 = .ok (.iconst 0, 1) := by decide +kernel
theorem d_X12_all_46 : decode (gw_mC M_X12_all) 46 = .ok (.ior, 1) := by decide +kernel
theorem d_X12_all_47 : decode (gw_mC M_X12_all) 47 = .ok (.istore_n 2, 1) := by decide +kernel
theorem d_X12_all_48 : decode (gw_mC M_X12_all) 48 = .ok (.iinc 3 1, 3) := by decide +kernel
theorem d_X12_all_51 : decode (gw_mC M_X12_all) 51 = .ok (.goto (-29), 3) := by decide +kernel
theorem d_X12_all_54 : decode (gw_mC M_X12_all) 54 = .ok (.iload_n 1, 1) := by decide +kernel
theorem d_X12_all_55 : decode (gw_mC M_X12_all) 55 = .ok (.tableswitch 58 0 4 #[33, 38, 43, 48, 53], 33) := by decide +kernel
theorem d_X12_all_88 : decode (gw_mC M_X12_all) 88 = .ok (.aload_n 0, 1) := by decide +kernel
theorem d_X12_all_89 : decode (gw_mC M_X12_all) 89 = .ok (.invokevirtual 268, 3) := by decide +kernel
theorem d_X12_all_92 : decode (gw_mC M_X12_all) 92 = .ok (.ireturn, 1) := by decide +kernel
theorem d_X12_all_93 : decode (gw_mC M_X12_all) 93 = .ok (.aload_n 0, 1) := by decide +kernel
theorem d_X12_all_94 : decode (gw_mC M_X12_all) 94 = .ok (.invokevirtual 271, 3) := by decide +kernel
theorem d_X12_all_97 : decode (gw_mC M_X12_all) 97 = .ok (.ireturn, 1) := by decide +kernel
theorem d_X12_all_98 : decode (gw_mC M_X12_all) 98 = .ok (.aload_n 0, 1) := by decide +kernel
theorem d_X12_all_99 : decode (gw_mC M_X12_all) 99 = .ok (.getfield 236, 3) := by decide +kernel
theorem d_X12_all_102 : decode (gw_mC M_X12_all) 102 = .ok (.ireturn, 1) := by decide +kernel
theorem d_X12_all_103 : decode (gw_mC M_X12_all) 103 = .ok (.aload_n 0, 1) := by decide +kernel
theorem d_X12_all_104 : decode (gw_mC M_X12_all) 104 = .ok (.invokevirtual 274, 3) := by decide +kernel
theorem d_X12_all_107 : decode (gw_mC M_X12_all) 107 = .ok (.ireturn, 1) := by decide +kernel
theorem d_X12_all_108 : decode (gw_mC M_X12_all) 108 = .ok (.aload_n 0, 1) := by decide +kernel
theorem d_X12_all_109 : decode (gw_mC M_X12_all) 109 = .ok (.getfield 246, 3) := by decide +kernel
theorem d_X12_all_112 : decode (gw_mC M_X12_all) 112 = .ok (.ireturn, 1) := by decide +kernel
theorem d_X12_all_113 : decode (gw_mC M_X12_all) 113 = .ok (.iload_n 2, 1) := by decide +kernel
theorem d_X12_all_114 : decode (gw_mC M_X12_all) 114 = .ok (.ireturn, 1) := by decide +kernel
theorem d_X12_best_0 : decode (gw_mC M_X12_best) 0 = .ok (.iload_n 1, 1) := by decide +kernel
theorem d_X12_best_1 : decode (gw_mC M_X12_best) 1 = .ok (.i2l, 1) := by decide +kernel
theorem d_X12_best_2 : decode (gw_mC M_X12_best) 2 = .ok (.lconst 0, 1) := by decide +kernel
theorem d_X12_best_3 : decode (gw_mC M_X12_best) 3 = .ok (.ldc2_w 262, 3) := by decide +kernel
theorem d_X12_best_6 : decode (gw_mC M_X12_best) 6 = .ok (.invokestatic 98, 3) := by decide +kernel
theorem d_X12_best_9 : decode (gw_mC M_X12_best) 9 = .ok (.ifCond .eq 15, 3) := by decide +kernel
theorem d_X12_best_12 : decode (gw_mC M_X12_best) 12 = .ok (.iload_n 2, 1) := by decide +kernel
theorem d_X12_best_13 : decode (gw_mC M_X12_best) 13 = .ok (.i2l, 1) := by decide +kernel
theorem d_X12_best_14 : decode (gw_mC M_X12_best) 14 = .ok (.lconst 0, 1) := by decide +kernel
theorem d_X12_best_15 : decode (gw_mC M_X12_best) 15 = .ok (.ldc2_w 106, 3) := by decide +kernel
theorem d_X12_best_18 : decode (gw_mC M_X12_best) 18 = .ok (.invokestatic 98, 3) := by decide +kernel
theorem d_X12_best_21 : decode (gw_mC M_X12_best) 21 = .ok (.ifCond .ne 5, 3) := by decide +kernel
theorem d_X12_best_24 : decode (gw_mC M_X12_best) 24 = .ok (.iconst (-1), 1) := by decide +kernel
theorem d_X12_best_25 : decode (gw_mC M_X12_best) 25 = .ok (.ireturn, 1) := by decide +kernel
theorem d_X12_best_26 : decode (gw_mC M_X12_best) 26 = .ok (.aload_n 0, 1) := by decide +kernel
theorem d_X12_best_27 : decode (gw_mC M_X12_best) 27 = .ok (.getfield 120, 3) := by decide +kernel
theorem d_X12_best_30 : decode (gw_mC M_X12_best) 30 = .ok (.ifCond .ne 6, 3) := by decide +kernel
theorem d_X12_best_33 : decode (gw_mC M_X12_best) 33 = .ok (.bipush (-2), 2) := by decide +kernel
theorem d_X12_best_35 : decode (gw_mC M_X12_best) 35 = .ok (.ireturn, 1) := by decide +kernel
theorem d_X12_best_36 : decode (gw_mC M_X12_best) 36 = .ok (.aload_n 0, 1) := by decide +kernel
theorem d_X12_best_37 : decode (gw_mC M_X12_best) 37 = .ok (.getfield 22, 3) := by decide +kernel
theorem d_X12_best_40 : decode (gw_mC M_X12_best) 40 = .ok (.iconst 0, 1) := by decide +kernel
theorem d_X12_best_41 : decode (gw_mC M_X12_best) 41 = .ok (.iaload, 1) := by decide +kernel
theorem d_X12_best_42 : decode (gw_mC M_X12_best) 42 = .ok (.istore_n 3, 1) := by decide +kernel
theorem d_X12_best_43 : decode (gw_mC M_X12_best) 43 = .ok (.aload_n 0, 1) := by decide +kernel
theorem d_X12_best_44 : decode (gw_mC M_X12_best) 44 = .ok (.getfield 22, 3) := by decide +kernel
theorem d_X12_best_47 : decode (gw_mC M_X12_best) 47 = .ok (.iconst 1, 1) := by decide +kernel
theorem d_X12_best_48 : decode (gw_mC M_X12_best) 48 = .ok (.iaload, 1) := by decide +kernel
theorem d_X12_best_49 : decode (gw_mC M_X12_best) 49 = .ok (.istore 4, 2) := by decide +kernel
theorem d_X12_best_51 : decode (gw_mC M_X12_best) 51 = .ok (.aload_n 0, 1) := by decide +kernel
theorem d_X12_best_52 : decode (gw_mC M_X12_best) 52 = .ok (.getfield 22, 3) := by decide +kernel
theorem d_X12_best_55 : decode (gw_mC M_X12_best) 55 = .ok (.iconst 2, 1) := by decide +kernel
theorem d_X12_best_56 : decode (gw_mC M_X12_best) 56 = .ok (.iaload, 1) := by decide +kernel
theorem d_X12_best_57 : decode (gw_mC M_X12_best) 57 = .ok (.istore 5, 2) := by decide +kernel
theorem d_X12_best_59 : decode (gw_mC M_X12_best) 59 = .ok (.bipush (-4), 2) := by decide +kernel
theorem d_X12_best_61 : decode (gw_mC M_X12_best) 61 = .ok (.istore 6, 2) := by decide +kernel
theorem d_X12_best_63 : decode (gw_mC M_X12_best) 63 = .ok (.iconst (-1), 1) := by decide +kernel
theorem d_X12_best_64 : decode (gw_mC M_X12_best) 64 = .ok (.istore 7, 2) := by decide +kernel
theorem d_X12_best_66 : decode (gw_mC M_X12_best) 66 = .ok (.iconst 0, 1) := by decide +kernel
theorem d_X12_best_67 : decode (gw_mC M_X12_best) 67 = .ok (.istore 8, 2) := by decide +kernel
theorem d_X12_best_69 : decode (gw_mC M_X12_best) 69 = .ok (.iload 8, 2) := by decide +kernel
theorem d_X12_best_71 : decode (gw_mC M_X12_best) 71 = .ok (.sipush 220, 3) := by decide +kernel
theorem d_X12_best_74 : decode (gw_mC M_X12_best) 74 = .ok (.if_icmp .ge 112, 3) := by decide +kernel
theorem d_X12_best_77 : decode (gw_mC M_X12_best) 77 = .ok (.aload_n 0, 1) := by decide +kernel
theorem d_X12_best_78 : decode (gw_mC M_X12_best) 78 = .ok (.getfield 22, 3) := by decide +kernel
theorem d_X12_best_81 : decode (gw_mC M_X12_best) 81 = .ok (.iconst 0, 1) := by decide +kernel
theorem d_X12_best_82 : decode (gw_mC M_X12_best) 82 = .ok (.iconst 1, 1) := by decide +kernel
theorem d_X12_best_83 : decode (gw_mC M_X12_best) 83 = .ok (.iload 8, 2) := by decide +kernel
theorem d_X12_best_85 : decode (gw_mC M_X12_best) 85 = .ok (.bipush 55, 2) := by decide +kernel
theorem d_X12_best_87 : decode (gw_mC M_X12_best) 87 = .ok (.idiv, 1) := by decide +kernel
theorem d_X12_best_88 : decode (gw_mC M_X12_best) 88 = .ok (.iadd, 1) := by decide +kernel
theorem d_X12_best_89 : decode (gw_mC M_X12_best) 89 = .ok (.iastore, 1) := by decide +kernel
theorem d_X12_best_90 : decode (gw_mC M_X12_best) 90 = .ok (.aload_n 0, 1) := by decide +kernel
theorem d_X12_best_91 : decode (gw_mC M_X12_best) 91 = .ok (.getfield 22, 3) := by decide +kernel
theorem d_X12_best_94 : decode (gw_mC M_X12_best) 94 = .ok (.iconst 1, 1) := by decide +kernel
theorem d_X12_best_95 : decode (gw_mC M_X12_best) 95 = .ok (.iload 8, 2) := by decide +kernel
theorem d_X12_best_97 : decode (gw_mC M_X12_best) 97 = .ok (.iconst 5, 1) := by decide +kernel
theorem d_X12_best_98 : decode (gw_mC M_X12_best) 98 = .ok (.idiv, 1) := by decide +kernel
theorem d_X12_best_99 : decode (gw_mC M_X12_best) 99 = .ok (.bipush 11, 2) := by decide +kernel
theorem d_X12_best_101 : decode (gw_mC M_X12_best) 101 = .ok (.irem, 1) := by decide +kernel
theorem d_X12_best_102 : decode (gw_mC M_X12_best) 102 = .ok (.iastore, 1) := by decide +kernel
theorem d_X12_best_103 : decode (gw_mC M_X12_best) 103 = .ok (.aload_n 0, 1) := by decide +kernel
theorem d_X12_best_104 : decode (gw_mC M_X12_best) 104 = .ok (.getfield 22, 3) := by decide +kernel
theorem d_X12_best_107 : decode (gw_mC M_X12_best) 107 = .ok (.iconst 2, 1) := by decide +kernel
theorem d_X12_best_108 : decode (gw_mC M_X12_best) 108 = .ok (.iload 8, 2) := by decide +kernel
theorem d_X12_best_110 : decode (gw_mC M_X12_best) 110 = .ok (.iconst 5, 1) := by decide +kernel
theorem d_X12_best_111 : decode (gw_mC M_X12_best) 111 = .ok (.irem, 1) := by decide +kernel
theorem d_X12_best_112 : decode (gw_mC M_X12_best) 112 = .ok (.iastore, 1) := by decide +kernel
theorem d_X12_best_113 : decode (gw_mC M_X12_best) 113 = .ok (.aload_n 0, 1) := by decide +kernel
theorem d_X12_best_114 : decode (gw_mC M_X12_best) 114 = .ok (.invokevirtual 259, 3) := by decide +kernel
theorem d_X12_best_117 : decode (gw_mC M_X12_best) 117 = .ok (.aload_n 0, 1) := by decide +kernel
theorem d_X12_best_118 : decode (gw_mC M_X12_best) 118 = .ok (.invokevirtual 274, 3) := by decide +kernel
theorem d_X12_best_121 : decode (gw_mC M_X12_best) 121 = .ok (.istore 9, 2) := by decide +kernel
theorem d_X12_best_123 : decode (gw_mC M_X12_best) 123 = .ok (.iload 9, 2) := by decide +kernel
theorem d_X12_best_125 : decode (gw_mC M_X12_best) 125 = .ok (.ifCond .lt 22, 3) := by decide +kernel
theorem d_X12_best_128 : decode (gw_mC M_X12_best) 128 = .ok (.iload 9, 2) := by decide +kernel
theorem d_X12_best_130 : decode (gw_mC M_X12_best) 130 = .ok (.iload_n 1, 1) := by decide +kernel
theorem d_X12_best_131 : decode (gw_mC M_X12_best) 131 = .ok (.if_icmp .gt 16, 3) := by decide +kernel
theorem d_X12_best_134 : decode (gw_mC M_X12_best) 134 = .ok (.aload_n 0, 1) := by decide +kernel
theorem d_X12_best_135 : decode (gw_mC M_X12_best) 135 = .ok (.invokevirtual 271, 3) := by decide +kernel
theorem d_X12_best_138 : decode (gw_mC M_X12_best) 138 = .ok (.iload 7, 2) := by decide +kernel
theorem d_X12_best_140 : decode (gw_mC M_X12_best) 140 = .ok (.if_icmp .le 7, 3) := by decide +kernel
theorem d_X12_best_143 : decode (gw_mC M_X12_best) 143 = .ok (.iconst 1, 1) := by decide +kernel
theorem d_X12_best_144 : decode (gw_mC M_X12_best) 144 = .ok (.goto 4, 3) := by decide +kernel
theorem d_X12_best_147 : decode (gw_mC M_X12_best) 147 = .ok (.iconst 0, 1) := by decide +kernel
theorem d_X12_best_148 : decode (gw_mC M_X12_best) 148 = .ok (.istore 10, 2) := by decide +kernel
theorem d_X12_best_150 : decode (gw_mC M_X12_best) 150 = .ok (.iload 10, 2) := by decide +kernel
theorem d_X12_best_152 : decode (gw_mC M_X12_best) 152 = .ok (.ifCond .eq 8, 3) := by decide +kernel
theorem d_X12_best_155 : decode (gw_mC M_X12_best) 155 = .ok (.iload 8, 2) := by decide +kernel
theorem d_X12_best_157 : decode (gw_mC M_X12_best) 157 = .ok (.goto 5, 3) := by decide +kernel
theorem d_X12_best_160 : decode (gw_mC M_X12_best) 160 = .ok (.iload 6, 2) := by decide +kernel
theorem d_X12_best_162 : decode (gw_mC M_X12_best) 162 = .ok (.istore 6, 2) := by decide +kernel
theorem d_X12_best_164 : decode (gw_mC M_X12_best) 164 = .ok (.iload 10, 2) := by decide +kernel
theorem d_X12_best_166 : decode (gw_mC M_X12_best) 166 = .ok (.ifCond .eq 10, 3) := by decide +kernel
theorem d_X12_best_169 : decode (gw_mC M_X12_best) 169 = .ok (.aload_n 0, 1) := by decide +kernel
theorem d_X12_best_170 : decode (gw_mC M_X12_best) 170 = .ok (.invokevirtual 271, 3) := by decide +kernel
theorem d_X12_best_173 : decode (gw_mC M_X12_best) 173 = .ok (.goto 5, 3) := by decide +kernel
theorem d_X12_best_176 : decode (gw_mC M_X12_best) 176 = .ok (.iload 7, 2) := by decide +kernel
theorem d_X12_best_178 : decode (gw_mC M_X12_best) 178 = .ok (.istore 7, 2) := by decide +kernel
theorem d_X12_best_180 : decode (gw_mC M_X12_best) 180 = .ok (.iinc 8 1, 3) := by decide +kernel
theorem d_X12_best_183 : decode (gw_mC M_X12_best) 183 = .ok (.goto (-114), 3) := by decide +kernel
theorem d_X12_best_186 : decode (gw_mC M_X12_best) 186 = .ok (.aload_n 0, 1) := by decide +kernel
theorem d_X12_best_187 : decode (gw_mC M_X12_best) 187 = .ok (.getfield 22, 3) := by decide +kernel
theorem d_X12_best_190 : decode (gw_mC M_X12_best) 190 = .ok (.iconst 0, 1) := by decide +kernel
theorem d_X12_best_191 : decode (gw_mC M_X12_best) 191 = .ok (.iload_n 3, 1) := by decide +kernel
theorem d_X12_best_192 : decode (gw_mC M_X12_best) 192 = .ok (.iastore, 1) := by decide +kernel
theorem d_X12_best_193 : decode (gw_mC M_X12_best) 193 = .ok (.aload_n 0, 1) := by decide +kernel
theorem d_X12_best_194 : decode (gw_mC M_X12_best) 194 = .ok (.getfield 22, 3) := by decide +kernel
theorem d_X12_best_197 : decode (gw_mC M_X12_best) 197 = .ok (.iconst 1, 1) := by decide +kernel
theorem d_X12_best_198 : decode (gw_mC M_X12_best) 198 = .ok (.iload 4, 2) := by decide +kernel
theorem d_X12_best_200 : decode (gw_mC M_X12_best) 200 = .ok (.iastore, 1) := by decide +kernel
theorem d_X12_best_201 : decode (gw_mC M_X12_best) 201 = .ok (.aload_n 0, 1) := by decide +kernel
theorem d_X12_best_202 : decode (gw_mC M_X12_best) 202 = .ok (.getfield 22, 3) := by decide +kernel
theorem d_X12_best_205 : decode (gw_mC M_X12_best) 205 = .ok (.iconst 2, 1) := by decide +kernel
theorem d_X12_best_206 : decode (gw_mC M_X12_best) 206 = .ok (.iload 5, 2) := by decide +kernel
theorem d_X12_best_208 : decode (gw_mC M_X12_best) 208 = .ok (.iastore, 1) := by decide +kernel
theorem d_X12_best_209 : decode (gw_mC M_X12_best) 209 = .ok (.iload 6, 2) := by decide +kernel
theorem d_X12_best_211 : decode (gw_mC M_X12_best) 211 = .ok (.ifCond .ge 8, 3) := by decide +kernel
theorem d_X12_best_214 : decode (gw_mC M_X12_best) 214 = .ok (.bipush (-4), 2) := by decide +kernel
theorem d_X12_best_216 : decode (gw_mC M_X12_best) 216 = .ok (.goto 46, 3) := by decide +kernel
theorem d_X12_best_219 : decode (gw_mC M_X12_best) 219 = .ok (.iload_n 2, 1) := by decide +kernel
theorem d_X12_best_220 : decode (gw_mC M_X12_best) 220 = .ok (.ifCond .ne 13, 3) := by decide +kernel
theorem d_X12_best_223 : decode (gw_mC M_X12_best) 223 = .ok (.iconst 1, 1) := by decide +kernel
theorem d_X12_best_224 : decode (gw_mC M_X12_best) 224 = .ok (.iload 6, 2) := by decide +kernel
theorem d_X12_best_226 : decode (gw_mC M_X12_best) 226 = .ok (.bipush 55, 2) := by decide +kernel
theorem d_X12_best_228 : decode (gw_mC M_X12_best) 228 = .ok (.idiv, 1) := by decide +kernel
theorem d_X12_best_229 : decode (gw_mC M_X12_best) 229 = .ok (.iadd, 1) := by decide +kernel
theorem d_X12_best_230 : decode (gw_mC M_X12_best) 230 = .ok (.goto 32, 3) := by decide +kernel
theorem d_X12_best_233 : decode (gw_mC M_X12_best) 233 = .ok (.iload_n 2, 1) := by decide +kernel
theorem d_X12_best_234 : decode (gw_mC M_X12_best) 234 = .ok (.iconst 1, 1) := by decide +kernel
theorem d_X12_best_235 : decode (gw_mC M_X12_best) 235 = .ok (.if_icmp .ne 13, 3) := by decide +kernel
theorem d_X12_best_238 : decode (gw_mC M_X12_best) 238 = .ok (.iload 6, 2) := by decide +kernel
theorem d_X12_best_240 : decode (gw_mC M_X12_best) 240 = .ok (.iconst 5, 1) := by decide +kernel
theorem d_X12_best_241 : decode (gw_mC M_X12_best) 241 = .ok (.idiv, 1) := by decide +kernel
theorem d_X12_best_242 : decode (gw_mC M_X12_best) 242 = .ok (.bipush 11, 2) := by decide +kernel
theorem d_X12_best_244 : decode (gw_mC M_X12_best) 244 = .ok (.irem, 1) := by decide +kernel
theorem d_X12_best_245 : decode (gw_mC M_X12_best) 245 = .ok (.goto 17, 3) := by decide +kernel
theorem d_X12_best_248 : decode (gw_mC M_X12_best) 248 = .ok (.iload_n 2, 1) := by decide +kernel
theorem d_X12_best_249 : decode (gw_mC M_X12_best) 249 = .ok (.iconst 2, 1) := by decide +kernel
theorem d_X12_best_250 : decode (gw_mC M_X12_best) 250 = .ok (.if_icmp .ne 10, 3) := by decide +kernel
theorem d_X12_best_253 : decode (gw_mC M_X12_best) 253 = .ok (.iload 6, 2) := by decide +kernel
theorem d_X12_best_255 : decode (gw_mC M_X12_best) 255 = .ok (.iconst 5, 1) := by decide +kernel
theorem d_X12_best_256 : decode (gw_mC M_X12_best) 256 = .ok (.irem, 1) := by decide +kernel
theorem d_X12_best_257 : decode (gw_mC M_X12_best) 257 = .ok (.goto 5, 3) := by decide +kernel
theorem d_X12_best_260 : decode (gw_mC M_X12_best) 260 = .ok (.iload 7, 2) := by decide +kernel
theorem d_X12_best_262 : decode (gw_mC M_X12_best) 262 = .ok (.ireturn, 1) := by decide +kernel
theorem d_X12_worth_0 : decode (gw_mC M_X12_worth) 0 = .ok (.aload_n 0, 1) := by decide +kernel
theorem d_X12_worth_1 : decode (gw_mC M_X12_worth) 1 = .ok (.iload_n 1, 1) := by decide +kernel
theorem d_X12_worth_2 : decode (gw_mC M_X12_worth) 2 = .ok (.invokevirtual 132, 3) := by decide +kernel
theorem d_X12_worth_5 : decode (gw_mC M_X12_worth) 5 = .ok (.ifCond .ne 7, 3) := by decide +kernel
theorem d_X12_worth_8 : decode (gw_mC M_X12_worth) 8 = .ok (.ldc_w 277, 3) := by decide +kernel
theorem d_X12_worth_11 : decode (gw_mC M_X12_worth) 11 = .ok (.ireturn, 1) := by decide +kernel
theorem d_X12_worth_12 : decode (gw_mC M_X12_worth) 12 = .ok (.aload_n 0, 1) := by decide +kernel
theorem d_X12_worth_13 : decode (gw_mC M_X12_worth) 13 = .ok (.getfield 25, 3) := by decide +kernel
theorem d_X12_worth_16 : decode (gw_mC M_X12_worth) 16 = .ok (.iload_n 1, 1) := by decide +kernel
theorem d_X12_worth_17 : decode (gw_mC M_X12_worth) 17 = .ok (.iaload, 1) := by decide +kernel
theorem d_X12_worth_18 : decode (gw_mC M_X12_worth) 18 = .ok (.istore_n 2, 1) := by decide +kernel
theorem d_X12_worth_19 : decode (gw_mC M_X12_worth) 19 = .ok (.aload_n 0, 1) := by decide +kernel
theorem d_X12_worth_20 : decode (gw_mC M_X12_worth) 20 = .ok (.getfield 31, 3) := by decide +kernel
theorem d_X12_worth_23 : decode (gw_mC M_X12_worth) 23 = .ok (.iload_n 1, 1) := by decide +kernel
theorem d_X12_worth_24 : decode (gw_mC M_X12_worth) 24 = .ok (.iaload, 1) := by decide +kernel
theorem d_X12_worth_25 : decode (gw_mC M_X12_worth) 25 = .ok (.istore_n 3, 1) := by decide +kernel
theorem d_X12_worth_26 : decode (gw_mC M_X12_worth) 26 = .ok (.iload_n 2, 1) := by decide +kernel
theorem d_X12_worth_27 : decode (gw_mC M_X12_worth) 27 = .ok (.iconst 3, 1) := by decide +kernel
theorem d_X12_worth_28 : decode (gw_mC M_X12_worth) 28 = .ok (.if_icmp .eq 11, 3) := by decide +kernel
theorem d_X12_worth_31 : decode (gw_mC M_X12_worth) 31 = .ok (.iload_n 3, 1) := by decide +kernel
theorem d_X12_worth_32 : decode (gw_mC M_X12_worth) 32 = .ok (.ifCond .ne 7, 3) := by decide +kernel
theorem d_X12_worth_35 : decode (gw_mC M_X12_worth) 35 = .ok (.ldc_w 278, 3) := by decide +kernel
theorem d_X12_worth_38 : decode (gw_mC M_X12_worth) 38 = .ok (.ireturn, 1) := by decide +kernel
theorem d_X12_worth_39 : decode (gw_mC M_X12_worth) 39 = .ok (.aload_n 0, 1) := by decide +kernel
theorem d_X12_worth_40 : decode (gw_mC M_X12_worth) 40 = .ok (.invokevirtual 259, 3) := by decide +kernel
theorem d_X12_worth_43 : decode (gw_mC M_X12_worth) 43 = .ok (.aload_n 0, 1) := by decide +kernel
theorem d_X12_worth_44 : decode (gw_mC M_X12_worth) 44 = .ok (.invokevirtual 268, 3) := by decide +kernel
theorem d_X12_worth_47 : decode (gw_mC M_X12_worth) 47 = .ok (.istore 4, 2) := by decide +kernel
theorem d_X12_worth_49 : decode (gw_mC M_X12_worth) 49 = .ok (.aload_n 0, 1) := by decide +kernel
theorem d_X12_worth_50 : decode (gw_mC M_X12_worth) 50 = .ok (.getfield 25, 3) := by decide +kernel
theorem d_X12_worth_53 : decode (gw_mC M_X12_worth) 53 = .ok (.iload_n 1, 1) := by decide +kernel
theorem d_X12_worth_54 : decode (gw_mC M_X12_worth) 54 = .ok (.iload_n 2, 1) := by decide +kernel
theorem d_X12_worth_55 : decode (gw_mC M_X12_worth) 55 = .ok (.iconst 3, 1) := by decide +kernel
theorem d_X12_worth_56 : decode (gw_mC M_X12_worth) 56 = .ok (.if_icmp .ne 7, 3) := by decide +kernel
theorem d_X12_worth_59 : decode (gw_mC M_X12_worth) 59 = .ok (.iconst 0, 1) := by decide +kernel
theorem d_X12_worth_60 : decode (gw_mC M_X12_worth) 60 = .ok (.goto 4, 3) := by decide +kernel
theorem d_X12_worth_63 : decode (gw_mC M_X12_worth) 63 = .ok (.iload_n 2, 1) := by decide +kernel
theorem d_X12_worth_64 : decode (gw_mC M_X12_worth) 64 = .ok (.iastore, 1) := by decide +kernel
theorem d_X12_worth_65 : decode (gw_mC M_X12_worth) 65 = .ok (.aload_n 0, 1) := by decide +kernel
theorem d_X12_worth_66 : decode (gw_mC M_X12_worth) 66 = .ok (.getfield 31, 3) := by decide +kernel
theorem d_X12_worth_69 : decode (gw_mC M_X12_worth) 69 = .ok (.iload_n 1, 1) := by decide +kernel
theorem d_X12_worth_70 : decode (gw_mC M_X12_worth) 70 = .ok (.iload_n 2, 1) := by decide +kernel
theorem d_X12_worth_71 : decode (gw_mC M_X12_worth) 71 = .ok (.iconst 3, 1) := by decide +kernel
theorem d_X12_worth_72 : decode (gw_mC M_X12_worth) 72 = .ok (.if_icmp .ne 7, 3) := by decide +kernel
theorem d_X12_worth_75 : decode (gw_mC M_X12_worth) 75 = .ok (.iload_n 3, 1) := by decide +kernel
theorem d_X12_worth_76 : decode (gw_mC M_X12_worth) 76 = .ok (.goto 4, 3) := by decide +kernel
theorem d_X12_worth_79 : decode (gw_mC M_X12_worth) 79 = .ok (.iconst 0, 1) := by decide +kernel
theorem d_X12_worth_80 : decode (gw_mC M_X12_worth) 80 = .ok (.iastore, 1) := by decide +kernel
theorem d_X12_worth_81 : decode (gw_mC M_X12_worth) 81 = .ok (.aload_n 0, 1) := by decide +kernel
theorem d_X12_worth_82 : decode (gw_mC M_X12_worth) 82 = .ok (.invokevirtual 259, 3) := by decide +kernel
theorem d_X12_worth_85 : decode (gw_mC M_X12_worth) 85 = .ok (.aload_n 0, 1) := by decide +kernel
theorem d_X12_worth_86 : decode (gw_mC M_X12_worth) 86 = .ok (.getfield 25, 3) := by decide +kernel
theorem d_X12_worth_89 : decode (gw_mC M_X12_worth) 89 = .ok (.iload_n 1, 1) := by decide +kernel
theorem d_X12_worth_90 : decode (gw_mC M_X12_worth) 90 = .ok (.iload_n 2, 1) := by decide +kernel
theorem d_X12_worth_91 : decode (gw_mC M_X12_worth) 91 = .ok (.iastore, 1) := by decide +kernel
theorem d_X12_worth_92 : decode (gw_mC M_X12_worth) 92 = .ok (.aload_n 0, 1) := by decide +kernel
theorem d_X12_worth_93 : decode (gw_mC M_X12_worth) 93 = .ok (.getfield 31, 3) := by decide +kernel
theorem d_X12_worth_96 : decode (gw_mC M_X12_worth) 96 = .ok (.iload_n 1, 1) := by decide +kernel
theorem d_X12_worth_97 : decode (gw_mC M_X12_worth) 97 = .ok (.iload_n 3, 1) := by decide +kernel
theorem d_X12_worth_98 : decode (gw_mC M_X12_worth) 98 = .ok (.iastore, 1) := by decide +kernel
theorem d_X12_worth_99 : decode (gw_mC M_X12_worth) 99 = .ok (.iload 4, 2) := by decide +kernel
theorem d_X12_worth_101 : decode (gw_mC M_X12_worth) 101 = .ok (.aload_n 0, 1) := by decide +kernel
theorem d_X12_worth_102 : decode (gw_mC M_X12_worth) 102 = .ok (.invokevirtual 268, 3) := by decide +kernel
theorem d_X12_worth_105 : decode (gw_mC M_X12_worth) 105 = .ok (.isub, 1) := by decide +kernel
theorem d_X12_worth_106 : decode (gw_mC M_X12_worth) 106 = .ok (.ireturn, 1) := by decide +kernel
theorem d_X12_chosen_0 : decode (gw_mC M_X12_chosen) 0 = .ok (.iload_n 1, 1) := by decide +kernel
theorem d_X12_chosen_1 : decode (gw_mC M_X12_chosen) 1 = .ok (.i2l, 1) := by decide +kernel
theorem d_X12_chosen_2 : decode (gw_mC M_X12_chosen) 2 = .ok (.lconst 0, 1) := by decide +kernel
theorem d_X12_chosen_3 : decode (gw_mC M_X12_chosen) 3 = .ok (.ldc2_w 279, 3) := by decide +kernel
theorem d_X12_chosen_6 : decode (gw_mC M_X12_chosen) 6 = .ok (.invokestatic 98, 3) := by decide +kernel
theorem d_X12_chosen_9 : decode (gw_mC M_X12_chosen) 9 = .ok (.ifCond .eq 13, 3) := by decide +kernel
theorem d_X12_chosen_12 : decode (gw_mC M_X12_chosen) 12 = .ok (.iload_n 2, 1) := by decide +kernel
theorem d_X12_chosen_13 : decode (gw_mC M_X12_chosen) 13 = .ok (.i2l, 1) := by decide +kernel
theorem d_X12_chosen_14 : decode (gw_mC M_X12_chosen) 14 = .ok (.lconst 0, 1) := by decide +kernel
theorem d_X12_chosen_15 : decode (gw_mC M_X12_chosen) 15 = .ok (.lconst 1, 1) := by decide +kernel
theorem d_X12_chosen_16 : decode (gw_mC M_X12_chosen) 16 = .ok (.invokestatic 98, 3) := by decide +kernel
theorem d_X12_chosen_19 : decode (gw_mC M_X12_chosen) 19 = .ok (.ifCond .ne 5, 3) := by decide +kernel
theorem d_X12_chosen_22 : decode (gw_mC M_X12_chosen) 22 = .ok (.iconst (-1), 1) := by decide +kernel
theorem d_X12_chosen_23 : decode (gw_mC M_X12_chosen) 23 = .ok (.ireturn, 1) := by decide +kernel
theorem d_X12_chosen_24 : decode (gw_mC M_X12_chosen) 24 = .ok (.aload_n 0, 1) := by decide +kernel
theorem d_X12_chosen_25 : decode (gw_mC M_X12_chosen) 25 = .ok (.getfield 88, 3) := by decide +kernel
theorem d_X12_chosen_28 : decode (gw_mC M_X12_chosen) 28 = .ok (.aload_n 0, 1) := by decide +kernel
theorem d_X12_chosen_29 : decode (gw_mC M_X12_chosen) 29 = .ok (.getfield 22, 3) := by decide +kernel
theorem d_X12_chosen_32 : decode (gw_mC M_X12_chosen) 32 = .ok (.iconst 0, 1) := by decide +kernel
theorem d_X12_chosen_33 : decode (gw_mC M_X12_chosen) 33 = .ok (.iaload, 1) := by decide +kernel
theorem d_X12_chosen_34 : decode (gw_mC M_X12_chosen) 34 = .ok (.iadd, 1) := by decide +kernel
theorem d_X12_chosen_35 : decode (gw_mC M_X12_chosen) 35 = .ok (.iconst 1, 1) := by decide +kernel
theorem d_X12_chosen_36 : decode (gw_mC M_X12_chosen) 36 = .ok (.isub, 1) := by decide +kernel
theorem d_X12_chosen_37 : decode (gw_mC M_X12_chosen) 37 = .ok (.aload_n 0, 1) := by decide +kernel
theorem d_X12_chosen_38 : decode (gw_mC M_X12_chosen) 38 = .ok (.getfield 22, 3) := by decide +kernel
theorem d_X12_chosen_41 : decode (gw_mC M_X12_chosen) 41 = .ok (.iconst 0, 1) := by decide +kernel
theorem d_X12_chosen_42 : decode (gw_mC M_X12_chosen) 42 = .ok (.iaload, 1) := by decide +kernel
theorem d_X12_chosen_43 : decode (gw_mC M_X12_chosen) 43 = .ok (.idiv, 1) := by decide +kernel
theorem d_X12_chosen_44 : decode (gw_mC M_X12_chosen) 44 = .ok (.istore_n 3, 1) := by decide +kernel
theorem d_X12_chosen_45 : decode (gw_mC M_X12_chosen) 45 = .ok (.bipush (-4), 2) := by decide +kernel
theorem d_X12_chosen_47 : decode (gw_mC M_X12_chosen) 47 = .ok (.istore 4, 2) := by decide +kernel
theorem d_X12_chosen_49 : decode (gw_mC M_X12_chosen) 49 = .ok (.iconst (-1), 1) := by decide +kernel
theorem d_X12_chosen_50 : decode (gw_mC M_X12_chosen) 50 = .ok (.istore 5, 2) := by decide +kernel
theorem d_X12_chosen_52 : decode (gw_mC M_X12_chosen) 52 = .ok (.iconst 0, 1) := by decide +kernel
theorem d_X12_chosen_53 : decode (gw_mC M_X12_chosen) 53 = .ok (.istore 6, 2) := by decide +kernel
theorem d_X12_chosen_55 : decode (gw_mC M_X12_chosen) 55 = .ok (.iload 6, 2) := by decide +kernel
theorem d_X12_chosen_57 : decode (gw_mC M_X12_chosen) 57 = .ok (.iconst 1, 1) := by decide +kernel
theorem d_X12_chosen_58 : decode (gw_mC M_X12_chosen) 58 = .ok (.aload_n 0, 1) := by decide +kernel
theorem d_X12_chosen_59 : decode (gw_mC M_X12_chosen) 59 = .ok (.getfield 7, 3) := by decide +kernel
theorem d_X12_chosen_62 : decode (gw_mC M_X12_chosen) 62 = .ok (.iconst 0, 1) := by decide +kernel
theorem d_X12_chosen_63 : decode (gw_mC M_X12_chosen) 63 = .ok (.iaload, 1) := by decide +kernel
theorem d_X12_chosen_64 : decode (gw_mC M_X12_chosen) 64 = .ok (.ishl, 1) := by decide +kernel
theorem d_X12_chosen_65 : decode (gw_mC M_X12_chosen) 65 = .ok (.if_icmp .ge 163, 3) := by decide +kernel
theorem d_X12_chosen_68 : decode (gw_mC M_X12_chosen) 68 = .ok (.iload_n 3, 1) := by decide +kernel
theorem d_X12_chosen_69 : decode (gw_mC M_X12_chosen) 69 = .ok (.istore 7, 2) := by decide +kernel
theorem d_X12_chosen_71 : decode (gw_mC M_X12_chosen) 71 = .ok (.iconst 0, 1) := by decide +kernel
theorem d_X12_chosen_72 : decode (gw_mC M_X12_chosen) 72 = .ok (.istore 8, 2) := by decide +kernel
theorem d_X12_chosen_74 : decode (gw_mC M_X12_chosen) 74 = .ok (.iconst 0, 1) := by decide +kernel
theorem d_X12_chosen_75 : decode (gw_mC M_X12_chosen) 75 = .ok (.istore 9, 2) := by decide +kernel
theorem d_X12_chosen_77 : decode (gw_mC M_X12_chosen) 77 = .ok (.iload 9, 2) := by decide +kernel
theorem d_X12_chosen_79 : decode (gw_mC M_X12_chosen) 79 = .ok (.aload_n 0, 1) := by decide +kernel
theorem d_X12_chosen_80 : decode (gw_mC M_X12_chosen) 80 = .ok (.getfield 7, 3) := by decide +kernel
theorem d_X12_chosen_83 : decode (gw_mC M_X12_chosen) 83 = .ok (.iconst 0, 1) := by decide +kernel
theorem d_X12_chosen_84 : decode (gw_mC M_X12_chosen) 84 = .ok (.iaload, 1) := by decide +kernel
theorem d_X12_chosen_85 : decode (gw_mC M_X12_chosen) 85 = .ok (.if_icmp .ge 89, 3) := by decide +kernel
theorem d_X12_chosen_88 : decode (gw_mC M_X12_chosen) 88 = .ok (.iload 6, 2) := by decide +kernel
theorem d_X12_chosen_90 : decode (gw_mC M_X12_chosen) 90 = .ok (.iload 9, 2) := by decide +kernel
theorem d_X12_chosen_92 : decode (gw_mC M_X12_chosen) 92 = .ok (.ishr, 1) := by decide +kernel
theorem d_X12_chosen_93 : decode (gw_mC M_X12_chosen) 93 = .ok (.iconst 1, 1) := by decide +kernel
theorem d_X12_chosen_94 : decode (gw_mC M_X12_chosen) 94 = .ok (.iand, 1) := by decide +kernel
theorem d_X12_chosen_95 : decode (gw_mC M_X12_chosen) 95 = .ok (.iconst 1, 1) := by decide +kernel
theorem d_X12_chosen_96 : decode (gw_mC M_X12_chosen) 96 = .ok (.if_icmp .ne 7, 3) := by decide +kernel
theorem d_X12_chosen_99 : decode (gw_mC M_X12_chosen) 99 = .ok (.iconst 1, 1) := by decide +kernel
theorem d_X12_chosen_100 : decode (gw_mC M_X12_chosen) 100 = .ok (.goto 4, 3) := by decide +kernel
theorem d_X12_chosen_103 : decode (gw_mC M_X12_chosen) 103 = .ok (.iconst 0, 1) := by decide +kernel
theorem d_X12_chosen_104 : decode (gw_mC M_X12_chosen) 104 = .ok (.istore 10, 2) := by decide +kernel
theorem d_X12_chosen_106 : decode (gw_mC M_X12_chosen) 106 = .ok (.iload 7, 2) := by decide +kernel
theorem d_X12_chosen_108 : decode (gw_mC M_X12_chosen) 108 = .ok (.iload 10, 2) := by decide +kernel
theorem d_X12_chosen_110 : decode (gw_mC M_X12_chosen) 110 = .ok (.ifCond .ne 7, 3) := by decide +kernel
theorem d_X12_chosen_113 : decode (gw_mC M_X12_chosen) 113 = .ok (.iconst 0, 1) := by decide +kernel
theorem d_X12_chosen_114 : decode (gw_mC M_X12_chosen) 114 = .ok (.goto 30, 3) := by decide +kernel
theorem d_X12_chosen_117 : decode (gw_mC M_X12_chosen) 117 = .ok (.aload_n 0, 1) := by decide +kernel
theorem d_X12_chosen_118 : decode (gw_mC M_X12_chosen) 118 = .ok (.getfield 13, 3) := by decide +kernel
theorem d_X12_chosen_121 : decode (gw_mC M_X12_chosen) 121 = .ok (.iload 9, 2) := by decide +kernel
theorem d_X12_chosen_123 : decode (gw_mC M_X12_chosen) 123 = .ok (.iaload, 1) := by decide +kernel
theorem d_X12_chosen_124 : decode (gw_mC M_X12_chosen) 124 = .ok (.aload_n 0, 1) := by decide +kernel
theorem d_X12_chosen_125 : decode (gw_mC M_X12_chosen) 125 = .ok (.getfield 88, 3) := by decide +kernel
theorem d_X12_chosen_128 : decode (gw_mC M_X12_chosen) 128 = .ok (.if_icmp .lt 9, 3) := by decide +kernel
theorem d_X12_chosen_131 : decode (gw_mC M_X12_chosen) 131 = .ok (.sipush 1000, 3) := by decide +kernel
theorem d_X12_chosen_134 : decode (gw_mC M_X12_chosen) 134 = .ok (.goto 10, 3) := by decide +kernel
theorem d_X12_chosen_137 : decode (gw_mC M_X12_chosen) 137 = .ok (.aload_n 0, 1) := by decide +kernel
theorem d_X12_chosen_138 : decode (gw_mC M_X12_chosen) 138 = .ok (.getfield 16, 3) := by decide +kernel
theorem d_X12_chosen_141 : decode (gw_mC M_X12_chosen) 141 = .ok (.iload 9, 2) := by decide +kernel
theorem d_X12_chosen_143 : decode (gw_mC M_X12_chosen) 143 = .ok (.iaload, 1) := by decide +kernel
theorem d_X12_chosen_144 : decode (gw_mC M_X12_chosen) 144 = .ok (.iadd, 1) := by decide +kernel
theorem d_X12_chosen_145 : decode (gw_mC M_X12_chosen) 145 = .ok (.istore 7, 2) := by decide +kernel
theorem d_X12_chosen_147 : decode (gw_mC M_X12_chosen) 147 = .ok (.iload 8, 2) := by decide +kernel
theorem d_X12_chosen_149 : decode (gw_mC M_X12_chosen) 149 = .ok (.iload 10, 2) := by decide +kernel
theorem d_X12_chosen_151 : decode (gw_mC M_X12_chosen) 151 = .ok (.ifCond .eq 13, 3) := by decide +kernel
theorem d_X12_chosen_154 : decode (gw_mC M_X12_chosen) 154 = .ok (.aload_n 0, 1) := by decide +kernel
theorem d_X12_chosen_155 : decode (gw_mC M_X12_chosen) 155 = .ok (.getfield 19, 3) := by decide +kernel
theorem d_X12_chosen_158 : decode (gw_mC M_X12_chosen) 158 = .ok (.iload 9, 2) := by decide +kernel
theorem d_X12_chosen_160 : decode (gw_mC M_X12_chosen) 160 = .ok (.iaload, 1) := by decide +kernel
theorem d_X12_chosen_161 : decode (gw_mC M_X12_chosen) 161 = .ok (.goto 4, 3) := by decide +kernel
theorem d_X12_chosen_164 : decode (gw_mC M_X12_chosen) 164 = .ok (.iconst 0, 1) := by decide +kernel
theorem d_X12_chosen_165 : decode (gw_mC M_X12_chosen) 165 = .ok (.iadd, 1) := by decide +kernel
theorem d_X12_chosen_166 : decode (gw_mC M_X12_chosen) 166 = .ok (.istore 8, 2) := by decide +kernel
theorem d_X12_chosen_168 : decode (gw_mC M_X12_chosen) 168 = .ok (.iinc 9 1, 3) := by decide +kernel
theorem d_X12_chosen_171 : decode (gw_mC M_X12_chosen) 171 = .ok (.goto (-94), 3) := by decide +kernel
theorem d_X12_chosen_174 : decode (gw_mC M_X12_chosen) 174 = .ok (.iload 7, 2) := by decide +kernel
theorem d_X12_chosen_176 : decode (gw_mC M_X12_chosen) 176 = .ok (.iload_n 1, 1) := by decide +kernel
theorem d_X12_chosen_177 : decode (gw_mC M_X12_chosen) 177 = .ok (.if_icmp .gt 14, 3) := by decide +kernel
theorem d_X12_chosen_180 : decode (gw_mC M_X12_chosen) 180 = .ok (.iload 8, 2) := by decide +kernel
theorem d_X12_chosen_182 : decode (gw_mC M_X12_chosen) 182 = .ok (.iload 5, 2) := by decide +kernel
theorem d_X12_chosen_184 : decode (gw_mC M_X12_chosen) 184 = .ok (.if_icmp .le 7, 3) := by decide +kernel
theorem d_X12_chosen_187 : decode (gw_mC M_X12_chosen) 187 = .ok (.iconst 1, 1) := by decide +kernel
theorem d_X12_chosen_188 : decode (gw_mC M_X12_chosen) 188 = .ok (.goto 4, 3) := by decide +kernel
theorem d_X12_chosen_191 : decode (gw_mC M_X12_chosen) 191 = .ok (.iconst 0, 1) := by decide +kernel
theorem d_X12_chosen_192 : decode (gw_mC M_X12_chosen) 192 = .ok (.istore 9, 2) := by decide +kernel
theorem d_X12_chosen_194 : decode (gw_mC M_X12_chosen) 194 = .ok (.iload 9, 2) := by decide +kernel
theorem d_X12_chosen_196 : decode (gw_mC M_X12_chosen) 196 = .ok (.ifCond .eq 8, 3) := by decide +kernel
theorem d_X12_chosen_199 : decode (gw_mC M_X12_chosen) 199 = .ok (.iload 6, 2) := by decide +kernel
theorem d_X12_chosen_201 : decode (gw_mC M_X12_chosen) 201 = .ok (.goto 5, 3) := by decide +kernel
theorem d_X12_chosen_204 : decode (gw_mC M_X12_chosen) 204 = .ok (.iload 4, 2) := by decide +kernel
theorem d_X12_chosen_206 : decode (gw_mC M_X12_chosen) 206 = .ok (.istore 4, 2) := by decide +kernel
theorem d_X12_chosen_208 : decode (gw_mC M_X12_chosen) 208 = .ok (.iload 9, 2) := by decide +kernel
theorem d_X12_chosen_210 : decode (gw_mC M_X12_chosen) 210 = .ok (.ifCond .eq 8, 3) := by decide +kernel
theorem d_X12_chosen_213 : decode (gw_mC M_X12_chosen) 213 = .ok (.iload 8, 2) := by decide +kernel
theorem d_X12_chosen_215 : decode (gw_mC M_X12_chosen) 215 = .ok (.goto 5, 3) := by decide +kernel
theorem d_X12_chosen_218 : decode (gw_mC M_X12_chosen) 218 = .ok (.iload 5, 2) := by decide +kernel
theorem d_X12_chosen_220 : decode (gw_mC M_X12_chosen) 220 = .ok (.istore 5, 2) := by decide +kernel
theorem d_X12_chosen_222 : decode (gw_mC M_X12_chosen) 222 = .ok (.iinc 6 1, 3) := by decide +kernel
theorem d_X12_chosen_225 : decode (gw_mC M_X12_chosen) 225 = .ok (.goto (-170), 3) := by decide +kernel
theorem d_X12_chosen_228 : decode (gw_mC M_X12_chosen) 228 = .ok (.iload 4, 2) := by decide +kernel
theorem d_X12_chosen_230 : decode (gw_mC M_X12_chosen) 230 = .ok (.ifCond .lt 7, 3) := by decide +kernel
theorem d_X12_chosen_233 : decode (gw_mC M_X12_chosen) 233 = .ok (.iload_n 2, 1) := by decide +kernel
theorem d_X12_chosen_234 : decode (gw_mC M_X12_chosen) 234 = .ok (.ifCond .ne 8, 3) := by decide +kernel
theorem d_X12_chosen_237 : decode (gw_mC M_X12_chosen) 237 = .ok (.iload 4, 2) := by decide +kernel
theorem d_X12_chosen_239 : decode (gw_mC M_X12_chosen) 239 = .ok (.goto 5, 3) := by decide +kernel
theorem d_X12_chosen_242 : decode (gw_mC M_X12_chosen) 242 = .ok (.iload 5, 2) := by decide +kernel
theorem d_X12_chosen_244 : decode (gw_mC M_X12_chosen) 244 = .ok (.ireturn, 1) := by decide +kernel
theorem d_X12_costOf_0 : decode (gw_mC M_X12_costOf) 0 = .ok (.iload_n 0, 1) := by decide +kernel
theorem d_X12_costOf_1 : decode (gw_mC M_X12_costOf) 1 = .ok (.iload_n 1, 1) := by decide +kernel
theorem d_X12_costOf_2 : decode (gw_mC M_X12_costOf) 2 = .ok (.iadd, 1) := by decide +kernel
theorem d_X12_costOf_3 : decode (gw_mC M_X12_costOf) 3 = .ok (.iconst 1, 1) := by decide +kernel
theorem d_X12_costOf_4 : decode (gw_mC M_X12_costOf) 4 = .ok (.isub, 1) := by decide +kernel
theorem d_X12_costOf_5 : decode (gw_mC M_X12_costOf) 5 = .ok (.iload_n 1, 1) := by decide +kernel
theorem d_X12_costOf_6 : decode (gw_mC M_X12_costOf) 6 = .ok (.idiv, 1) := by decide +kernel
theorem d_X12_costOf_7 : decode (gw_mC M_X12_costOf) 7 = .ok (.istore 5, 2) := by decide +kernel
theorem d_X12_costOf_9 : decode (gw_mC M_X12_costOf) 9 = .ok (.iconst 0, 1) := by decide +kernel
theorem d_X12_costOf_10 : decode (gw_mC M_X12_costOf) 10 = .ok (.istore 6, 2) := by decide +kernel
theorem d_X12_costOf_12 : decode (gw_mC M_X12_costOf) 12 = .ok (.iconst 1, 1) := by decide +kernel
theorem d_X12_costOf_13 : decode (gw_mC M_X12_costOf) 13 = .ok (.istore 7, 2) := by decide +kernel
theorem d_X12_costOf_15 : decode (gw_mC M_X12_costOf) 15 = .ok (.iload 7, 2) := by decide +kernel
theorem d_X12_costOf_17 : decode (gw_mC M_X12_costOf) 17 = .ok (.iload_n 0, 1) := by decide +kernel
theorem d_X12_costOf_18 : decode (gw_mC M_X12_costOf) 18 = .ok (.if_icmp .gt 41, 3) := by decide +kernel
theorem d_X12_costOf_21 : decode (gw_mC M_X12_costOf) 21 = .ok (.iload 7, 2) := by decide +kernel
theorem d_X12_costOf_23 : decode (gw_mC M_X12_costOf) 23 = .ok (.iload_n 1, 1) := by decide +kernel
theorem d_X12_costOf_24 : decode (gw_mC M_X12_costOf) 24 = .ok (.iadd, 1) := by decide +kernel
theorem d_X12_costOf_25 : decode (gw_mC M_X12_costOf) 25 = .ok (.iconst 1, 1) := by decide +kernel
theorem d_X12_costOf_26 : decode (gw_mC M_X12_costOf) 26 = .ok (.isub, 1) := by decide +kernel
theorem d_X12_costOf_27 : decode (gw_mC M_X12_costOf) 27 = .ok (.iload_n 1, 1) := by decide +kernel
theorem d_X12_costOf_28 : decode (gw_mC M_X12_costOf) 28 = .ok (.idiv, 1) := by decide +kernel
theorem d_X12_costOf_29 : decode (gw_mC M_X12_costOf) 29 = .ok (.iload_n 1, 1) := by decide +kernel
theorem d_X12_costOf_30 : decode (gw_mC M_X12_costOf) 30 = .ok (.imul, 1) := by decide +kernel
theorem d_X12_costOf_31 : decode (gw_mC M_X12_costOf) 31 = .ok (.istore 8, 2) := by decide +kernel
theorem d_X12_costOf_33 : decode (gw_mC M_X12_costOf) 33 = .ok (.iload 6, 2) := by decide +kernel
theorem d_X12_costOf_35 : decode (gw_mC M_X12_costOf) 35 = .ok (.iload 8, 2) := by decide +kernel
theorem d_X12_costOf_37 : decode (gw_mC M_X12_costOf) 37 = .ok (.iload_n 0, 1) := by decide +kernel
theorem d_X12_costOf_38 : decode (gw_mC M_X12_costOf) 38 = .ok (.if_icmp .le 7, 3) := by decide +kernel
theorem d_X12_costOf_41 : decode (gw_mC M_X12_costOf) 41 = .ok (.iload_n 0, 1) := by decide +kernel
theorem d_X12_costOf_42 : decode (gw_mC M_X12_costOf) 42 = .ok (.goto 5, 3) := by decide +kernel
theorem d_X12_costOf_45 : decode (gw_mC M_X12_costOf) 45 = .ok (.iload 8, 2) := by decide +kernel
theorem d_X12_costOf_47 : decode (gw_mC M_X12_costOf) 47 = .ok (.iload 7, 2) := by decide +kernel
theorem d_X12_costOf_49 : decode (gw_mC M_X12_costOf) 49 = .ok (.isub, 1) := by decide +kernel
theorem d_X12_costOf_50 : decode (gw_mC M_X12_costOf) 50 = .ok (.iadd, 1) := by decide +kernel
theorem d_X12_costOf_51 : decode (gw_mC M_X12_costOf) 51 = .ok (.istore 6, 2) := by decide +kernel
theorem d_X12_costOf_53 : decode (gw_mC M_X12_costOf) 53 = .ok (.iinc 7 1, 3) := by decide +kernel
theorem d_X12_costOf_56 : decode (gw_mC M_X12_costOf) 56 = .ok (.goto (-41), 3) := by decide +kernel
theorem d_X12_costOf_59 : decode (gw_mC M_X12_costOf) 59 = .ok (.bipush 100, 2) := by decide +kernel
theorem d_X12_costOf_61 : decode (gw_mC M_X12_costOf) 61 = .ok (.iload_n 2, 1) := by decide +kernel
theorem d_X12_costOf_62 : decode (gw_mC M_X12_costOf) 62 = .ok (.imul, 1) := by decide +kernel
theorem d_X12_costOf_63 : decode (gw_mC M_X12_costOf) 63 = .ok (.iload 5, 2) := by decide +kernel
theorem d_X12_costOf_65 : decode (gw_mC M_X12_costOf) 65 = .ok (.imul, 1) := by decide +kernel
theorem d_X12_costOf_66 : decode (gw_mC M_X12_costOf) 66 = .ok (.iload 4, 2) := by decide +kernel
theorem d_X12_costOf_68 : decode (gw_mC M_X12_costOf) 68 = .ok (.iload_n 3, 1) := by decide +kernel
theorem d_X12_costOf_69 : decode (gw_mC M_X12_costOf) 69 = .ok (.imul, 1) := by decide +kernel
theorem d_X12_costOf_70 : decode (gw_mC M_X12_costOf) 70 = .ok (.iload 6, 2) := by decide +kernel
theorem d_X12_costOf_72 : decode (gw_mC M_X12_costOf) 72 = .ok (.imul, 1) := by decide +kernel
theorem d_X12_costOf_73 : decode (gw_mC M_X12_costOf) 73 = .ok (.iadd, 1) := by decide +kernel
theorem d_X12_costOf_74 : decode (gw_mC M_X12_costOf) 74 = .ok (.ireturn, 1) := by decide +kernel
theorem d_X12_isCost_0 : decode (gw_mC M_X12_isCost) 0 = .ok (.iload_n 0, 1) := by decide +kernel
theorem d_X12_isCost_1 : decode (gw_mC M_X12_isCost) 1 = .ok (.i2l, 1) := by decide +kernel
theorem d_X12_isCost_2 : decode (gw_mC M_X12_isCost) 2 = .ok (.lconst 0, 1) := by decide +kernel
theorem d_X12_isCost_3 : decode (gw_mC M_X12_isCost) 3 = .ok (.ldc2_w 136, 3) := by decide +kernel
theorem d_X12_isCost_6 : decode (gw_mC M_X12_isCost) 6 = .ok (.invokestatic 98, 3) := by decide +kernel
theorem d_X12_isCost_9 : decode (gw_mC M_X12_isCost) 9 = .ok (.ifCond .eq 31, 3) := by decide +kernel
theorem d_X12_isCost_12 : decode (gw_mC M_X12_isCost) 12 = .ok (.iload_n 1, 1) := by decide +kernel
theorem d_X12_isCost_13 : decode (gw_mC M_X12_isCost) 13 = .ok (.i2l, 1) := by decide +kernel
theorem d_X12_isCost_14 : decode (gw_mC M_X12_isCost) 14 = .ok (.lconst 0, 1) := by decide +kernel
theorem d_X12_isCost_15 : decode (gw_mC M_X12_isCost) 15 = .ok (.ldc2_w 138, 3) := by decide +kernel
theorem d_X12_isCost_18 : decode (gw_mC M_X12_isCost) 18 = .ok (.invokestatic 98, 3) := by decide +kernel
theorem d_X12_isCost_21 : decode (gw_mC M_X12_isCost) 21 = .ok (.ifCond .eq 19, 3) := by decide +kernel
theorem d_X12_isCost_24 : decode (gw_mC M_X12_isCost) 24 = .ok (.iload_n 2, 1) := by decide +kernel
theorem d_X12_isCost_25 : decode (gw_mC M_X12_isCost) 25 = .ok (.i2l, 1) := by decide +kernel
theorem d_X12_isCost_26 : decode (gw_mC M_X12_isCost) 26 = .ok (.lconst 0, 1) := by decide +kernel
theorem d_X12_isCost_27 : decode (gw_mC M_X12_isCost) 27 = .ok (.ldc2_w 104, 3) := by decide +kernel
theorem d_X12_isCost_30 : decode (gw_mC M_X12_isCost) 30 = .ok (.invokestatic 98, 3) := by decide +kernel
theorem d_X12_isCost_33 : decode (gw_mC M_X12_isCost) 33 = .ok (.ifCond .eq 7, 3) := by decide +kernel
theorem d_X12_isCost_36 : decode (gw_mC M_X12_isCost) 36 = .ok (.iconst 1, 1) := by decide +kernel
theorem d_X12_isCost_37 : decode (gw_mC M_X12_isCost) 37 = .ok (.goto 4, 3) := by decide +kernel
theorem d_X12_isCost_40 : decode (gw_mC M_X12_isCost) 40 = .ok (.iconst 0, 1) := by decide +kernel
theorem d_X12_isCost_41 : decode (gw_mC M_X12_isCost) 41 = .ok (.ireturn, 1) := by decide +kernel
theorem d_X12_counted_0 : decode (gw_mC M_X12_counted) 0 = .ok (.iload_n 1, 1) := by decide +kernel
theorem d_X12_counted_1 : decode (gw_mC M_X12_counted) 1 = .ok (.i2l, 1) := by decide +kernel
theorem d_X12_counted_2 : decode (gw_mC M_X12_counted) 2 = .ok (.lconst 1, 1) := by decide +kernel
theorem d_X12_counted_3 : decode (gw_mC M_X12_counted) 3 = .ok (.ldc2_w 143, 3) := by decide +kernel
theorem d_X12_counted_6 : decode (gw_mC M_X12_counted) 6 = .ok (.invokestatic 98, 3) := by decide +kernel
theorem d_X12_counted_9 : decode (gw_mC M_X12_counted) 9 = .ok (.ifCond .eq 13, 3) := by decide +kernel
theorem d_X12_counted_12 : decode (gw_mC M_X12_counted) 12 = .ok (.iload_n 2, 1) := by decide +kernel
theorem d_X12_counted_13 : decode (gw_mC M_X12_counted) 13 = .ok (.iload_n 3, 1) := by decide +kernel
theorem d_X12_counted_14 : decode (gw_mC M_X12_counted) 14 = .ok (.iload 4, 2) := by decide +kernel
theorem d_X12_counted_16 : decode (gw_mC M_X12_counted) 16 = .ok (.invokestatic 281, 3) := by decide +kernel
theorem d_X12_counted_19 : decode (gw_mC M_X12_counted) 19 = .ok (.ifCond .ne 5, 3) := by decide +kernel
theorem d_X12_counted_22 : decode (gw_mC M_X12_counted) 22 = .ok (.iconst (-1), 1) := by decide +kernel
theorem d_X12_counted_23 : decode (gw_mC M_X12_counted) 23 = .ok (.ireturn, 1) := by decide +kernel
theorem d_X12_counted_24 : decode (gw_mC M_X12_counted) 24 = .ok (.aload_n 0, 1) := by decide +kernel
theorem d_X12_counted_25 : decode (gw_mC M_X12_counted) 25 = .ok (.invokevirtual 193, 3) := by decide +kernel
theorem d_X12_counted_28 : decode (gw_mC M_X12_counted) 28 = .ok (.istore 5, 2) := by decide +kernel
theorem d_X12_counted_30 : decode (gw_mC M_X12_counted) 30 = .ok (.iload 5, 2) := by decide +kernel
theorem d_X12_counted_32 : decode (gw_mC M_X12_counted) 32 = .ok (.ifCond .ne 8, 3) := by decide +kernel
theorem d_X12_counted_35 : decode (gw_mC M_X12_counted) 35 = .ok (.bipush (-2), 2) := by decide +kernel
theorem d_X12_counted_37 : decode (gw_mC M_X12_counted) 37 = .ok (.goto 13, 3) := by decide +kernel
theorem d_X12_counted_40 : decode (gw_mC M_X12_counted) 40 = .ok (.iload 5, 2) := by decide +kernel
theorem d_X12_counted_42 : decode (gw_mC M_X12_counted) 42 = .ok (.iload_n 1, 1) := by decide +kernel
theorem d_X12_counted_43 : decode (gw_mC M_X12_counted) 43 = .ok (.iload_n 2, 1) := by decide +kernel
theorem d_X12_counted_44 : decode (gw_mC M_X12_counted) 44 = .ok (.iload_n 3, 1) := by decide +kernel
theorem d_X12_counted_45 : decode (gw_mC M_X12_counted) 45 = .ok (.iload 4, 2) := by decide +kernel
theorem d_X12_counted_47 : decode (gw_mC M_X12_counted) 47 = .ok (.invokestatic 285, 3) := by decide +kernel
theorem d_X12_counted_50 : decode (gw_mC M_X12_counted) 50 = .ok (.ireturn, 1) := by decide +kernel
theorem d_X12_often_0 : decode (gw_mC M_X12_often) 0 = .ok (.iload_n 1, 1) := by decide +kernel
theorem d_X12_often_1 : decode (gw_mC M_X12_often) 1 = .ok (.iload_n 2, 1) := by decide +kernel
theorem d_X12_often_2 : decode (gw_mC M_X12_often) 2 = .ok (.iload_n 3, 1) := by decide +kernel
theorem d_X12_often_3 : decode (gw_mC M_X12_often) 3 = .ok (.invokestatic 281, 3) := by decide +kernel
theorem d_X12_often_6 : decode (gw_mC M_X12_often) 6 = .ok (.ifCond .ne 5, 3) := by decide +kernel
theorem d_X12_often_9 : decode (gw_mC M_X12_often) 9 = .ok (.iconst (-1), 1) := by decide +kernel
theorem d_X12_often_10 : decode (gw_mC M_X12_often) 10 = .ok (.ireturn, 1) := by decide +kernel
theorem d_X12_often_11 : decode (gw_mC M_X12_often) 11 = .ok (.aload_n 0, 1) := by decide +kernel
theorem d_X12_often_12 : decode (gw_mC M_X12_often) 12 = .ok (.invokevirtual 193, 3) := by decide +kernel
theorem d_X12_often_15 : decode (gw_mC M_X12_often) 15 = .ok (.istore 4, 2) := by decide +kernel
theorem d_X12_often_17 : decode (gw_mC M_X12_often) 17 = .ok (.iconst 1, 1) := by decide +kernel
theorem d_X12_often_18 : decode (gw_mC M_X12_often) 18 = .ok (.istore 5, 2) := by decide +kernel
theorem d_X12_often_20 : decode (gw_mC M_X12_often) 20 = .ok (.iconst 2, 1) := by decide +kernel
theorem d_X12_often_21 : decode (gw_mC M_X12_often) 21 = .ok (.istore 6, 2) := by decide +kernel
theorem d_X12_often_23 : decode (gw_mC M_X12_often) 23 = .ok (.iload 6, 2) := by decide +kernel
theorem d_X12_often_25 : decode (gw_mC M_X12_often) 25 = .ok (.bipush 9, 2) := by decide +kernel
theorem d_X12_often_27 : decode (gw_mC M_X12_often) 27 = .ok (.if_icmp .ge 41, 3) := by decide +kernel
theorem d_X12_often_30 : decode (gw_mC M_X12_often) 30 = .ok (.iload 4, 2) := by decide +kernel
theorem d_X12_often_32 : decode (gw_mC M_X12_often) 32 = .ok (.iload 6, 2) := by decide +kernel
theorem d_X12_often_34 : decode (gw_mC M_X12_often) 34 = .ok (.iload_n 1, 1) := by decide +kernel
theorem d_X12_often_35 : decode (gw_mC M_X12_often) 35 = .ok (.iload_n 2, 1) := by decide +kernel
theorem d_X12_often_36 : decode (gw_mC M_X12_often) 36 = .ok (.iload_n 3, 1) := by decide +kernel
theorem d_X12_often_37 : decode (gw_mC M_X12_often) 37 = .ok (.invokestatic 285, 3) := by decide +kernel
theorem d_X12_often_40 : decode (gw_mC M_X12_often) 40 = .ok (.iload 4, 2) := by decide +kernel
theorem d_X12_often_42 : decode (gw_mC M_X12_often) 42 = .ok (.iload 5, 2) := by decide +kernel
theorem d_X12_often_44 : decode (gw_mC M_X12_often) 44 = .ok (.iload_n 1, 1) := by decide +kernel
theorem d_X12_often_45 : decode (gw_mC M_X12_often) 45 = .ok (.iload_n 2, 1) := by decide +kernel
theorem d_X12_often_46 : decode (gw_mC M_X12_often) 46 = .ok (.iload_n 3, 1) := by decide +kernel
theorem d_X12_often_47 : decode (gw_mC M_X12_often) 47 = .ok (.invokestatic 285, 3) := by decide +kernel
theorem d_X12_often_50 : decode (gw_mC M_X12_often) 50 = .ok (.if_icmp .ge 8, 3) := by decide +kernel
theorem d_X12_often_53 : decode (gw_mC M_X12_often) 53 = .ok (.iload 6, 2) := by decide +kernel
theorem d_X12_often_55 : decode (gw_mC M_X12_often) 55 = .ok (.goto 5, 3) := by decide +kernel
theorem d_X12_often_58 : decode (gw_mC M_X12_often) 58 = .ok (.iload 5, 2) := by decide +kernel
theorem d_X12_often_60 : decode (gw_mC M_X12_often) 60 = .ok (.istore 5, 2) := by decide +kernel
theorem d_X12_often_62 : decode (gw_mC M_X12_often) 62 = .ok (.iinc 6 1, 3) := by decide +kernel
theorem d_X12_often_65 : decode (gw_mC M_X12_often) 65 = .ok (.goto (-42), 3) := by decide +kernel
theorem d_X12_often_68 : decode (gw_mC M_X12_often) 68 = .ok (.iload 4, 2) := by decide +kernel
theorem d_X12_often_70 : decode (gw_mC M_X12_often) 70 = .ok (.ifCond .ne 8, 3) := by decide +kernel
theorem d_X12_often_73 : decode (gw_mC M_X12_often) 73 = .ok (.bipush (-2), 2) := by decide +kernel
theorem d_X12_often_75 : decode (gw_mC M_X12_often) 75 = .ok (.goto 5, 3) := by decide +kernel
theorem d_X12_often_78 : decode (gw_mC M_X12_often) 78 = .ok (.iload 5, 2) := by decide +kernel
theorem d_X12_often_80 : decode (gw_mC M_X12_often) 80 = .ok (.ireturn, 1) := by decide +kernel
theorem d_X12_square_0 : decode (gw_mC M_X12_square) 0 = .ok (.iload_n 1, 1) := by decide +kernel
theorem d_X12_square_1 : decode (gw_mC M_X12_square) 1 = .ok (.i2l, 1) := by decide +kernel
theorem d_X12_square_2 : decode (gw_mC M_X12_square) 2 = .ok (.lconst 0, 1) := by decide +kernel
theorem d_X12_square_3 : decode (gw_mC M_X12_square) 3 = .ok (.ldc2_w 289, 3) := by decide +kernel
theorem d_X12_square_6 : decode (gw_mC M_X12_square) 6 = .ok (.invokestatic 98, 3) := by decide +kernel
theorem d_X12_square_9 : decode (gw_mC M_X12_square) 9 = .ok (.ifCond .eq 15, 3) := by decide +kernel
theorem d_X12_square_12 : decode (gw_mC M_X12_square) 12 = .ok (.iload_n 2, 1) := by decide +kernel
theorem d_X12_square_13 : decode (gw_mC M_X12_square) 13 = .ok (.i2l, 1) := by decide +kernel
theorem d_X12_square_14 : decode (gw_mC M_X12_square) 14 = .ok (.lconst 0, 1) := by decide +kernel
theorem d_X12_square_15 : decode (gw_mC M_X12_square) 15 = .ok (.ldc2_w 92, 3) := by decide +kernel
theorem d_X12_square_18 : decode (gw_mC M_X12_square) 18 = .ok (.invokestatic 98, 3) := by decide +kernel
theorem d_X12_square_21 : decode (gw_mC M_X12_square) 21 = .ok (.ifCond .ne 5, 3) := by decide +kernel
theorem d_X12_square_24 : decode (gw_mC M_X12_square) 24 = .ok (.iconst (-1), 1) := by decide +kernel
theorem d_X12_square_25 : decode (gw_mC M_X12_square) 25 = .ok (.ireturn, 1) := by decide +kernel
theorem d_X12_square_26 : decode (gw_mC M_X12_square) 26 = .ok (.aload_n 0, 1) := by decide +kernel
theorem d_X12_square_27 : decode (gw_mC M_X12_square) 27 = .ok (.getfield 34, 3) := by decide +kernel
theorem d_X12_square_30 : decode (gw_mC M_X12_square) 30 = .ok (.iload_n 1, 1) := by decide +kernel
theorem d_X12_square_31 : decode (gw_mC M_X12_square) 31 = .ok (.iaload, 1) := by decide +kernel
theorem d_X12_square_32 : decode (gw_mC M_X12_square) 32 = .ok (.istore_n 3, 1) := by decide +kernel
theorem d_X12_square_33 : decode (gw_mC M_X12_square) 33 = .ok (.aload_n 0, 1) := by decide +kernel
theorem d_X12_square_34 : decode (gw_mC M_X12_square) 34 = .ok (.getfield 34, 3) := by decide +kernel
theorem d_X12_square_37 : decode (gw_mC M_X12_square) 37 = .ok (.iload_n 1, 1) := by decide +kernel
theorem d_X12_square_38 : decode (gw_mC M_X12_square) 38 = .ok (.iload_n 2, 1) := by decide +kernel
theorem d_X12_square_39 : decode (gw_mC M_X12_square) 39 = .ok (.iastore, 1) := by decide +kernel
theorem d_X12_square_40 : decode (gw_mC M_X12_square) 40 = .ok (.iload_n 3, 1) := by decide +kernel
theorem d_X12_square_41 : decode (gw_mC M_X12_square) 41 = .ok (.ireturn, 1) := by decide +kernel
theorem d_X12_size_0 : decode (gw_mC M_X12_size) 0 = .ok (.iload_n 0, 1) := by decide +kernel
theorem d_X12_size_1 : decode (gw_mC M_X12_size) 1 = .ok (.ifCond .ge 8, 3) := by decide +kernel
theorem d_X12_size_4 : decode (gw_mC M_X12_size) 4 = .ok (.iload_n 0, 1) := by decide +kernel
theorem d_X12_size_5 : decode (gw_mC M_X12_size) 5 = .ok (.ineg, 1) := by decide +kernel
theorem d_X12_size_6 : decode (gw_mC M_X12_size) 6 = .ok (.goto 4, 3) := by decide +kernel
theorem d_X12_size_9 : decode (gw_mC M_X12_size) 9 = .ok (.iload_n 0, 1) := by decide +kernel
theorem d_X12_size_10 : decode (gw_mC M_X12_size) 10 = .ok (.ireturn, 1) := by decide +kernel
theorem d_X12_sign_0 : decode (gw_mC M_X12_sign) 0 = .ok (.iload_n 0, 1) := by decide +kernel
theorem d_X12_sign_1 : decode (gw_mC M_X12_sign) 1 = .ok (.ifCond .ge 7, 3) := by decide +kernel
theorem d_X12_sign_4 : decode (gw_mC M_X12_sign) 4 = .ok (.iconst (-1), 1) := by decide +kernel
theorem d_X12_sign_5 : decode (gw_mC M_X12_sign) 5 = .ok (.goto 12, 3) := by decide +kernel
theorem d_X12_sign_8 : decode (gw_mC M_X12_sign) 8 = .ok (.iload_n 0, 1) := by decide +kernel
theorem d_X12_sign_9 : decode (gw_mC M_X12_sign) 9 = .ok (.ifCond .le 7, 3) := by decide +kernel
theorem d_X12_sign_12 : decode (gw_mC M_X12_sign) 12 = .ok (.iconst 1, 1) := by decide +kernel
theorem d_X12_sign_13 : decode (gw_mC M_X12_sign) 13 = .ok (.goto 4, 3) := by decide +kernel
theorem d_X12_sign_16 : decode (gw_mC M_X12_sign) 16 = .ok (.iconst 0, 1) := by decide +kernel
theorem d_X12_sign_17 : decode (gw_mC M_X12_sign) 17 = .ok (.ireturn, 1) := by decide +kernel
theorem d_X12_farthest_0 : decode (gw_mC M_X12_farthest) 0 = .ok (.aload_n 0, 1) := by decide +kernel
theorem d_X12_farthest_1 : decode (gw_mC M_X12_farthest) 1 = .ok (.getfield 34, 3) := by decide +kernel
theorem d_X12_farthest_4 : decode (gw_mC M_X12_farthest) 4 = .ok (.iload_n 1, 1) := by decide +kernel
theorem d_X12_farthest_5 : decode (gw_mC M_X12_farthest) 5 = .ok (.iaload, 1) := by decide +kernel
theorem d_X12_farthest_6 : decode (gw_mC M_X12_farthest) 6 = .ok (.iconst 1, 1) := by decide +kernel
theorem d_X12_farthest_7 : decode (gw_mC M_X12_farthest) 7 = .ok (.if_icmp .ne 6, 3) := by decide +kernel
theorem d_X12_farthest_10 : decode (gw_mC M_X12_farthest) 10 = .ok (.bipush (-4), 2) := by decide +kernel
theorem d_X12_farthest_12 : decode (gw_mC M_X12_farthest) 12 = .ok (.ireturn, 1) := by decide +kernel
theorem d_X12_farthest_13 : decode (gw_mC M_X12_farthest) 13 = .ok (.iconst 0, 1) := by decide +kernel
theorem d_X12_farthest_14 : decode (gw_mC M_X12_farthest) 14 = .ok (.istore_n 2, 1) := by decide +kernel
theorem d_X12_farthest_15 : decode (gw_mC M_X12_farthest) 15 = .ok (.iconst 0, 1) := by decide +kernel
theorem d_X12_farthest_16 : decode (gw_mC M_X12_farthest) 16 = .ok (.istore_n 3, 1) := by decide +kernel
theorem d_X12_farthest_17 : decode (gw_mC M_X12_farthest) 17 = .ok (.iload_n 3, 1) := by decide +kernel
theorem d_X12_farthest_18 : decode (gw_mC M_X12_farthest) 18 = .ok (.sipush 144, 3) := by decide +kernel
theorem d_X12_farthest_21 : decode (gw_mC M_X12_farthest) 21 = .ok (.if_icmp .ge 199, 3) := by decide +kernel
theorem d_X12_farthest_24 : decode (gw_mC M_X12_farthest) 24 = .ok (.iload_n 3, 1) := by decide +kernel
theorem d_X12_farthest_25 : decode (gw_mC M_X12_farthest) 25 = .ok (.bipush 12, 2) := by decide +kernel
theorem d_X12_farthest_27 : decode (gw_mC M_X12_farthest) 27 = .ok (.irem, 1) := by decide +kernel
theorem d_X12_farthest_28 : decode (gw_mC M_X12_farthest) 28 = .ok (.iload_n 1, 1) := by decide +kernel
theorem d_X12_farthest_29 : decode (gw_mC M_X12_farthest) 29 = .ok (.bipush 12, 2) := by decide +kernel
theorem d_X12_farthest_31 : decode (gw_mC M_X12_farthest) 31 = .ok (.irem, 1) := by decide +kernel
theorem d_X12_farthest_32 : decode (gw_mC M_X12_farthest) 32 = .ok (.isub, 1) := by decide +kernel
theorem d_X12_farthest_33 : decode (gw_mC M_X12_farthest) 33 = .ok (.istore 4, 2) := by decide +kernel
theorem d_X12_farthest_35 : decode (gw_mC M_X12_farthest) 35 = .ok (.iload_n 3, 1) := by decide +kernel
theorem d_X12_farthest_36 : decode (gw_mC M_X12_farthest) 36 = .ok (.bipush 12, 2) := by decide +kernel
theorem d_X12_farthest_38 : decode (gw_mC M_X12_farthest) 38 = .ok (.idiv, 1) := by decide +kernel
theorem d_X12_farthest_39 : decode (gw_mC M_X12_farthest) 39 = .ok (.iload_n 1, 1) := by decide +kernel
theorem d_X12_farthest_40 : decode (gw_mC M_X12_farthest) 40 = .ok (.bipush 12, 2) := by decide +kernel
theorem d_X12_farthest_42 : decode (gw_mC M_X12_farthest) 42 = .ok (.idiv, 1) := by decide +kernel
theorem d_X12_farthest_43 : decode (gw_mC M_X12_farthest) 43 = .ok (.isub, 1) := by decide +kernel
theorem d_X12_farthest_44 : decode (gw_mC M_X12_farthest) 44 = .ok (.istore 5, 2) := by decide +kernel
theorem d_X12_farthest_46 : decode (gw_mC M_X12_farthest) 46 = .ok (.iload 4, 2) := by decide +kernel
theorem d_X12_farthest_48 : decode (gw_mC M_X12_farthest) 48 = .ok (.invokestatic 291, 3) := by decide +kernel
theorem d_X12_farthest_51 : decode (gw_mC M_X12_farthest) 51 = .ok (.iload 5, 2) := by decide +kernel
theorem d_X12_farthest_53 : decode (gw_mC M_X12_farthest) 53 = .ok (.invokestatic 291, 3) := by decide +kernel
theorem d_X12_farthest_56 : decode (gw_mC M_X12_farthest) 56 = .ok (.if_icmp .le 11, 3) := by decide +kernel
theorem d_X12_farthest_59 : decode (gw_mC M_X12_farthest) 59 = .ok (.iload 4, 2) := by decide +kernel
theorem d_X12_farthest_61 : decode (gw_mC M_X12_farthest) 61 = .ok (.invokestatic 291, 3) := by decide +kernel
theorem d_X12_farthest_64 : decode (gw_mC M_X12_farthest) 64 = .ok (.goto 8, 3) := by decide +kernel
theorem d_X12_farthest_67 : decode (gw_mC M_X12_farthest) 67 = .ok (.iload 5, 2) := by decide +kernel
theorem d_X12_farthest_69 : decode (gw_mC M_X12_farthest) 69 = .ok (.invokestatic 291, 3) := by decide +kernel
theorem d_X12_farthest_72 : decode (gw_mC M_X12_farthest) 72 = .ok (.istore 6, 2) := by decide +kernel
theorem d_X12_farthest_74 : decode (gw_mC M_X12_farthest) 74 = .ok (.aload_n 0, 1) := by decide +kernel
theorem d_X12_farthest_75 : decode (gw_mC M_X12_farthest) 75 = .ok (.getfield 34, 3) := by decide +kernel
theorem d_X12_farthest_78 : decode (gw_mC M_X12_farthest) 78 = .ok (.iload_n 3, 1) := by decide +kernel
theorem d_X12_farthest_79 : decode (gw_mC M_X12_farthest) 79 = .ok (.iaload, 1) := by decide +kernel
theorem d_X12_farthest_80 : decode (gw_mC M_X12_farthest) 80 = .ok (.iconst 2, 1) := by decide +kernel
theorem d_X12_farthest_81 : decode (gw_mC M_X12_farthest) 81 = .ok (.if_icmp .ne 133, 3) := by decide +kernel
theorem d_X12_farthest_84 : decode (gw_mC M_X12_farthest) 84 = .ok (.iload 4, 2) := by decide +kernel
theorem d_X12_farthest_86 : decode (gw_mC M_X12_farthest) 86 = .ok (.ifCond .eq 21, 3) := by decide +kernel
theorem d_X12_farthest_89 : decode (gw_mC M_X12_farthest) 89 = .ok (.iload 5, 2) := by decide +kernel
theorem d_X12_farthest_91 : decode (gw_mC M_X12_farthest) 91 = .ok (.ifCond .eq 16, 3) := by decide +kernel
theorem d_X12_farthest_94 : decode (gw_mC M_X12_farthest) 94 = .ok (.iload 4, 2) := by decide +kernel
theorem d_X12_farthest_96 : decode (gw_mC M_X12_farthest) 96 = .ok (.invokestatic 291, 3) := by decide +kernel
theorem d_X12_farthest_99 : decode (gw_mC M_X12_farthest) 99 = .ok (.iload 5, 2) := by decide +kernel
theorem d_X12_farthest_101 : decode (gw_mC M_X12_farthest) 101 = .ok (.invokestatic 291, 3) := by decide +kernel
theorem d_X12_farthest_104 : decode (gw_mC M_X12_farthest) 104 = .ok (.if_icmp .ne 7, 3) := by decide +kernel
theorem d_X12_farthest_107 : decode (gw_mC M_X12_farthest) 107 = .ok (.iconst 1, 1) := by decide +kernel
theorem d_X12_farthest_108 : decode (gw_mC M_X12_farthest) 108 = .ok (.goto 4, 3) := by decide +kernel
theorem d_X12_farthest_111 : decode (gw_mC M_X12_farthest) 111 = .ok (.iconst 0, 1) := by decide +kernel
theorem d_X12_farthest_112 : decode (gw_mC M_X12_farthest) 112 = .ok (.istore 7, 2) := by decide +kernel
theorem d_X12_farthest_114 : decode (gw_mC M_X12_farthest) 114 = .ok (.iload 6, 2) := by decide +kernel
theorem d_X12_farthest_116 : decode (gw_mC M_X12_farthest) 116 = .ok (.aload_n 0, 1) := by decide +kernel
theorem d_X12_farthest_117 : decode (gw_mC M_X12_farthest) 117 = .ok (.getfield 22, 3) := by decide +kernel
theorem d_X12_farthest_120 : decode (gw_mC M_X12_farthest) 120 = .ok (.iconst 4, 1) := by decide +kernel
theorem d_X12_farthest_121 : decode (gw_mC M_X12_farthest) 121 = .ok (.iaload, 1) := by decide +kernel
theorem d_X12_farthest_122 : decode (gw_mC M_X12_farthest) 122 = .ok (.if_icmp .gt 7, 3) := by decide +kernel
theorem d_X12_farthest_125 : decode (gw_mC M_X12_farthest) 125 = .ok (.iconst 1, 1) := by decide +kernel
theorem d_X12_farthest_126 : decode (gw_mC M_X12_farthest) 126 = .ok (.goto 4, 3) := by decide +kernel
theorem d_X12_farthest_129 : decode (gw_mC M_X12_farthest) 129 = .ok (.iconst 0, 1) := by decide +kernel
theorem d_X12_farthest_130 : decode (gw_mC M_X12_farthest) 130 = .ok (.istore 8, 2) := by decide +kernel
theorem d_X12_farthest_132 : decode (gw_mC M_X12_farthest) 132 = .ok (.iconst 1, 1) := by decide +kernel
theorem d_X12_farthest_133 : decode (gw_mC M_X12_farthest) 133 = .ok (.istore 9, 2) := by decide +kernel
theorem d_X12_farthest_135 : decode (gw_mC M_X12_farthest) 135 = .ok (.iload 9, 2) := by decide +kernel
theorem d_X12_farthest_137 : decode (gw_mC M_X12_farthest) 137 = .ok (.iload 6, 2) := by decide +kernel
theorem d_X12_farthest_139 : decode (gw_mC M_X12_farthest) 139 = .ok (.if_icmp .ge 54, 3) := by decide +kernel
theorem d_X12_farthest_142 : decode (gw_mC M_X12_farthest) 142 = .ok (.iload 7, 2) := by decide +kernel
theorem d_X12_farthest_144 : decode (gw_mC M_X12_farthest) 144 = .ok (.ifCond .eq 49, 3) := by decide +kernel
theorem d_X12_farthest_147 : decode (gw_mC M_X12_farthest) 147 = .ok (.iload 8, 2) := by decide +kernel
theorem d_X12_farthest_149 : decode (gw_mC M_X12_farthest) 149 = .ok (.ifCond .eq 35, 3) := by decide +kernel
theorem d_X12_farthest_152 : decode (gw_mC M_X12_farthest) 152 = .ok (.aload_n 0, 1) := by decide +kernel
theorem d_X12_farthest_153 : decode (gw_mC M_X12_farthest) 153 = .ok (.getfield 34, 3) := by decide +kernel
theorem d_X12_farthest_156 : decode (gw_mC M_X12_farthest) 156 = .ok (.iload_n 1, 1) := by decide +kernel
theorem d_X12_farthest_157 : decode (gw_mC M_X12_farthest) 157 = .ok (.iload 9, 2) := by decide +kernel
theorem d_X12_farthest_159 : decode (gw_mC M_X12_farthest) 159 = .ok (.iload 4, 2) := by decide +kernel
theorem d_X12_farthest_161 : decode (gw_mC M_X12_farthest) 161 = .ok (.invokestatic 294, 3) := by decide +kernel
theorem d_X12_farthest_164 : decode (gw_mC M_X12_farthest) 164 = .ok (.bipush 12, 2) := by decide +kernel
theorem d_X12_farthest_166 : decode (gw_mC M_X12_farthest) 166 = .ok (.iload 5, 2) := by decide +kernel
theorem d_X12_farthest_168 : decode (gw_mC M_X12_farthest) 168 = .ok (.invokestatic 294, 3) := by decide +kernel
theorem d_X12_farthest_171 : decode (gw_mC M_X12_farthest) 171 = .ok (.imul, 1) := by decide +kernel
theorem d_X12_farthest_172 : decode (gw_mC M_X12_farthest) 172 = .ok (.iadd, 1) := by decide +kernel
theorem d_X12_farthest_173 : decode (gw_mC M_X12_farthest) 173 = .ok (.imul, 1) := by decide +kernel
theorem d_X12_farthest_174 : decode (gw_mC M_X12_farthest) 174 = .ok (.iadd, 1) := by decide +kernel
theorem d_X12_farthest_175 : decode (gw_mC M_X12_farthest) 175 = .ok (.iaload, 1) := by decide +kernel
theorem d_X12_farthest_176 : decode (gw_mC M_X12_farthest) 176 = .ok (.iconst 1, 1) := by decide +kernel
theorem d_X12_farthest_177 : decode (gw_mC M_X12_farthest) 177 = .ok (.if_icmp .eq 7, 3) := by decide +kernel
theorem d_X12_farthest_180 : decode (gw_mC M_X12_farthest) 180 = .ok (.iconst 1, 1) := by decide +kernel
theorem d_X12_farthest_181 : decode (gw_mC M_X12_farthest) 181 = .ok (.goto 4, 3) := by decide +kernel
theorem d_X12_farthest_184 : decode (gw_mC M_X12_farthest) 184 = .ok (.iconst 0, 1) := by decide +kernel
theorem d_X12_farthest_185 : decode (gw_mC M_X12_farthest) 185 = .ok (.istore 8, 2) := by decide +kernel
theorem d_X12_farthest_187 : decode (gw_mC M_X12_farthest) 187 = .ok (.iinc 9 1, 3) := by decide +kernel
theorem d_X12_farthest_190 : decode (gw_mC M_X12_farthest) 190 = .ok (.goto (-55), 3) := by decide +kernel
theorem d_X12_farthest_193 : decode (gw_mC M_X12_farthest) 193 = .ok (.iload 8, 2) := by decide +kernel
theorem d_X12_farthest_195 : decode (gw_mC M_X12_farthest) 195 = .ok (.ifCond .ne 6, 3) := by decide +kernel
theorem d_X12_farthest_198 : decode (gw_mC M_X12_farthest) 198 = .ok (.bipush (-4), 2) := by decide +kernel
theorem d_X12_farthest_200 : decode (gw_mC M_X12_farthest) 200 = .ok (.ireturn, 1) := by decide +kernel
theorem d_X12_farthest_201 : decode (gw_mC M_X12_farthest) 201 = .ok (.iload 6, 2) := by decide +kernel
theorem d_X12_farthest_203 : decode (gw_mC M_X12_farthest) 203 = .ok (.iload_n 2, 1) := by decide +kernel
theorem d_X12_farthest_204 : decode (gw_mC M_X12_farthest) 204 = .ok (.if_icmp .le 8, 3) := by decide +kernel
theorem d_X12_farthest_207 : decode (gw_mC M_X12_farthest) 207 = .ok (.iload 6, 2) := by decide +kernel
theorem d_X12_farthest_209 : decode (gw_mC M_X12_farthest) 209 = .ok (.goto 4, 3) := by decide +kernel
theorem d_X12_farthest_212 : decode (gw_mC M_X12_farthest) 212 = .ok (.iload_n 2, 1) := by decide +kernel
theorem d_X12_farthest_213 : decode (gw_mC M_X12_farthest) 213 = .ok (.istore_n 2, 1) := by decide +kernel
theorem d_X12_farthest_214 : decode (gw_mC M_X12_farthest) 214 = .ok (.iinc 3 1, 3) := by decide +kernel
theorem d_X12_farthest_217 : decode (gw_mC M_X12_farthest) 217 = .ok (.goto (-200), 3) := by decide +kernel
theorem d_X12_farthest_220 : decode (gw_mC M_X12_farthest) 220 = .ok (.iload_n 2, 1) := by decide +kernel
theorem d_X12_farthest_221 : decode (gw_mC M_X12_farthest) 221 = .ok (.ireturn, 1) := by decide +kernel
theorem d_X12_stand_0 : decode (gw_mC M_X12_stand) 0 = .ok (.iload_n 1, 1) := by decide +kernel
theorem d_X12_stand_1 : decode (gw_mC M_X12_stand) 1 = .ok (.i2l, 1) := by decide +kernel
theorem d_X12_stand_2 : decode (gw_mC M_X12_stand) 2 = .ok (.lconst 0, 1) := by decide +kernel
theorem d_X12_stand_3 : decode (gw_mC M_X12_stand) 3 = .ok (.ldc2_w 92, 3) := by decide +kernel
theorem d_X12_stand_6 : decode (gw_mC M_X12_stand) 6 = .ok (.invokestatic 98, 3) := by decide +kernel
theorem d_X12_stand_9 : decode (gw_mC M_X12_stand) 9 = .ok (.ifCond .ne 5, 3) := by decide +kernel
theorem d_X12_stand_12 : decode (gw_mC M_X12_stand) 12 = .ok (.iconst (-1), 1) := by decide +kernel
theorem d_X12_stand_13 : decode (gw_mC M_X12_stand) 13 = .ok (.ireturn, 1) := by decide +kernel
theorem d_X12_stand_14 : decode (gw_mC M_X12_stand) 14 = .ok (.iconst 0, 1) := by decide +kernel
theorem d_X12_stand_15 : decode (gw_mC M_X12_stand) 15 = .ok (.istore_n 2, 1) := by decide +kernel
theorem d_X12_stand_16 : decode (gw_mC M_X12_stand) 16 = .ok (.bipush (-4), 2) := by decide +kernel
theorem d_X12_stand_18 : decode (gw_mC M_X12_stand) 18 = .ok (.istore_n 3, 1) := by decide +kernel
theorem d_X12_stand_19 : decode (gw_mC M_X12_stand) 19 = .ok (.bipush (-4), 2) := by decide +kernel
theorem d_X12_stand_21 : decode (gw_mC M_X12_stand) 21 = .ok (.istore 4, 2) := by decide +kernel
theorem d_X12_stand_23 : decode (gw_mC M_X12_stand) 23 = .ok (.iconst 0, 1) := by decide +kernel
theorem d_X12_stand_24 : decode (gw_mC M_X12_stand) 24 = .ok (.istore 5, 2) := by decide +kernel
theorem d_X12_stand_26 : decode (gw_mC M_X12_stand) 26 = .ok (.iload 5, 2) := by decide +kernel
theorem d_X12_stand_28 : decode (gw_mC M_X12_stand) 28 = .ok (.sipush 144, 3) := by decide +kernel
theorem d_X12_stand_31 : decode (gw_mC M_X12_stand) 31 = .ok (.if_icmp .ge 79, 3) := by decide +kernel
theorem d_X12_stand_34 : decode (gw_mC M_X12_stand) 34 = .ok (.aload_n 0, 1) := by decide +kernel
theorem d_X12_stand_35 : decode (gw_mC M_X12_stand) 35 = .ok (.iload 5, 2) := by decide +kernel
theorem d_X12_stand_37 : decode (gw_mC M_X12_stand) 37 = .ok (.invokevirtual 297, 3) := by decide +kernel
theorem d_X12_stand_40 : decode (gw_mC M_X12_stand) 40 = .ok (.istore 6, 2) := by decide +kernel
theorem d_X12_stand_42 : decode (gw_mC M_X12_stand) 42 = .ok (.iload_n 2, 1) := by decide +kernel
theorem d_X12_stand_43 : decode (gw_mC M_X12_stand) 43 = .ok (.iload 6, 2) := by decide +kernel
theorem d_X12_stand_45 : decode (gw_mC M_X12_stand) 45 = .ok (.ifCond .lt 7, 3) := by decide +kernel
theorem d_X12_stand_48 : decode (gw_mC M_X12_stand) 48 = .ok (.iconst 1, 1) := by decide +kernel
theorem d_X12_stand_49 : decode (gw_mC M_X12_stand) 49 = .ok (.goto 4, 3) := by decide +kernel
theorem d_X12_stand_52 : decode (gw_mC M_X12_stand) 52 = .ok (.iconst 0, 1) := by decide +kernel
theorem d_X12_stand_53 : decode (gw_mC M_X12_stand) 53 = .ok (.iadd, 1) := by decide +kernel
theorem d_X12_stand_54 : decode (gw_mC M_X12_stand) 54 = .ok (.istore_n 2, 1) := by decide +kernel
theorem d_X12_stand_55 : decode (gw_mC M_X12_stand) 55 = .ok (.iload 6, 2) := by decide +kernel
theorem d_X12_stand_57 : decode (gw_mC M_X12_stand) 57 = .ok (.ifCond .lt 18, 3) := by decide +kernel
theorem d_X12_stand_60 : decode (gw_mC M_X12_stand) 60 = .ok (.iload_n 3, 1) := by decide +kernel
theorem d_X12_stand_61 : decode (gw_mC M_X12_stand) 61 = .ok (.ifCond .lt 10, 3) := by decide +kernel
theorem d_X12_stand_64 : decode (gw_mC M_X12_stand) 64 = .ok (.iload 6, 2) := by decide +kernel
theorem d_X12_stand_66 : decode (gw_mC M_X12_stand) 66 = .ok (.iload 4, 2) := by decide +kernel
theorem d_X12_stand_68 : decode (gw_mC M_X12_stand) 68 = .ok (.if_icmp .ge 7, 3) := by decide +kernel
theorem d_X12_stand_71 : decode (gw_mC M_X12_stand) 71 = .ok (.iconst 1, 1) := by decide +kernel
theorem d_X12_stand_72 : decode (gw_mC M_X12_stand) 72 = .ok (.goto 4, 3) := by decide +kernel
theorem d_X12_stand_75 : decode (gw_mC M_X12_stand) 75 = .ok (.iconst 0, 1) := by decide +kernel
theorem d_X12_stand_76 : decode (gw_mC M_X12_stand) 76 = .ok (.istore 7, 2) := by decide +kernel
theorem d_X12_stand_78 : decode (gw_mC M_X12_stand) 78 = .ok (.iload 7, 2) := by decide +kernel
theorem d_X12_stand_80 : decode (gw_mC M_X12_stand) 80 = .ok (.ifCond .eq 8, 3) := by decide +kernel
theorem d_X12_stand_83 : decode (gw_mC M_X12_stand) 83 = .ok (.iload 5, 2) := by decide +kernel
theorem d_X12_stand_85 : decode (gw_mC M_X12_stand) 85 = .ok (.goto 4, 3) := by decide +kernel
theorem d_X12_stand_88 : decode (gw_mC M_X12_stand) 88 = .ok (.iload_n 3, 1) := by decide +kernel
theorem d_X12_stand_89 : decode (gw_mC M_X12_stand) 89 = .ok (.istore_n 3, 1) := by decide +kernel
theorem d_X12_stand_90 : decode (gw_mC M_X12_stand) 90 = .ok (.iload 7, 2) := by decide +kernel
theorem d_X12_stand_92 : decode (gw_mC M_X12_stand) 92 = .ok (.ifCond .eq 8, 3) := by decide +kernel
theorem d_X12_stand_95 : decode (gw_mC M_X12_stand) 95 = .ok (.iload 6, 2) := by decide +kernel
theorem d_X12_stand_97 : decode (gw_mC M_X12_stand) 97 = .ok (.goto 5, 3) := by decide +kernel
theorem d_X12_stand_100 : decode (gw_mC M_X12_stand) 100 = .ok (.iload 4, 2) := by decide +kernel
theorem d_X12_stand_102 : decode (gw_mC M_X12_stand) 102 = .ok (.istore 4, 2) := by decide +kernel
theorem d_X12_stand_104 : decode (gw_mC M_X12_stand) 104 = .ok (.iinc 5 1, 3) := by decide +kernel
theorem d_X12_stand_107 : decode (gw_mC M_X12_stand) 107 = .ok (.goto (-81), 3) := by decide +kernel
theorem d_X12_stand_110 : decode (gw_mC M_X12_stand) 110 = .ok (.iload_n 1, 1) := by decide +kernel
theorem d_X12_stand_111 : decode (gw_mC M_X12_stand) 111 = .ok (.ifCond .ne 7, 3) := by decide +kernel
theorem d_X12_stand_114 : decode (gw_mC M_X12_stand) 114 = .ok (.iload_n 2, 1) := by decide +kernel
theorem d_X12_stand_115 : decode (gw_mC M_X12_stand) 115 = .ok (.goto 14, 3) := by decide +kernel
theorem d_X12_stand_118 : decode (gw_mC M_X12_stand) 118 = .ok (.iload_n 1, 1) := by decide +kernel
theorem d_X12_stand_119 : decode (gw_mC M_X12_stand) 119 = .ok (.iconst 1, 1) := by decide +kernel
theorem d_X12_stand_120 : decode (gw_mC M_X12_stand) 120 = .ok (.if_icmp .ne 7, 3) := by decide +kernel
theorem d_X12_stand_123 : decode (gw_mC M_X12_stand) 123 = .ok (.iload_n 3, 1) := by decide +kernel
theorem d_X12_stand_124 : decode (gw_mC M_X12_stand) 124 = .ok (.goto 5, 3) := by decide +kernel
theorem d_X12_stand_127 : decode (gw_mC M_X12_stand) 127 = .ok (.iload 4, 2) := by decide +kernel
theorem d_X12_stand_129 : decode (gw_mC M_X12_stand) 129 = .ok (.ireturn, 1) := by decide +kernel
theorem d_X12_meet_0 : decode (gw_mC M_X12_meet) 0 = .ok (.iconst 0, 1) := by decide +kernel
theorem d_X12_meet_1 : decode (gw_mC M_X12_meet) 1 = .ok (.istore 4, 2) := by decide +kernel
theorem d_X12_meet_3 : decode (gw_mC M_X12_meet) 3 = .ok (.iconst 0, 1) := by decide +kernel
theorem d_X12_meet_4 : decode (gw_mC M_X12_meet) 4 = .ok (.istore 5, 2) := by decide +kernel
theorem d_X12_meet_6 : decode (gw_mC M_X12_meet) 6 = .ok (.iload 5, 2) := by decide +kernel
theorem d_X12_meet_8 : decode (gw_mC M_X12_meet) 8 = .ok (.iload_n 2, 1) := by decide +kernel
theorem d_X12_meet_9 : decode (gw_mC M_X12_meet) 9 = .ok (.if_icmp .ge 20, 3) := by decide +kernel
theorem d_X12_meet_12 : decode (gw_mC M_X12_meet) 12 = .ok (.iload 4, 2) := by decide +kernel
theorem d_X12_meet_14 : decode (gw_mC M_X12_meet) 14 = .ok (.iload_n 0, 1) := by decide +kernel
theorem d_X12_meet_15 : decode (gw_mC M_X12_meet) 15 = .ok (.iconst 1, 1) := by decide +kernel
theorem d_X12_meet_16 : decode (gw_mC M_X12_meet) 16 = .ok (.isub, 1) := by decide +kernel
theorem d_X12_meet_17 : decode (gw_mC M_X12_meet) 17 = .ok (.iload 5, 2) := by decide +kernel
theorem d_X12_meet_19 : decode (gw_mC M_X12_meet) 19 = .ok (.isub, 1) := by decide +kernel
theorem d_X12_meet_20 : decode (gw_mC M_X12_meet) 20 = .ok (.iadd, 1) := by decide +kernel
theorem d_X12_meet_21 : decode (gw_mC M_X12_meet) 21 = .ok (.istore 4, 2) := by decide +kernel
theorem d_X12_meet_23 : decode (gw_mC M_X12_meet) 23 = .ok (.iinc 5 1, 3) := by decide +kernel
theorem d_X12_meet_26 : decode (gw_mC M_X12_meet) 26 = .ok (.goto (-20), 3) := by decide +kernel
theorem d_X12_meet_29 : decode (gw_mC M_X12_meet) 29 = .ok (.iload_n 1, 1) := by decide +kernel
theorem d_X12_meet_30 : decode (gw_mC M_X12_meet) 30 = .ok (.iload 4, 2) := by decide +kernel
theorem d_X12_meet_32 : decode (gw_mC M_X12_meet) 32 = .ok (.iload_n 3, 1) := by decide +kernel
theorem d_X12_meet_33 : decode (gw_mC M_X12_meet) 33 = .ok (.iadd, 1) := by decide +kernel
theorem d_X12_meet_34 : decode (gw_mC M_X12_meet) 34 = .ok (.iload_n 2, 1) := by decide +kernel
theorem d_X12_meet_35 : decode (gw_mC M_X12_meet) 35 = .ok (.isub, 1) := by decide +kernel
theorem d_X12_meet_36 : decode (gw_mC M_X12_meet) 36 = .ok (.iconst 1, 1) := by decide +kernel
theorem d_X12_meet_37 : decode (gw_mC M_X12_meet) 37 = .ok (.isub, 1) := by decide +kernel
theorem d_X12_meet_38 : decode (gw_mC M_X12_meet) 38 = .ok (.ishr, 1) := by decide +kernel
theorem d_X12_meet_39 : decode (gw_mC M_X12_meet) 39 = .ok (.iconst 1, 1) := by decide +kernel
theorem d_X12_meet_40 : decode (gw_mC M_X12_meet) 40 = .ok (.iand, 1) := by decide +kernel
theorem d_X12_meet_41 : decode (gw_mC M_X12_meet) 41 = .ok (.iconst 1, 1) := by decide +kernel
theorem d_X12_meet_42 : decode (gw_mC M_X12_meet) 42 = .ok (.if_icmp .ne 7, 3) := by decide +kernel
theorem d_X12_meet_45 : decode (gw_mC M_X12_meet) 45 = .ok (.iconst 1, 1) := by decide +kernel
theorem d_X12_meet_46 : decode (gw_mC M_X12_meet) 46 = .ok (.goto 4, 3) := by decide +kernel
theorem d_X12_meet_49 : decode (gw_mC M_X12_meet) 49 = .ok (.iconst 0, 1) := by decide +kernel
theorem d_X12_meet_50 : decode (gw_mC M_X12_meet) 50 = .ok (.ireturn, 1) := by decide +kernel
theorem d_X12_paints_0 : decode (gw_mC M_X12_paints) 0 = .ok (.iconst 0, 1) := by decide +kernel
theorem d_X12_paints_1 : decode (gw_mC M_X12_paints) 1 = .ok (.istore 4, 2) := by decide +kernel
theorem d_X12_paints_3 : decode (gw_mC M_X12_paints) 3 = .ok (.aload_n 0, 1) := by decide +kernel
theorem d_X12_paints_4 : decode (gw_mC M_X12_paints) 4 = .ok (.getfield 64, 3) := by decide +kernel
theorem d_X12_paints_7 : decode (gw_mC M_X12_paints) 7 = .ok (.iconst 0, 1) := by decide +kernel
theorem d_X12_paints_8 : decode (gw_mC M_X12_paints) 8 = .ok (.iconst (-1), 1) := by decide +kernel
theorem d_X12_paints_9 : decode (gw_mC M_X12_paints) 9 = .ok (.iastore, 1) := by decide +kernel
theorem d_X12_paints_10 : decode (gw_mC M_X12_paints) 10 = .ok (.iload 4, 2) := by decide +kernel
theorem d_X12_paints_12 : decode (gw_mC M_X12_paints) 12 = .ok (.ifCond .lt 137, 3) := by decide +kernel
theorem d_X12_paints_15 : decode (gw_mC M_X12_paints) 15 = .ok (.iload 4, 2) := by decide +kernel
theorem d_X12_paints_17 : decode (gw_mC M_X12_paints) 17 = .ok (.iload_n 1, 1) := by decide +kernel
theorem d_X12_paints_18 : decode (gw_mC M_X12_paints) 18 = .ok (.if_icmp .ge 131, 3) := by decide +kernel
theorem d_X12_paints_21 : decode (gw_mC M_X12_paints) 21 = .ok (.aload_n 0, 1) := by decide +kernel
theorem d_X12_paints_22 : decode (gw_mC M_X12_paints) 22 = .ok (.getfield 64, 3) := by decide +kernel
theorem d_X12_paints_25 : decode (gw_mC M_X12_paints) 25 = .ok (.iload 4, 2) := by decide +kernel
theorem d_X12_paints_27 : decode (gw_mC M_X12_paints) 27 = .ok (.dup2, 1) := by decide +kernel
theorem d_X12_paints_28 : decode (gw_mC M_X12_paints) 28 = .ok (.iaload, 1) := by decide +kernel
theorem d_X12_paints_29 : decode (gw_mC M_X12_paints) 29 = .ok (.iconst 1, 1) := by decide +kernel
theorem d_X12_paints_30 : decode (gw_mC M_X12_paints) 30 = .ok (.iadd, 1) := by decide +kernel
theorem d_X12_paints_31 : decode (gw_mC M_X12_paints) 31 = .ok (.iastore, 1) := by decide +kernel
theorem d_X12_paints_32 : decode (gw_mC M_X12_paints) 32 = .ok (.aload_n 0, 1) := by decide +kernel
theorem d_X12_paints_33 : decode (gw_mC M_X12_paints) 33 = .ok (.getfield 64, 3) := by decide +kernel
theorem d_X12_paints_36 : decode (gw_mC M_X12_paints) 36 = .ok (.iload 4, 2) := by decide +kernel
theorem d_X12_paints_38 : decode (gw_mC M_X12_paints) 38 = .ok (.iaload, 1) := by decide +kernel
theorem d_X12_paints_39 : decode (gw_mC M_X12_paints) 39 = .ok (.iload_n 3, 1) := by decide +kernel
theorem d_X12_paints_40 : decode (gw_mC M_X12_paints) 40 = .ok (.if_icmp .ge 7, 3) := by decide +kernel
theorem d_X12_paints_43 : decode (gw_mC M_X12_paints) 43 = .ok (.iconst 1, 1) := by decide +kernel
theorem d_X12_paints_44 : decode (gw_mC M_X12_paints) 44 = .ok (.goto 4, 3) := by decide +kernel
theorem d_X12_paints_47 : decode (gw_mC M_X12_paints) 47 = .ok (.iconst 0, 1) := by decide +kernel
theorem d_X12_paints_48 : decode (gw_mC M_X12_paints) 48 = .ok (.istore 5, 2) := by decide +kernel
theorem d_X12_paints_50 : decode (gw_mC M_X12_paints) 50 = .ok (.iconst 0, 1) := by decide +kernel
theorem d_X12_paints_51 : decode (gw_mC M_X12_paints) 51 = .ok (.istore 6, 2) := by decide +kernel
theorem d_X12_paints_53 : decode (gw_mC M_X12_paints) 53 = .ok (.iload 6, 2) := by decide +kernel
theorem d_X12_paints_55 : decode (gw_mC M_X12_paints) 55 = .ok (.iload 4, 2) := by decide +kernel
theorem d_X12_paints_57 : decode (gw_mC M_X12_paints) 57 = .ok (.if_icmp .ge 50, 3) := by decide +kernel
theorem d_X12_paints_60 : decode (gw_mC M_X12_paints) 60 = .ok (.iload 5, 2) := by decide +kernel
theorem d_X12_paints_62 : decode (gw_mC M_X12_paints) 62 = .ok (.ifCond .eq 45, 3) := by decide +kernel
theorem d_X12_paints_65 : decode (gw_mC M_X12_paints) 65 = .ok (.iload_n 1, 1) := by decide +kernel
theorem d_X12_paints_66 : decode (gw_mC M_X12_paints) 66 = .ok (.iload_n 2, 1) := by decide +kernel
theorem d_X12_paints_67 : decode (gw_mC M_X12_paints) 67 = .ok (.iload 6, 2) := by decide +kernel
theorem d_X12_paints_69 : decode (gw_mC M_X12_paints) 69 = .ok (.iload 4, 2) := by decide +kernel
theorem d_X12_paints_71 : decode (gw_mC M_X12_paints) 71 = .ok (.invokestatic 300, 3) := by decide +kernel
theorem d_X12_paints_74 : decode (gw_mC M_X12_paints) 74 = .ok (.ifCond .eq 20, 3) := by decide +kernel
theorem d_X12_paints_77 : decode (gw_mC M_X12_paints) 77 = .ok (.aload_n 0, 1) := by decide +kernel
theorem d_X12_paints_78 : decode (gw_mC M_X12_paints) 78 = .ok (.getfield 64, 3) := by decide +kernel
theorem d_X12_paints_81 : decode (gw_mC M_X12_paints) 81 = .ok (.iload 6, 2) := by decide +kernel
theorem d_X12_paints_83 : decode (gw_mC M_X12_paints) 83 = .ok (.iaload, 1) := by decide +kernel
theorem d_X12_paints_84 : decode (gw_mC M_X12_paints) 84 = .ok (.aload_n 0, 1) := by decide +kernel
theorem d_X12_paints_85 : decode (gw_mC M_X12_paints) 85 = .ok (.getfield 64, 3) := by decide +kernel
theorem d_X12_paints_88 : decode (gw_mC M_X12_paints) 88 = .ok (.iload 4, 2) := by decide +kernel
theorem d_X12_paints_90 : decode (gw_mC M_X12_paints) 90 = .ok (.iaload, 1) := by decide +kernel
theorem d_X12_paints_91 : decode (gw_mC M_X12_paints) 91 = .ok (.if_icmp .eq 7, 3) := by decide +kernel
theorem d_X12_paints_94 : decode (gw_mC M_X12_paints) 94 = .ok (.iconst 1, 1) := by decide +kernel
theorem d_X12_paints_95 : decode (gw_mC M_X12_paints) 95 = .ok (.goto 4, 3) := by decide +kernel
theorem d_X12_paints_98 : decode (gw_mC M_X12_paints) 98 = .ok (.iconst 0, 1) := by decide +kernel
theorem d_X12_paints_99 : decode (gw_mC M_X12_paints) 99 = .ok (.istore 5, 2) := by decide +kernel
theorem d_X12_paints_101 : decode (gw_mC M_X12_paints) 101 = .ok (.iinc 6 1, 3) := by decide +kernel
theorem d_X12_paints_104 : decode (gw_mC M_X12_paints) 104 = .ok (.goto (-51), 3) := by decide +kernel
theorem d_X12_paints_107 : decode (gw_mC M_X12_paints) 107 = .ok (.iload 5, 2) := by decide +kernel
theorem d_X12_paints_109 : decode (gw_mC M_X12_paints) 109 = .ok (.ifCond .eq 23, 3) := by decide +kernel
theorem d_X12_paints_112 : decode (gw_mC M_X12_paints) 112 = .ok (.iinc 4 1, 3) := by decide +kernel
theorem d_X12_paints_115 : decode (gw_mC M_X12_paints) 115 = .ok (.iload 4, 2) := by decide +kernel
theorem d_X12_paints_117 : decode (gw_mC M_X12_paints) 117 = .ok (.iload_n 1, 1) := by decide +kernel
theorem d_X12_paints_118 : decode (gw_mC M_X12_paints) 118 = .ok (.if_icmp .ge 28, 3) := by decide +kernel
theorem d_X12_paints_121 : decode (gw_mC M_X12_paints) 121 = .ok (.aload_n 0, 1) := by decide +kernel
theorem d_X12_paints_122 : decode (gw_mC M_X12_paints) 122 = .ok (.getfield 64, 3) := by decide +kernel
theorem d_X12_paints_125 : decode (gw_mC M_X12_paints) 125 = .ok (.iload 4, 2) := by decide +kernel
theorem d_X12_paints_127 : decode (gw_mC M_X12_paints) 127 = .ok (.iconst (-1), 1) := by decide +kernel
theorem d_X12_paints_128 : decode (gw_mC M_X12_paints) 128 = .ok (.iastore, 1) := by decide +kernel
theorem d_X12_paints_129 : decode (gw_mC M_X12_paints) 129 = .ok (.goto 17, 3) := by decide +kernel
theorem d_X12_paints_132 : decode (gw_mC M_X12_paints) 132 = .ok (.aload_n 0, 1) := by decide +kernel
theorem d_X12_paints_133 : decode (gw_mC M_X12_paints) 133 = .ok (.getfield 64, 3) := by decide +kernel
theorem d_X12_paints_136 : decode (gw_mC M_X12_paints) 136 = .ok (.iload 4, 2) := by decide +kernel
theorem d_X12_paints_138 : decode (gw_mC M_X12_paints) 138 = .ok (.iaload, 1) := by decide +kernel
theorem d_X12_paints_139 : decode (gw_mC M_X12_paints) 139 = .ok (.iload_n 3, 1) := by decide +kernel
theorem d_X12_paints_140 : decode (gw_mC M_X12_paints) 140 = .ok (.if_icmp .lt 6, 3) := by decide +kernel
theorem d_X12_paints_143 : decode (gw_mC M_X12_paints) 143 = .ok (.iinc 4 (-1), 3) := by decide +kernel
theorem d_X12_paints_146 : decode (gw_mC M_X12_paints) 146 = .ok (.goto (-136), 3) := by decide +kernel
theorem d_X12_paints_149 : decode (gw_mC M_X12_paints) 149 = .ok (.iload 4, 2) := by decide +kernel
theorem d_X12_paints_151 : decode (gw_mC M_X12_paints) 151 = .ok (.iload_n 1, 1) := by decide +kernel
theorem d_X12_paints_152 : decode (gw_mC M_X12_paints) 152 = .ok (.if_icmp .ne 7, 3) := by decide +kernel
theorem d_X12_paints_155 : decode (gw_mC M_X12_paints) 155 = .ok (.iconst 1, 1) := by decide +kernel
theorem d_X12_paints_156 : decode (gw_mC M_X12_paints) 156 = .ok (.goto 4, 3) := by decide +kernel
theorem d_X12_paints_159 : decode (gw_mC M_X12_paints) 159 = .ok (.iconst 0, 1) := by decide +kernel
theorem d_X12_paints_160 : decode (gw_mC M_X12_paints) 160 = .ok (.ireturn, 1) := by decide +kernel
theorem d_X12_colours_0 : decode (gw_mC M_X12_colours) 0 = .ok (.iload_n 1, 1) := by decide +kernel
theorem d_X12_colours_1 : decode (gw_mC M_X12_colours) 1 = .ok (.i2l, 1) := by decide +kernel
theorem d_X12_colours_2 : decode (gw_mC M_X12_colours) 2 = .ok (.lconst 1, 1) := by decide +kernel
theorem d_X12_colours_3 : decode (gw_mC M_X12_colours) 3 = .ok (.ldc2_w 143, 3) := by decide +kernel
theorem d_X12_colours_6 : decode (gw_mC M_X12_colours) 6 = .ok (.invokestatic 98, 3) := by decide +kernel
theorem d_X12_colours_9 : decode (gw_mC M_X12_colours) 9 = .ok (.ifCond .eq 39, 3) := by decide +kernel
theorem d_X12_colours_12 : decode (gw_mC M_X12_colours) 12 = .ok (.iload_n 2, 1) := by decide +kernel
theorem d_X12_colours_13 : decode (gw_mC M_X12_colours) 13 = .ok (.i2l, 1) := by decide +kernel
theorem d_X12_colours_14 : decode (gw_mC M_X12_colours) 14 = .ok (.lconst 0, 1) := by decide +kernel
theorem d_X12_colours_15 : decode (gw_mC M_X12_colours) 15 = .ok (.iconst 1, 1) := by decide +kernel
theorem d_X12_colours_16 : decode (gw_mC M_X12_colours) 16 = .ok (.iload_n 1, 1) := by decide +kernel
theorem d_X12_colours_17 : decode (gw_mC M_X12_colours) 17 = .ok (.iload_n 1, 1) := by decide +kernel
theorem d_X12_colours_18 : decode (gw_mC M_X12_colours) 18 = .ok (.iconst 1, 1) := by decide +kernel
theorem d_X12_colours_19 : decode (gw_mC M_X12_colours) 19 = .ok (.isub, 1) := by decide +kernel
theorem d_X12_colours_20 : decode (gw_mC M_X12_colours) 20 = .ok (.imul, 1) := by decide +kernel
theorem d_X12_colours_21 : decode (gw_mC M_X12_colours) 21 = .ok (.iconst 2, 1) := by decide +kernel
theorem d_X12_colours_22 : decode (gw_mC M_X12_colours) 22 = .ok (.idiv, 1) := by decide +kernel
theorem d_X12_colours_23 : decode (gw_mC M_X12_colours) 23 = .ok (.ishl, 1) := by decide +kernel
theorem d_X12_colours_24 : decode (gw_mC M_X12_colours) 24 = .ok (.iconst 1, 1) := by decide +kernel
theorem d_X12_colours_25 : decode (gw_mC M_X12_colours) 25 = .ok (.isub, 1) := by decide +kernel
theorem d_X12_colours_26 : decode (gw_mC M_X12_colours) 26 = .ok (.i2l, 1) := by decide +kernel
theorem d_X12_colours_27 : decode (gw_mC M_X12_colours) 27 = .ok (.invokestatic 98, 3) := by decide +kernel
theorem d_X12_colours_30 : decode (gw_mC M_X12_colours) 30 = .ok (.ifCond .eq 18, 3) := by decide +kernel
theorem d_X12_colours_33 : decode (gw_mC M_X12_colours) 33 = .ok (.iload_n 3, 1) := by decide +kernel
theorem d_X12_colours_34 : decode (gw_mC M_X12_colours) 34 = .ok (.i2l, 1) := by decide +kernel
theorem d_X12_colours_35 : decode (gw_mC M_X12_colours) 35 = .ok (.ldc2_w 304, 3) := by decide +kernel
theorem d_X12_colours_38 : decode (gw_mC M_X12_colours) 38 = .ok (.iload_n 1, 1) := by decide +kernel
theorem d_X12_colours_39 : decode (gw_mC M_X12_colours) 39 = .ok (.iconst 1, 1) := by decide +kernel
theorem d_X12_colours_40 : decode (gw_mC M_X12_colours) 40 = .ok (.isub, 1) := by decide +kernel
theorem d_X12_colours_41 : decode (gw_mC M_X12_colours) 41 = .ok (.i2l, 1) := by decide +kernel
theorem d_X12_colours_42 : decode (gw_mC M_X12_colours) 42 = .ok (.invokestatic 98, 3) := by decide +kernel
theorem d_X12_colours_45 : decode (gw_mC M_X12_colours) 45 = .ok (.ifCond .ne 5, 3) := by decide +kernel
theorem d_X12_colours_48 : decode (gw_mC M_X12_colours) 48 = .ok (.iconst (-1), 1) := by decide +kernel
theorem d_X12_colours_49 : decode (gw_mC M_X12_colours) 49 = .ok (.ireturn, 1) := by decide +kernel
theorem d_X12_colours_50 : decode (gw_mC M_X12_colours) 50 = .ok (.iconst 1, 1) := by decide +kernel
theorem d_X12_colours_51 : decode (gw_mC M_X12_colours) 51 = .ok (.istore 4, 2) := by decide +kernel
theorem d_X12_colours_53 : decode (gw_mC M_X12_colours) 53 = .ok (.aload_n 0, 1) := by decide +kernel
theorem d_X12_colours_54 : decode (gw_mC M_X12_colours) 54 = .ok (.iload_n 1, 1) := by decide +kernel
theorem d_X12_colours_55 : decode (gw_mC M_X12_colours) 55 = .ok (.iload_n 2, 1) := by decide +kernel
theorem d_X12_colours_56 : decode (gw_mC M_X12_colours) 56 = .ok (.iload 4, 2) := by decide +kernel
theorem d_X12_colours_58 : decode (gw_mC M_X12_colours) 58 = .ok (.invokevirtual 306, 3) := by decide +kernel
theorem d_X12_colours_61 : decode (gw_mC M_X12_colours) 61 = .ok (.ifCond .ne 9, 3) := by decide +kernel
theorem d_X12_colours_64 : decode (gw_mC M_X12_colours) 64 = .ok (.iinc 4 1, 3) := by decide +kernel
theorem d_X12_colours_67 : decode (gw_mC M_X12_colours) 67 = .ok (.goto (-14), 3) := by decide +kernel
theorem d_X12_colours_70 : decode (gw_mC M_X12_colours) 70 = .ok (.iload_n 3, 1) := by decide +kernel
theorem d_X12_colours_71 : decode (gw_mC M_X12_colours) 71 = .ok (.ifCond .ge 8, 3) := by decide +kernel
theorem d_X12_colours_74 : decode (gw_mC M_X12_colours) 74 = .ok (.iload 4, 2) := by decide +kernel
theorem d_X12_colours_76 : decode (gw_mC M_X12_colours) 76 = .ok (.goto 9, 3) := by decide +kernel
theorem d_X12_colours_79 : decode (gw_mC M_X12_colours) 79 = .ok (.aload_n 0, 1) := by decide +kernel
theorem d_X12_colours_80 : decode (gw_mC M_X12_colours) 80 = .ok (.getfield 64, 3) := by decide +kernel
theorem d_X12_colours_83 : decode (gw_mC M_X12_colours) 83 = .ok (.iload_n 3, 1) := by decide +kernel
theorem d_X12_colours_84 : decode (gw_mC M_X12_colours) 84 = .ok (.iaload, 1) := by decide +kernel
theorem d_X12_colours_85 : decode (gw_mC M_X12_colours) 85 = .ok (.ireturn, 1) := by decide +kernel
theorem d_X12_lay_0 : decode (gw_mC M_X12_lay) 0 = .ok (.iconst 0, 1) := by decide +kernel
theorem d_X12_lay_1 : decode (gw_mC M_X12_lay) 1 = .ok (.istore_n 3, 1) := by decide +kernel
theorem d_X12_lay_2 : decode (gw_mC M_X12_lay) 2 = .ok (.iload_n 3, 1) := by decide +kernel
theorem d_X12_lay_3 : decode (gw_mC M_X12_lay) 3 = .ok (.aload_n 1, 1) := by decide +kernel
theorem d_X12_lay_4 : decode (gw_mC M_X12_lay) 4 = .ok (.arraylength, 1) := by decide +kernel
theorem d_X12_lay_5 : decode (gw_mC M_X12_lay) 5 = .ok (.if_icmp .ge 20, 3) := by decide +kernel
theorem d_X12_lay_8 : decode (gw_mC M_X12_lay) 8 = .ok (.aload_n 0, 1) := by decide +kernel
theorem d_X12_lay_9 : decode (gw_mC M_X12_lay) 9 = .ok (.getfield 67, 3) := by decide +kernel
theorem d_X12_lay_12 : decode (gw_mC M_X12_lay) 12 = .ok (.iload_n 2, 1) := by decide +kernel
theorem d_X12_lay_13 : decode (gw_mC M_X12_lay) 13 = .ok (.iload_n 3, 1) := by decide +kernel
theorem d_X12_lay_14 : decode (gw_mC M_X12_lay) 14 = .ok (.iadd, 1) := by decide +kernel
theorem d_X12_lay_15 : decode (gw_mC M_X12_lay) 15 = .ok (.aload_n 1, 1) := by decide +kernel
theorem d_X12_lay_16 : decode (gw_mC M_X12_lay) 16 = .ok (.iload_n 3, 1) := by decide +kernel
theorem d_X12_lay_17 : decode (gw_mC M_X12_lay) 17 = .ok (.iaload, 1) := by decide +kernel
theorem d_X12_lay_18 : decode (gw_mC M_X12_lay) 18 = .ok (.iastore, 1) := by decide +kernel
theorem d_X12_lay_19 : decode (gw_mC M_X12_lay) 19 = .ok (.iinc 3 1, 3) := by decide +kernel
theorem d_X12_lay_22 : decode (gw_mC M_X12_lay) 22 = .ok (.goto (-20), 3) := by decide +kernel
theorem d_X12_lay_25 : decode (gw_mC M_X12_lay) 25 = .ok (.iload_n 2, 1) := by decide +kernel
theorem d_X12_lay_26 : decode (gw_mC M_X12_lay) 26 = .ok (.aload_n 1, 1) := by decide +kernel
theorem d_X12_lay_27 : decode (gw_mC M_X12_lay) 27 = .ok (.arraylength, 1) := by decide +kernel
theorem d_X12_lay_28 : decode (gw_mC M_X12_lay) 28 = .ok (.iadd, 1) := by decide +kernel
theorem d_X12_lay_29 : decode (gw_mC M_X12_lay) 29 = .ok (.ireturn, 1) := by decide +kernel
theorem d_X12_gives_0 : decode (gw_mC M_X12_gives) 0 = .ok (.iconst 0, 1) := by decide +kernel
theorem d_X12_gives_1 : decode (gw_mC M_X12_gives) 1 = .ok (.istore_n 3, 1) := by decide +kernel
theorem d_X12_gives_2 : decode (gw_mC M_X12_gives) 2 = .ok (.iload_n 3, 1) := by decide +kernel
theorem d_X12_gives_3 : decode (gw_mC M_X12_gives) 3 = .ok (.aload_n 2, 1) := by decide +kernel
theorem d_X12_gives_4 : decode (gw_mC M_X12_gives) 4 = .ok (.arraylength, 1) := by decide +kernel
theorem d_X12_gives_5 : decode (gw_mC M_X12_gives) 5 = .ok (.if_icmp .ge 20, 3) := by decide +kernel
theorem d_X12_gives_8 : decode (gw_mC M_X12_gives) 8 = .ok (.aload_n 2, 1) := by decide +kernel
theorem d_X12_gives_9 : decode (gw_mC M_X12_gives) 9 = .ok (.iload_n 3, 1) := by decide +kernel
theorem d_X12_gives_10 : decode (gw_mC M_X12_gives) 10 = .ok (.aload_n 0, 1) := by decide +kernel
theorem d_X12_gives_11 : decode (gw_mC M_X12_gives) 11 = .ok (.getfield 67, 3) := by decide +kernel
theorem d_X12_gives_14 : decode (gw_mC M_X12_gives) 14 = .ok (.iload_n 1, 1) := by decide +kernel
theorem d_X12_gives_15 : decode (gw_mC M_X12_gives) 15 = .ok (.iload_n 3, 1) := by decide +kernel
theorem d_X12_gives_16 : decode (gw_mC M_X12_gives) 16 = .ok (.iadd, 1) := by decide +kernel
theorem d_X12_gives_17 : decode (gw_mC M_X12_gives) 17 = .ok (.iaload, 1) := by decide +kernel
theorem d_X12_gives_18 : decode (gw_mC M_X12_gives) 18 = .ok (.iastore, 1) := by decide +kernel
theorem d_X12_gives_19 : decode (gw_mC M_X12_gives) 19 = .ok (.iinc 3 1, 3) := by decide +kernel
theorem d_X12_gives_22 : decode (gw_mC M_X12_gives) 22 = .ok (.goto (-20), 3) := by decide +kernel
theorem d_X12_gives_25 : decode (gw_mC M_X12_gives) 25 = .ok (.iload_n 1, 1) := by decide +kernel
theorem d_X12_gives_26 : decode (gw_mC M_X12_gives) 26 = .ok (.aload_n 2, 1) := by decide +kernel
theorem d_X12_gives_27 : decode (gw_mC M_X12_gives) 27 = .ok (.arraylength, 1) := by decide +kernel
theorem d_X12_gives_28 : decode (gw_mC M_X12_gives) 28 = .ok (.iadd, 1) := by decide +kernel
theorem d_X12_gives_29 : decode (gw_mC M_X12_gives) 29 = .ok (.ireturn, 1) := by decide +kernel
theorem d_X12_image_0 : decode (gw_mC M_X12_image) 0 = .ok (.aload_n 0, 1) := by decide +kernel
theorem d_X12_image_1 : decode (gw_mC M_X12_image) 1 = .ok (.aload_n 0, 1) := by decide +kernel
theorem d_X12_image_2 : decode (gw_mC M_X12_image) 2 = .ok (.getfield 7, 3) := by decide +kernel
theorem d_X12_image_5 : decode (gw_mC M_X12_image) 5 = .ok (.iconst 0, 1) := by decide +kernel
theorem d_X12_image_6 : decode (gw_mC M_X12_image) 6 = .ok (.invokevirtual 309, 3) := by decide +kernel
theorem d_X12_image_9 : decode (gw_mC M_X12_image) 9 = .ok (.istore_n 1, 1) := by decide +kernel
theorem d_X12_image_10 : decode (gw_mC M_X12_image) 10 = .ok (.aload_n 0, 1) := by decide +kernel
theorem d_X12_image_11 : decode (gw_mC M_X12_image) 11 = .ok (.aload_n 0, 1) := by decide +kernel
theorem d_X12_image_12 : decode (gw_mC M_X12_image) 12 = .ok (.getfield 13, 3) := by decide +kernel
theorem d_X12_image_15 : decode (gw_mC M_X12_image) 15 = .ok (.iload_n 1, 1) := by decide +kernel
theorem d_X12_image_16 : decode (gw_mC M_X12_image) 16 = .ok (.invokevirtual 309, 3) := by decide +kernel
theorem d_X12_image_19 : decode (gw_mC M_X12_image) 19 = .ok (.istore_n 1, 1) := by decide +kernel
theorem d_X12_image_20 : decode (gw_mC M_X12_image) 20 = .ok (.aload_n 0, 1) := by decide +kernel
theorem d_X12_image_21 : decode (gw_mC M_X12_image) 21 = .ok (.aload_n 0, 1) := by decide +kernel
theorem d_X12_image_22 : decode (gw_mC M_X12_image) 22 = .ok (.getfield 16, 3) := by decide +kernel
theorem d_X12_image_25 : decode (gw_mC M_X12_image) 25 = .ok (.iload_n 1, 1) := by decide +kernel
theorem d_X12_image_26 : decode (gw_mC M_X12_image) 26 = .ok (.invokevirtual 309, 3) := by decide +kernel
theorem d_X12_image_29 : decode (gw_mC M_X12_image) 29 = .ok (.istore_n 1, 1) := by decide +kernel
theorem d_X12_image_30 : decode (gw_mC M_X12_image) 30 = .ok (.aload_n 0, 1) := by decide +kernel
theorem d_X12_image_31 : decode (gw_mC M_X12_image) 31 = .ok (.aload_n 0, 1) := by decide +kernel
theorem d_X12_image_32 : decode (gw_mC M_X12_image) 32 = .ok (.getfield 19, 3) := by decide +kernel
theorem d_X12_image_35 : decode (gw_mC M_X12_image) 35 = .ok (.iload_n 1, 1) := by decide +kernel
theorem d_X12_image_36 : decode (gw_mC M_X12_image) 36 = .ok (.invokevirtual 309, 3) := by decide +kernel
theorem d_X12_image_39 : decode (gw_mC M_X12_image) 39 = .ok (.istore_n 1, 1) := by decide +kernel
theorem d_X12_image_40 : decode (gw_mC M_X12_image) 40 = .ok (.aload_n 0, 1) := by decide +kernel
theorem d_X12_image_41 : decode (gw_mC M_X12_image) 41 = .ok (.aload_n 0, 1) := by decide +kernel
theorem d_X12_image_42 : decode (gw_mC M_X12_image) 42 = .ok (.getfield 22, 3) := by decide +kernel
theorem d_X12_image_45 : decode (gw_mC M_X12_image) 45 = .ok (.iload_n 1, 1) := by decide +kernel
theorem d_X12_image_46 : decode (gw_mC M_X12_image) 46 = .ok (.invokevirtual 309, 3) := by decide +kernel
theorem d_X12_image_49 : decode (gw_mC M_X12_image) 49 = .ok (.istore_n 1, 1) := by decide +kernel
theorem d_X12_image_50 : decode (gw_mC M_X12_image) 50 = .ok (.aload_n 0, 1) := by decide +kernel
theorem d_X12_image_51 : decode (gw_mC M_X12_image) 51 = .ok (.aload_n 0, 1) := by decide +kernel
theorem d_X12_image_52 : decode (gw_mC M_X12_image) 52 = .ok (.getfield 25, 3) := by decide +kernel
theorem d_X12_image_55 : decode (gw_mC M_X12_image) 55 = .ok (.iload_n 1, 1) := by decide +kernel
theorem d_X12_image_56 : decode (gw_mC M_X12_image) 56 = .ok (.invokevirtual 309, 3) := by decide +kernel
theorem d_X12_image_59 : decode (gw_mC M_X12_image) 59 = .ok (.istore_n 1, 1) := by decide +kernel
theorem d_X12_image_60 : decode (gw_mC M_X12_image) 60 = .ok (.aload_n 0, 1) := by decide +kernel
theorem d_X12_image_61 : decode (gw_mC M_X12_image) 61 = .ok (.aload_n 0, 1) := by decide +kernel
theorem d_X12_image_62 : decode (gw_mC M_X12_image) 62 = .ok (.getfield 28, 3) := by decide +kernel
theorem d_X12_image_65 : decode (gw_mC M_X12_image) 65 = .ok (.iload_n 1, 1) := by decide +kernel
theorem d_X12_image_66 : decode (gw_mC M_X12_image) 66 = .ok (.invokevirtual 309, 3) := by decide +kernel
theorem d_X12_image_69 : decode (gw_mC M_X12_image) 69 = .ok (.istore_n 1, 1) := by decide +kernel
theorem d_X12_image_70 : decode (gw_mC M_X12_image) 70 = .ok (.aload_n 0, 1) := by decide +kernel
theorem d_X12_image_71 : decode (gw_mC M_X12_image) 71 = .ok (.aload_n 0, 1) := by decide +kernel
theorem d_X12_image_72 : decode (gw_mC M_X12_image) 72 = .ok (.getfield 31, 3) := by decide +kernel
theorem d_X12_image_75 : decode (gw_mC M_X12_image) 75 = .ok (.iload_n 1, 1) := by decide +kernel
theorem d_X12_image_76 : decode (gw_mC M_X12_image) 76 = .ok (.invokevirtual 309, 3) := by decide +kernel
theorem d_X12_image_79 : decode (gw_mC M_X12_image) 79 = .ok (.istore_n 1, 1) := by decide +kernel
theorem d_X12_image_80 : decode (gw_mC M_X12_image) 80 = .ok (.aload_n 0, 1) := by decide +kernel
theorem d_X12_image_81 : decode (gw_mC M_X12_image) 81 = .ok (.aload_n 0, 1) := by decide +kernel
theorem d_X12_image_82 : decode (gw_mC M_X12_image) 82 = .ok (.getfield 34, 3) := by decide +kernel
theorem d_X12_image_85 : decode (gw_mC M_X12_image) 85 = .ok (.iload_n 1, 1) := by decide +kernel
theorem d_X12_image_86 : decode (gw_mC M_X12_image) 86 = .ok (.invokevirtual 309, 3) := by decide +kernel
theorem d_X12_image_89 : decode (gw_mC M_X12_image) 89 = .ok (.istore_n 1, 1) := by decide +kernel
theorem d_X12_image_90 : decode (gw_mC M_X12_image) 90 = .ok (.aload_n 0, 1) := by decide +kernel
theorem d_X12_image_91 : decode (gw_mC M_X12_image) 91 = .ok (.getfield 67, 3) := by decide +kernel
theorem d_X12_image_94 : decode (gw_mC M_X12_image) 94 = .ok (.iload_n 1, 1) := by decide +kernel
theorem d_X12_image_95 : decode (gw_mC M_X12_image) 95 = .ok (.aload_n 0, 1) := by decide +kernel
theorem d_X12_image_96 : decode (gw_mC M_X12_image) 96 = .ok (.getfield 88, 3) := by decide +kernel
theorem d_X12_image_99 : decode (gw_mC M_X12_image) 99 = .ok (.iastore, 1) := by decide +kernel
theorem d_X12_image_100 : decode (gw_mC M_X12_image) 100 = .ok (.aload_n 0, 1) := by decide +kernel
theorem d_X12_image_101 : decode (gw_mC M_X12_image) 101 = .ok (.getfield 67, 3) := by decide +kernel
theorem d_X12_image_104 : decode (gw_mC M_X12_image) 104 = .ok (.iload_n 1, 1) := by decide +kernel
theorem d_X12_image_105 : decode (gw_mC M_X12_image) 105 = .ok (.iconst 1, 1) := by decide +kernel
theorem d_X12_image_106 : decode (gw_mC M_X12_image) 106 = .ok (.iadd, 1) := by decide +kernel
theorem d_X12_image_107 : decode (gw_mC M_X12_image) 107 = .ok (.aload_n 0, 1) := by decide +kernel
theorem d_X12_image_108 : decode (gw_mC M_X12_image) 108 = .ok (.getfield 120, 3) := by decide +kernel
theorem d_X12_image_111 : decode (gw_mC M_X12_image) 111 = .ok (.iastore, 1) := by decide +kernel
theorem d_X12_image_112 : decode (gw_mC M_X12_image) 112 = .ok (.aload_n 0, 1) := by decide +kernel
theorem d_X12_image_113 : decode (gw_mC M_X12_image) 113 = .ok (.iconst 1, 1) := by decide +kernel
theorem d_X12_image_114 : decode (gw_mC M_X12_image) 114 = .ok (.putfield 313, 3) := by decide +kernel
theorem d_X12_image_117 : decode (gw_mC M_X12_image) 117 = .ok (.iconst 1, 1) := by decide +kernel
theorem d_X12_image_118 : decode (gw_mC M_X12_image) 118 = .ok (.ireturn, 1) := by decide +kernel
theorem d_X12_restore_0 : decode (gw_mC M_X12_restore) 0 = .ok (.aload_n 0, 1) := by decide +kernel
theorem d_X12_restore_1 : decode (gw_mC M_X12_restore) 1 = .ok (.getfield 313, 3) := by decide +kernel
theorem d_X12_restore_4 : decode (gw_mC M_X12_restore) 4 = .ok (.ifCond .ne 6, 3) := by decide +kernel
theorem d_X12_restore_7 : decode (gw_mC M_X12_restore) 7 = .ok (.bipush (-4), 2) := by decide +kernel
theorem d_X12_restore_9 : decode (gw_mC M_X12_restore) 9 = .ok (.ireturn, 1) := by decide +kernel
theorem d_X12_restore_10 : decode (gw_mC M_X12_restore) 10 = .ok (.aload_n 0, 1) := by decide +kernel
theorem d_X12_restore_11 : decode (gw_mC M_X12_restore) 11 = .ok (.iconst 0, 1) := by decide +kernel
theorem d_X12_restore_12 : decode (gw_mC M_X12_restore) 12 = .ok (.aload_n 0, 1) := by decide +kernel
theorem d_X12_restore_13 : decode (gw_mC M_X12_restore) 13 = .ok (.getfield 7, 3) := by decide +kernel
theorem d_X12_restore_16 : decode (gw_mC M_X12_restore) 16 = .ok (.invokevirtual 316, 3) := by decide +kernel
theorem d_X12_restore_19 : decode (gw_mC M_X12_restore) 19 = .ok (.istore_n 1, 1) := by decide +kernel
theorem d_X12_restore_20 : decode (gw_mC M_X12_restore) 20 = .ok (.aload_n 0, 1) := by decide +kernel
theorem d_X12_restore_21 : decode (gw_mC M_X12_restore) 21 = .ok (.iload_n 1, 1) := by decide +kernel
theorem d_X12_restore_22 : decode (gw_mC M_X12_restore) 22 = .ok (.aload_n 0, 1) := by decide +kernel
theorem d_X12_restore_23 : decode (gw_mC M_X12_restore) 23 = .ok (.getfield 13, 3) := by decide +kernel
theorem d_X12_restore_26 : decode (gw_mC M_X12_restore) 26 = .ok (.invokevirtual 316, 3) := by decide +kernel
theorem d_X12_restore_29 : decode (gw_mC M_X12_restore) 29 = .ok (.istore_n 1, 1) := by decide +kernel
theorem d_X12_restore_30 : decode (gw_mC M_X12_restore) 30 = .ok (.aload_n 0, 1) := by decide +kernel
theorem d_X12_restore_31 : decode (gw_mC M_X12_restore) 31 = .ok (.iload_n 1, 1) := by decide +kernel
theorem d_X12_restore_32 : decode (gw_mC M_X12_restore) 32 = .ok (.aload_n 0, 1) := by decide +kernel
theorem d_X12_restore_33 : decode (gw_mC M_X12_restore) 33 = .ok (.getfield 16, 3) := by decide +kernel
theorem d_X12_restore_36 : decode (gw_mC M_X12_restore) 36 = .ok (.invokevirtual 316, 3) := by decide +kernel
theorem d_X12_restore_39 : decode (gw_mC M_X12_restore) 39 = .ok (.istore_n 1, 1) := by decide +kernel
theorem d_X12_restore_40 : decode (gw_mC M_X12_restore) 40 = .ok (.aload_n 0, 1) := by decide +kernel
theorem d_X12_restore_41 : decode (gw_mC M_X12_restore) 41 = .ok (.iload_n 1, 1) := by decide +kernel
theorem d_X12_restore_42 : decode (gw_mC M_X12_restore) 42 = .ok (.aload_n 0, 1) := by decide +kernel
theorem d_X12_restore_43 : decode (gw_mC M_X12_restore) 43 = .ok (.getfield 19, 3) := by decide +kernel
theorem d_X12_restore_46 : decode (gw_mC M_X12_restore) 46 = .ok (.invokevirtual 316, 3) := by decide +kernel
theorem d_X12_restore_49 : decode (gw_mC M_X12_restore) 49 = .ok (.istore_n 1, 1) := by decide +kernel
theorem d_X12_restore_50 : decode (gw_mC M_X12_restore) 50 = .ok (.aload_n 0, 1) := by decide +kernel
theorem d_X12_restore_51 : decode (gw_mC M_X12_restore) 51 = .ok (.iload_n 1, 1) := by decide +kernel
theorem d_X12_restore_52 : decode (gw_mC M_X12_restore) 52 = .ok (.aload_n 0, 1) := by decide +kernel
theorem d_X12_restore_53 : decode (gw_mC M_X12_restore) 53 = .ok (.getfield 22, 3) := by decide +kernel
theorem d_X12_restore_56 : decode (gw_mC M_X12_restore) 56 = .ok (.invokevirtual 316, 3) := by decide +kernel
theorem d_X12_restore_59 : decode (gw_mC M_X12_restore) 59 = .ok (.istore_n 1, 1) := by decide +kernel
theorem d_X12_restore_60 : decode (gw_mC M_X12_restore) 60 = .ok (.aload_n 0, 1) := by decide +kernel
theorem d_X12_restore_61 : decode (gw_mC M_X12_restore) 61 = .ok (.iload_n 1, 1) := by decide +kernel
theorem d_X12_restore_62 : decode (gw_mC M_X12_restore) 62 = .ok (.aload_n 0, 1) := by decide +kernel
theorem d_X12_restore_63 : decode (gw_mC M_X12_restore) 63 = .ok (.getfield 25, 3) := by decide +kernel
theorem d_X12_restore_66 : decode (gw_mC M_X12_restore) 66 = .ok (.invokevirtual 316, 3) := by decide +kernel
theorem d_X12_restore_69 : decode (gw_mC M_X12_restore) 69 = .ok (.istore_n 1, 1) := by decide +kernel
theorem d_X12_restore_70 : decode (gw_mC M_X12_restore) 70 = .ok (.aload_n 0, 1) := by decide +kernel
theorem d_X12_restore_71 : decode (gw_mC M_X12_restore) 71 = .ok (.iload_n 1, 1) := by decide +kernel
theorem d_X12_restore_72 : decode (gw_mC M_X12_restore) 72 = .ok (.aload_n 0, 1) := by decide +kernel
theorem d_X12_restore_73 : decode (gw_mC M_X12_restore) 73 = .ok (.getfield 28, 3) := by decide +kernel
theorem d_X12_restore_76 : decode (gw_mC M_X12_restore) 76 = .ok (.invokevirtual 316, 3) := by decide +kernel
theorem d_X12_restore_79 : decode (gw_mC M_X12_restore) 79 = .ok (.istore_n 1, 1) := by decide +kernel
theorem d_X12_restore_80 : decode (gw_mC M_X12_restore) 80 = .ok (.aload_n 0, 1) := by decide +kernel
theorem d_X12_restore_81 : decode (gw_mC M_X12_restore) 81 = .ok (.iload_n 1, 1) := by decide +kernel
theorem d_X12_restore_82 : decode (gw_mC M_X12_restore) 82 = .ok (.aload_n 0, 1) := by decide +kernel
theorem d_X12_restore_83 : decode (gw_mC M_X12_restore) 83 = .ok (.getfield 31, 3) := by decide +kernel
theorem d_X12_restore_86 : decode (gw_mC M_X12_restore) 86 = .ok (.invokevirtual 316, 3) := by decide +kernel
theorem d_X12_restore_89 : decode (gw_mC M_X12_restore) 89 = .ok (.istore_n 1, 1) := by decide +kernel
theorem d_X12_restore_90 : decode (gw_mC M_X12_restore) 90 = .ok (.aload_n 0, 1) := by decide +kernel
theorem d_X12_restore_91 : decode (gw_mC M_X12_restore) 91 = .ok (.iload_n 1, 1) := by decide +kernel
theorem d_X12_restore_92 : decode (gw_mC M_X12_restore) 92 = .ok (.aload_n 0, 1) := by decide +kernel
theorem d_X12_restore_93 : decode (gw_mC M_X12_restore) 93 = .ok (.getfield 34, 3) := by decide +kernel
theorem d_X12_restore_96 : decode (gw_mC M_X12_restore) 96 = .ok (.invokevirtual 316, 3) := by decide +kernel
theorem d_X12_restore_99 : decode (gw_mC M_X12_restore) 99 = .ok (.istore_n 1, 1) := by decide +kernel
theorem d_X12_restore_100 : decode (gw_mC M_X12_restore) 100 = .ok (.aload_n 0, 1) := by decide +kernel
theorem d_X12_restore_101 : decode (gw_mC M_X12_restore) 101 = .ok (.aload_n 0, 1) := by decide +kernel
theorem d_X12_restore_102 : decode (gw_mC M_X12_restore) 102 = .ok (.getfield 67, 3) := by decide +kernel
theorem d_X12_restore_105 : decode (gw_mC M_X12_restore) 105 = .ok (.iload_n 1, 1) := by decide +kernel
theorem d_X12_restore_106 : decode (gw_mC M_X12_restore) 106 = .ok (.iaload, 1) := by decide +kernel
theorem d_X12_restore_107 : decode (gw_mC M_X12_restore) 107 = .ok (.putfield 88, 3) := by decide +kernel
theorem d_X12_restore_110 : decode (gw_mC M_X12_restore) 110 = .ok (.aload_n 0, 1) := by decide +kernel
theorem d_X12_restore_111 : decode (gw_mC M_X12_restore) 111 = .ok (.aload_n 0, 1) := by decide +kernel
theorem d_X12_restore_112 : decode (gw_mC M_X12_restore) 112 = .ok (.getfield 67, 3) := by decide +kernel
theorem d_X12_restore_115 : decode (gw_mC M_X12_restore) 115 = .ok (.iload_n 1, 1) := by decide +kernel
theorem d_X12_restore_116 : decode (gw_mC M_X12_restore) 116 = .ok (.iconst 1, 1) := by decide +kernel
theorem d_X12_restore_117 : decode (gw_mC M_X12_restore) 117 = .ok (.iadd, 1) := by decide +kernel
theorem d_X12_restore_118 : decode (gw_mC M_X12_restore) 118 = .ok (.iaload, 1) := by decide +kernel
theorem d_X12_restore_119 : decode (gw_mC M_X12_restore) 119 = .ok (.putfield 120, 3) := by decide +kernel
theorem d_X12_restore_122 : decode (gw_mC M_X12_restore) 122 = .ok (.iconst 1, 1) := by decide +kernel
theorem d_X12_restore_123 : decode (gw_mC M_X12_restore) 123 = .ok (.ireturn, 1) := by decide +kernel
theorem d_X12_isSheet_0 : decode (gw_mC M_X12_isSheet) 0 = .ok (.iload_n 0, 1) := by decide +kernel
theorem d_X12_isSheet_1 : decode (gw_mC M_X12_isSheet) 1 = .ok (.i2l, 1) := by decide +kernel
theorem d_X12_isSheet_2 : decode (gw_mC M_X12_isSheet) 2 = .ok (.lconst 0, 1) := by decide +kernel
theorem d_X12_isSheet_3 : decode (gw_mC M_X12_isSheet) 3 = .ok (.ldc2_w 106, 3) := by decide +kernel
theorem d_X12_isSheet_6 : decode (gw_mC M_X12_isSheet) 6 = .ok (.invokestatic 98, 3) := by decide +kernel
theorem d_X12_isSheet_9 : decode (gw_mC M_X12_isSheet) 9 = .ok (.ireturn, 1) := by decide +kernel
theorem d_X12_isLane_0 : decode (gw_mC M_X12_isLane) 0 = .ok (.iload_n 0, 1) := by decide +kernel
theorem d_X12_isLane_1 : decode (gw_mC M_X12_isLane) 1 = .ok (.i2l, 1) := by decide +kernel
theorem d_X12_isLane_2 : decode (gw_mC M_X12_isLane) 2 = .ok (.lconst 0, 1) := by decide +kernel
theorem d_X12_isLane_3 : decode (gw_mC M_X12_isLane) 3 = .ok (.ldc2_w 92, 3) := by decide +kernel
theorem d_X12_isLane_6 : decode (gw_mC M_X12_isLane) 6 = .ok (.invokestatic 98, 3) := by decide +kernel
theorem d_X12_isLane_9 : decode (gw_mC M_X12_isLane) 9 = .ok (.ireturn, 1) := by decide +kernel
theorem d_X12_finds_0 : decode (gw_mC M_X12_finds) 0 = .ok (.aload_n 0, 1) := by decide +kernel
theorem d_X12_finds_1 : decode (gw_mC M_X12_finds) 1 = .ok (.getfield 70, 3) := by decide +kernel
theorem d_X12_finds_4 : decode (gw_mC M_X12_finds) 4 = .ok (.iload_n 1, 1) := by decide +kernel
theorem d_X12_finds_5 : decode (gw_mC M_X12_finds) 5 = .ok (.iaload, 1) := by decide +kernel
theorem d_X12_finds_6 : decode (gw_mC M_X12_finds) 6 = .ok (.ifCond .ge 6, 3) := by decide +kernel
theorem d_X12_finds_9 : decode (gw_mC M_X12_finds) 9 = .ok (.bipush (-11), 2) := by decide +kernel
theorem d_X12_finds_11 : decode (gw_mC M_X12_finds) 11 = .ok (.ireturn, 1) := by decide +kernel
theorem d_X12_finds_12 : decode (gw_mC M_X12_finds) 12 = .ok (.aload_n 0, 1) := by decide +kernel
theorem d_X12_finds_13 : decode (gw_mC M_X12_finds) 13 = .ok (.getfield 70, 3) := by decide +kernel
theorem d_X12_finds_16 : decode (gw_mC M_X12_finds) 16 = .ok (.iload_n 1, 1) := by decide +kernel
theorem d_X12_finds_17 : decode (gw_mC M_X12_finds) 17 = .ok (.iaload, 1) := by decide +kernel
theorem d_X12_finds_18 : decode (gw_mC M_X12_finds) 18 = .ok (.iload_n 2, 1) := by decide +kernel
theorem d_X12_finds_19 : decode (gw_mC M_X12_finds) 19 = .ok (.if_icmp .eq 6, 3) := by decide +kernel
theorem d_X12_finds_22 : decode (gw_mC M_X12_finds) 22 = .ok (.bipush (-12), 2) := by decide +kernel
theorem d_X12_finds_24 : decode (gw_mC M_X12_finds) 24 = .ok (.ireturn, 1) := by decide +kernel
theorem d_X12_finds_25 : decode (gw_mC M_X12_finds) 25 = .ok (.iload_n 3, 1) := by decide +kernel
theorem d_X12_finds_26 : decode (gw_mC M_X12_finds) 26 = .ok (.ifCond .lt 20, 3) := by decide +kernel
theorem d_X12_finds_29 : decode (gw_mC M_X12_finds) 29 = .ok (.iload_n 3, 1) := by decide +kernel
theorem d_X12_finds_30 : decode (gw_mC M_X12_finds) 30 = .ok (.i2l, 1) := by decide +kernel
theorem d_X12_finds_31 : decode (gw_mC M_X12_finds) 31 = .ok (.iload 4, 2) := by decide +kernel
theorem d_X12_finds_33 : decode (gw_mC M_X12_finds) 33 = .ok (.i2l, 1) := by decide +kernel
theorem d_X12_finds_34 : decode (gw_mC M_X12_finds) 34 = .ok (.ladd, 1) := by decide +kernel
theorem d_X12_finds_35 : decode (gw_mC M_X12_finds) 35 = .ok (.aload_n 0, 1) := by decide +kernel
theorem d_X12_finds_36 : decode (gw_mC M_X12_finds) 36 = .ok (.getfield 73, 3) := by decide +kernel
theorem d_X12_finds_39 : decode (gw_mC M_X12_finds) 39 = .ok (.iload_n 1, 1) := by decide +kernel
theorem d_X12_finds_40 : decode (gw_mC M_X12_finds) 40 = .ok (.iaload, 1) := by decide +kernel
theorem d_X12_finds_41 : decode (gw_mC M_X12_finds) 41 = .ok (.i2l, 1) := by decide +kernel
theorem d_X12_finds_42 : decode (gw_mC M_X12_finds) 42 = .ok (.lcmp, 1) := by decide +kernel
theorem d_X12_finds_43 : decode (gw_mC M_X12_finds) 43 = .ok (.ifCond .le 8, 3) := by decide +kernel
theorem d_X12_finds_46 : decode (gw_mC M_X12_finds) 46 = .ok (.bipush (-13), 2) := by decide +kernel
theorem d_X12_finds_48 : decode (gw_mC M_X12_finds) 48 = .ok (.goto 4, 3) := by decide +kernel
theorem d_X12_finds_51 : decode (gw_mC M_X12_finds) 51 = .ok (.iconst 0, 1) := by decide +kernel
theorem d_X12_finds_52 : decode (gw_mC M_X12_finds) 52 = .ok (.ireturn, 1) := by decide +kernel
theorem d_X12_turns_0 : decode (gw_mC M_X12_turns) 0 = .ok (.iload_n 1, 1) := by decide +kernel
theorem d_X12_turns_1 : decode (gw_mC M_X12_turns) 1 = .ok (.iconst 2, 1) := by decide +kernel
theorem d_X12_turns_2 : decode (gw_mC M_X12_turns) 2 = .ok (.isub, 1) := by decide +kernel
theorem d_X12_turns_3 : decode (gw_mC M_X12_turns) 3 = .ok (.istore_n 2, 1) := by decide +kernel
theorem d_X12_turns_4 : decode (gw_mC M_X12_turns) 4 = .ok (.iload_n 2, 1) := by decide +kernel
theorem d_X12_turns_5 : decode (gw_mC M_X12_turns) 5 = .ok (.ifCond .lt 26, 3) := by decide +kernel
theorem d_X12_turns_8 : decode (gw_mC M_X12_turns) 8 = .ok (.aload_n 0, 1) := by decide +kernel
theorem d_X12_turns_9 : decode (gw_mC M_X12_turns) 9 = .ok (.getfield 82, 3) := by decide +kernel
theorem d_X12_turns_12 : decode (gw_mC M_X12_turns) 12 = .ok (.iload_n 2, 1) := by decide +kernel
theorem d_X12_turns_13 : decode (gw_mC M_X12_turns) 13 = .ok (.iaload, 1) := by decide +kernel
theorem d_X12_turns_14 : decode (gw_mC M_X12_turns) 14 = .ok (.aload_n 0, 1) := by decide +kernel
theorem d_X12_turns_15 : decode (gw_mC M_X12_turns) 15 = .ok (.getfield 82, 3) := by decide +kernel
theorem d_X12_turns_18 : decode (gw_mC M_X12_turns) 18 = .ok (.iload_n 2, 1) := by decide +kernel
theorem d_X12_turns_19 : decode (gw_mC M_X12_turns) 19 = .ok (.iconst 1, 1) := by decide +kernel
theorem d_X12_turns_20 : decode (gw_mC M_X12_turns) 20 = .ok (.iadd, 1) := by decide +kernel
theorem d_X12_turns_21 : decode (gw_mC M_X12_turns) 21 = .ok (.iaload, 1) := by decide +kernel
theorem d_X12_turns_22 : decode (gw_mC M_X12_turns) 22 = .ok (.if_icmp .le 9, 3) := by decide +kernel
theorem d_X12_turns_25 : decode (gw_mC M_X12_turns) 25 = .ok (.iinc 2 (-1), 3) := by decide +kernel
theorem d_X12_turns_28 : decode (gw_mC M_X12_turns) 28 = .ok (.goto (-24), 3) := by decide +kernel
theorem d_X12_turns_31 : decode (gw_mC M_X12_turns) 31 = .ok (.iload_n 2, 1) := by decide +kernel
theorem d_X12_turns_32 : decode (gw_mC M_X12_turns) 32 = .ok (.ifCond .ge 5, 3) := by decide +kernel
theorem d_X12_turns_35 : decode (gw_mC M_X12_turns) 35 = .ok (.iconst 0, 1) := by decide +kernel
theorem d_X12_turns_36 : decode (gw_mC M_X12_turns) 36 = .ok (.ireturn, 1) := by decide +kernel
theorem d_X12_turns_37 : decode (gw_mC M_X12_turns) 37 = .ok (.iload_n 1, 1) := by decide +kernel
theorem d_X12_turns_38 : decode (gw_mC M_X12_turns) 38 = .ok (.iconst 1, 1) := by decide +kernel
theorem d_X12_turns_39 : decode (gw_mC M_X12_turns) 39 = .ok (.isub, 1) := by decide +kernel
theorem d_X12_turns_40 : decode (gw_mC M_X12_turns) 40 = .ok (.istore_n 3, 1) := by decide +kernel
theorem d_X12_turns_41 : decode (gw_mC M_X12_turns) 41 = .ok (.aload_n 0, 1) := by decide +kernel
theorem d_X12_turns_42 : decode (gw_mC M_X12_turns) 42 = .ok (.getfield 82, 3) := by decide +kernel
theorem d_X12_turns_45 : decode (gw_mC M_X12_turns) 45 = .ok (.iload_n 3, 1) := by decide +kernel
theorem d_X12_turns_46 : decode (gw_mC M_X12_turns) 46 = .ok (.iaload, 1) := by decide +kernel
theorem d_X12_turns_47 : decode (gw_mC M_X12_turns) 47 = .ok (.aload_n 0, 1) := by decide +kernel
theorem d_X12_turns_48 : decode (gw_mC M_X12_turns) 48 = .ok (.getfield 82, 3) := by decide +kernel
theorem d_X12_turns_51 : decode (gw_mC M_X12_turns) 51 = .ok (.iload_n 2, 1) := by decide +kernel
theorem d_X12_turns_52 : decode (gw_mC M_X12_turns) 52 = .ok (.iaload, 1) := by decide +kernel
theorem d_X12_turns_53 : decode (gw_mC M_X12_turns) 53 = .ok (.if_icmp .ge 9, 3) := by decide +kernel
theorem d_X12_turns_56 : decode (gw_mC M_X12_turns) 56 = .ok (.iinc 3 (-1), 3) := by decide +kernel
theorem d_X12_turns_59 : decode (gw_mC M_X12_turns) 59 = .ok (.goto (-18), 3) := by decide +kernel
theorem d_X12_turns_62 : decode (gw_mC M_X12_turns) 62 = .ok (.aload_n 0, 1) := by decide +kernel
theorem d_X12_turns_63 : decode (gw_mC M_X12_turns) 63 = .ok (.getfield 82, 3) := by decide +kernel
theorem d_X12_turns_66 : decode (gw_mC M_X12_turns) 66 = .ok (.iload_n 2, 1) := by decide +kernel
theorem d_X12_turns_67 : decode (gw_mC M_X12_turns) 67 = .ok (.iaload, 1) := by decide +kernel
theorem d_X12_turns_68 : decode (gw_mC M_X12_turns) 68 = .ok (.istore 4, 2) := by decide +kernel
theorem d_X12_turns_70 : decode (gw_mC M_X12_turns) 70 = .ok (.aload_n 0, 1) := by decide +kernel
theorem d_X12_turns_71 : decode (gw_mC M_X12_turns) 71 = .ok (.getfield 82, 3) := by decide +kernel
theorem d_X12_turns_74 : decode (gw_mC M_X12_turns) 74 = .ok (.iload_n 2, 1) := by decide +kernel
theorem d_X12_turns_75 : decode (gw_mC M_X12_turns) 75 = .ok (.aload_n 0, 1) := by decide +kernel
theorem d_X12_turns_76 : decode (gw_mC M_X12_turns) 76 = .ok (.getfield 82, 3) := by decide +kernel
theorem d_X12_turns_79 : decode (gw_mC M_X12_turns) 79 = .ok (.iload_n 3, 1) := by decide +kernel
theorem d_X12_turns_80 : decode (gw_mC M_X12_turns) 80 = .ok (.iaload, 1) := by decide +kernel
theorem d_X12_turns_81 : decode (gw_mC M_X12_turns) 81 = .ok (.iastore, 1) := by decide +kernel
theorem d_X12_turns_82 : decode (gw_mC M_X12_turns) 82 = .ok (.aload_n 0, 1) := by decide +kernel
theorem d_X12_turns_83 : decode (gw_mC M_X12_turns) 83 = .ok (.getfield 82, 3) := by decide +kernel
theorem d_X12_turns_86 : decode (gw_mC M_X12_turns) 86 = .ok (.iload_n 3, 1) := by decide +kernel
theorem d_X12_turns_87 : decode (gw_mC M_X12_turns) 87 = .ok (.iload 4, 2) := by decide +kernel
theorem d_X12_turns_89 : decode (gw_mC M_X12_turns) 89 = .ok (.iastore, 1) := by decide +kernel
theorem d_X12_turns_90 : decode (gw_mC M_X12_turns) 90 = .ok (.iload_n 2, 1) := by decide +kernel
theorem d_X12_turns_91 : decode (gw_mC M_X12_turns) 91 = .ok (.iconst 1, 1) := by decide +kernel
theorem d_X12_turns_92 : decode (gw_mC M_X12_turns) 92 = .ok (.iadd, 1) := by decide +kernel
theorem d_X12_turns_93 : decode (gw_mC M_X12_turns) 93 = .ok (.istore 5, 2) := by decide +kernel
theorem d_X12_turns_95 : decode (gw_mC M_X12_turns) 95 = .ok (.iload_n 1, 1) := by decide +kernel
theorem d_X12_turns_96 : decode (gw_mC M_X12_turns) 96 = .ok (.iconst 1, 1) := by decide +kernel
theorem d_X12_turns_97 : decode (gw_mC M_X12_turns) 97 = .ok (.isub, 1) := by decide +kernel
theorem d_X12_turns_98 : decode (gw_mC M_X12_turns) 98 = .ok (.istore 6, 2) := by decide +kernel
theorem d_X12_turns_100 : decode (gw_mC M_X12_turns) 100 = .ok (.iload 5, 2) := by decide +kernel
theorem d_X12_turns_102 : decode (gw_mC M_X12_turns) 102 = .ok (.iload 6, 2) := by decide +kernel
theorem d_X12_turns_104 : decode (gw_mC M_X12_turns) 104 = .ok (.if_icmp .ge 44, 3) := by decide +kernel
theorem d_X12_turns_107 : decode (gw_mC M_X12_turns) 107 = .ok (.aload_n 0, 1) := by decide +kernel
theorem d_X12_turns_108 : decode (gw_mC M_X12_turns) 108 = .ok (.getfield 82, 3) := by decide +kernel
theorem d_X12_turns_111 : decode (gw_mC M_X12_turns) 111 = .ok (.iload 5, 2) := by decide +kernel
theorem d_X12_turns_113 : decode (gw_mC M_X12_turns) 113 = .ok (.iaload, 1) := by decide +kernel
theorem d_X12_turns_114 : decode (gw_mC M_X12_turns) 114 = .ok (.istore 4, 2) := by decide +kernel
theorem d_X12_turns_116 : decode (gw_mC M_X12_turns) 116 = .ok (.aload_n 0, 1) := by decide +kernel
theorem d_X12_turns_117 : decode (gw_mC M_X12_turns) 117 = .ok (.getfield 82, 3) := by decide +kernel
theorem d_X12_turns_120 : decode (gw_mC M_X12_turns) 120 = .ok (.iload 5, 2) := by decide +kernel
theorem d_X12_turns_122 : decode (gw_mC M_X12_turns) 122 = .ok (.aload_n 0, 1) := by decide +kernel
theorem d_X12_turns_123 : decode (gw_mC M_X12_turns) 123 = .ok (.getfield 82, 3) := by decide +kernel
theorem d_X12_turns_126 : decode (gw_mC M_X12_turns) 126 = .ok (.iload 6, 2) := by decide +kernel
theorem d_X12_turns_128 : decode (gw_mC M_X12_turns) 128 = .ok (.iaload, 1) := by decide +kernel
theorem d_X12_turns_129 : decode (gw_mC M_X12_turns) 129 = .ok (.iastore, 1) := by decide +kernel
theorem d_X12_turns_130 : decode (gw_mC M_X12_turns) 130 = .ok (.aload_n 0, 1) := by decide +kernel
theorem d_X12_turns_131 : decode (gw_mC M_X12_turns) 131 = .ok (.getfield 82, 3) := by decide +kernel
theorem d_X12_turns_134 : decode (gw_mC M_X12_turns) 134 = .ok (.iload 6, 2) := by decide +kernel
theorem d_X12_turns_136 : decode (gw_mC M_X12_turns) 136 = .ok (.iload 4, 2) := by decide +kernel
theorem d_X12_turns_138 : decode (gw_mC M_X12_turns) 138 = .ok (.iastore, 1) := by decide +kernel
theorem d_X12_turns_139 : decode (gw_mC M_X12_turns) 139 = .ok (.iinc 5 1, 3) := by decide +kernel
theorem d_X12_turns_142 : decode (gw_mC M_X12_turns) 142 = .ok (.iinc 6 (-1), 3) := by decide +kernel
theorem d_X12_turns_145 : decode (gw_mC M_X12_turns) 145 = .ok (.goto (-45), 3) := by decide +kernel
theorem d_X12_turns_148 : decode (gw_mC M_X12_turns) 148 = .ok (.iconst 1, 1) := by decide +kernel
theorem d_X12_turns_149 : decode (gw_mC M_X12_turns) 149 = .ok (.ireturn, 1) := by decide +kernel
theorem d_X12_slots_0 : decode (gw_mC M_X12_slots) 0 = .ok (.iload_n 1, 1) := by decide +kernel
theorem d_X12_slots_1 : decode (gw_mC M_X12_slots) 1 = .ok (.invokestatic 320, 3) := by decide +kernel
theorem d_X12_slots_4 : decode (gw_mC M_X12_slots) 4 = .ok (.ifCond .eq 42, 3) := by decide +kernel
theorem d_X12_slots_7 : decode (gw_mC M_X12_slots) 7 = .ok (.iload_n 2, 1) := by decide +kernel
theorem d_X12_slots_8 : decode (gw_mC M_X12_slots) 8 = .ok (.invokestatic 323, 3) := by decide +kernel
theorem d_X12_slots_11 : decode (gw_mC M_X12_slots) 11 = .ok (.ifCond .eq 35, 3) := by decide +kernel
theorem d_X12_slots_14 : decode (gw_mC M_X12_slots) 14 = .ok (.iload 4, 2) := by decide +kernel
theorem d_X12_slots_16 : decode (gw_mC M_X12_slots) 16 = .ok (.i2l, 1) := by decide +kernel
theorem d_X12_slots_17 : decode (gw_mC M_X12_slots) 17 = .ok (.ldc2_w 92, 3) := by decide +kernel
theorem d_X12_slots_20 : decode (gw_mC M_X12_slots) 20 = .ok (.ldc2_w 326, 3) := by decide +kernel
theorem d_X12_slots_23 : decode (gw_mC M_X12_slots) 23 = .ok (.invokestatic 98, 3) := by decide +kernel
theorem d_X12_slots_26 : decode (gw_mC M_X12_slots) 26 = .ok (.ifCond .eq 20, 3) := by decide +kernel
theorem d_X12_slots_29 : decode (gw_mC M_X12_slots) 29 = .ok (.iload 5, 2) := by decide +kernel
theorem d_X12_slots_31 : decode (gw_mC M_X12_slots) 31 = .ok (.i2l, 1) := by decide +kernel
theorem d_X12_slots_32 : decode (gw_mC M_X12_slots) 32 = .ok (.ldc2_w 304, 3) := by decide +kernel
theorem d_X12_slots_35 : decode (gw_mC M_X12_slots) 35 = .ok (.iload 4, 2) := by decide +kernel
theorem d_X12_slots_37 : decode (gw_mC M_X12_slots) 37 = .ok (.iconst 1, 1) := by decide +kernel
theorem d_X12_slots_38 : decode (gw_mC M_X12_slots) 38 = .ok (.isub, 1) := by decide +kernel
theorem d_X12_slots_39 : decode (gw_mC M_X12_slots) 39 = .ok (.i2l, 1) := by decide +kernel
theorem d_X12_slots_40 : decode (gw_mC M_X12_slots) 40 = .ok (.invokestatic 98, 3) := by decide +kernel
theorem d_X12_slots_43 : decode (gw_mC M_X12_slots) 43 = .ok (.ifCond .ne 5, 3) := by decide +kernel
theorem d_X12_slots_46 : decode (gw_mC M_X12_slots) 46 = .ok (.iconst (-1), 1) := by decide +kernel
theorem d_X12_slots_47 : decode (gw_mC M_X12_slots) 47 = .ok (.ireturn, 1) := by decide +kernel
theorem d_X12_slots_48 : decode (gw_mC M_X12_slots) 48 = .ok (.aload_n 0, 1) := by decide +kernel
theorem d_X12_slots_49 : decode (gw_mC M_X12_slots) 49 = .ok (.iload_n 1, 1) := by decide +kernel
theorem d_X12_slots_50 : decode (gw_mC M_X12_slots) 50 = .ok (.iload_n 2, 1) := by decide +kernel
theorem d_X12_slots_51 : decode (gw_mC M_X12_slots) 51 = .ok (.iload_n 3, 1) := by decide +kernel
theorem d_X12_slots_52 : decode (gw_mC M_X12_slots) 52 = .ok (.iconst 2, 1) := by decide +kernel
theorem d_X12_slots_53 : decode (gw_mC M_X12_slots) 53 = .ok (.iload 4, 2) := by decide +kernel
theorem d_X12_slots_55 : decode (gw_mC M_X12_slots) 55 = .ok (.imul, 1) := by decide +kernel
theorem d_X12_slots_56 : decode (gw_mC M_X12_slots) 56 = .ok (.invokevirtual 328, 3) := by decide +kernel
theorem d_X12_slots_59 : decode (gw_mC M_X12_slots) 59 = .ok (.istore 6, 2) := by decide +kernel
theorem d_X12_slots_61 : decode (gw_mC M_X12_slots) 61 = .ok (.iload 6, 2) := by decide +kernel
theorem d_X12_slots_63 : decode (gw_mC M_X12_slots) 63 = .ok (.ifCond .ge 6, 3) := by decide +kernel
theorem d_X12_slots_66 : decode (gw_mC M_X12_slots) 66 = .ok (.iload 6, 2) := by decide +kernel
theorem d_X12_slots_68 : decode (gw_mC M_X12_slots) 68 = .ok (.ireturn, 1) := by decide +kernel
theorem d_X12_slots_69 : decode (gw_mC M_X12_slots) 69 = .ok (.bipush 24, 2) := by decide +kernel
theorem d_X12_slots_71 : decode (gw_mC M_X12_slots) 71 = .ok (.iload_n 1, 1) := by decide +kernel
theorem d_X12_slots_72 : decode (gw_mC M_X12_slots) 72 = .ok (.imul, 1) := by decide +kernel
theorem d_X12_slots_73 : decode (gw_mC M_X12_slots) 73 = .ok (.iload_n 3, 1) := by decide +kernel
theorem d_X12_slots_74 : decode (gw_mC M_X12_slots) 74 = .ok (.iadd, 1) := by decide +kernel
theorem d_X12_slots_75 : decode (gw_mC M_X12_slots) 75 = .ok (.istore 7, 2) := by decide +kernel
theorem d_X12_slots_77 : decode (gw_mC M_X12_slots) 77 = .ok (.iconst 0, 1) := by decide +kernel
theorem d_X12_slots_78 : decode (gw_mC M_X12_slots) 78 = .ok (.istore 8, 2) := by decide +kernel
theorem d_X12_slots_80 : decode (gw_mC M_X12_slots) 80 = .ok (.iload 8, 2) := by decide +kernel
theorem d_X12_slots_82 : decode (gw_mC M_X12_slots) 82 = .ok (.iload 4, 2) := by decide +kernel
theorem d_X12_slots_84 : decode (gw_mC M_X12_slots) 84 = .ok (.if_icmp .ge 69, 3) := by decide +kernel
theorem d_X12_slots_87 : decode (gw_mC M_X12_slots) 87 = .ok (.aload_n 0, 1) := by decide +kernel
theorem d_X12_slots_88 : decode (gw_mC M_X12_slots) 88 = .ok (.getfield 76, 3) := by decide +kernel
theorem d_X12_slots_91 : decode (gw_mC M_X12_slots) 91 = .ok (.iload 7, 2) := by decide +kernel
theorem d_X12_slots_93 : decode (gw_mC M_X12_slots) 93 = .ok (.iconst 2, 1) := by decide +kernel
theorem d_X12_slots_94 : decode (gw_mC M_X12_slots) 94 = .ok (.iload 8, 2) := by decide +kernel
theorem d_X12_slots_96 : decode (gw_mC M_X12_slots) 96 = .ok (.imul, 1) := by decide +kernel
theorem d_X12_slots_97 : decode (gw_mC M_X12_slots) 97 = .ok (.iadd, 1) := by decide +kernel
theorem d_X12_slots_98 : decode (gw_mC M_X12_slots) 98 = .ok (.iaload, 1) := by decide +kernel
theorem d_X12_slots_99 : decode (gw_mC M_X12_slots) 99 = .ok (.i2l, 1) := by decide +kernel
theorem d_X12_slots_100 : decode (gw_mC M_X12_slots) 100 = .ok (.lconst 0, 1) := by decide +kernel
theorem d_X12_slots_101 : decode (gw_mC M_X12_slots) 101 = .ok (.ldc2_w 279, 3) := by decide +kernel
theorem d_X12_slots_104 : decode (gw_mC M_X12_slots) 104 = .ok (.invokestatic 98, 3) := by decide +kernel
theorem d_X12_slots_107 : decode (gw_mC M_X12_slots) 107 = .ok (.ifCond .eq 28, 3) := by decide +kernel
theorem d_X12_slots_110 : decode (gw_mC M_X12_slots) 110 = .ok (.aload_n 0, 1) := by decide +kernel
theorem d_X12_slots_111 : decode (gw_mC M_X12_slots) 111 = .ok (.getfield 76, 3) := by decide +kernel
theorem d_X12_slots_114 : decode (gw_mC M_X12_slots) 114 = .ok (.iload 7, 2) := by decide +kernel
theorem d_X12_slots_116 : decode (gw_mC M_X12_slots) 116 = .ok (.iconst 2, 1) := by decide +kernel
theorem d_X12_slots_117 : decode (gw_mC M_X12_slots) 117 = .ok (.iload 8, 2) := by decide +kernel
theorem d_X12_slots_119 : decode (gw_mC M_X12_slots) 119 = .ok (.imul, 1) := by decide +kernel
theorem d_X12_slots_120 : decode (gw_mC M_X12_slots) 120 = .ok (.iadd, 1) := by decide +kernel
theorem d_X12_slots_121 : decode (gw_mC M_X12_slots) 121 = .ok (.iconst 1, 1) := by decide +kernel
theorem d_X12_slots_122 : decode (gw_mC M_X12_slots) 122 = .ok (.iadd, 1) := by decide +kernel
theorem d_X12_slots_123 : decode (gw_mC M_X12_slots) 123 = .ok (.iaload, 1) := by decide +kernel
theorem d_X12_slots_124 : decode (gw_mC M_X12_slots) 124 = .ok (.i2l, 1) := by decide +kernel
theorem d_X12_slots_125 : decode (gw_mC M_X12_slots) 125 = .ok (.lconst 1, 1) := by decide +kernel
theorem d_X12_slots_126 : decode (gw_mC M_X12_slots) 126 = .ok (.ldc2_w 104, 3) := by decide +kernel
theorem d_X12_slots_129 : decode (gw_mC M_X12_slots) 129 = .ok (.invokestatic 98, 3) := by decide +kernel
theorem d_X12_slots_132 : decode (gw_mC M_X12_slots) 132 = .ok (.ifCond .ne 6, 3) := by decide +kernel
theorem d_X12_slots_135 : decode (gw_mC M_X12_slots) 135 = .ok (.bipush (-2), 2) := by decide +kernel
theorem d_X12_slots_137 : decode (gw_mC M_X12_slots) 137 = .ok (.ireturn, 1) := by decide +kernel
theorem d_X12_slots_138 : decode (gw_mC M_X12_slots) 138 = .ok (.aload_n 0, 1) := by decide +kernel
theorem d_X12_slots_139 : decode (gw_mC M_X12_slots) 139 = .ok (.getfield 82, 3) := by decide +kernel
theorem d_X12_slots_142 : decode (gw_mC M_X12_slots) 142 = .ok (.iload 8, 2) := by decide +kernel
theorem d_X12_slots_144 : decode (gw_mC M_X12_slots) 144 = .ok (.iload 8, 2) := by decide +kernel
theorem d_X12_slots_146 : decode (gw_mC M_X12_slots) 146 = .ok (.iastore, 1) := by decide +kernel
theorem d_X12_slots_147 : decode (gw_mC M_X12_slots) 147 = .ok (.iinc 8 1, 3) := by decide +kernel
theorem d_X12_slots_150 : decode (gw_mC M_X12_slots) 150 = .ok (.goto (-70), 3) := by decide +kernel
theorem d_X12_slots_153 : decode (gw_mC M_X12_slots) 153 = .ok (.iconst (-1), 1) := by decide +kernel
theorem d_X12_slots_154 : decode (gw_mC M_X12_slots) 154 = .ok (.istore 8, 2) := by decide +kernel
theorem d_X12_slots_156 : decode (gw_mC M_X12_slots) 156 = .ok (.iconst 1, 1) := by decide +kernel
theorem d_X12_slots_157 : decode (gw_mC M_X12_slots) 157 = .ok (.istore 9, 2) := by decide +kernel
theorem d_X12_slots_159 : decode (gw_mC M_X12_slots) 159 = .ok (.iload 9, 2) := by decide +kernel
theorem d_X12_slots_161 : decode (gw_mC M_X12_slots) 161 = .ok (.ifCond .eq 173, 3) := by decide +kernel
theorem d_X12_slots_164 : decode (gw_mC M_X12_slots) 164 = .ok (.iconst 0, 1) := by decide +kernel
theorem d_X12_slots_165 : decode (gw_mC M_X12_slots) 165 = .ok (.istore 10, 2) := by decide +kernel
theorem d_X12_slots_167 : decode (gw_mC M_X12_slots) 167 = .ok (.iconst 0, 1) := by decide +kernel
theorem d_X12_slots_168 : decode (gw_mC M_X12_slots) 168 = .ok (.istore 11, 2) := by decide +kernel
theorem d_X12_slots_170 : decode (gw_mC M_X12_slots) 170 = .ok (.iconst 0, 1) := by decide +kernel
theorem d_X12_slots_171 : decode (gw_mC M_X12_slots) 171 = .ok (.istore 12, 2) := by decide +kernel
theorem d_X12_slots_173 : decode (gw_mC M_X12_slots) 173 = .ok (.iload 12, 2) := by decide +kernel
theorem d_X12_slots_175 : decode (gw_mC M_X12_slots) 175 = .ok (.iload 4, 2) := by decide +kernel
theorem d_X12_slots_177 : decode (gw_mC M_X12_slots) 177 = .ok (.if_icmp .ge 78, 3) := by decide +kernel
theorem d_X12_slots_180 : decode (gw_mC M_X12_slots) 180 = .ok (.aload_n 0, 1) := by decide +kernel
theorem d_X12_slots_181 : decode (gw_mC M_X12_slots) 181 = .ok (.getfield 76, 3) := by decide +kernel
theorem d_X12_slots_184 : decode (gw_mC M_X12_slots) 184 = .ok (.iload 7, 2) := by decide +kernel
theorem d_X12_slots_186 : decode (gw_mC M_X12_slots) 186 = .ok (.iconst 2, 1) := by decide +kernel
theorem d_X12_slots_187 : decode (gw_mC M_X12_slots) 187 = .ok (.aload_n 0, 1) := by decide +kernel
theorem d_X12_slots_188 : decode (gw_mC M_X12_slots) 188 = .ok (.getfield 82, 3) := by decide +kernel
theorem d_X12_slots_191 : decode (gw_mC M_X12_slots) 191 = .ok (.iload 12, 2) := by decide +kernel
theorem d_X12_slots_193 : decode (gw_mC M_X12_slots) 193 = .ok (.iaload, 1) := by decide +kernel
theorem d_X12_slots_194 : decode (gw_mC M_X12_slots) 194 = .ok (.imul, 1) := by decide +kernel
theorem d_X12_slots_195 : decode (gw_mC M_X12_slots) 195 = .ok (.iadd, 1) := by decide +kernel
theorem d_X12_slots_196 : decode (gw_mC M_X12_slots) 196 = .ok (.iaload, 1) := by decide +kernel
theorem d_X12_slots_197 : decode (gw_mC M_X12_slots) 197 = .ok (.istore 13, 2) := by decide +kernel
theorem d_X12_slots_199 : decode (gw_mC M_X12_slots) 199 = .ok (.iload 13, 2) := by decide +kernel
theorem d_X12_slots_201 : decode (gw_mC M_X12_slots) 201 = .ok (.iload 10, 2) := by decide +kernel
theorem d_X12_slots_203 : decode (gw_mC M_X12_slots) 203 = .ok (.if_icmp .le 8, 3) := by decide +kernel
theorem d_X12_slots_206 : decode (gw_mC M_X12_slots) 206 = .ok (.iload 13, 2) := by decide +kernel
theorem d_X12_slots_208 : decode (gw_mC M_X12_slots) 208 = .ok (.goto 5, 3) := by decide +kernel
theorem d_X12_slots_211 : decode (gw_mC M_X12_slots) 211 = .ok (.iload 10, 2) := by decide +kernel
theorem d_X12_slots_213 : decode (gw_mC M_X12_slots) 213 = .ok (.istore 14, 2) := by decide +kernel
theorem d_X12_slots_215 : decode (gw_mC M_X12_slots) 215 = .ok (.iload 11, 2) := by decide +kernel
theorem d_X12_slots_217 : decode (gw_mC M_X12_slots) 217 = .ok (.iload 14, 2) := by decide +kernel
theorem d_X12_slots_219 : decode (gw_mC M_X12_slots) 219 = .ok (.iload 13, 2) := by decide +kernel
theorem d_X12_slots_221 : decode (gw_mC M_X12_slots) 221 = .ok (.isub, 1) := by decide +kernel
theorem d_X12_slots_222 : decode (gw_mC M_X12_slots) 222 = .ok (.iadd, 1) := by decide +kernel
theorem d_X12_slots_223 : decode (gw_mC M_X12_slots) 223 = .ok (.istore 11, 2) := by decide +kernel
theorem d_X12_slots_225 : decode (gw_mC M_X12_slots) 225 = .ok (.iload 14, 2) := by decide +kernel
theorem d_X12_slots_227 : decode (gw_mC M_X12_slots) 227 = .ok (.aload_n 0, 1) := by decide +kernel
theorem d_X12_slots_228 : decode (gw_mC M_X12_slots) 228 = .ok (.getfield 76, 3) := by decide +kernel
theorem d_X12_slots_231 : decode (gw_mC M_X12_slots) 231 = .ok (.iload 7, 2) := by decide +kernel
theorem d_X12_slots_233 : decode (gw_mC M_X12_slots) 233 = .ok (.iconst 2, 1) := by decide +kernel
theorem d_X12_slots_234 : decode (gw_mC M_X12_slots) 234 = .ok (.aload_n 0, 1) := by decide +kernel
theorem d_X12_slots_235 : decode (gw_mC M_X12_slots) 235 = .ok (.getfield 82, 3) := by decide +kernel
theorem d_X12_slots_238 : decode (gw_mC M_X12_slots) 238 = .ok (.iload 12, 2) := by decide +kernel
theorem d_X12_slots_240 : decode (gw_mC M_X12_slots) 240 = .ok (.iaload, 1) := by decide +kernel
theorem d_X12_slots_241 : decode (gw_mC M_X12_slots) 241 = .ok (.imul, 1) := by decide +kernel
theorem d_X12_slots_242 : decode (gw_mC M_X12_slots) 242 = .ok (.iadd, 1) := by decide +kernel
theorem d_X12_slots_243 : decode (gw_mC M_X12_slots) 243 = .ok (.iconst 1, 1) := by decide +kernel
theorem d_X12_slots_244 : decode (gw_mC M_X12_slots) 244 = .ok (.iadd, 1) := by decide +kernel
theorem d_X12_slots_245 : decode (gw_mC M_X12_slots) 245 = .ok (.iaload, 1) := by decide +kernel
theorem d_X12_slots_246 : decode (gw_mC M_X12_slots) 246 = .ok (.iadd, 1) := by decide +kernel
theorem d_X12_slots_247 : decode (gw_mC M_X12_slots) 247 = .ok (.istore 10, 2) := by decide +kernel
theorem d_X12_slots_249 : decode (gw_mC M_X12_slots) 249 = .ok (.iinc 12 1, 3) := by decide +kernel
theorem d_X12_slots_252 : decode (gw_mC M_X12_slots) 252 = .ok (.goto (-79), 3) := by decide +kernel
theorem d_X12_slots_255 : decode (gw_mC M_X12_slots) 255 = .ok (.iload 8, 2) := by decide +kernel
theorem d_X12_slots_257 : decode (gw_mC M_X12_slots) 257 = .ok (.ifCond .lt 10, 3) := by decide +kernel
theorem d_X12_slots_260 : decode (gw_mC M_X12_slots) 260 = .ok (.iload 11, 2) := by decide +kernel
theorem d_X12_slots_262 : decode (gw_mC M_X12_slots) 262 = .ok (.iload 8, 2) := by decide +kernel
theorem d_X12_slots_264 : decode (gw_mC M_X12_slots) 264 = .ok (.if_icmp .ge 7, 3) := by decide +kernel
theorem d_X12_slots_267 : decode (gw_mC M_X12_slots) 267 = .ok (.iconst 1, 1) := by decide +kernel
theorem d_X12_slots_268 : decode (gw_mC M_X12_slots) 268 = .ok (.goto 4, 3) := by decide +kernel
theorem d_X12_slots_271 : decode (gw_mC M_X12_slots) 271 = .ok (.iconst 0, 1) := by decide +kernel
theorem d_X12_slots_272 : decode (gw_mC M_X12_slots) 272 = .ok (.istore 12, 2) := by decide +kernel
theorem d_X12_slots_274 : decode (gw_mC M_X12_slots) 274 = .ok (.iconst 0, 1) := by decide +kernel
theorem d_X12_slots_275 : decode (gw_mC M_X12_slots) 275 = .ok (.istore 13, 2) := by decide +kernel
theorem d_X12_slots_277 : decode (gw_mC M_X12_slots) 277 = .ok (.iload 13, 2) := by decide +kernel
theorem d_X12_slots_279 : decode (gw_mC M_X12_slots) 279 = .ok (.iload 4, 2) := by decide +kernel
theorem d_X12_slots_281 : decode (gw_mC M_X12_slots) 281 = .ok (.if_icmp .ge 28, 3) := by decide +kernel
theorem d_X12_slots_284 : decode (gw_mC M_X12_slots) 284 = .ok (.iload 12, 2) := by decide +kernel
theorem d_X12_slots_286 : decode (gw_mC M_X12_slots) 286 = .ok (.ifCond .eq 23, 3) := by decide +kernel
theorem d_X12_slots_289 : decode (gw_mC M_X12_slots) 289 = .ok (.aload_n 0, 1) := by decide +kernel
theorem d_X12_slots_290 : decode (gw_mC M_X12_slots) 290 = .ok (.getfield 85, 3) := by decide +kernel
theorem d_X12_slots_293 : decode (gw_mC M_X12_slots) 293 = .ok (.iload 13, 2) := by decide +kernel
theorem d_X12_slots_295 : decode (gw_mC M_X12_slots) 295 = .ok (.aload_n 0, 1) := by decide +kernel
theorem d_X12_slots_296 : decode (gw_mC M_X12_slots) 296 = .ok (.getfield 82, 3) := by decide +kernel
theorem d_X12_slots_299 : decode (gw_mC M_X12_slots) 299 = .ok (.iload 13, 2) := by decide +kernel
theorem d_X12_slots_301 : decode (gw_mC M_X12_slots) 301 = .ok (.iaload, 1) := by decide +kernel
theorem d_X12_slots_302 : decode (gw_mC M_X12_slots) 302 = .ok (.iastore, 1) := by decide +kernel
theorem d_X12_slots_303 : decode (gw_mC M_X12_slots) 303 = .ok (.iinc 13 1, 3) := by decide +kernel
theorem d_X12_slots_306 : decode (gw_mC M_X12_slots) 306 = .ok (.goto (-29), 3) := by decide +kernel
theorem d_X12_slots_309 : decode (gw_mC M_X12_slots) 309 = .ok (.iload 12, 2) := by decide +kernel
theorem d_X12_slots_311 : decode (gw_mC M_X12_slots) 311 = .ok (.ifCond .eq 8, 3) := by decide +kernel
theorem d_X12_slots_314 : decode (gw_mC M_X12_slots) 314 = .ok (.iload 11, 2) := by decide +kernel
theorem d_X12_slots_316 : decode (gw_mC M_X12_slots) 316 = .ok (.goto 5, 3) := by decide +kernel
theorem d_X12_slots_319 : decode (gw_mC M_X12_slots) 319 = .ok (.iload 8, 2) := by decide +kernel
theorem d_X12_slots_321 : decode (gw_mC M_X12_slots) 321 = .ok (.istore 8, 2) := by decide +kernel
theorem d_X12_slots_323 : decode (gw_mC M_X12_slots) 323 = .ok (.aload_n 0, 1) := by decide +kernel
theorem d_X12_slots_324 : decode (gw_mC M_X12_slots) 324 = .ok (.iload 4, 2) := by decide +kernel
theorem d_X12_slots_326 : decode (gw_mC M_X12_slots) 326 = .ok (.invokevirtual 331, 3) := by decide +kernel
theorem d_X12_slots_329 : decode (gw_mC M_X12_slots) 329 = .ok (.istore 9, 2) := by decide +kernel
theorem d_X12_slots_331 : decode (gw_mC M_X12_slots) 331 = .ok (.goto (-172), 3) := by decide +kernel
theorem d_X12_slots_334 : decode (gw_mC M_X12_slots) 334 = .ok (.iload 5, 2) := by decide +kernel
theorem d_X12_slots_336 : decode (gw_mC M_X12_slots) 336 = .ok (.ifCond .ge 8, 3) := by decide +kernel
theorem d_X12_slots_339 : decode (gw_mC M_X12_slots) 339 = .ok (.iload 8, 2) := by decide +kernel
theorem d_X12_slots_341 : decode (gw_mC M_X12_slots) 341 = .ok (.goto 10, 3) := by decide +kernel
theorem d_X12_slots_344 : decode (gw_mC M_X12_slots) 344 = .ok (.aload_n 0, 1) := by decide +kernel
theorem d_X12_slots_345 : decode (gw_mC M_X12_slots) 345 = .ok (.getfield 85, 3) := by decide +kernel
theorem d_X12_slots_348 : decode (gw_mC M_X12_slots) 348 = .ok (.iload 5, 2) := by decide +kernel
theorem d_X12_slots_350 : decode (gw_mC M_X12_slots) 350 = .ok (.iaload, 1) := by decide +kernel
theorem d_X12_slots_351 : decode (gw_mC M_X12_slots) 351 = .ok (.ireturn, 1) := by decide +kernel
theorem d_X12_sheet_0 : decode (gw_mC M_X12_sheet) 0 = .ok (.iload_n 1, 1) := by decide +kernel
theorem d_X12_sheet_1 : decode (gw_mC M_X12_sheet) 1 = .ok (.invokestatic 320, 3) := by decide +kernel
theorem d_X12_sheet_4 : decode (gw_mC M_X12_sheet) 4 = .ok (.ifCond .eq 16, 3) := by decide +kernel
theorem d_X12_sheet_7 : decode (gw_mC M_X12_sheet) 7 = .ok (.iload_n 2, 1) := by decide +kernel
theorem d_X12_sheet_8 : decode (gw_mC M_X12_sheet) 8 = .ok (.invokestatic 323, 3) := by decide +kernel
theorem d_X12_sheet_11 : decode (gw_mC M_X12_sheet) 11 = .ok (.ifCond .eq 9, 3) := by decide +kernel
theorem d_X12_sheet_14 : decode (gw_mC M_X12_sheet) 14 = .ok (.iload_n 3, 1) := by decide +kernel
theorem d_X12_sheet_15 : decode (gw_mC M_X12_sheet) 15 = .ok (.bipush 24, 2) := by decide +kernel
theorem d_X12_sheet_17 : decode (gw_mC M_X12_sheet) 17 = .ok (.if_icmp .le 5, 3) := by decide +kernel
theorem d_X12_sheet_20 : decode (gw_mC M_X12_sheet) 20 = .ok (.iconst (-1), 1) := by decide +kernel
theorem d_X12_sheet_21 : decode (gw_mC M_X12_sheet) 21 = .ok (.ireturn, 1) := by decide +kernel
theorem d_X12_sheet_22 : decode (gw_mC M_X12_sheet) 22 = .ok (.iload_n 3, 1) := by decide +kernel
theorem d_X12_sheet_23 : decode (gw_mC M_X12_sheet) 23 = .ok (.ifCond .ge 6, 3) := by decide +kernel
theorem d_X12_sheet_26 : decode (gw_mC M_X12_sheet) 26 = .ok (.bipush (-14), 2) := by decide +kernel
theorem d_X12_sheet_28 : decode (gw_mC M_X12_sheet) 28 = .ok (.ireturn, 1) := by decide +kernel
theorem d_X12_sheet_29 : decode (gw_mC M_X12_sheet) 29 = .ok (.aload_n 0, 1) := by decide +kernel
theorem d_X12_sheet_30 : decode (gw_mC M_X12_sheet) 30 = .ok (.getfield 70, 3) := by decide +kernel
theorem d_X12_sheet_33 : decode (gw_mC M_X12_sheet) 33 = .ok (.iload_n 1, 1) := by decide +kernel
theorem d_X12_sheet_34 : decode (gw_mC M_X12_sheet) 34 = .ok (.iload_n 2, 1) := by decide +kernel
theorem d_X12_sheet_35 : decode (gw_mC M_X12_sheet) 35 = .ok (.iastore, 1) := by decide +kernel
theorem d_X12_sheet_36 : decode (gw_mC M_X12_sheet) 36 = .ok (.aload_n 0, 1) := by decide +kernel
theorem d_X12_sheet_37 : decode (gw_mC M_X12_sheet) 37 = .ok (.getfield 73, 3) := by decide +kernel
theorem d_X12_sheet_40 : decode (gw_mC M_X12_sheet) 40 = .ok (.iload_n 1, 1) := by decide +kernel
theorem d_X12_sheet_41 : decode (gw_mC M_X12_sheet) 41 = .ok (.iload_n 3, 1) := by decide +kernel
theorem d_X12_sheet_42 : decode (gw_mC M_X12_sheet) 42 = .ok (.iastore, 1) := by decide +kernel
theorem d_X12_sheet_43 : decode (gw_mC M_X12_sheet) 43 = .ok (.iconst 0, 1) := by decide +kernel
theorem d_X12_sheet_44 : decode (gw_mC M_X12_sheet) 44 = .ok (.istore 4, 2) := by decide +kernel
theorem d_X12_sheet_46 : decode (gw_mC M_X12_sheet) 46 = .ok (.iload 4, 2) := by decide +kernel
theorem d_X12_sheet_48 : decode (gw_mC M_X12_sheet) 48 = .ok (.bipush 24, 2) := by decide +kernel
theorem d_X12_sheet_50 : decode (gw_mC M_X12_sheet) 50 = .ok (.if_icmp .ge 22, 3) := by decide +kernel
theorem d_X12_sheet_53 : decode (gw_mC M_X12_sheet) 53 = .ok (.aload_n 0, 1) := by decide +kernel
theorem d_X12_sheet_54 : decode (gw_mC M_X12_sheet) 54 = .ok (.getfield 76, 3) := by decide +kernel
theorem d_X12_sheet_57 : decode (gw_mC M_X12_sheet) 57 = .ok (.bipush 24, 2) := by decide +kernel
theorem d_X12_sheet_59 : decode (gw_mC M_X12_sheet) 59 = .ok (.iload_n 1, 1) := by decide +kernel
theorem d_X12_sheet_60 : decode (gw_mC M_X12_sheet) 60 = .ok (.imul, 1) := by decide +kernel
theorem d_X12_sheet_61 : decode (gw_mC M_X12_sheet) 61 = .ok (.iload 4, 2) := by decide +kernel
theorem d_X12_sheet_63 : decode (gw_mC M_X12_sheet) 63 = .ok (.iadd, 1) := by decide +kernel
theorem d_X12_sheet_64 : decode (gw_mC M_X12_sheet) 64 = .ok (.iconst 0, 1) := by decide +kernel
theorem d_X12_sheet_65 : decode (gw_mC M_X12_sheet) 65 = .ok (.iastore, 1) := by decide +kernel
theorem d_X12_sheet_66 : decode (gw_mC M_X12_sheet) 66 = .ok (.iinc 4 1, 3) := by decide +kernel
theorem d_X12_sheet_69 : decode (gw_mC M_X12_sheet) 69 = .ok (.goto (-23), 3) := by decide +kernel
theorem d_X12_sheet_72 : decode (gw_mC M_X12_sheet) 72 = .ok (.iload_n 3, 1) := by decide +kernel
theorem d_X12_sheet_73 : decode (gw_mC M_X12_sheet) 73 = .ok (.ireturn, 1) := by decide +kernel
theorem d_X12_drop_0 : decode (gw_mC M_X12_drop) 0 = .ok (.iload_n 1, 1) := by decide +kernel
theorem d_X12_drop_1 : decode (gw_mC M_X12_drop) 1 = .ok (.invokestatic 320, 3) := by decide +kernel
theorem d_X12_drop_4 : decode (gw_mC M_X12_drop) 4 = .ok (.ifCond .ne 5, 3) := by decide +kernel
theorem d_X12_drop_7 : decode (gw_mC M_X12_drop) 7 = .ok (.iconst (-1), 1) := by decide +kernel
theorem d_X12_drop_8 : decode (gw_mC M_X12_drop) 8 = .ok (.ireturn, 1) := by decide +kernel
theorem d_X12_drop_9 : decode (gw_mC M_X12_drop) 9 = .ok (.aload_n 0, 1) := by decide +kernel
theorem d_X12_drop_10 : decode (gw_mC M_X12_drop) 10 = .ok (.getfield 70, 3) := by decide +kernel
theorem d_X12_drop_13 : decode (gw_mC M_X12_drop) 13 = .ok (.iload_n 1, 1) := by decide +kernel
theorem d_X12_drop_14 : decode (gw_mC M_X12_drop) 14 = .ok (.iaload, 1) := by decide +kernel
theorem d_X12_drop_15 : decode (gw_mC M_X12_drop) 15 = .ok (.ifCond .ge 6, 3) := by decide +kernel
theorem d_X12_drop_18 : decode (gw_mC M_X12_drop) 18 = .ok (.bipush (-11), 2) := by decide +kernel
theorem d_X12_drop_20 : decode (gw_mC M_X12_drop) 20 = .ok (.ireturn, 1) := by decide +kernel
theorem d_X12_drop_21 : decode (gw_mC M_X12_drop) 21 = .ok (.aload_n 0, 1) := by decide +kernel
theorem d_X12_drop_22 : decode (gw_mC M_X12_drop) 22 = .ok (.getfield 70, 3) := by decide +kernel
theorem d_X12_drop_25 : decode (gw_mC M_X12_drop) 25 = .ok (.iload_n 1, 1) := by decide +kernel
theorem d_X12_drop_26 : decode (gw_mC M_X12_drop) 26 = .ok (.iconst (-1), 1) := by decide +kernel
theorem d_X12_drop_27 : decode (gw_mC M_X12_drop) 27 = .ok (.iastore, 1) := by decide +kernel
theorem d_X12_drop_28 : decode (gw_mC M_X12_drop) 28 = .ok (.aload_n 0, 1) := by decide +kernel
theorem d_X12_drop_29 : decode (gw_mC M_X12_drop) 29 = .ok (.getfield 73, 3) := by decide +kernel
theorem d_X12_drop_32 : decode (gw_mC M_X12_drop) 32 = .ok (.iload_n 1, 1) := by decide +kernel
theorem d_X12_drop_33 : decode (gw_mC M_X12_drop) 33 = .ok (.iaload, 1) := by decide +kernel
theorem d_X12_drop_34 : decode (gw_mC M_X12_drop) 34 = .ok (.ireturn, 1) := by decide +kernel
theorem d_X12_item_0 : decode (gw_mC M_X12_item) 0 = .ok (.iload_n 1, 1) := by decide +kernel
theorem d_X12_item_1 : decode (gw_mC M_X12_item) 1 = .ok (.invokestatic 320, 3) := by decide +kernel
theorem d_X12_item_4 : decode (gw_mC M_X12_item) 4 = .ok (.ifCond .eq 10, 3) := by decide +kernel
theorem d_X12_item_7 : decode (gw_mC M_X12_item) 7 = .ok (.iload_n 2, 1) := by decide +kernel
theorem d_X12_item_8 : decode (gw_mC M_X12_item) 8 = .ok (.invokestatic 323, 3) := by decide +kernel
theorem d_X12_item_11 : decode (gw_mC M_X12_item) 11 = .ok (.ifCond .ne 5, 3) := by decide +kernel
theorem d_X12_item_14 : decode (gw_mC M_X12_item) 14 = .ok (.iconst (-1), 1) := by decide +kernel
theorem d_X12_item_15 : decode (gw_mC M_X12_item) 15 = .ok (.ireturn, 1) := by decide +kernel
theorem d_X12_item_16 : decode (gw_mC M_X12_item) 16 = .ok (.aload_n 0, 1) := by decide +kernel
theorem d_X12_item_17 : decode (gw_mC M_X12_item) 17 = .ok (.iload_n 1, 1) := by decide +kernel
theorem d_X12_item_18 : decode (gw_mC M_X12_item) 18 = .ok (.iload_n 2, 1) := by decide +kernel
theorem d_X12_item_19 : decode (gw_mC M_X12_item) 19 = .ok (.iload_n 3, 1) := by decide +kernel
theorem d_X12_item_20 : decode (gw_mC M_X12_item) 20 = .ok (.iconst 1, 1) := by decide +kernel
theorem d_X12_item_21 : decode (gw_mC M_X12_item) 21 = .ok (.invokevirtual 328, 3) := by decide +kernel
theorem d_X12_item_24 : decode (gw_mC M_X12_item) 24 = .ok (.istore 5, 2) := by decide +kernel
theorem d_X12_item_26 : decode (gw_mC M_X12_item) 26 = .ok (.iload 5, 2) := by decide +kernel
theorem d_X12_item_28 : decode (gw_mC M_X12_item) 28 = .ok (.ifCond .ge 6, 3) := by decide +kernel
theorem d_X12_item_31 : decode (gw_mC M_X12_item) 31 = .ok (.iload 5, 2) := by decide +kernel
theorem d_X12_item_33 : decode (gw_mC M_X12_item) 33 = .ok (.ireturn, 1) := by decide +kernel
theorem d_X12_item_34 : decode (gw_mC M_X12_item) 34 = .ok (.aload_n 0, 1) := by decide +kernel
theorem d_X12_item_35 : decode (gw_mC M_X12_item) 35 = .ok (.getfield 76, 3) := by decide +kernel
theorem d_X12_item_38 : decode (gw_mC M_X12_item) 38 = .ok (.bipush 24, 2) := by decide +kernel
theorem d_X12_item_40 : decode (gw_mC M_X12_item) 40 = .ok (.iload_n 1, 1) := by decide +kernel
theorem d_X12_item_41 : decode (gw_mC M_X12_item) 41 = .ok (.imul, 1) := by decide +kernel
theorem d_X12_item_42 : decode (gw_mC M_X12_item) 42 = .ok (.iload_n 3, 1) := by decide +kernel
theorem d_X12_item_43 : decode (gw_mC M_X12_item) 43 = .ok (.iadd, 1) := by decide +kernel
theorem d_X12_item_44 : decode (gw_mC M_X12_item) 44 = .ok (.iload_n 2, 1) := by decide +kernel
theorem d_X12_item_45 : decode (gw_mC M_X12_item) 45 = .ok (.ifCond .ne 9, 3) := by decide +kernel
theorem d_X12_item_48 : decode (gw_mC M_X12_item) 48 = .ok (.iload 4, 2) := by decide +kernel
theorem d_X12_item_50 : decode (gw_mC M_X12_item) 50 = .ok (.i2b, 1) := by decide +kernel
theorem d_X12_item_51 : decode (gw_mC M_X12_item) 51 = .ok (.goto 16, 3) := by decide +kernel
theorem d_X12_item_54 : decode (gw_mC M_X12_item) 54 = .ok (.iload_n 2, 1) := by decide +kernel
theorem d_X12_item_55 : decode (gw_mC M_X12_item) 55 = .ok (.iconst 1, 1) := by decide +kernel
theorem d_X12_item_56 : decode (gw_mC M_X12_item) 56 = .ok (.if_icmp .ne 9, 3) := by decide +kernel
theorem d_X12_item_59 : decode (gw_mC M_X12_item) 59 = .ok (.iload 4, 2) := by decide +kernel
theorem d_X12_item_61 : decode (gw_mC M_X12_item) 61 = .ok (.i2s, 1) := by decide +kernel
theorem d_X12_item_62 : decode (gw_mC M_X12_item) 62 = .ok (.goto 5, 3) := by decide +kernel
theorem d_X12_item_65 : decode (gw_mC M_X12_item) 65 = .ok (.iload 4, 2) := by decide +kernel
theorem d_X12_item_67 : decode (gw_mC M_X12_item) 67 = .ok (.iastore, 1) := by decide +kernel
theorem d_X12_item_68 : decode (gw_mC M_X12_item) 68 = .ok (.iconst 1, 1) := by decide +kernel
theorem d_X12_item_69 : decode (gw_mC M_X12_item) 69 = .ok (.ireturn, 1) := by decide +kernel
theorem d_X12_copy_0 : decode (gw_mC M_X12_copy) 0 = .ok (.iload_n 1, 1) := by decide +kernel
theorem d_X12_copy_1 : decode (gw_mC M_X12_copy) 1 = .ok (.invokestatic 320, 3) := by decide +kernel
theorem d_X12_copy_4 : decode (gw_mC M_X12_copy) 4 = .ok (.ifCond .eq 10, 3) := by decide +kernel
theorem d_X12_copy_7 : decode (gw_mC M_X12_copy) 7 = .ok (.iload_n 3, 1) := by decide +kernel
theorem d_X12_copy_8 : decode (gw_mC M_X12_copy) 8 = .ok (.invokestatic 320, 3) := by decide +kernel
theorem d_X12_copy_11 : decode (gw_mC M_X12_copy) 11 = .ok (.ifCond .ne 5, 3) := by decide +kernel
theorem d_X12_copy_14 : decode (gw_mC M_X12_copy) 14 = .ok (.iconst (-1), 1) := by decide +kernel
theorem d_X12_copy_15 : decode (gw_mC M_X12_copy) 15 = .ok (.ireturn, 1) := by decide +kernel
theorem d_X12_copy_16 : decode (gw_mC M_X12_copy) 16 = .ok (.aload_n 0, 1) := by decide +kernel
theorem d_X12_copy_17 : decode (gw_mC M_X12_copy) 17 = .ok (.getfield 70, 3) := by decide +kernel
theorem d_X12_copy_20 : decode (gw_mC M_X12_copy) 20 = .ok (.iload_n 1, 1) := by decide +kernel
theorem d_X12_copy_21 : decode (gw_mC M_X12_copy) 21 = .ok (.iaload, 1) := by decide +kernel
theorem d_X12_copy_22 : decode (gw_mC M_X12_copy) 22 = .ok (.ifCond .lt 12, 3) := by decide +kernel
theorem d_X12_copy_25 : decode (gw_mC M_X12_copy) 25 = .ok (.aload_n 0, 1) := by decide +kernel
theorem d_X12_copy_26 : decode (gw_mC M_X12_copy) 26 = .ok (.getfield 70, 3) := by decide +kernel
theorem d_X12_copy_29 : decode (gw_mC M_X12_copy) 29 = .ok (.iload_n 3, 1) := by decide +kernel
theorem d_X12_copy_30 : decode (gw_mC M_X12_copy) 30 = .ok (.iaload, 1) := by decide +kernel
theorem d_X12_copy_31 : decode (gw_mC M_X12_copy) 31 = .ok (.ifCond .ge 6, 3) := by decide +kernel
theorem d_X12_copy_34 : decode (gw_mC M_X12_copy) 34 = .ok (.bipush (-11), 2) := by decide +kernel
theorem d_X12_copy_36 : decode (gw_mC M_X12_copy) 36 = .ok (.ireturn, 1) := by decide +kernel
theorem d_X12_copy_37 : decode (gw_mC M_X12_copy) 37 = .ok (.aload_n 0, 1) := by decide +kernel
theorem d_X12_copy_38 : decode (gw_mC M_X12_copy) 38 = .ok (.getfield 70, 3) := by decide +kernel
theorem d_X12_copy_41 : decode (gw_mC M_X12_copy) 41 = .ok (.iload_n 1, 1) := by decide +kernel
theorem d_X12_copy_42 : decode (gw_mC M_X12_copy) 42 = .ok (.iaload, 1) := by decide +kernel
theorem d_X12_copy_43 : decode (gw_mC M_X12_copy) 43 = .ok (.aload_n 0, 1) := by decide +kernel
theorem d_X12_copy_44 : decode (gw_mC M_X12_copy) 44 = .ok (.getfield 70, 3) := by decide +kernel
theorem d_X12_copy_47 : decode (gw_mC M_X12_copy) 47 = .ok (.iload_n 3, 1) := by decide +kernel
theorem d_X12_copy_48 : decode (gw_mC M_X12_copy) 48 = .ok (.iaload, 1) := by decide +kernel
theorem d_X12_copy_49 : decode (gw_mC M_X12_copy) 49 = .ok (.if_icmp .eq 6, 3) := by decide +kernel
theorem d_X12_copy_52 : decode (gw_mC M_X12_copy) 52 = .ok (.bipush (-12), 2) := by decide +kernel
theorem d_X12_copy_54 : decode (gw_mC M_X12_copy) 54 = .ok (.ireturn, 1) := by decide +kernel
theorem d_X12_copy_55 : decode (gw_mC M_X12_copy) 55 = .ok (.iload 5, 2) := by decide +kernel
theorem d_X12_copy_57 : decode (gw_mC M_X12_copy) 57 = .ok (.ifCond .lt 38, 3) := by decide +kernel
theorem d_X12_copy_60 : decode (gw_mC M_X12_copy) 60 = .ok (.aload_n 0, 1) := by decide +kernel
theorem d_X12_copy_61 : decode (gw_mC M_X12_copy) 61 = .ok (.iload_n 1, 1) := by decide +kernel
theorem d_X12_copy_62 : decode (gw_mC M_X12_copy) 62 = .ok (.aload_n 0, 1) := by decide +kernel
theorem d_X12_copy_63 : decode (gw_mC M_X12_copy) 63 = .ok (.getfield 70, 3) := by decide +kernel
theorem d_X12_copy_66 : decode (gw_mC M_X12_copy) 66 = .ok (.iload_n 1, 1) := by decide +kernel
theorem d_X12_copy_67 : decode (gw_mC M_X12_copy) 67 = .ok (.iaload, 1) := by decide +kernel
theorem d_X12_copy_68 : decode (gw_mC M_X12_copy) 68 = .ok (.iload_n 2, 1) := by decide +kernel
theorem d_X12_copy_69 : decode (gw_mC M_X12_copy) 69 = .ok (.iload 5, 2) := by decide +kernel
theorem d_X12_copy_71 : decode (gw_mC M_X12_copy) 71 = .ok (.invokevirtual 328, 3) := by decide +kernel
theorem d_X12_copy_74 : decode (gw_mC M_X12_copy) 74 = .ok (.ifCond .lt 21, 3) := by decide +kernel
theorem d_X12_copy_77 : decode (gw_mC M_X12_copy) 77 = .ok (.aload_n 0, 1) := by decide +kernel
theorem d_X12_copy_78 : decode (gw_mC M_X12_copy) 78 = .ok (.iload_n 3, 1) := by decide +kernel
theorem d_X12_copy_79 : decode (gw_mC M_X12_copy) 79 = .ok (.aload_n 0, 1) := by decide +kernel
theorem d_X12_copy_80 : decode (gw_mC M_X12_copy) 80 = .ok (.getfield 70, 3) := by decide +kernel
theorem d_X12_copy_83 : decode (gw_mC M_X12_copy) 83 = .ok (.iload_n 3, 1) := by decide +kernel
theorem d_X12_copy_84 : decode (gw_mC M_X12_copy) 84 = .ok (.iaload, 1) := by decide +kernel
theorem d_X12_copy_85 : decode (gw_mC M_X12_copy) 85 = .ok (.iload 4, 2) := by decide +kernel
theorem d_X12_copy_87 : decode (gw_mC M_X12_copy) 87 = .ok (.iload 5, 2) := by decide +kernel
theorem d_X12_copy_89 : decode (gw_mC M_X12_copy) 89 = .ok (.invokevirtual 328, 3) := by decide +kernel
theorem d_X12_copy_92 : decode (gw_mC M_X12_copy) 92 = .ok (.ifCond .ge 6, 3) := by decide +kernel
theorem d_X12_copy_95 : decode (gw_mC M_X12_copy) 95 = .ok (.bipush (-13), 2) := by decide +kernel
theorem d_X12_copy_97 : decode (gw_mC M_X12_copy) 97 = .ok (.ireturn, 1) := by decide +kernel
theorem d_X12_copy_98 : decode (gw_mC M_X12_copy) 98 = .ok (.iconst 0, 1) := by decide +kernel
theorem d_X12_copy_99 : decode (gw_mC M_X12_copy) 99 = .ok (.istore 6, 2) := by decide +kernel
theorem d_X12_copy_101 : decode (gw_mC M_X12_copy) 101 = .ok (.iload 6, 2) := by decide +kernel
theorem d_X12_copy_103 : decode (gw_mC M_X12_copy) 103 = .ok (.iload 5, 2) := by decide +kernel
theorem d_X12_copy_105 : decode (gw_mC M_X12_copy) 105 = .ok (.if_icmp .ge 30, 3) := by decide +kernel
theorem d_X12_copy_108 : decode (gw_mC M_X12_copy) 108 = .ok (.aload_n 0, 1) := by decide +kernel
theorem d_X12_copy_109 : decode (gw_mC M_X12_copy) 109 = .ok (.getfield 79, 3) := by decide +kernel
theorem d_X12_copy_112 : decode (gw_mC M_X12_copy) 112 = .ok (.iload 6, 2) := by decide +kernel
theorem d_X12_copy_114 : decode (gw_mC M_X12_copy) 114 = .ok (.aload_n 0, 1) := by decide +kernel
theorem d_X12_copy_115 : decode (gw_mC M_X12_copy) 115 = .ok (.getfield 76, 3) := by decide +kernel
theorem d_X12_copy_118 : decode (gw_mC M_X12_copy) 118 = .ok (.bipush 24, 2) := by decide +kernel
theorem d_X12_copy_120 : decode (gw_mC M_X12_copy) 120 = .ok (.iload_n 1, 1) := by decide +kernel
theorem d_X12_copy_121 : decode (gw_mC M_X12_copy) 121 = .ok (.imul, 1) := by decide +kernel
theorem d_X12_copy_122 : decode (gw_mC M_X12_copy) 122 = .ok (.iload_n 2, 1) := by decide +kernel
theorem d_X12_copy_123 : decode (gw_mC M_X12_copy) 123 = .ok (.iadd, 1) := by decide +kernel
theorem d_X12_copy_124 : decode (gw_mC M_X12_copy) 124 = .ok (.iload 6, 2) := by decide +kernel
theorem d_X12_copy_126 : decode (gw_mC M_X12_copy) 126 = .ok (.iadd, 1) := by decide +kernel
theorem d_X12_copy_127 : decode (gw_mC M_X12_copy) 127 = .ok (.iaload, 1) := by decide +kernel
theorem d_X12_copy_128 : decode (gw_mC M_X12_copy) 128 = .ok (.iastore, 1) := by decide +kernel
theorem d_X12_copy_129 : decode (gw_mC M_X12_copy) 129 = .ok (.iinc 6 1, 3) := by decide +kernel
theorem d_X12_copy_132 : decode (gw_mC M_X12_copy) 132 = .ok (.goto (-31), 3) := by decide +kernel
theorem d_X12_copy_135 : decode (gw_mC M_X12_copy) 135 = .ok (.iconst 0, 1) := by decide +kernel
theorem d_X12_copy_136 : decode (gw_mC M_X12_copy) 136 = .ok (.istore 6, 2) := by decide +kernel
theorem d_X12_copy_138 : decode (gw_mC M_X12_copy) 138 = .ok (.iload 6, 2) := by decide +kernel
theorem d_X12_copy_140 : decode (gw_mC M_X12_copy) 140 = .ok (.iload 5, 2) := by decide +kernel
theorem d_X12_copy_142 : decode (gw_mC M_X12_copy) 142 = .ok (.if_icmp .ge 31, 3) := by decide +kernel
theorem d_X12_copy_145 : decode (gw_mC M_X12_copy) 145 = .ok (.aload_n 0, 1) := by decide +kernel
theorem d_X12_copy_146 : decode (gw_mC M_X12_copy) 146 = .ok (.getfield 76, 3) := by decide +kernel
theorem d_X12_copy_149 : decode (gw_mC M_X12_copy) 149 = .ok (.bipush 24, 2) := by decide +kernel
theorem d_X12_copy_151 : decode (gw_mC M_X12_copy) 151 = .ok (.iload_n 3, 1) := by decide +kernel
theorem d_X12_copy_152 : decode (gw_mC M_X12_copy) 152 = .ok (.imul, 1) := by decide +kernel
theorem d_X12_copy_153 : decode (gw_mC M_X12_copy) 153 = .ok (.iload 4, 2) := by decide +kernel
theorem d_X12_copy_155 : decode (gw_mC M_X12_copy) 155 = .ok (.iadd, 1) := by decide +kernel
theorem d_X12_copy_156 : decode (gw_mC M_X12_copy) 156 = .ok (.iload 6, 2) := by decide +kernel
theorem d_X12_copy_158 : decode (gw_mC M_X12_copy) 158 = .ok (.iadd, 1) := by decide +kernel
theorem d_X12_copy_159 : decode (gw_mC M_X12_copy) 159 = .ok (.aload_n 0, 1) := by decide +kernel
theorem d_X12_copy_160 : decode (gw_mC M_X12_copy) 160 = .ok (.getfield 79, 3) := by decide +kernel
theorem d_X12_copy_163 : decode (gw_mC M_X12_copy) 163 = .ok (.iload 6, 2) := by decide +kernel
theorem d_X12_copy_165 : decode (gw_mC M_X12_copy) 165 = .ok (.iaload, 1) := by decide +kernel
theorem d_X12_copy_166 : decode (gw_mC M_X12_copy) 166 = .ok (.iastore, 1) := by decide +kernel
theorem d_X12_copy_167 : decode (gw_mC M_X12_copy) 167 = .ok (.iinc 6 1, 3) := by decide +kernel
theorem d_X12_copy_170 : decode (gw_mC M_X12_copy) 170 = .ok (.goto (-32), 3) := by decide +kernel
theorem d_X12_copy_173 : decode (gw_mC M_X12_copy) 173 = .ok (.iload 5, 2) := by decide +kernel
theorem d_X12_copy_175 : decode (gw_mC M_X12_copy) 175 = .ok (.ireturn, 1) := by decide +kernel
theorem d_law_0 : decode (gw_mC M_law) 0 = .ok (.new 7, 3) := by decide +kernel
theorem d_law_3 : decode (gw_mC M_law) 3 = .ok (.dup, 1) := by decide +kernel
theorem d_law_4 : decode (gw_mC M_law) 4 = .ok (.invokespecial 9, 3) := by decide +kernel
theorem d_law_7 : decode (gw_mC M_law) 7 = .ok (.astore_n 1, 1) := by decide +kernel
theorem d_law_8 : decode (gw_mC M_law) 8 = .ok (.new 10, 3) := by decide +kernel
theorem d_law_11 : decode (gw_mC M_law) 11 = .ok (.dup, 1) := by decide +kernel
theorem d_law_12 : decode (gw_mC M_law) 12 = .ok (.invokespecial 12, 3) := by decide +kernel
theorem d_law_15 : decode (gw_mC M_law) 15 = .ok (.astore_n 2, 1) := by decide +kernel
theorem d_law_16 : decode (gw_mC M_law) 16 = .ok (.iconst 0, 1) := by decide +kernel
theorem d_law_17 : decode (gw_mC M_law) 17 = .ok (.istore_n 3, 1) := by decide +kernel
theorem d_law_18 : decode (gw_mC M_law) 18 = .ok (.iload_n 3, 1) := by decide +kernel
theorem d_law_19 : decode (gw_mC M_law) 19 = .ok (.aload_n 0, 1) := by decide +kernel
theorem d_law_20 : decode (gw_mC M_law) 20 = .ok (.arraylength, 1) := by decide +kernel
theorem d_law_21 : decode (gw_mC M_law) 21 = .ok (.bipush 6, 2) := by decide +kernel
theorem d_law_23 : decode (gw_mC M_law) 23 = .ok (.isub, 1) := by decide +kernel
theorem d_law_24 : decode (gw_mC M_law) 24 = .ok (.if_icmp .gt 1169, 3) := by decide +kernel
theorem d_law_27 : decode (gw_mC M_law) 27 = .ok (.aload_n 0, 1) := by decide +kernel
theorem d_law_28 : decode (gw_mC M_law) 28 = .ok (.iload_n 3, 1) := by decide +kernel
theorem d_law_29 : decode (gw_mC M_law) 29 = .ok (.iaload, 1) := by decide +kernel
theorem d_law_30 : decode (gw_mC M_law) 30 = .ok (.bipush 31, 2) := by decide +kernel
theorem d_law_32 : decode (gw_mC M_law) 32 = .ok (.iand, 1) := by decide +kernel
theorem d_law_33 : decode (gw_mC M_law) 33 = .ok (.tableswitch 1154 0 28 #[131, 154, 197, 240, 273, 332, 365, 398, 461, 474, 487, 510, 543, 576, 599, 632, 655, 688, 741, 784, 817, 840, 883, 896, 909, 972, 1015, 1038, 1091], 131) := by decide +kernel
theorem d_law_164 : decode (gw_mC M_law) 164 = .ok (.aload_n 1, 1) := by decide +kernel
theorem d_law_165 : decode (gw_mC M_law) 165 = .ok (.aload_n 0, 1) := by decide +kernel
theorem d_law_166 : decode (gw_mC M_law) 166 = .ok (.iload_n 3, 1) := by decide +kernel
theorem d_law_167 : decode (gw_mC M_law) 167 = .ok (.iconst 1, 1) := by decide +kernel
theorem d_law_168 : decode (gw_mC M_law) 168 = .ok (.iadd, 1) := by decide +kernel
theorem d_law_169 : decode (gw_mC M_law) 169 = .ok (.iaload, 1) := by decide +kernel
theorem d_law_170 : decode (gw_mC M_law) 170 = .ok (.invokevirtual 13, 3) := by decide +kernel
theorem d_law_173 : decode (gw_mC M_law) 173 = .ok (.aload_n 2, 1) := by decide +kernel
theorem d_law_174 : decode (gw_mC M_law) 174 = .ok (.aload_n 0, 1) := by decide +kernel
theorem d_law_175 : decode (gw_mC M_law) 175 = .ok (.iload_n 3, 1) := by decide +kernel
theorem d_law_176 : decode (gw_mC M_law) 176 = .ok (.iconst 1, 1) := by decide +kernel
theorem d_law_177 : decode (gw_mC M_law) 177 = .ok (.iadd, 1) := by decide +kernel
theorem d_law_178 : decode (gw_mC M_law) 178 = .ok (.iaload, 1) := by decide +kernel
theorem d_law_179 : decode (gw_mC M_law) 179 = .ok (.invokevirtual 17, 3) := by decide +kernel
theorem d_law_182 : decode (gw_mC M_law) 182 = .ok (.if_icmp .eq 1005, 3) := by decide +kernel
theorem d_law_185 : decode (gw_mC M_law) 185 = .ok (.iconst 0, 1) := by decide +kernel
theorem d_law_186 : decode (gw_mC M_law) 186 = .ok (.ireturn, 1) := by decide +kernel
theorem d_law_187 : decode (gw_mC M_law) 187 = .ok (.aload_n 1, 1) := by decide +kernel
theorem d_law_188 : decode (gw_mC M_law) 188 = .ok (.aload_n 0, 1) := by decide +kernel
theorem d_law_189 : decode (gw_mC M_law) 189 = .ok (.iload_n 3, 1) := by decide +kernel
theorem d_law_190 : decode (gw_mC M_law) 190 = .ok (.iconst 1, 1) := by decide +kernel
theorem d_law_191 : decode (gw_mC M_law) 191 = .ok (.iadd, 1) := by decide +kernel
theorem d_law_192 : decode (gw_mC M_law) 192 = .ok (.iaload, 1) := by decide +kernel
theorem d_law_193 : decode (gw_mC M_law) 193 = .ok (.aload_n 0, 1) := by decide +kernel
theorem d_law_194 : decode (gw_mC M_law) 194 = .ok (.iload_n 3, 1) := by decide +kernel
theorem d_law_195 : decode (gw_mC M_law) 195 = .ok (.iconst 2, 1) := by decide +kernel
theorem d_law_196 : decode (gw_mC M_law) 196 = .ok (.iadd, 1) := by decide +kernel
theorem d_law_197 : decode (gw_mC M_law) 197 = .ok (.iaload, 1) := by decide +kernel
theorem d_law_198 : decode (gw_mC M_law) 198 = .ok (.aload_n 0, 1) := by decide +kernel
theorem d_law_199 : decode (gw_mC M_law) 199 = .ok (.iload_n 3, 1) := by decide +kernel
theorem d_law_200 : decode (gw_mC M_law) 200 = .ok (.iconst 3, 1) := by decide +kernel
theorem d_law_201 : decode (gw_mC M_law) 201 = .ok (.iadd, 1) := by decide +kernel
theorem d_law_202 : decode (gw_mC M_law) 202 = .ok (.iaload, 1) := by decide +kernel
theorem d_law_203 : decode (gw_mC M_law) 203 = .ok (.invokevirtual 18, 3) := by decide +kernel
theorem d_law_206 : decode (gw_mC M_law) 206 = .ok (.aload_n 2, 1) := by decide +kernel
theorem d_law_207 : decode (gw_mC M_law) 207 = .ok (.aload_n 0, 1) := by decide +kernel
theorem d_law_208 : decode (gw_mC M_law) 208 = .ok (.iload_n 3, 1) := by decide +kernel
theorem d_law_209 : decode (gw_mC M_law) 209 = .ok (.iconst 1, 1) := by decide +kernel
theorem d_law_210 : decode (gw_mC M_law) 210 = .ok (.iadd, 1) := by decide +kernel
theorem d_law_211 : decode (gw_mC M_law) 211 = .ok (.iaload, 1) := by decide +kernel
theorem d_law_212 : decode (gw_mC M_law) 212 = .ok (.aload_n 0, 1) := by decide +kernel
theorem d_law_213 : decode (gw_mC M_law) 213 = .ok (.iload_n 3, 1) := by decide +kernel
theorem d_law_214 : decode (gw_mC M_law) 214 = .ok (.iconst 2, 1) := by decide +kernel
theorem d_law_215 : decode (gw_mC M_law) 215 = .ok (.iadd, 1) := by decide +kernel
theorem d_law_216 : decode (gw_mC M_law) 216 = .ok (.iaload, 1) := by decide +kernel
theorem d_law_217 : decode (gw_mC M_law) 217 = .ok (.aload_n 0, 1) := by decide +kernel
theorem d_law_218 : decode (gw_mC M_law) 218 = .ok (.iload_n 3, 1) := by decide +kernel
theorem d_law_219 : decode (gw_mC M_law) 219 = .ok (.iconst 3, 1) := by decide +kernel
theorem d_law_220 : decode (gw_mC M_law) 220 = .ok (.iadd, 1) := by decide +kernel
theorem d_law_221 : decode (gw_mC M_law) 221 = .ok (.iaload, 1) := by decide +kernel
theorem d_law_222 : decode (gw_mC M_law) 222 = .ok (.invokevirtual 22, 3) := by decide +kernel
theorem d_law_225 : decode (gw_mC M_law) 225 = .ok (.if_icmp .eq 962, 3) := by decide +kernel
theorem d_law_228 : decode (gw_mC M_law) 228 = .ok (.iconst 0, 1) := by decide +kernel
theorem d_law_229 : decode (gw_mC M_law) 229 = .ok (.ireturn, 1) := by decide +kernel
theorem d_law_230 : decode (gw_mC M_law) 230 = .ok (.aload_n 1, 1) := by decide +kernel
theorem d_law_231 : decode (gw_mC M_law) 231 = .ok (.aload_n 0, 1) := by decide +kernel
theorem d_law_232 : decode (gw_mC M_law) 232 = .ok (.iload_n 3, 1) := by decide +kernel
theorem d_law_233 : decode (gw_mC M_law) 233 = .ok (.iconst 1, 1) := by decide +kernel
theorem d_law_234 : decode (gw_mC M_law) 234 = .ok (.iadd, 1) := by decide +kernel
theorem d_law_235 : decode (gw_mC M_law) 235 = .ok (.iaload, 1) := by decide +kernel
theorem d_law_236 : decode (gw_mC M_law) 236 = .ok (.aload_n 0, 1) := by decide +kernel
theorem d_law_237 : decode (gw_mC M_law) 237 = .ok (.iload_n 3, 1) := by decide +kernel
theorem d_law_238 : decode (gw_mC M_law) 238 = .ok (.iconst 2, 1) := by decide +kernel
theorem d_law_239 : decode (gw_mC M_law) 239 = .ok (.iadd, 1) := by decide +kernel
theorem d_law_240 : decode (gw_mC M_law) 240 = .ok (.iaload, 1) := by decide +kernel
theorem d_law_241 : decode (gw_mC M_law) 241 = .ok (.aload_n 0, 1) := by decide +kernel
theorem d_law_242 : decode (gw_mC M_law) 242 = .ok (.iload_n 3, 1) := by decide +kernel
theorem d_law_243 : decode (gw_mC M_law) 243 = .ok (.iconst 3, 1) := by decide +kernel
theorem d_law_244 : decode (gw_mC M_law) 244 = .ok (.iadd, 1) := by decide +kernel
theorem d_law_245 : decode (gw_mC M_law) 245 = .ok (.iaload, 1) := by decide +kernel
theorem d_law_246 : decode (gw_mC M_law) 246 = .ok (.invokevirtual 23, 3) := by decide +kernel
theorem d_law_249 : decode (gw_mC M_law) 249 = .ok (.aload_n 2, 1) := by decide +kernel
theorem d_law_250 : decode (gw_mC M_law) 250 = .ok (.aload_n 0, 1) := by decide +kernel
theorem d_law_251 : decode (gw_mC M_law) 251 = .ok (.iload_n 3, 1) := by decide +kernel
theorem d_law_252 : decode (gw_mC M_law) 252 = .ok (.iconst 1, 1) := by decide +kernel
theorem d_law_253 : decode (gw_mC M_law) 253 = .ok (.iadd, 1) := by decide +kernel
theorem d_law_254 : decode (gw_mC M_law) 254 = .ok (.iaload, 1) := by decide +kernel
theorem d_law_255 : decode (gw_mC M_law) 255 = .ok (.aload_n 0, 1) := by decide +kernel
theorem d_law_256 : decode (gw_mC M_law) 256 = .ok (.iload_n 3, 1) := by decide +kernel
theorem d_law_257 : decode (gw_mC M_law) 257 = .ok (.iconst 2, 1) := by decide +kernel
theorem d_law_258 : decode (gw_mC M_law) 258 = .ok (.iadd, 1) := by decide +kernel
theorem d_law_259 : decode (gw_mC M_law) 259 = .ok (.iaload, 1) := by decide +kernel
theorem d_law_260 : decode (gw_mC M_law) 260 = .ok (.aload_n 0, 1) := by decide +kernel
theorem d_law_261 : decode (gw_mC M_law) 261 = .ok (.iload_n 3, 1) := by decide +kernel
theorem d_law_262 : decode (gw_mC M_law) 262 = .ok (.iconst 3, 1) := by decide +kernel
theorem d_law_263 : decode (gw_mC M_law) 263 = .ok (.iadd, 1) := by decide +kernel
theorem d_law_264 : decode (gw_mC M_law) 264 = .ok (.iaload, 1) := by decide +kernel
theorem d_law_265 : decode (gw_mC M_law) 265 = .ok (.invokevirtual 26, 3) := by decide +kernel
theorem d_law_268 : decode (gw_mC M_law) 268 = .ok (.if_icmp .eq 919, 3) := by decide +kernel
theorem d_law_271 : decode (gw_mC M_law) 271 = .ok (.iconst 0, 1) := by decide +kernel
theorem d_law_272 : decode (gw_mC M_law) 272 = .ok (.ireturn, 1) := by decide +kernel
theorem d_law_273 : decode (gw_mC M_law) 273 = .ok (.aload_n 1, 1) := by decide +kernel
theorem d_law_274 : decode (gw_mC M_law) 274 = .ok (.aload_n 0, 1) := by decide +kernel
theorem d_law_275 : decode (gw_mC M_law) 275 = .ok (.iload_n 3, 1) := by decide +kernel
theorem d_law_276 : decode (gw_mC M_law) 276 = .ok (.iconst 1, 1) := by decide +kernel
theorem d_law_277 : decode (gw_mC M_law) 277 = .ok (.iadd, 1) := by decide +kernel
theorem d_law_278 : decode (gw_mC M_law) 278 = .ok (.iaload, 1) := by decide +kernel
theorem d_law_279 : decode (gw_mC M_law) 279 = .ok (.aload_n 0, 1) := by decide +kernel
theorem d_law_280 : decode (gw_mC M_law) 280 = .ok (.iload_n 3, 1) := by decide +kernel
theorem d_law_281 : decode (gw_mC M_law) 281 = .ok (.iconst 2, 1) := by decide +kernel
theorem d_law_282 : decode (gw_mC M_law) 282 = .ok (.iadd, 1) := by decide +kernel
theorem d_law_283 : decode (gw_mC M_law) 283 = .ok (.iaload, 1) := by decide +kernel
theorem d_law_284 : decode (gw_mC M_law) 284 = .ok (.invokevirtual 27, 3) := by decide +kernel
theorem d_law_287 : decode (gw_mC M_law) 287 = .ok (.aload_n 2, 1) := by decide +kernel
theorem d_law_288 : decode (gw_mC M_law) 288 = .ok (.aload_n 0, 1) := by decide +kernel
theorem d_law_289 : decode (gw_mC M_law) 289 = .ok (.iload_n 3, 1) := by decide +kernel
theorem d_law_290 : decode (gw_mC M_law) 290 = .ok (.iconst 1, 1) := by decide +kernel
theorem d_law_291 : decode (gw_mC M_law) 291 = .ok (.iadd, 1) := by decide +kernel
theorem d_law_292 : decode (gw_mC M_law) 292 = .ok (.iaload, 1) := by decide +kernel
theorem d_law_293 : decode (gw_mC M_law) 293 = .ok (.aload_n 0, 1) := by decide +kernel
theorem d_law_294 : decode (gw_mC M_law) 294 = .ok (.iload_n 3, 1) := by decide +kernel
theorem d_law_295 : decode (gw_mC M_law) 295 = .ok (.iconst 2, 1) := by decide +kernel
theorem d_law_296 : decode (gw_mC M_law) 296 = .ok (.iadd, 1) := by decide +kernel
theorem d_law_297 : decode (gw_mC M_law) 297 = .ok (.iaload, 1) := by decide +kernel
theorem d_law_298 : decode (gw_mC M_law) 298 = .ok (.invokevirtual 31, 3) := by decide +kernel
theorem d_law_301 : decode (gw_mC M_law) 301 = .ok (.if_icmp .eq 886, 3) := by decide +kernel
theorem d_law_304 : decode (gw_mC M_law) 304 = .ok (.iconst 0, 1) := by decide +kernel
theorem d_law_305 : decode (gw_mC M_law) 305 = .ok (.ireturn, 1) := by decide +kernel
theorem d_law_306 : decode (gw_mC M_law) 306 = .ok (.aload_n 1, 1) := by decide +kernel
theorem d_law_307 : decode (gw_mC M_law) 307 = .ok (.aload_n 0, 1) := by decide +kernel
theorem d_law_308 : decode (gw_mC M_law) 308 = .ok (.iload_n 3, 1) := by decide +kernel
theorem d_law_309 : decode (gw_mC M_law) 309 = .ok (.iconst 1, 1) := by decide +kernel
theorem d_law_310 : decode (gw_mC M_law) 310 = .ok (.iadd, 1) := by decide +kernel
theorem d_law_311 : decode (gw_mC M_law) 311 = .ok (.iaload, 1) := by decide +kernel
theorem d_law_312 : decode (gw_mC M_law) 312 = .ok (.aload_n 0, 1) := by decide +kernel
theorem d_law_313 : decode (gw_mC M_law) 313 = .ok (.iload_n 3, 1) := by decide +kernel
theorem d_law_314 : decode (gw_mC M_law) 314 = .ok (.iconst 2, 1) := by decide +kernel
theorem d_law_315 : decode (gw_mC M_law) 315 = .ok (.iadd, 1) := by decide +kernel
theorem d_law_316 : decode (gw_mC M_law) 316 = .ok (.iaload, 1) := by decide +kernel
theorem d_law_317 : decode (gw_mC M_law) 317 = .ok (.aload_n 0, 1) := by decide +kernel
theorem d_law_318 : decode (gw_mC M_law) 318 = .ok (.iload_n 3, 1) := by decide +kernel
theorem d_law_319 : decode (gw_mC M_law) 319 = .ok (.iconst 3, 1) := by decide +kernel
theorem d_law_320 : decode (gw_mC M_law) 320 = .ok (.iadd, 1) := by decide +kernel
theorem d_law_321 : decode (gw_mC M_law) 321 = .ok (.iaload, 1) := by decide +kernel
theorem d_law_322 : decode (gw_mC M_law) 322 = .ok (.ifCond .eq 7, 3) := by decide +kernel
theorem d_law_325 : decode (gw_mC M_law) 325 = .ok (.iconst 1, 1) := by decide +kernel
theorem d_law_326 : decode (gw_mC M_law) 326 = .ok (.goto 4, 3) := by decide +kernel
theorem d_law_329 : decode (gw_mC M_law) 329 = .ok (.iconst 0, 1) := by decide +kernel
theorem d_law_330 : decode (gw_mC M_law) 330 = .ok (.invokevirtual 32, 3) := by decide +kernel
theorem d_law_333 : decode (gw_mC M_law) 333 = .ok (.aload_n 2, 1) := by decide +kernel
theorem d_law_334 : decode (gw_mC M_law) 334 = .ok (.aload_n 0, 1) := by decide +kernel
theorem d_law_335 : decode (gw_mC M_law) 335 = .ok (.iload_n 3, 1) := by decide +kernel
theorem d_law_336 : decode (gw_mC M_law) 336 = .ok (.iconst 1, 1) := by decide +kernel
theorem d_law_337 : decode (gw_mC M_law) 337 = .ok (.iadd, 1) := by decide +kernel
theorem d_law_338 : decode (gw_mC M_law) 338 = .ok (.iaload, 1) := by decide +kernel
theorem d_law_339 : decode (gw_mC M_law) 339 = .ok (.aload_n 0, 1) := by decide +kernel
theorem d_law_340 : decode (gw_mC M_law) 340 = .ok (.iload_n 3, 1) := by decide +kernel
theorem d_law_341 : decode (gw_mC M_law) 341 = .ok (.iconst 2, 1) := by decide +kernel
theorem d_law_342 : decode (gw_mC M_law) 342 = .ok (.iadd, 1) := by decide +kernel
theorem d_law_343 : decode (gw_mC M_law) 343 = .ok (.iaload, 1) := by decide +kernel
theorem d_law_344 : decode (gw_mC M_law) 344 = .ok (.aload_n 0, 1) := by decide +kernel
theorem d_law_345 : decode (gw_mC M_law) 345 = .ok (.iload_n 3, 1) := by decide +kernel
theorem d_law_346 : decode (gw_mC M_law) 346 = .ok (.iconst 3, 1) := by decide +kernel
theorem d_law_347 : decode (gw_mC M_law) 347 = .ok (.iadd, 1) := by decide +kernel
theorem d_law_348 : decode (gw_mC M_law) 348 = .ok (.iaload, 1) := by decide +kernel
theorem d_law_349 : decode (gw_mC M_law) 349 = .ok (.ifCond .eq 7, 3) := by decide +kernel
theorem d_law_352 : decode (gw_mC M_law) 352 = .ok (.iconst 1, 1) := by decide +kernel
theorem d_law_353 : decode (gw_mC M_law) 353 = .ok (.goto 4, 3) := by decide +kernel
theorem d_law_356 : decode (gw_mC M_law) 356 = .ok (.iconst 0, 1) := by decide +kernel
theorem d_law_357 : decode (gw_mC M_law) 357 = .ok (.invokevirtual 36, 3) := by decide +kernel
theorem d_law_360 : decode (gw_mC M_law) 360 = .ok (.if_icmp .eq 827, 3) := by decide +kernel
theorem d_law_363 : decode (gw_mC M_law) 363 = .ok (.iconst 0, 1) := by decide +kernel
theorem d_law_364 : decode (gw_mC M_law) 364 = .ok (.ireturn, 1) := by decide +kernel
theorem d_law_365 : decode (gw_mC M_law) 365 = .ok (.aload_n 1, 1) := by decide +kernel
theorem d_law_366 : decode (gw_mC M_law) 366 = .ok (.aload_n 0, 1) := by decide +kernel
theorem d_law_367 : decode (gw_mC M_law) 367 = .ok (.iload_n 3, 1) := by decide +kernel
theorem d_law_368 : decode (gw_mC M_law) 368 = .ok (.iconst 1, 1) := by decide +kernel
theorem d_law_369 : decode (gw_mC M_law) 369 = .ok (.iadd, 1) := by decide +kernel
theorem d_law_370 : decode (gw_mC M_law) 370 = .ok (.iaload, 1) := by decide +kernel
theorem d_law_371 : decode (gw_mC M_law) 371 = .ok (.aload_n 0, 1) := by decide +kernel
theorem d_law_372 : decode (gw_mC M_law) 372 = .ok (.iload_n 3, 1) := by decide +kernel
theorem d_law_373 : decode (gw_mC M_law) 373 = .ok (.iconst 2, 1) := by decide +kernel
theorem d_law_374 : decode (gw_mC M_law) 374 = .ok (.iadd, 1) := by decide +kernel
theorem d_law_375 : decode (gw_mC M_law) 375 = .ok (.iaload, 1) := by decide +kernel
theorem d_law_376 : decode (gw_mC M_law) 376 = .ok (.invokevirtual 37, 3) := by decide +kernel
theorem d_law_379 : decode (gw_mC M_law) 379 = .ok (.aload_n 2, 1) := by decide +kernel
theorem d_law_380 : decode (gw_mC M_law) 380 = .ok (.aload_n 0, 1) := by decide +kernel
theorem d_law_381 : decode (gw_mC M_law) 381 = .ok (.iload_n 3, 1) := by decide +kernel
theorem d_law_382 : decode (gw_mC M_law) 382 = .ok (.iconst 1, 1) := by decide +kernel
theorem d_law_383 : decode (gw_mC M_law) 383 = .ok (.iadd, 1) := by decide +kernel
theorem d_law_384 : decode (gw_mC M_law) 384 = .ok (.iaload, 1) := by decide +kernel
theorem d_law_385 : decode (gw_mC M_law) 385 = .ok (.aload_n 0, 1) := by decide +kernel
theorem d_law_386 : decode (gw_mC M_law) 386 = .ok (.iload_n 3, 1) := by decide +kernel
theorem d_law_387 : decode (gw_mC M_law) 387 = .ok (.iconst 2, 1) := by decide +kernel
theorem d_law_388 : decode (gw_mC M_law) 388 = .ok (.iadd, 1) := by decide +kernel
theorem d_law_389 : decode (gw_mC M_law) 389 = .ok (.iaload, 1) := by decide +kernel
theorem d_law_390 : decode (gw_mC M_law) 390 = .ok (.invokevirtual 40, 3) := by decide +kernel
theorem d_law_393 : decode (gw_mC M_law) 393 = .ok (.if_icmp .eq 794, 3) := by decide +kernel
theorem d_law_396 : decode (gw_mC M_law) 396 = .ok (.iconst 0, 1) := by decide +kernel
theorem d_law_397 : decode (gw_mC M_law) 397 = .ok (.ireturn, 1) := by decide +kernel
theorem d_law_398 : decode (gw_mC M_law) 398 = .ok (.aload_n 1, 1) := by decide +kernel
theorem d_law_399 : decode (gw_mC M_law) 399 = .ok (.aload_n 0, 1) := by decide +kernel
theorem d_law_400 : decode (gw_mC M_law) 400 = .ok (.iload_n 3, 1) := by decide +kernel
theorem d_law_401 : decode (gw_mC M_law) 401 = .ok (.iconst 1, 1) := by decide +kernel
theorem d_law_402 : decode (gw_mC M_law) 402 = .ok (.iadd, 1) := by decide +kernel
theorem d_law_403 : decode (gw_mC M_law) 403 = .ok (.iaload, 1) := by decide +kernel
theorem d_law_404 : decode (gw_mC M_law) 404 = .ok (.aload_n 0, 1) := by decide +kernel
theorem d_law_405 : decode (gw_mC M_law) 405 = .ok (.iload_n 3, 1) := by decide +kernel
theorem d_law_406 : decode (gw_mC M_law) 406 = .ok (.iconst 2, 1) := by decide +kernel
theorem d_law_407 : decode (gw_mC M_law) 407 = .ok (.iadd, 1) := by decide +kernel
theorem d_law_408 : decode (gw_mC M_law) 408 = .ok (.iaload, 1) := by decide +kernel
theorem d_law_409 : decode (gw_mC M_law) 409 = .ok (.invokevirtual 41, 3) := by decide +kernel
theorem d_law_412 : decode (gw_mC M_law) 412 = .ok (.aload_n 2, 1) := by decide +kernel
theorem d_law_413 : decode (gw_mC M_law) 413 = .ok (.aload_n 0, 1) := by decide +kernel
theorem d_law_414 : decode (gw_mC M_law) 414 = .ok (.iload_n 3, 1) := by decide +kernel
theorem d_law_415 : decode (gw_mC M_law) 415 = .ok (.iconst 1, 1) := by decide +kernel
theorem d_law_416 : decode (gw_mC M_law) 416 = .ok (.iadd, 1) := by decide +kernel
theorem d_law_417 : decode (gw_mC M_law) 417 = .ok (.iaload, 1) := by decide +kernel
theorem d_law_418 : decode (gw_mC M_law) 418 = .ok (.aload_n 0, 1) := by decide +kernel
theorem d_law_419 : decode (gw_mC M_law) 419 = .ok (.iload_n 3, 1) := by decide +kernel
theorem d_law_420 : decode (gw_mC M_law) 420 = .ok (.iconst 2, 1) := by decide +kernel
theorem d_law_421 : decode (gw_mC M_law) 421 = .ok (.iadd, 1) := by decide +kernel
theorem d_law_422 : decode (gw_mC M_law) 422 = .ok (.iaload, 1) := by decide +kernel
theorem d_law_423 : decode (gw_mC M_law) 423 = .ok (.invokevirtual 44, 3) := by decide +kernel
theorem d_law_426 : decode (gw_mC M_law) 426 = .ok (.if_icmp .eq 761, 3) := by decide +kernel
theorem d_law_429 : decode (gw_mC M_law) 429 = .ok (.iconst 0, 1) := by decide +kernel
theorem d_law_430 : decode (gw_mC M_law) 430 = .ok (.ireturn, 1) := by decide +kernel
theorem d_law_431 : decode (gw_mC M_law) 431 = .ok (.aload_n 1, 1) := by decide +kernel
theorem d_law_432 : decode (gw_mC M_law) 432 = .ok (.aload_n 0, 1) := by decide +kernel
theorem d_law_433 : decode (gw_mC M_law) 433 = .ok (.iload_n 3, 1) := by decide +kernel
theorem d_law_434 : decode (gw_mC M_law) 434 = .ok (.iconst 1, 1) := by decide +kernel
theorem d_law_435 : decode (gw_mC M_law) 435 = .ok (.iadd, 1) := by decide +kernel
theorem d_law_436 : decode (gw_mC M_law) 436 = .ok (.iaload, 1) := by decide +kernel
theorem d_law_437 : decode (gw_mC M_law) 437 = .ok (.i2l, 1) := by decide +kernel
theorem d_law_438 : decode (gw_mC M_law) 438 = .ok (.bipush 32, 2) := by decide +kernel
theorem d_law_440 : decode (gw_mC M_law) 440 = .ok (.lshl, 1) := by decide +kernel
theorem d_law_441 : decode (gw_mC M_law) 441 = .ok (.aload_n 0, 1) := by decide +kernel
theorem d_law_442 : decode (gw_mC M_law) 442 = .ok (.iload_n 3, 1) := by decide +kernel
theorem d_law_443 : decode (gw_mC M_law) 443 = .ok (.iconst 2, 1) := by decide +kernel
theorem d_law_444 : decode (gw_mC M_law) 444 = .ok (.iadd, 1) := by decide +kernel
theorem d_law_445 : decode (gw_mC M_law) 445 = .ok (.iaload, 1) := by decide +kernel
theorem d_law_446 : decode (gw_mC M_law) 446 = .ok (.i2l, 1) := by decide +kernel
theorem d_law_447 : decode (gw_mC M_law) 447 = .ok (.ldc2_w 45, 3) := by decide +kernel
theorem d_law_450 : decode (gw_mC M_law) 450 = .ok (.land, 1) := by decide +kernel
theorem d_law_451 : decode (gw_mC M_law) 451 = .ok (.lor, 1) := by decide +kernel
theorem d_law_452 : decode (gw_mC M_law) 452 = .ok (.aload_n 0, 1) := by decide +kernel
theorem d_law_453 : decode (gw_mC M_law) 453 = .ok (.iload_n 3, 1) := by decide +kernel
theorem d_law_454 : decode (gw_mC M_law) 454 = .ok (.iconst 3, 1) := by decide +kernel
theorem d_law_455 : decode (gw_mC M_law) 455 = .ok (.iadd, 1) := by decide +kernel
theorem d_law_456 : decode (gw_mC M_law) 456 = .ok (.iaload, 1) := by decide +kernel
theorem d_law_457 : decode (gw_mC M_law) 457 = .ok (.invokevirtual 47, 3) := by decide +kernel
theorem d_law_460 : decode (gw_mC M_law) 460 = .ok (.aload_n 2, 1) := by decide +kernel
theorem d_law_461 : decode (gw_mC M_law) 461 = .ok (.aload_n 0, 1) := by decide +kernel
theorem d_law_462 : decode (gw_mC M_law) 462 = .ok (.iload_n 3, 1) := by decide +kernel
theorem d_law_463 : decode (gw_mC M_law) 463 = .ok (.iconst 1, 1) := by decide +kernel
theorem d_law_464 : decode (gw_mC M_law) 464 = .ok (.iadd, 1) := by decide +kernel
theorem d_law_465 : decode (gw_mC M_law) 465 = .ok (.iaload, 1) := by decide +kernel
theorem d_law_466 : decode (gw_mC M_law) 466 = .ok (.i2l, 1) := by decide +kernel
theorem d_law_467 : decode (gw_mC M_law) 467 = .ok (.bipush 32, 2) := by decide +kernel
theorem d_law_469 : decode (gw_mC M_law) 469 = .ok (.lshl, 1) := by decide +kernel
theorem d_law_470 : decode (gw_mC M_law) 470 = .ok (.aload_n 0, 1) := by decide +kernel
theorem d_law_471 : decode (gw_mC M_law) 471 = .ok (.iload_n 3, 1) := by decide +kernel
theorem d_law_472 : decode (gw_mC M_law) 472 = .ok (.iconst 2, 1) := by decide +kernel
theorem d_law_473 : decode (gw_mC M_law) 473 = .ok (.iadd, 1) := by decide +kernel
theorem d_law_474 : decode (gw_mC M_law) 474 = .ok (.iaload, 1) := by decide +kernel
theorem d_law_475 : decode (gw_mC M_law) 475 = .ok (.i2l, 1) := by decide +kernel
theorem d_law_476 : decode (gw_mC M_law) 476 = .ok (.ldc2_w 45, 3) := by decide +kernel
theorem d_law_479 : decode (gw_mC M_law) 479 = .ok (.land, 1) := by decide +kernel
theorem d_law_480 : decode (gw_mC M_law) 480 = .ok (.lor, 1) := by decide +kernel
theorem d_law_481 : decode (gw_mC M_law) 481 = .ok (.aload_n 0, 1) := by decide +kernel
theorem d_law_482 : decode (gw_mC M_law) 482 = .ok (.iload_n 3, 1) := by decide +kernel
theorem d_law_483 : decode (gw_mC M_law) 483 = .ok (.iconst 3, 1) := by decide +kernel
theorem d_law_484 : decode (gw_mC M_law) 484 = .ok (.iadd, 1) := by decide +kernel
theorem d_law_485 : decode (gw_mC M_law) 485 = .ok (.iaload, 1) := by decide +kernel
theorem d_law_486 : decode (gw_mC M_law) 486 = .ok (.invokevirtual 51, 3) := by decide +kernel
theorem d_law_489 : decode (gw_mC M_law) 489 = .ok (.if_icmp .eq 698, 3) := by decide +kernel
theorem d_law_492 : decode (gw_mC M_law) 492 = .ok (.iconst 0, 1) := by decide +kernel
theorem d_law_493 : decode (gw_mC M_law) 493 = .ok (.ireturn, 1) := by decide +kernel
theorem d_law_494 : decode (gw_mC M_law) 494 = .ok (.aload_n 1, 1) := by decide +kernel
theorem d_law_495 : decode (gw_mC M_law) 495 = .ok (.invokevirtual 52, 3) := by decide +kernel
theorem d_law_498 : decode (gw_mC M_law) 498 = .ok (.aload_n 2, 1) := by decide +kernel
theorem d_law_499 : decode (gw_mC M_law) 499 = .ok (.invokevirtual 56, 3) := by decide +kernel
theorem d_law_502 : decode (gw_mC M_law) 502 = .ok (.if_icmp .eq 685, 3) := by decide +kernel
theorem d_law_505 : decode (gw_mC M_law) 505 = .ok (.iconst 0, 1) := by decide +kernel
theorem d_law_506 : decode (gw_mC M_law) 506 = .ok (.ireturn, 1) := by decide +kernel
theorem d_law_507 : decode (gw_mC M_law) 507 = .ok (.aload_n 1, 1) := by decide +kernel
theorem d_law_508 : decode (gw_mC M_law) 508 = .ok (.invokevirtual 57, 3) := by decide +kernel
theorem d_law_511 : decode (gw_mC M_law) 511 = .ok (.aload_n 2, 1) := by decide +kernel
theorem d_law_512 : decode (gw_mC M_law) 512 = .ok (.invokevirtual 60, 3) := by decide +kernel
theorem d_law_515 : decode (gw_mC M_law) 515 = .ok (.if_icmp .eq 672, 3) := by decide +kernel
theorem d_law_518 : decode (gw_mC M_law) 518 = .ok (.iconst 0, 1) := by decide +kernel
theorem d_law_519 : decode (gw_mC M_law) 519 = .ok (.ireturn, 1) := by decide +kernel
theorem d_law_520 : decode (gw_mC M_law) 520 = .ok (.aload_n 1, 1) := by decide +kernel
theorem d_law_521 : decode (gw_mC M_law) 521 = .ok (.aload_n 0, 1) := by decide +kernel
theorem d_law_522 : decode (gw_mC M_law) 522 = .ok (.iload_n 3, 1) := by decide +kernel
theorem d_law_523 : decode (gw_mC M_law) 523 = .ok (.iconst 1, 1) := by decide +kernel
theorem d_law_524 : decode (gw_mC M_law) 524 = .ok (.iadd, 1) := by decide +kernel
theorem d_law_525 : decode (gw_mC M_law) 525 = .ok (.iaload, 1) := by decide +kernel
theorem d_law_526 : decode (gw_mC M_law) 526 = .ok (.invokevirtual 61, 3) := by decide +kernel
theorem d_law_529 : decode (gw_mC M_law) 529 = .ok (.aload_n 2, 1) := by decide +kernel
theorem d_law_530 : decode (gw_mC M_law) 530 = .ok (.aload_n 0, 1) := by decide +kernel
theorem d_law_531 : decode (gw_mC M_law) 531 = .ok (.iload_n 3, 1) := by decide +kernel
theorem d_law_532 : decode (gw_mC M_law) 532 = .ok (.iconst 1, 1) := by decide +kernel
theorem d_law_533 : decode (gw_mC M_law) 533 = .ok (.iadd, 1) := by decide +kernel
theorem d_law_534 : decode (gw_mC M_law) 534 = .ok (.iaload, 1) := by decide +kernel
theorem d_law_535 : decode (gw_mC M_law) 535 = .ok (.invokevirtual 64, 3) := by decide +kernel
theorem d_law_538 : decode (gw_mC M_law) 538 = .ok (.if_icmp .eq 649, 3) := by decide +kernel
theorem d_law_541 : decode (gw_mC M_law) 541 = .ok (.iconst 0, 1) := by decide +kernel
theorem d_law_542 : decode (gw_mC M_law) 542 = .ok (.ireturn, 1) := by decide +kernel
theorem d_law_543 : decode (gw_mC M_law) 543 = .ok (.aload_n 1, 1) := by decide +kernel
theorem d_law_544 : decode (gw_mC M_law) 544 = .ok (.aload_n 0, 1) := by decide +kernel
theorem d_law_545 : decode (gw_mC M_law) 545 = .ok (.iload_n 3, 1) := by decide +kernel
theorem d_law_546 : decode (gw_mC M_law) 546 = .ok (.iconst 1, 1) := by decide +kernel
theorem d_law_547 : decode (gw_mC M_law) 547 = .ok (.iadd, 1) := by decide +kernel
theorem d_law_548 : decode (gw_mC M_law) 548 = .ok (.iaload, 1) := by decide +kernel
theorem d_law_549 : decode (gw_mC M_law) 549 = .ok (.aload_n 0, 1) := by decide +kernel
theorem d_law_550 : decode (gw_mC M_law) 550 = .ok (.iload_n 3, 1) := by decide +kernel
theorem d_law_551 : decode (gw_mC M_law) 551 = .ok (.iconst 2, 1) := by decide +kernel
theorem d_law_552 : decode (gw_mC M_law) 552 = .ok (.iadd, 1) := by decide +kernel
theorem d_law_553 : decode (gw_mC M_law) 553 = .ok (.iaload, 1) := by decide +kernel
theorem d_law_554 : decode (gw_mC M_law) 554 = .ok (.invokevirtual 65, 3) := by decide +kernel
theorem d_law_557 : decode (gw_mC M_law) 557 = .ok (.aload_n 2, 1) := by decide +kernel
theorem d_law_558 : decode (gw_mC M_law) 558 = .ok (.aload_n 0, 1) := by decide +kernel
theorem d_law_559 : decode (gw_mC M_law) 559 = .ok (.iload_n 3, 1) := by decide +kernel
theorem d_law_560 : decode (gw_mC M_law) 560 = .ok (.iconst 1, 1) := by decide +kernel
theorem d_law_561 : decode (gw_mC M_law) 561 = .ok (.iadd, 1) := by decide +kernel
theorem d_law_562 : decode (gw_mC M_law) 562 = .ok (.iaload, 1) := by decide +kernel
theorem d_law_563 : decode (gw_mC M_law) 563 = .ok (.aload_n 0, 1) := by decide +kernel
theorem d_law_564 : decode (gw_mC M_law) 564 = .ok (.iload_n 3, 1) := by decide +kernel
theorem d_law_565 : decode (gw_mC M_law) 565 = .ok (.iconst 2, 1) := by decide +kernel
theorem d_law_566 : decode (gw_mC M_law) 566 = .ok (.iadd, 1) := by decide +kernel
theorem d_law_567 : decode (gw_mC M_law) 567 = .ok (.iaload, 1) := by decide +kernel
theorem d_law_568 : decode (gw_mC M_law) 568 = .ok (.invokevirtual 68, 3) := by decide +kernel
theorem d_law_571 : decode (gw_mC M_law) 571 = .ok (.if_icmp .eq 616, 3) := by decide +kernel
theorem d_law_574 : decode (gw_mC M_law) 574 = .ok (.iconst 0, 1) := by decide +kernel
theorem d_law_575 : decode (gw_mC M_law) 575 = .ok (.ireturn, 1) := by decide +kernel
theorem d_law_576 : decode (gw_mC M_law) 576 = .ok (.aload_n 1, 1) := by decide +kernel
theorem d_law_577 : decode (gw_mC M_law) 577 = .ok (.aload_n 0, 1) := by decide +kernel
theorem d_law_578 : decode (gw_mC M_law) 578 = .ok (.iload_n 3, 1) := by decide +kernel
theorem d_law_579 : decode (gw_mC M_law) 579 = .ok (.iconst 1, 1) := by decide +kernel
theorem d_law_580 : decode (gw_mC M_law) 580 = .ok (.iadd, 1) := by decide +kernel
theorem d_law_581 : decode (gw_mC M_law) 581 = .ok (.iaload, 1) := by decide +kernel
theorem d_law_582 : decode (gw_mC M_law) 582 = .ok (.aload_n 0, 1) := by decide +kernel
theorem d_law_583 : decode (gw_mC M_law) 583 = .ok (.iload_n 3, 1) := by decide +kernel
theorem d_law_584 : decode (gw_mC M_law) 584 = .ok (.iconst 2, 1) := by decide +kernel
theorem d_law_585 : decode (gw_mC M_law) 585 = .ok (.iadd, 1) := by decide +kernel
theorem d_law_586 : decode (gw_mC M_law) 586 = .ok (.iaload, 1) := by decide +kernel
theorem d_law_587 : decode (gw_mC M_law) 587 = .ok (.invokevirtual 69, 3) := by decide +kernel
theorem d_law_590 : decode (gw_mC M_law) 590 = .ok (.aload_n 2, 1) := by decide +kernel
theorem d_law_591 : decode (gw_mC M_law) 591 = .ok (.aload_n 0, 1) := by decide +kernel
theorem d_law_592 : decode (gw_mC M_law) 592 = .ok (.iload_n 3, 1) := by decide +kernel
theorem d_law_593 : decode (gw_mC M_law) 593 = .ok (.iconst 1, 1) := by decide +kernel
theorem d_law_594 : decode (gw_mC M_law) 594 = .ok (.iadd, 1) := by decide +kernel
theorem d_law_595 : decode (gw_mC M_law) 595 = .ok (.iaload, 1) := by decide +kernel
theorem d_law_596 : decode (gw_mC M_law) 596 = .ok (.aload_n 0, 1) := by decide +kernel
theorem d_law_597 : decode (gw_mC M_law) 597 = .ok (.iload_n 3, 1) := by decide +kernel
theorem d_law_598 : decode (gw_mC M_law) 598 = .ok (.iconst 2, 1) := by decide +kernel
theorem d_law_599 : decode (gw_mC M_law) 599 = .ok (.iadd, 1) := by decide +kernel
theorem d_law_600 : decode (gw_mC M_law) 600 = .ok (.iaload, 1) := by decide +kernel
theorem d_law_601 : decode (gw_mC M_law) 601 = .ok (.invokevirtual 72, 3) := by decide +kernel
theorem d_law_604 : decode (gw_mC M_law) 604 = .ok (.if_icmp .eq 583, 3) := by decide +kernel
theorem d_law_607 : decode (gw_mC M_law) 607 = .ok (.iconst 0, 1) := by decide +kernel
theorem d_law_608 : decode (gw_mC M_law) 608 = .ok (.ireturn, 1) := by decide +kernel
theorem d_law_609 : decode (gw_mC M_law) 609 = .ok (.aload_n 1, 1) := by decide +kernel
theorem d_law_610 : decode (gw_mC M_law) 610 = .ok (.aload_n 0, 1) := by decide +kernel
theorem d_law_611 : decode (gw_mC M_law) 611 = .ok (.iload_n 3, 1) := by decide +kernel
theorem d_law_612 : decode (gw_mC M_law) 612 = .ok (.iconst 1, 1) := by decide +kernel
theorem d_law_613 : decode (gw_mC M_law) 613 = .ok (.iadd, 1) := by decide +kernel
theorem d_law_614 : decode (gw_mC M_law) 614 = .ok (.iaload, 1) := by decide +kernel
theorem d_law_615 : decode (gw_mC M_law) 615 = .ok (.invokevirtual 73, 3) := by decide +kernel
theorem d_law_618 : decode (gw_mC M_law) 618 = .ok (.aload_n 2, 1) := by decide +kernel
theorem d_law_619 : decode (gw_mC M_law) 619 = .ok (.aload_n 0, 1) := by decide +kernel
theorem d_law_620 : decode (gw_mC M_law) 620 = .ok (.iload_n 3, 1) := by decide +kernel
theorem d_law_621 : decode (gw_mC M_law) 621 = .ok (.iconst 1, 1) := by decide +kernel
theorem d_law_622 : decode (gw_mC M_law) 622 = .ok (.iadd, 1) := by decide +kernel
theorem d_law_623 : decode (gw_mC M_law) 623 = .ok (.iaload, 1) := by decide +kernel
theorem d_law_624 : decode (gw_mC M_law) 624 = .ok (.invokevirtual 76, 3) := by decide +kernel
theorem d_law_627 : decode (gw_mC M_law) 627 = .ok (.if_icmp .eq 560, 3) := by decide +kernel
theorem d_law_630 : decode (gw_mC M_law) 630 = .ok (.iconst 0, 1) := by decide +kernel
theorem d_law_631 : decode (gw_mC M_law) 631 = .ok (.ireturn, 1) := by decide +kernel
theorem d_law_632 : decode (gw_mC M_law) 632 = .ok (.aload_n 1, 1) := by decide +kernel
theorem d_law_633 : decode (gw_mC M_law) 633 = .ok (.aload_n 0, 1) := by decide +kernel
theorem d_law_634 : decode (gw_mC M_law) 634 = .ok (.iload_n 3, 1) := by decide +kernel
theorem d_law_635 : decode (gw_mC M_law) 635 = .ok (.iconst 1, 1) := by decide +kernel
theorem d_law_636 : decode (gw_mC M_law) 636 = .ok (.iadd, 1) := by decide +kernel
theorem d_law_637 : decode (gw_mC M_law) 637 = .ok (.iaload, 1) := by decide +kernel
theorem d_law_638 : decode (gw_mC M_law) 638 = .ok (.aload_n 0, 1) := by decide +kernel
theorem d_law_639 : decode (gw_mC M_law) 639 = .ok (.iload_n 3, 1) := by decide +kernel
theorem d_law_640 : decode (gw_mC M_law) 640 = .ok (.iconst 2, 1) := by decide +kernel
theorem d_law_641 : decode (gw_mC M_law) 641 = .ok (.iadd, 1) := by decide +kernel
theorem d_law_642 : decode (gw_mC M_law) 642 = .ok (.iaload, 1) := by decide +kernel
theorem d_law_643 : decode (gw_mC M_law) 643 = .ok (.invokevirtual 77, 3) := by decide +kernel
theorem d_law_646 : decode (gw_mC M_law) 646 = .ok (.aload_n 2, 1) := by decide +kernel
theorem d_law_647 : decode (gw_mC M_law) 647 = .ok (.aload_n 0, 1) := by decide +kernel
theorem d_law_648 : decode (gw_mC M_law) 648 = .ok (.iload_n 3, 1) := by decide +kernel
theorem d_law_649 : decode (gw_mC M_law) 649 = .ok (.iconst 1, 1) := by decide +kernel
theorem d_law_650 : decode (gw_mC M_law) 650 = .ok (.iadd, 1) := by decide +kernel
theorem d_law_651 : decode (gw_mC M_law) 651 = .ok (.iaload, 1) := by decide +kernel
theorem d_law_652 : decode (gw_mC M_law) 652 = .ok (.aload_n 0, 1) := by decide +kernel
theorem d_law_653 : decode (gw_mC M_law) 653 = .ok (.iload_n 3, 1) := by decide +kernel
theorem d_law_654 : decode (gw_mC M_law) 654 = .ok (.iconst 2, 1) := by decide +kernel
theorem d_law_655 : decode (gw_mC M_law) 655 = .ok (.iadd, 1) := by decide +kernel
theorem d_law_656 : decode (gw_mC M_law) 656 = .ok (.iaload, 1) := by decide +kernel
theorem d_law_657 : decode (gw_mC M_law) 657 = .ok (.invokevirtual 80, 3) := by decide +kernel
theorem d_law_660 : decode (gw_mC M_law) 660 = .ok (.if_icmp .eq 527, 3) := by decide +kernel
theorem d_law_663 : decode (gw_mC M_law) 663 = .ok (.iconst 0, 1) := by decide +kernel
theorem d_law_664 : decode (gw_mC M_law) 664 = .ok (.ireturn, 1) := by decide +kernel
theorem d_law_665 : decode (gw_mC M_law) 665 = .ok (.aload_n 1, 1) := by decide +kernel
theorem d_law_666 : decode (gw_mC M_law) 666 = .ok (.aload_n 0, 1) := by decide +kernel
theorem d_law_667 : decode (gw_mC M_law) 667 = .ok (.iload_n 3, 1) := by decide +kernel
theorem d_law_668 : decode (gw_mC M_law) 668 = .ok (.iconst 1, 1) := by decide +kernel
theorem d_law_669 : decode (gw_mC M_law) 669 = .ok (.iadd, 1) := by decide +kernel
theorem d_law_670 : decode (gw_mC M_law) 670 = .ok (.iaload, 1) := by decide +kernel
theorem d_law_671 : decode (gw_mC M_law) 671 = .ok (.invokevirtual 81, 3) := by decide +kernel
theorem d_law_674 : decode (gw_mC M_law) 674 = .ok (.aload_n 2, 1) := by decide +kernel
theorem d_law_675 : decode (gw_mC M_law) 675 = .ok (.aload_n 0, 1) := by decide +kernel
theorem d_law_676 : decode (gw_mC M_law) 676 = .ok (.iload_n 3, 1) := by decide +kernel
theorem d_law_677 : decode (gw_mC M_law) 677 = .ok (.iconst 1, 1) := by decide +kernel
theorem d_law_678 : decode (gw_mC M_law) 678 = .ok (.iadd, 1) := by decide +kernel
theorem d_law_679 : decode (gw_mC M_law) 679 = .ok (.iaload, 1) := by decide +kernel
theorem d_law_680 : decode (gw_mC M_law) 680 = .ok (.invokevirtual 84, 3) := by decide +kernel
theorem d_law_683 : decode (gw_mC M_law) 683 = .ok (.if_icmp .eq 504, 3) := by decide +kernel
theorem d_law_686 : decode (gw_mC M_law) 686 = .ok (.iconst 0, 1) := by decide +kernel
theorem d_law_687 : decode (gw_mC M_law) 687 = .ok (.ireturn, 1) := by decide +kernel
theorem d_law_688 : decode (gw_mC M_law) 688 = .ok (.aload_n 1, 1) := by decide +kernel
theorem d_law_689 : decode (gw_mC M_law) 689 = .ok (.aload_n 0, 1) := by decide +kernel
theorem d_law_690 : decode (gw_mC M_law) 690 = .ok (.iload_n 3, 1) := by decide +kernel
theorem d_law_691 : decode (gw_mC M_law) 691 = .ok (.iconst 1, 1) := by decide +kernel
theorem d_law_692 : decode (gw_mC M_law) 692 = .ok (.iadd, 1) := by decide +kernel
theorem d_law_693 : decode (gw_mC M_law) 693 = .ok (.iaload, 1) := by decide +kernel
theorem d_law_694 : decode (gw_mC M_law) 694 = .ok (.aload_n 0, 1) := by decide +kernel
theorem d_law_695 : decode (gw_mC M_law) 695 = .ok (.iload_n 3, 1) := by decide +kernel
theorem d_law_696 : decode (gw_mC M_law) 696 = .ok (.iconst 2, 1) := by decide +kernel
theorem d_law_697 : decode (gw_mC M_law) 697 = .ok (.iadd, 1) := by decide +kernel
theorem d_law_698 : decode (gw_mC M_law) 698 = .ok (.iaload, 1) := by decide +kernel
theorem d_law_699 : decode (gw_mC M_law) 699 = .ok (.invokevirtual 85, 3) := by decide +kernel
theorem d_law_702 : decode (gw_mC M_law) 702 = .ok (.aload_n 2, 1) := by decide +kernel
theorem d_law_703 : decode (gw_mC M_law) 703 = .ok (.aload_n 0, 1) := by decide +kernel
theorem d_law_704 : decode (gw_mC M_law) 704 = .ok (.iload_n 3, 1) := by decide +kernel
theorem d_law_705 : decode (gw_mC M_law) 705 = .ok (.iconst 1, 1) := by decide +kernel
theorem d_law_706 : decode (gw_mC M_law) 706 = .ok (.iadd, 1) := by decide +kernel
theorem d_law_707 : decode (gw_mC M_law) 707 = .ok (.iaload, 1) := by decide +kernel
theorem d_law_708 : decode (gw_mC M_law) 708 = .ok (.aload_n 0, 1) := by decide +kernel
theorem d_law_709 : decode (gw_mC M_law) 709 = .ok (.iload_n 3, 1) := by decide +kernel
theorem d_law_710 : decode (gw_mC M_law) 710 = .ok (.iconst 2, 1) := by decide +kernel
theorem d_law_711 : decode (gw_mC M_law) 711 = .ok (.iadd, 1) := by decide +kernel
theorem d_law_712 : decode (gw_mC M_law) 712 = .ok (.iaload, 1) := by decide +kernel
theorem d_law_713 : decode (gw_mC M_law) 713 = .ok (.invokevirtual 88, 3) := by decide +kernel
theorem d_law_716 : decode (gw_mC M_law) 716 = .ok (.if_icmp .eq 471, 3) := by decide +kernel
theorem d_law_719 : decode (gw_mC M_law) 719 = .ok (.iconst 0, 1) := by decide +kernel
theorem d_law_720 : decode (gw_mC M_law) 720 = .ok (.ireturn, 1) := by decide +kernel
theorem d_law_721 : decode (gw_mC M_law) 721 = .ok (.aload_n 1, 1) := by decide +kernel
theorem d_law_722 : decode (gw_mC M_law) 722 = .ok (.aload_n 0, 1) := by decide +kernel
theorem d_law_723 : decode (gw_mC M_law) 723 = .ok (.iload_n 3, 1) := by decide +kernel
theorem d_law_724 : decode (gw_mC M_law) 724 = .ok (.iconst 1, 1) := by decide +kernel
theorem d_law_725 : decode (gw_mC M_law) 725 = .ok (.iadd, 1) := by decide +kernel
theorem d_law_726 : decode (gw_mC M_law) 726 = .ok (.iaload, 1) := by decide +kernel
theorem d_law_727 : decode (gw_mC M_law) 727 = .ok (.aload_n 0, 1) := by decide +kernel
theorem d_law_728 : decode (gw_mC M_law) 728 = .ok (.iload_n 3, 1) := by decide +kernel
theorem d_law_729 : decode (gw_mC M_law) 729 = .ok (.iconst 2, 1) := by decide +kernel
theorem d_law_730 : decode (gw_mC M_law) 730 = .ok (.iadd, 1) := by decide +kernel
theorem d_law_731 : decode (gw_mC M_law) 731 = .ok (.iaload, 1) := by decide +kernel
theorem d_law_732 : decode (gw_mC M_law) 732 = .ok (.aload_n 0, 1) := by decide +kernel
theorem d_law_733 : decode (gw_mC M_law) 733 = .ok (.iload_n 3, 1) := by decide +kernel
theorem d_law_734 : decode (gw_mC M_law) 734 = .ok (.iconst 3, 1) := by decide +kernel
theorem d_law_735 : decode (gw_mC M_law) 735 = .ok (.iadd, 1) := by decide +kernel
theorem d_law_736 : decode (gw_mC M_law) 736 = .ok (.iaload, 1) := by decide +kernel
theorem d_law_737 : decode (gw_mC M_law) 737 = .ok (.aload_n 0, 1) := by decide +kernel
theorem d_law_738 : decode (gw_mC M_law) 738 = .ok (.iload_n 3, 1) := by decide +kernel
theorem d_law_739 : decode (gw_mC M_law) 739 = .ok (.iconst 4, 1) := by decide +kernel
theorem d_law_740 : decode (gw_mC M_law) 740 = .ok (.iadd, 1) := by decide +kernel
theorem d_law_741 : decode (gw_mC M_law) 741 = .ok (.iaload, 1) := by decide +kernel
theorem d_law_742 : decode (gw_mC M_law) 742 = .ok (.invokevirtual 89, 3) := by decide +kernel
theorem d_law_745 : decode (gw_mC M_law) 745 = .ok (.aload_n 2, 1) := by decide +kernel
theorem d_law_746 : decode (gw_mC M_law) 746 = .ok (.aload_n 0, 1) := by decide +kernel
theorem d_law_747 : decode (gw_mC M_law) 747 = .ok (.iload_n 3, 1) := by decide +kernel
theorem d_law_748 : decode (gw_mC M_law) 748 = .ok (.iconst 1, 1) := by decide +kernel
theorem d_law_749 : decode (gw_mC M_law) 749 = .ok (.iadd, 1) := by decide +kernel
theorem d_law_750 : decode (gw_mC M_law) 750 = .ok (.iaload, 1) := by decide +kernel
theorem d_law_751 : decode (gw_mC M_law) 751 = .ok (.aload_n 0, 1) := by decide +kernel
theorem d_law_752 : decode (gw_mC M_law) 752 = .ok (.iload_n 3, 1) := by decide +kernel
theorem d_law_753 : decode (gw_mC M_law) 753 = .ok (.iconst 2, 1) := by decide +kernel
theorem d_law_754 : decode (gw_mC M_law) 754 = .ok (.iadd, 1) := by decide +kernel
theorem d_law_755 : decode (gw_mC M_law) 755 = .ok (.iaload, 1) := by decide +kernel
theorem d_law_756 : decode (gw_mC M_law) 756 = .ok (.aload_n 0, 1) := by decide +kernel
theorem d_law_757 : decode (gw_mC M_law) 757 = .ok (.iload_n 3, 1) := by decide +kernel
theorem d_law_758 : decode (gw_mC M_law) 758 = .ok (.iconst 3, 1) := by decide +kernel
theorem d_law_759 : decode (gw_mC M_law) 759 = .ok (.iadd, 1) := by decide +kernel
theorem d_law_760 : decode (gw_mC M_law) 760 = .ok (.iaload, 1) := by decide +kernel
theorem d_law_761 : decode (gw_mC M_law) 761 = .ok (.aload_n 0, 1) := by decide +kernel
theorem d_law_762 : decode (gw_mC M_law) 762 = .ok (.iload_n 3, 1) := by decide +kernel
theorem d_law_763 : decode (gw_mC M_law) 763 = .ok (.iconst 4, 1) := by decide +kernel
theorem d_law_764 : decode (gw_mC M_law) 764 = .ok (.iadd, 1) := by decide +kernel
theorem d_law_765 : decode (gw_mC M_law) 765 = .ok (.iaload, 1) := by decide +kernel
theorem d_law_766 : decode (gw_mC M_law) 766 = .ok (.invokevirtual 93, 3) := by decide +kernel
theorem d_law_769 : decode (gw_mC M_law) 769 = .ok (.if_icmp .eq 418, 3) := by decide +kernel
theorem d_law_772 : decode (gw_mC M_law) 772 = .ok (.iconst 0, 1) := by decide +kernel
theorem d_law_773 : decode (gw_mC M_law) 773 = .ok (.ireturn, 1) := by decide +kernel
theorem d_law_774 : decode (gw_mC M_law) 774 = .ok (.aload_n 1, 1) := by decide +kernel
theorem d_law_775 : decode (gw_mC M_law) 775 = .ok (.aload_n 0, 1) := by decide +kernel
theorem d_law_776 : decode (gw_mC M_law) 776 = .ok (.iload_n 3, 1) := by decide +kernel
theorem d_law_777 : decode (gw_mC M_law) 777 = .ok (.iconst 1, 1) := by decide +kernel
theorem d_law_778 : decode (gw_mC M_law) 778 = .ok (.iadd, 1) := by decide +kernel
theorem d_law_779 : decode (gw_mC M_law) 779 = .ok (.iaload, 1) := by decide +kernel
theorem d_law_780 : decode (gw_mC M_law) 780 = .ok (.aload_n 0, 1) := by decide +kernel
theorem d_law_781 : decode (gw_mC M_law) 781 = .ok (.iload_n 3, 1) := by decide +kernel
theorem d_law_782 : decode (gw_mC M_law) 782 = .ok (.iconst 2, 1) := by decide +kernel
theorem d_law_783 : decode (gw_mC M_law) 783 = .ok (.iadd, 1) := by decide +kernel
theorem d_law_784 : decode (gw_mC M_law) 784 = .ok (.iaload, 1) := by decide +kernel
theorem d_law_785 : decode (gw_mC M_law) 785 = .ok (.aload_n 0, 1) := by decide +kernel
theorem d_law_786 : decode (gw_mC M_law) 786 = .ok (.iload_n 3, 1) := by decide +kernel
theorem d_law_787 : decode (gw_mC M_law) 787 = .ok (.iconst 3, 1) := by decide +kernel
theorem d_law_788 : decode (gw_mC M_law) 788 = .ok (.iadd, 1) := by decide +kernel
theorem d_law_789 : decode (gw_mC M_law) 789 = .ok (.iaload, 1) := by decide +kernel
theorem d_law_790 : decode (gw_mC M_law) 790 = .ok (.invokevirtual 94, 3) := by decide +kernel
theorem d_law_793 : decode (gw_mC M_law) 793 = .ok (.aload_n 2, 1) := by decide +kernel
theorem d_law_794 : decode (gw_mC M_law) 794 = .ok (.aload_n 0, 1) := by decide +kernel
theorem d_law_795 : decode (gw_mC M_law) 795 = .ok (.iload_n 3, 1) := by decide +kernel
theorem d_law_796 : decode (gw_mC M_law) 796 = .ok (.iconst 1, 1) := by decide +kernel
theorem d_law_797 : decode (gw_mC M_law) 797 = .ok (.iadd, 1) := by decide +kernel
theorem d_law_798 : decode (gw_mC M_law) 798 = .ok (.iaload, 1) := by decide +kernel
theorem d_law_799 : decode (gw_mC M_law) 799 = .ok (.aload_n 0, 1) := by decide +kernel
theorem d_law_800 : decode (gw_mC M_law) 800 = .ok (.iload_n 3, 1) := by decide +kernel
theorem d_law_801 : decode (gw_mC M_law) 801 = .ok (.iconst 2, 1) := by decide +kernel
theorem d_law_802 : decode (gw_mC M_law) 802 = .ok (.iadd, 1) := by decide +kernel
theorem d_law_803 : decode (gw_mC M_law) 803 = .ok (.iaload, 1) := by decide +kernel
theorem d_law_804 : decode (gw_mC M_law) 804 = .ok (.aload_n 0, 1) := by decide +kernel
theorem d_law_805 : decode (gw_mC M_law) 805 = .ok (.iload_n 3, 1) := by decide +kernel
theorem d_law_806 : decode (gw_mC M_law) 806 = .ok (.iconst 3, 1) := by decide +kernel
theorem d_law_807 : decode (gw_mC M_law) 807 = .ok (.iadd, 1) := by decide +kernel
theorem d_law_808 : decode (gw_mC M_law) 808 = .ok (.iaload, 1) := by decide +kernel
theorem d_law_809 : decode (gw_mC M_law) 809 = .ok (.invokevirtual 97, 3) := by decide +kernel
theorem d_law_812 : decode (gw_mC M_law) 812 = .ok (.if_icmp .eq 375, 3) := by decide +kernel
theorem d_law_815 : decode (gw_mC M_law) 815 = .ok (.iconst 0, 1) := by decide +kernel
theorem d_law_816 : decode (gw_mC M_law) 816 = .ok (.ireturn, 1) := by decide +kernel
theorem d_law_817 : decode (gw_mC M_law) 817 = .ok (.aload_n 1, 1) := by decide +kernel
theorem d_law_818 : decode (gw_mC M_law) 818 = .ok (.aload_n 0, 1) := by decide +kernel
theorem d_law_819 : decode (gw_mC M_law) 819 = .ok (.iload_n 3, 1) := by decide +kernel
theorem d_law_820 : decode (gw_mC M_law) 820 = .ok (.iconst 1, 1) := by decide +kernel
theorem d_law_821 : decode (gw_mC M_law) 821 = .ok (.iadd, 1) := by decide +kernel
theorem d_law_822 : decode (gw_mC M_law) 822 = .ok (.iaload, 1) := by decide +kernel
theorem d_law_823 : decode (gw_mC M_law) 823 = .ok (.aload_n 0, 1) := by decide +kernel
theorem d_law_824 : decode (gw_mC M_law) 824 = .ok (.iload_n 3, 1) := by decide +kernel
theorem d_law_825 : decode (gw_mC M_law) 825 = .ok (.iconst 2, 1) := by decide +kernel
theorem d_law_826 : decode (gw_mC M_law) 826 = .ok (.iadd, 1) := by decide +kernel
theorem d_law_827 : decode (gw_mC M_law) 827 = .ok (.iaload, 1) := by decide +kernel
theorem d_law_828 : decode (gw_mC M_law) 828 = .ok (.invokevirtual 98, 3) := by decide +kernel
theorem d_law_831 : decode (gw_mC M_law) 831 = .ok (.aload_n 2, 1) := by decide +kernel
theorem d_law_832 : decode (gw_mC M_law) 832 = .ok (.aload_n 0, 1) := by decide +kernel
theorem d_law_833 : decode (gw_mC M_law) 833 = .ok (.iload_n 3, 1) := by decide +kernel
theorem d_law_834 : decode (gw_mC M_law) 834 = .ok (.iconst 1, 1) := by decide +kernel
theorem d_law_835 : decode (gw_mC M_law) 835 = .ok (.iadd, 1) := by decide +kernel
theorem d_law_836 : decode (gw_mC M_law) 836 = .ok (.iaload, 1) := by decide +kernel
theorem d_law_837 : decode (gw_mC M_law) 837 = .ok (.aload_n 0, 1) := by decide +kernel
theorem d_law_838 : decode (gw_mC M_law) 838 = .ok (.iload_n 3, 1) := by decide +kernel
theorem d_law_839 : decode (gw_mC M_law) 839 = .ok (.iconst 2, 1) := by decide +kernel
theorem d_law_840 : decode (gw_mC M_law) 840 = .ok (.iadd, 1) := by decide +kernel
theorem d_law_841 : decode (gw_mC M_law) 841 = .ok (.iaload, 1) := by decide +kernel
theorem d_law_842 : decode (gw_mC M_law) 842 = .ok (.invokevirtual 101, 3) := by decide +kernel
theorem d_law_845 : decode (gw_mC M_law) 845 = .ok (.if_icmp .eq 342, 3) := by decide +kernel
theorem d_law_848 : decode (gw_mC M_law) 848 = .ok (.iconst 0, 1) := by decide +kernel
theorem d_law_849 : decode (gw_mC M_law) 849 = .ok (.ireturn, 1) := by decide +kernel
theorem d_law_850 : decode (gw_mC M_law) 850 = .ok (.aload_n 1, 1) := by decide +kernel
theorem d_law_851 : decode (gw_mC M_law) 851 = .ok (.aload_n 0, 1) := by decide +kernel
theorem d_law_852 : decode (gw_mC M_law) 852 = .ok (.iload_n 3, 1) := by decide +kernel
theorem d_law_853 : decode (gw_mC M_law) 853 = .ok (.iconst 1, 1) := by decide +kernel
theorem d_law_854 : decode (gw_mC M_law) 854 = .ok (.iadd, 1) := by decide +kernel
theorem d_law_855 : decode (gw_mC M_law) 855 = .ok (.iaload, 1) := by decide +kernel
theorem d_law_856 : decode (gw_mC M_law) 856 = .ok (.invokevirtual 102, 3) := by decide +kernel
theorem d_law_859 : decode (gw_mC M_law) 859 = .ok (.aload_n 2, 1) := by decide +kernel
theorem d_law_860 : decode (gw_mC M_law) 860 = .ok (.aload_n 0, 1) := by decide +kernel
theorem d_law_861 : decode (gw_mC M_law) 861 = .ok (.iload_n 3, 1) := by decide +kernel
theorem d_law_862 : decode (gw_mC M_law) 862 = .ok (.iconst 1, 1) := by decide +kernel
theorem d_law_863 : decode (gw_mC M_law) 863 = .ok (.iadd, 1) := by decide +kernel
theorem d_law_864 : decode (gw_mC M_law) 864 = .ok (.iaload, 1) := by decide +kernel
theorem d_law_865 : decode (gw_mC M_law) 865 = .ok (.invokevirtual 105, 3) := by decide +kernel
theorem d_law_868 : decode (gw_mC M_law) 868 = .ok (.if_icmp .eq 319, 3) := by decide +kernel
theorem d_law_871 : decode (gw_mC M_law) 871 = .ok (.iconst 0, 1) := by decide +kernel
theorem d_law_872 : decode (gw_mC M_law) 872 = .ok (.ireturn, 1) := by decide +kernel
theorem d_law_873 : decode (gw_mC M_law) 873 = .ok (.aload_n 1, 1) := by decide +kernel
theorem d_law_874 : decode (gw_mC M_law) 874 = .ok (.aload_n 0, 1) := by decide +kernel
theorem d_law_875 : decode (gw_mC M_law) 875 = .ok (.iload_n 3, 1) := by decide +kernel
theorem d_law_876 : decode (gw_mC M_law) 876 = .ok (.iconst 1, 1) := by decide +kernel
theorem d_law_877 : decode (gw_mC M_law) 877 = .ok (.iadd, 1) := by decide +kernel
theorem d_law_878 : decode (gw_mC M_law) 878 = .ok (.iaload, 1) := by decide +kernel
theorem d_law_879 : decode (gw_mC M_law) 879 = .ok (.aload_n 0, 1) := by decide +kernel
theorem d_law_880 : decode (gw_mC M_law) 880 = .ok (.iload_n 3, 1) := by decide +kernel
theorem d_law_881 : decode (gw_mC M_law) 881 = .ok (.iconst 2, 1) := by decide +kernel
theorem d_law_882 : decode (gw_mC M_law) 882 = .ok (.iadd, 1) := by decide +kernel
theorem d_law_883 : decode (gw_mC M_law) 883 = .ok (.iaload, 1) := by decide +kernel
theorem d_law_884 : decode (gw_mC M_law) 884 = .ok (.aload_n 0, 1) := by decide +kernel
theorem d_law_885 : decode (gw_mC M_law) 885 = .ok (.iload_n 3, 1) := by decide +kernel
theorem d_law_886 : decode (gw_mC M_law) 886 = .ok (.iconst 3, 1) := by decide +kernel
theorem d_law_887 : decode (gw_mC M_law) 887 = .ok (.iadd, 1) := by decide +kernel
theorem d_law_888 : decode (gw_mC M_law) 888 = .ok (.iaload, 1) := by decide +kernel
theorem d_law_889 : decode (gw_mC M_law) 889 = .ok (.invokevirtual 106, 3) := by decide +kernel
theorem d_law_892 : decode (gw_mC M_law) 892 = .ok (.aload_n 2, 1) := by decide +kernel
theorem d_law_893 : decode (gw_mC M_law) 893 = .ok (.aload_n 0, 1) := by decide +kernel
theorem d_law_894 : decode (gw_mC M_law) 894 = .ok (.iload_n 3, 1) := by decide +kernel
theorem d_law_895 : decode (gw_mC M_law) 895 = .ok (.iconst 1, 1) := by decide +kernel
theorem d_law_896 : decode (gw_mC M_law) 896 = .ok (.iadd, 1) := by decide +kernel
theorem d_law_897 : decode (gw_mC M_law) 897 = .ok (.iaload, 1) := by decide +kernel
theorem d_law_898 : decode (gw_mC M_law) 898 = .ok (.aload_n 0, 1) := by decide +kernel
theorem d_law_899 : decode (gw_mC M_law) 899 = .ok (.iload_n 3, 1) := by decide +kernel
theorem d_law_900 : decode (gw_mC M_law) 900 = .ok (.iconst 2, 1) := by decide +kernel
theorem d_law_901 : decode (gw_mC M_law) 901 = .ok (.iadd, 1) := by decide +kernel
theorem d_law_902 : decode (gw_mC M_law) 902 = .ok (.iaload, 1) := by decide +kernel
theorem d_law_903 : decode (gw_mC M_law) 903 = .ok (.aload_n 0, 1) := by decide +kernel
theorem d_law_904 : decode (gw_mC M_law) 904 = .ok (.iload_n 3, 1) := by decide +kernel
theorem d_law_905 : decode (gw_mC M_law) 905 = .ok (.iconst 3, 1) := by decide +kernel
theorem d_law_906 : decode (gw_mC M_law) 906 = .ok (.iadd, 1) := by decide +kernel
theorem d_law_907 : decode (gw_mC M_law) 907 = .ok (.iaload, 1) := by decide +kernel
theorem d_law_908 : decode (gw_mC M_law) 908 = .ok (.invokevirtual 109, 3) := by decide +kernel
theorem d_law_911 : decode (gw_mC M_law) 911 = .ok (.if_icmp .eq 276, 3) := by decide +kernel
theorem d_law_914 : decode (gw_mC M_law) 914 = .ok (.iconst 0, 1) := by decide +kernel
theorem d_law_915 : decode (gw_mC M_law) 915 = .ok (.ireturn, 1) := by decide +kernel
theorem d_law_916 : decode (gw_mC M_law) 916 = .ok (.aload_n 1, 1) := by decide +kernel
theorem d_law_917 : decode (gw_mC M_law) 917 = .ok (.invokevirtual 110, 3) := by decide +kernel
theorem d_law_920 : decode (gw_mC M_law) 920 = .ok (.aload_n 2, 1) := by decide +kernel
theorem d_law_921 : decode (gw_mC M_law) 921 = .ok (.invokevirtual 113, 3) := by decide +kernel
theorem d_law_924 : decode (gw_mC M_law) 924 = .ok (.if_icmp .eq 263, 3) := by decide +kernel
theorem d_law_927 : decode (gw_mC M_law) 927 = .ok (.iconst 0, 1) := by decide +kernel
theorem d_law_928 : decode (gw_mC M_law) 928 = .ok (.ireturn, 1) := by decide +kernel
theorem d_law_929 : decode (gw_mC M_law) 929 = .ok (.aload_n 1, 1) := by decide +kernel
theorem d_law_930 : decode (gw_mC M_law) 930 = .ok (.invokevirtual 114, 3) := by decide +kernel
theorem d_law_933 : decode (gw_mC M_law) 933 = .ok (.aload_n 2, 1) := by decide +kernel
theorem d_law_934 : decode (gw_mC M_law) 934 = .ok (.invokevirtual 117, 3) := by decide +kernel
theorem d_law_937 : decode (gw_mC M_law) 937 = .ok (.if_icmp .eq 250, 3) := by decide +kernel
theorem d_law_940 : decode (gw_mC M_law) 940 = .ok (.iconst 0, 1) := by decide +kernel
theorem d_law_941 : decode (gw_mC M_law) 941 = .ok (.ireturn, 1) := by decide +kernel
theorem d_law_942 : decode (gw_mC M_law) 942 = .ok (.aload_n 1, 1) := by decide +kernel
theorem d_law_943 : decode (gw_mC M_law) 943 = .ok (.aload_n 0, 1) := by decide +kernel
theorem d_law_944 : decode (gw_mC M_law) 944 = .ok (.iload_n 3, 1) := by decide +kernel
theorem d_law_945 : decode (gw_mC M_law) 945 = .ok (.iconst 1, 1) := by decide +kernel
theorem d_law_946 : decode (gw_mC M_law) 946 = .ok (.iadd, 1) := by decide +kernel
theorem d_law_947 : decode (gw_mC M_law) 947 = .ok (.iaload, 1) := by decide +kernel
theorem d_law_948 : decode (gw_mC M_law) 948 = .ok (.aload_n 0, 1) := by decide +kernel
theorem d_law_949 : decode (gw_mC M_law) 949 = .ok (.iload_n 3, 1) := by decide +kernel
theorem d_law_950 : decode (gw_mC M_law) 950 = .ok (.iconst 2, 1) := by decide +kernel
theorem d_law_951 : decode (gw_mC M_law) 951 = .ok (.iadd, 1) := by decide +kernel
theorem d_law_952 : decode (gw_mC M_law) 952 = .ok (.iaload, 1) := by decide +kernel
theorem d_law_953 : decode (gw_mC M_law) 953 = .ok (.aload_n 0, 1) := by decide +kernel
theorem d_law_954 : decode (gw_mC M_law) 954 = .ok (.iload_n 3, 1) := by decide +kernel
theorem d_law_955 : decode (gw_mC M_law) 955 = .ok (.iconst 3, 1) := by decide +kernel
theorem d_law_956 : decode (gw_mC M_law) 956 = .ok (.iadd, 1) := by decide +kernel
theorem d_law_957 : decode (gw_mC M_law) 957 = .ok (.iaload, 1) := by decide +kernel
theorem d_law_958 : decode (gw_mC M_law) 958 = .ok (.aload_n 0, 1) := by decide +kernel
theorem d_law_959 : decode (gw_mC M_law) 959 = .ok (.iload_n 3, 1) := by decide +kernel
theorem d_law_960 : decode (gw_mC M_law) 960 = .ok (.iconst 4, 1) := by decide +kernel
theorem d_law_961 : decode (gw_mC M_law) 961 = .ok (.iadd, 1) := by decide +kernel
theorem d_law_962 : decode (gw_mC M_law) 962 = .ok (.iaload, 1) := by decide +kernel
theorem d_law_963 : decode (gw_mC M_law) 963 = .ok (.aload_n 0, 1) := by decide +kernel
theorem d_law_964 : decode (gw_mC M_law) 964 = .ok (.iload_n 3, 1) := by decide +kernel
theorem d_law_965 : decode (gw_mC M_law) 965 = .ok (.iconst 5, 1) := by decide +kernel
theorem d_law_966 : decode (gw_mC M_law) 966 = .ok (.iadd, 1) := by decide +kernel
theorem d_law_967 : decode (gw_mC M_law) 967 = .ok (.iaload, 1) := by decide +kernel
theorem d_law_968 : decode (gw_mC M_law) 968 = .ok (.invokevirtual 118, 3) := by decide +kernel
theorem d_law_971 : decode (gw_mC M_law) 971 = .ok (.aload_n 2, 1) := by decide +kernel
theorem d_law_972 : decode (gw_mC M_law) 972 = .ok (.aload_n 0, 1) := by decide +kernel
theorem d_law_973 : decode (gw_mC M_law) 973 = .ok (.iload_n 3, 1) := by decide +kernel
theorem d_law_974 : decode (gw_mC M_law) 974 = .ok (.iconst 1, 1) := by decide +kernel
theorem d_law_975 : decode (gw_mC M_law) 975 = .ok (.iadd, 1) := by decide +kernel
theorem d_law_976 : decode (gw_mC M_law) 976 = .ok (.iaload, 1) := by decide +kernel
theorem d_law_977 : decode (gw_mC M_law) 977 = .ok (.aload_n 0, 1) := by decide +kernel
theorem d_law_978 : decode (gw_mC M_law) 978 = .ok (.iload_n 3, 1) := by decide +kernel
theorem d_law_979 : decode (gw_mC M_law) 979 = .ok (.iconst 2, 1) := by decide +kernel
theorem d_law_980 : decode (gw_mC M_law) 980 = .ok (.iadd, 1) := by decide +kernel
theorem d_law_981 : decode (gw_mC M_law) 981 = .ok (.iaload, 1) := by decide +kernel
theorem d_law_982 : decode (gw_mC M_law) 982 = .ok (.aload_n 0, 1) := by decide +kernel
theorem d_law_983 : decode (gw_mC M_law) 983 = .ok (.iload_n 3, 1) := by decide +kernel
theorem d_law_984 : decode (gw_mC M_law) 984 = .ok (.iconst 3, 1) := by decide +kernel
theorem d_law_985 : decode (gw_mC M_law) 985 = .ok (.iadd, 1) := by decide +kernel
theorem d_law_986 : decode (gw_mC M_law) 986 = .ok (.iaload, 1) := by decide +kernel
theorem d_law_987 : decode (gw_mC M_law) 987 = .ok (.aload_n 0, 1) := by decide +kernel
theorem d_law_988 : decode (gw_mC M_law) 988 = .ok (.iload_n 3, 1) := by decide +kernel
theorem d_law_989 : decode (gw_mC M_law) 989 = .ok (.iconst 4, 1) := by decide +kernel
theorem d_law_990 : decode (gw_mC M_law) 990 = .ok (.iadd, 1) := by decide +kernel
theorem d_law_991 : decode (gw_mC M_law) 991 = .ok (.iaload, 1) := by decide +kernel
theorem d_law_992 : decode (gw_mC M_law) 992 = .ok (.aload_n 0, 1) := by decide +kernel
theorem d_law_993 : decode (gw_mC M_law) 993 = .ok (.iload_n 3, 1) := by decide +kernel
theorem d_law_994 : decode (gw_mC M_law) 994 = .ok (.iconst 5, 1) := by decide +kernel
theorem d_law_995 : decode (gw_mC M_law) 995 = .ok (.iadd, 1) := by decide +kernel
theorem d_law_996 : decode (gw_mC M_law) 996 = .ok (.iaload, 1) := by decide +kernel
theorem d_law_997 : decode (gw_mC M_law) 997 = .ok (.invokevirtual 122, 3) := by decide +kernel
theorem d_law_1000 : decode (gw_mC M_law) 1000 = .ok (.if_icmp .eq 187, 3) := by decide +kernel
theorem d_law_1003 : decode (gw_mC M_law) 1003 = .ok (.iconst 0, 1) := by decide +kernel
theorem d_law_1004 : decode (gw_mC M_law) 1004 = .ok (.ireturn, 1) := by decide +kernel
theorem d_law_1005 : decode (gw_mC M_law) 1005 = .ok (.aload_n 1, 1) := by decide +kernel
theorem d_law_1006 : decode (gw_mC M_law) 1006 = .ok (.aload_n 0, 1) := by decide +kernel
theorem d_law_1007 : decode (gw_mC M_law) 1007 = .ok (.iload_n 3, 1) := by decide +kernel
theorem d_law_1008 : decode (gw_mC M_law) 1008 = .ok (.iconst 1, 1) := by decide +kernel
theorem d_law_1009 : decode (gw_mC M_law) 1009 = .ok (.iadd, 1) := by decide +kernel
theorem d_law_1010 : decode (gw_mC M_law) 1010 = .ok (.iaload, 1) := by decide +kernel
theorem d_law_1011 : decode (gw_mC M_law) 1011 = .ok (.aload_n 0, 1) := by decide +kernel
theorem d_law_1012 : decode (gw_mC M_law) 1012 = .ok (.iload_n 3, 1) := by decide +kernel
theorem d_law_1013 : decode (gw_mC M_law) 1013 = .ok (.iconst 2, 1) := by decide +kernel
theorem d_law_1014 : decode (gw_mC M_law) 1014 = .ok (.iadd, 1) := by decide +kernel
theorem d_law_1015 : decode (gw_mC M_law) 1015 = .ok (.iaload, 1) := by decide +kernel
theorem d_law_1016 : decode (gw_mC M_law) 1016 = .ok (.aload_n 0, 1) := by decide +kernel
theorem d_law_1017 : decode (gw_mC M_law) 1017 = .ok (.iload_n 3, 1) := by decide +kernel
theorem d_law_1018 : decode (gw_mC M_law) 1018 = .ok (.iconst 3, 1) := by decide +kernel
theorem d_law_1019 : decode (gw_mC M_law) 1019 = .ok (.iadd, 1) := by decide +kernel
theorem d_law_1020 : decode (gw_mC M_law) 1020 = .ok (.iaload, 1) := by decide +kernel
theorem d_law_1021 : decode (gw_mC M_law) 1021 = .ok (.invokevirtual 123, 3) := by decide +kernel
theorem d_law_1024 : decode (gw_mC M_law) 1024 = .ok (.aload_n 2, 1) := by decide +kernel
theorem d_law_1025 : decode (gw_mC M_law) 1025 = .ok (.aload_n 0, 1) := by decide +kernel
theorem d_law_1026 : decode (gw_mC M_law) 1026 = .ok (.iload_n 3, 1) := by decide +kernel
theorem d_law_1027 : decode (gw_mC M_law) 1027 = .ok (.iconst 1, 1) := by decide +kernel
theorem d_law_1028 : decode (gw_mC M_law) 1028 = .ok (.iadd, 1) := by decide +kernel
theorem d_law_1029 : decode (gw_mC M_law) 1029 = .ok (.iaload, 1) := by decide +kernel
theorem d_law_1030 : decode (gw_mC M_law) 1030 = .ok (.aload_n 0, 1) := by decide +kernel
theorem d_law_1031 : decode (gw_mC M_law) 1031 = .ok (.iload_n 3, 1) := by decide +kernel
theorem d_law_1032 : decode (gw_mC M_law) 1032 = .ok (.iconst 2, 1) := by decide +kernel
theorem d_law_1033 : decode (gw_mC M_law) 1033 = .ok (.iadd, 1) := by decide +kernel
theorem d_law_1034 : decode (gw_mC M_law) 1034 = .ok (.iaload, 1) := by decide +kernel
theorem d_law_1035 : decode (gw_mC M_law) 1035 = .ok (.aload_n 0, 1) := by decide +kernel
theorem d_law_1036 : decode (gw_mC M_law) 1036 = .ok (.iload_n 3, 1) := by decide +kernel
theorem d_law_1037 : decode (gw_mC M_law) 1037 = .ok (.iconst 3, 1) := by decide +kernel
theorem d_law_1038 : decode (gw_mC M_law) 1038 = .ok (.iadd, 1) := by decide +kernel
theorem d_law_1039 : decode (gw_mC M_law) 1039 = .ok (.iaload, 1) := by decide +kernel
theorem d_law_1040 : decode (gw_mC M_law) 1040 = .ok (.invokevirtual 126, 3) := by decide +kernel
theorem d_law_1043 : decode (gw_mC M_law) 1043 = .ok (.if_icmp .eq 144, 3) := by decide +kernel
theorem d_law_1046 : decode (gw_mC M_law) 1046 = .ok (.iconst 0, 1) := by decide +kernel
theorem d_law_1047 : decode (gw_mC M_law) 1047 = .ok (.ireturn, 1) := by decide +kernel
theorem d_law_1048 : decode (gw_mC M_law) 1048 = .ok (.aload_n 1, 1) := by decide +kernel
theorem d_law_1049 : decode (gw_mC M_law) 1049 = .ok (.aload_n 0, 1) := by decide +kernel
theorem d_law_1050 : decode (gw_mC M_law) 1050 = .ok (.iload_n 3, 1) := by decide +kernel
theorem d_law_1051 : decode (gw_mC M_law) 1051 = .ok (.iconst 1, 1) := by decide +kernel
theorem d_law_1052 : decode (gw_mC M_law) 1052 = .ok (.iadd, 1) := by decide +kernel
theorem d_law_1053 : decode (gw_mC M_law) 1053 = .ok (.iaload, 1) := by decide +kernel
theorem d_law_1054 : decode (gw_mC M_law) 1054 = .ok (.invokevirtual 127, 3) := by decide +kernel
theorem d_law_1057 : decode (gw_mC M_law) 1057 = .ok (.aload_n 2, 1) := by decide +kernel
theorem d_law_1058 : decode (gw_mC M_law) 1058 = .ok (.aload_n 0, 1) := by decide +kernel
theorem d_law_1059 : decode (gw_mC M_law) 1059 = .ok (.iload_n 3, 1) := by decide +kernel
theorem d_law_1060 : decode (gw_mC M_law) 1060 = .ok (.iconst 1, 1) := by decide +kernel
theorem d_law_1061 : decode (gw_mC M_law) 1061 = .ok (.iadd, 1) := by decide +kernel
theorem d_law_1062 : decode (gw_mC M_law) 1062 = .ok (.iaload, 1) := by decide +kernel
theorem d_law_1063 : decode (gw_mC M_law) 1063 = .ok (.invokevirtual 130, 3) := by decide +kernel
theorem d_law_1066 : decode (gw_mC M_law) 1066 = .ok (.if_icmp .eq 121, 3) := by decide +kernel
theorem d_law_1069 : decode (gw_mC M_law) 1069 = .ok (.iconst 0, 1) := by decide +kernel
theorem d_law_1070 : decode (gw_mC M_law) 1070 = .ok (.ireturn, 1) := by decide +kernel
theorem d_law_1071 : decode (gw_mC M_law) 1071 = .ok (.aload_n 1, 1) := by decide +kernel
theorem d_law_1072 : decode (gw_mC M_law) 1072 = .ok (.aload_n 0, 1) := by decide +kernel
theorem d_law_1073 : decode (gw_mC M_law) 1073 = .ok (.iload_n 3, 1) := by decide +kernel
theorem d_law_1074 : decode (gw_mC M_law) 1074 = .ok (.iconst 1, 1) := by decide +kernel
theorem d_law_1075 : decode (gw_mC M_law) 1075 = .ok (.iadd, 1) := by decide +kernel
theorem d_law_1076 : decode (gw_mC M_law) 1076 = .ok (.iaload, 1) := by decide +kernel
theorem d_law_1077 : decode (gw_mC M_law) 1077 = .ok (.aload_n 0, 1) := by decide +kernel
theorem d_law_1078 : decode (gw_mC M_law) 1078 = .ok (.iload_n 3, 1) := by decide +kernel
theorem d_law_1079 : decode (gw_mC M_law) 1079 = .ok (.iconst 2, 1) := by decide +kernel
theorem d_law_1080 : decode (gw_mC M_law) 1080 = .ok (.iadd, 1) := by decide +kernel
theorem d_law_1081 : decode (gw_mC M_law) 1081 = .ok (.iaload, 1) := by decide +kernel
theorem d_law_1082 : decode (gw_mC M_law) 1082 = .ok (.aload_n 0, 1) := by decide +kernel
theorem d_law_1083 : decode (gw_mC M_law) 1083 = .ok (.iload_n 3, 1) := by decide +kernel
theorem d_law_1084 : decode (gw_mC M_law) 1084 = .ok (.iconst 3, 1) := by decide +kernel
theorem d_law_1085 : decode (gw_mC M_law) 1085 = .ok (.iadd, 1) := by decide +kernel
theorem d_law_1086 : decode (gw_mC M_law) 1086 = .ok (.iaload, 1) := by decide +kernel
theorem d_law_1087 : decode (gw_mC M_law) 1087 = .ok (.aload_n 0, 1) := by decide +kernel
theorem d_law_1088 : decode (gw_mC M_law) 1088 = .ok (.iload_n 3, 1) := by decide +kernel
theorem d_law_1089 : decode (gw_mC M_law) 1089 = .ok (.iconst 4, 1) := by decide +kernel
theorem d_law_1090 : decode (gw_mC M_law) 1090 = .ok (.iadd, 1) := by decide +kernel
theorem d_law_1091 : decode (gw_mC M_law) 1091 = .ok (.iaload, 1) := by decide +kernel
theorem d_law_1092 : decode (gw_mC M_law) 1092 = .ok (.invokevirtual 131, 3) := by decide +kernel
theorem d_law_1095 : decode (gw_mC M_law) 1095 = .ok (.aload_n 2, 1) := by decide +kernel
theorem d_law_1096 : decode (gw_mC M_law) 1096 = .ok (.aload_n 0, 1) := by decide +kernel
theorem d_law_1097 : decode (gw_mC M_law) 1097 = .ok (.iload_n 3, 1) := by decide +kernel
theorem d_law_1098 : decode (gw_mC M_law) 1098 = .ok (.iconst 1, 1) := by decide +kernel
theorem d_law_1099 : decode (gw_mC M_law) 1099 = .ok (.iadd, 1) := by decide +kernel
theorem d_law_1100 : decode (gw_mC M_law) 1100 = .ok (.iaload, 1) := by decide +kernel
theorem d_law_1101 : decode (gw_mC M_law) 1101 = .ok (.aload_n 0, 1) := by decide +kernel
theorem d_law_1102 : decode (gw_mC M_law) 1102 = .ok (.iload_n 3, 1) := by decide +kernel
theorem d_law_1103 : decode (gw_mC M_law) 1103 = .ok (.iconst 2, 1) := by decide +kernel
theorem d_law_1104 : decode (gw_mC M_law) 1104 = .ok (.iadd, 1) := by decide +kernel
theorem d_law_1105 : decode (gw_mC M_law) 1105 = .ok (.iaload, 1) := by decide +kernel
theorem d_law_1106 : decode (gw_mC M_law) 1106 = .ok (.aload_n 0, 1) := by decide +kernel
theorem d_law_1107 : decode (gw_mC M_law) 1107 = .ok (.iload_n 3, 1) := by decide +kernel
theorem d_law_1108 : decode (gw_mC M_law) 1108 = .ok (.iconst 3, 1) := by decide +kernel
theorem d_law_1109 : decode (gw_mC M_law) 1109 = .ok (.iadd, 1) := by decide +kernel
theorem d_law_1110 : decode (gw_mC M_law) 1110 = .ok (.iaload, 1) := by decide +kernel
theorem d_law_1111 : decode (gw_mC M_law) 1111 = .ok (.aload_n 0, 1) := by decide +kernel
theorem d_law_1112 : decode (gw_mC M_law) 1112 = .ok (.iload_n 3, 1) := by decide +kernel
theorem d_law_1113 : decode (gw_mC M_law) 1113 = .ok (.iconst 4, 1) := by decide +kernel
theorem d_law_1114 : decode (gw_mC M_law) 1114 = .ok (.iadd, 1) := by decide +kernel
theorem d_law_1115 : decode (gw_mC M_law) 1115 = .ok (.iaload, 1) := by decide +kernel
theorem d_law_1116 : decode (gw_mC M_law) 1116 = .ok (.invokevirtual 134, 3) := by decide +kernel
theorem d_law_1119 : decode (gw_mC M_law) 1119 = .ok (.if_icmp .eq 68, 3) := by decide +kernel
theorem d_law_1122 : decode (gw_mC M_law) 1122 = .ok (.iconst 0, 1) := by decide +kernel
theorem d_law_1123 : decode (gw_mC M_law) 1123 = .ok (.ireturn, 1) := by decide +kernel
theorem d_law_1124 : decode (gw_mC M_law) 1124 = .ok (.aload_n 1, 1) := by decide +kernel
theorem d_law_1125 : decode (gw_mC M_law) 1125 = .ok (.aload_n 0, 1) := by decide +kernel
theorem d_law_1126 : decode (gw_mC M_law) 1126 = .ok (.iload_n 3, 1) := by decide +kernel
theorem d_law_1127 : decode (gw_mC M_law) 1127 = .ok (.iconst 1, 1) := by decide +kernel
theorem d_law_1128 : decode (gw_mC M_law) 1128 = .ok (.iadd, 1) := by decide +kernel
theorem d_law_1129 : decode (gw_mC M_law) 1129 = .ok (.iaload, 1) := by decide +kernel
theorem d_law_1130 : decode (gw_mC M_law) 1130 = .ok (.aload_n 0, 1) := by decide +kernel
theorem d_law_1131 : decode (gw_mC M_law) 1131 = .ok (.iload_n 3, 1) := by decide +kernel
theorem d_law_1132 : decode (gw_mC M_law) 1132 = .ok (.iconst 2, 1) := by decide +kernel
theorem d_law_1133 : decode (gw_mC M_law) 1133 = .ok (.iadd, 1) := by decide +kernel
theorem d_law_1134 : decode (gw_mC M_law) 1134 = .ok (.iaload, 1) := by decide +kernel
theorem d_law_1135 : decode (gw_mC M_law) 1135 = .ok (.aload_n 0, 1) := by decide +kernel
theorem d_law_1136 : decode (gw_mC M_law) 1136 = .ok (.iload_n 3, 1) := by decide +kernel
theorem d_law_1137 : decode (gw_mC M_law) 1137 = .ok (.iconst 3, 1) := by decide +kernel
theorem d_law_1138 : decode (gw_mC M_law) 1138 = .ok (.iadd, 1) := by decide +kernel
theorem d_law_1139 : decode (gw_mC M_law) 1139 = .ok (.iaload, 1) := by decide +kernel
theorem d_law_1140 : decode (gw_mC M_law) 1140 = .ok (.aload_n 0, 1) := by decide +kernel
theorem d_law_1141 : decode (gw_mC M_law) 1141 = .ok (.iload_n 3, 1) := by decide +kernel
theorem d_law_1142 : decode (gw_mC M_law) 1142 = .ok (.iconst 4, 1) := by decide +kernel
theorem d_law_1143 : decode (gw_mC M_law) 1143 = .ok (.iadd, 1) := by decide +kernel
theorem d_law_1144 : decode (gw_mC M_law) 1144 = .ok (.iaload, 1) := by decide +kernel
theorem d_law_1145 : decode (gw_mC M_law) 1145 = .ok (.aload_n 0, 1) := by decide +kernel
theorem d_law_1146 : decode (gw_mC M_law) 1146 = .ok (.iload_n 3, 1) := by decide +kernel
theorem d_law_1147 : decode (gw_mC M_law) 1147 = .ok (.iconst 5, 1) := by decide +kernel
theorem d_law_1148 : decode (gw_mC M_law) 1148 = .ok (.iadd, 1) := by decide +kernel
theorem d_law_1149 : decode (gw_mC M_law) 1149 = .ok (.iaload, 1) := by decide +kernel
theorem d_law_1150 : decode (gw_mC M_law) 1150 = .ok (.invokevirtual 135, 3) := by decide +kernel
theorem d_law_1153 : decode (gw_mC M_law) 1153 = .ok (.aload_n 2, 1) := by decide +kernel
theorem d_law_1154 : decode (gw_mC M_law) 1154 = .ok (.aload_n 0, 1) := by decide +kernel
theorem d_law_1155 : decode (gw_mC M_law) 1155 = .ok (.iload_n 3, 1) := by decide +kernel
theorem d_law_1156 : decode (gw_mC M_law) 1156 = .ok (.iconst 1, 1) := by decide +kernel
theorem d_law_1157 : decode (gw_mC M_law) 1157 = .ok (.iadd, 1) := by decide +kernel
theorem d_law_1158 : decode (gw_mC M_law) 1158 = .ok (.iaload, 1) := by decide +kernel
theorem d_law_1159 : decode (gw_mC M_law) 1159 = .ok (.aload_n 0, 1) := by decide +kernel
theorem d_law_1160 : decode (gw_mC M_law) 1160 = .ok (.iload_n 3, 1) := by decide +kernel
theorem d_law_1161 : decode (gw_mC M_law) 1161 = .ok (.iconst 2, 1) := by decide +kernel
theorem d_law_1162 : decode (gw_mC M_law) 1162 = .ok (.iadd, 1) := by decide +kernel
theorem d_law_1163 : decode (gw_mC M_law) 1163 = .ok (.iaload, 1) := by decide +kernel
theorem d_law_1164 : decode (gw_mC M_law) 1164 = .ok (.aload_n 0, 1) := by decide +kernel
theorem d_law_1165 : decode (gw_mC M_law) 1165 = .ok (.iload_n 3, 1) := by decide +kernel
theorem d_law_1166 : decode (gw_mC M_law) 1166 = .ok (.iconst 3, 1) := by decide +kernel
theorem d_law_1167 : decode (gw_mC M_law) 1167 = .ok (.iadd, 1) := by decide +kernel
theorem d_law_1168 : decode (gw_mC M_law) 1168 = .ok (.iaload, 1) := by decide +kernel
theorem d_law_1169 : decode (gw_mC M_law) 1169 = .ok (.aload_n 0, 1) := by decide +kernel
theorem d_law_1170 : decode (gw_mC M_law) 1170 = .ok (.iload_n 3, 1) := by decide +kernel
theorem d_law_1171 : decode (gw_mC M_law) 1171 = .ok (.iconst 4, 1) := by decide +kernel
theorem d_law_1172 : decode (gw_mC M_law) 1172 = .ok (.iadd, 1) := by decide +kernel
theorem d_law_1173 : decode (gw_mC M_law) 1173 = .ok (.iaload, 1) := by decide +kernel
theorem d_law_1174 : decode (gw_mC M_law) 1174 = .ok (.aload_n 0, 1) := by decide +kernel
theorem d_law_1175 : decode (gw_mC M_law) 1175 = .ok (.iload_n 3, 1) := by decide +kernel
theorem d_law_1176 : decode (gw_mC M_law) 1176 = .ok (.iconst 5, 1) := by decide +kernel
theorem d_law_1177 : decode (gw_mC M_law) 1177 = .ok (.iadd, 1) := by decide +kernel
theorem d_law_1178 : decode (gw_mC M_law) 1178 = .ok (.iaload, 1) := by decide +kernel
theorem d_law_1179 : decode (gw_mC M_law) 1179 = .ok (.invokevirtual 138, 3) := by decide +kernel
theorem d_law_1182 : decode (gw_mC M_law) 1182 = .ok (.if_icmp .eq 5, 3) := by decide +kernel
theorem d_law_1185 : decode (gw_mC M_law) 1185 = .ok (.iconst 0, 1) := by decide +kernel
theorem d_law_1186 : decode (gw_mC M_law) 1186 = .ok (.ireturn, 1) := by decide +kernel
theorem d_law_1187 : decode (gw_mC M_law) 1187 = .ok (.iinc 3 6, 3) := by decide +kernel
theorem d_law_1190 : decode (gw_mC M_law) 1190 = .ok (.goto (-1172), 3) := by decide +kernel
theorem d_law_1193 : decode (gw_mC M_law) 1193 = .ok (.iconst 1, 1) := by decide +kernel
theorem d_law_1194 : decode (gw_mC M_law) 1194 = .ok (.ireturn, 1) := by decide +kernel
