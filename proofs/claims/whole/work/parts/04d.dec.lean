theorem dX10_nextOn_1 : decode cX10_nextOn 1 = .ok (.istore_n 2, 1) := by decide +kernel
theorem dX10_nextOn_2 : decode cX10_nextOn 2 = .ok (.iconst 0, 1) := by decide +kernel
theorem dX10_nextOn_3 : decode cX10_nextOn 3 = .ok (.istore_n 3, 1) := by decide +kernel
theorem dX10_nextOn_4 : decode cX10_nextOn 4 = .ok (.iload_n 3, 1) := by decide +kernel
theorem dX10_nextOn_5 : decode cX10_nextOn 5 = .ok (.aload_n 0, 1) := by decide +kernel
theorem dX10_nextOn_6 : decode cX10_nextOn 6 = .ok (.getfield 78, 3) := by decide +kernel
theorem dX10_nextOn_9 : decode cX10_nextOn 9 = .ok (.iload_n 1, 1) := by decide +kernel
theorem dX10_nextOn_10 : decode cX10_nextOn 10 = .ok (.iaload, 1) := by decide +kernel
theorem dX10_nextOn_11 : decode cX10_nextOn 11 = .ok (.if_icmp .ge 70, 3) := by decide +kernel
theorem dX10_nextOn_14 : decode cX10_nextOn 14 = .ok (.aload_n 0, 1) := by decide +kernel
theorem dX10_nextOn_15 : decode cX10_nextOn 15 = .ok (.getfield 81, 3) := by decide +kernel
theorem dX10_nextOn_18 : decode cX10_nextOn 18 = .ok (.bipush 8, 2) := by decide +kernel
theorem dX10_nextOn_20 : decode cX10_nextOn 20 = .ok (.iload_n 1, 1) := by decide +kernel
theorem dX10_nextOn_21 : decode cX10_nextOn 21 = .ok (.imul, 1) := by decide +kernel
theorem dX10_nextOn_22 : decode cX10_nextOn 22 = .ok (.iload_n 3, 1) := by decide +kernel
theorem dX10_nextOn_23 : decode cX10_nextOn 23 = .ok (.iadd, 1) := by decide +kernel
theorem dX10_nextOn_24 : decode cX10_nextOn 24 = .ok (.iaload, 1) := by decide +kernel
theorem dX10_nextOn_25 : decode cX10_nextOn 25 = .ok (.istore 4, 2) := by decide +kernel
theorem dX10_nextOn_27 : decode cX10_nextOn 27 = .ok (.aload_n 0, 1) := by decide +kernel
theorem dX10_nextOn_28 : decode cX10_nextOn 28 = .ok (.getfield 356, 3) := by decide +kernel
theorem dX10_nextOn_31 : decode cX10_nextOn 31 = .ok (.iload 4, 2) := by decide +kernel
theorem dX10_nextOn_33 : decode cX10_nextOn 33 = .ok (.ishr, 1) := by decide +kernel
theorem dX10_nextOn_34 : decode cX10_nextOn 34 = .ok (.iconst 1, 1) := by decide +kernel
theorem dX10_nextOn_35 : decode cX10_nextOn 35 = .ok (.iand, 1) := by decide +kernel
theorem dX10_nextOn_36 : decode cX10_nextOn 36 = .ok (.ifCond .eq 39, 3) := by decide +kernel
theorem dX10_nextOn_39 : decode cX10_nextOn 39 = .ok (.aload_n 0, 1) := by decide +kernel
theorem dX10_nextOn_40 : decode cX10_nextOn 40 = .ok (.iload 4, 2) := by decide +kernel
theorem dX10_nextOn_42 : decode cX10_nextOn 42 = .ok (.invokevirtual 359, 3) := by decide +kernel
theorem dX10_nextOn_45 : decode cX10_nextOn 45 = .ok (.ifCond .eq 6, 3) := by decide +kernel
theorem dX10_nextOn_48 : decode cX10_nextOn 48 = .ok (.goto 27, 3) := by decide +kernel
theorem dX10_nextOn_51 : decode cX10_nextOn 51 = .ok (.iload_n 2, 1) := by decide +kernel
theorem dX10_nextOn_52 : decode cX10_nextOn 52 = .ok (.iconst (-1), 1) := by decide +kernel
theorem dX10_nextOn_53 : decode cX10_nextOn 53 = .ok (.if_icmp .eq 19, 3) := by decide +kernel
theorem dX10_nextOn_56 : decode cX10_nextOn 56 = .ok (.aload_n 0, 1) := by decide +kernel
theorem dX10_nextOn_57 : decode cX10_nextOn 57 = .ok (.getfield 105, 3) := by decide +kernel
theorem dX10_nextOn_60 : decode cX10_nextOn 60 = .ok (.iload 4, 2) := by decide +kernel
theorem dX10_nextOn_62 : decode cX10_nextOn 62 = .ok (.iaload, 1) := by decide +kernel
theorem dX10_nextOn_63 : decode cX10_nextOn 63 = .ok (.aload_n 0, 1) := by decide +kernel
theorem dX10_nextOn_64 : decode cX10_nextOn 64 = .ok (.getfield 105, 3) := by decide +kernel
theorem dX10_nextOn_67 : decode cX10_nextOn 67 = .ok (.iload_n 2, 1) := by decide +kernel
theorem dX10_nextOn_68 : decode cX10_nextOn 68 = .ok (.iaload, 1) := by decide +kernel
theorem dX10_nextOn_69 : decode cX10_nextOn 69 = .ok (.if_icmp .ge 6, 3) := by decide +kernel
theorem dX10_nextOn_72 : decode cX10_nextOn 72 = .ok (.iload 4, 2) := by decide +kernel
theorem dX10_nextOn_74 : decode cX10_nextOn 74 = .ok (.istore_n 2, 1) := by decide +kernel
theorem dX10_nextOn_75 : decode cX10_nextOn 75 = .ok (.iinc 3 1, 3) := by decide +kernel
theorem dX10_nextOn_78 : decode cX10_nextOn 78 = .ok (.goto (-74), 3) := by decide +kernel
theorem dX10_nextOn_81 : decode cX10_nextOn 81 = .ok (.iload_n 2, 1) := by decide +kernel
theorem dX10_nextOn_82 : decode cX10_nextOn 82 = .ok (.ireturn, 1) := by decide +kernel
theorem dX10_stops_0 : decode cX10_stops 0 = .ok (.aload_n 0, 1) := by decide +kernel
theorem dX10_stops_1 : decode cX10_stops 1 = .ok (.iconst 0, 1) := by decide +kernel
theorem dX10_stops_2 : decode cX10_stops 2 = .ok (.putfield 356, 3) := by decide +kernel
theorem dX10_stops_5 : decode cX10_stops 5 = .ok (.iconst 0, 1) := by decide +kernel
theorem dX10_stops_6 : decode cX10_stops 6 = .ok (.istore_n 3, 1) := by decide +kernel
theorem dX10_stops_7 : decode cX10_stops 7 = .ok (.iload_n 3, 1) := by decide +kernel
theorem dX10_stops_8 : decode cX10_stops 8 = .ok (.aload_n 0, 1) := by decide +kernel
theorem dX10_stops_9 : decode cX10_stops 9 = .ok (.getfield 78, 3) := by decide +kernel
theorem dX10_stops_12 : decode cX10_stops 12 = .ok (.iload_n 1, 1) := by decide +kernel
theorem dX10_stops_13 : decode cX10_stops 13 = .ok (.iaload, 1) := by decide +kernel
theorem dX10_stops_14 : decode cX10_stops 14 = .ok (.if_icmp .ge 82, 3) := by decide +kernel
theorem dX10_stops_17 : decode cX10_stops 17 = .ok (.aload_n 0, 1) := by decide +kernel
theorem dX10_stops_18 : decode cX10_stops 18 = .ok (.getfield 81, 3) := by decide +kernel
theorem dX10_stops_21 : decode cX10_stops 21 = .ok (.bipush 8, 2) := by decide +kernel
theorem dX10_stops_23 : decode cX10_stops 23 = .ok (.iload_n 1, 1) := by decide +kernel
theorem dX10_stops_24 : decode cX10_stops 24 = .ok (.imul, 1) := by decide +kernel
theorem dX10_stops_25 : decode cX10_stops 25 = .ok (.iload_n 3, 1) := by decide +kernel
theorem dX10_stops_26 : decode cX10_stops 26 = .ok (.iadd, 1) := by decide +kernel
theorem dX10_stops_27 : decode cX10_stops 27 = .ok (.iaload, 1) := by decide +kernel
theorem dX10_stops_28 : decode cX10_stops 28 = .ok (.istore 4, 2) := by decide +kernel
theorem dX10_stops_30 : decode cX10_stops 30 = .ok (.aload_n 0, 1) := by decide +kernel
theorem dX10_stops_31 : decode cX10_stops 31 = .ok (.dup, 1) := by decide +kernel
theorem dX10_stops_32 : decode cX10_stops 32 = .ok (.getfield 356, 3) := by decide +kernel
theorem dX10_stops_35 : decode cX10_stops 35 = .ok (.aload_n 0, 1) := by decide +kernel
theorem dX10_stops_36 : decode cX10_stops 36 = .ok (.iload_n 1, 1) := by decide +kernel
theorem dX10_stops_37 : decode cX10_stops 37 = .ok (.iload 4, 2) := by decide +kernel
theorem dX10_stops_39 : decode cX10_stops 39 = .ok (.iload_n 2, 1) := by decide +kernel
theorem dX10_stops_40 : decode cX10_stops 40 = .ok (.invokevirtual 362, 3) := by decide +kernel
theorem dX10_stops_43 : decode cX10_stops 43 = .ok (.ifCond .eq 10, 3) := by decide +kernel
theorem dX10_stops_46 : decode cX10_stops 46 = .ok (.iconst 1, 1) := by decide +kernel
theorem dX10_stops_47 : decode cX10_stops 47 = .ok (.iload 4, 2) := by decide +kernel
theorem dX10_stops_49 : decode cX10_stops 49 = .ok (.ishl, 1) := by decide +kernel
theorem dX10_stops_50 : decode cX10_stops 50 = .ok (.goto 4, 3) := by decide +kernel
theorem dX10_stops_53 : decode cX10_stops 53 = .ok (.iconst 0, 1) := by decide +kernel
theorem dX10_stops_54 : decode cX10_stops 54 = .ok (.ior, 1) := by decide +kernel
theorem dX10_stops_55 : decode cX10_stops 55 = .ok (.putfield 356, 3) := by decide +kernel
theorem dX10_stops_58 : decode cX10_stops 58 = .ok (.aload_n 0, 1) := by decide +kernel
theorem dX10_stops_59 : decode cX10_stops 59 = .ok (.iload_n 1, 1) := by decide +kernel
theorem dX10_stops_60 : decode cX10_stops 60 = .ok (.iload 4, 2) := by decide +kernel
theorem dX10_stops_62 : decode cX10_stops 62 = .ok (.aload_n 0, 1) := by decide +kernel
theorem dX10_stops_63 : decode cX10_stops 63 = .ok (.getfield 40, 3) := by decide +kernel
theorem dX10_stops_66 : decode cX10_stops 66 = .ok (.iload_n 2, 1) := by decide +kernel
theorem dX10_stops_67 : decode cX10_stops 67 = .ok (.iaload, 1) := by decide +kernel
theorem dX10_stops_68 : decode cX10_stops 68 = .ok (.invokevirtual 352, 3) := by decide +kernel
theorem dX10_stops_71 : decode cX10_stops 71 = .ok (.aload_n 0, 1) := by decide +kernel
theorem dX10_stops_72 : decode cX10_stops 72 = .ok (.getfield 105, 3) := by decide +kernel
theorem dX10_stops_75 : decode cX10_stops 75 = .ok (.iload 4, 2) := by decide +kernel
theorem dX10_stops_77 : decode cX10_stops 77 = .ok (.aload_n 0, 1) := by decide +kernel
theorem dX10_stops_78 : decode cX10_stops 78 = .ok (.iconst 1, 1) := by decide +kernel
theorem dX10_stops_79 : decode cX10_stops 79 = .ok (.sipush (-9999), 3) := by decide +kernel
theorem dX10_stops_82 : decode cX10_stops 82 = .ok (.sipush 9999, 3) := by decide +kernel
theorem dX10_stops_85 : decode cX10_stops 85 = .ok (.iconst 0, 1) := by decide +kernel
theorem dX10_stops_86 : decode cX10_stops 86 = .ok (.invokevirtual 366, 3) := by decide +kernel
theorem dX10_stops_89 : decode cX10_stops 89 = .ok (.iastore, 1) := by decide +kernel
theorem dX10_stops_90 : decode cX10_stops 90 = .ok (.iinc 3 1, 3) := by decide +kernel
theorem dX10_stops_93 : decode cX10_stops 93 = .ok (.goto (-86), 3) := by decide +kernel
theorem dX10_stops_96 : decode cX10_stops 96 = .ok (.aload_n 0, 1) := by decide +kernel
theorem dX10_stops_97 : decode cX10_stops 97 = .ok (.getfield 349, 3) := by decide +kernel
theorem dX10_stops_100 : decode cX10_stops 100 = .ok (.iconst 4, 1) := by decide +kernel
theorem dX10_stops_101 : decode cX10_stops 101 = .ok (.if_icmp .ne 8, 3) := by decide +kernel
theorem dX10_stops_104 : decode cX10_stops 104 = .ok (.bipush 8, 2) := by decide +kernel
theorem dX10_stops_106 : decode cX10_stops 106 = .ok (.goto 9, 3) := by decide +kernel
theorem dX10_stops_109 : decode cX10_stops 109 = .ok (.aload_n 0, 1) := by decide +kernel
theorem dX10_stops_110 : decode cX10_stops 110 = .ok (.getfield 37, 3) := by decide +kernel
theorem dX10_stops_113 : decode cX10_stops 113 = .ok (.iload_n 2, 1) := by decide +kernel
theorem dX10_stops_114 : decode cX10_stops 114 = .ok (.iaload, 1) := by decide +kernel
theorem dX10_stops_115 : decode cX10_stops 115 = .ok (.istore_n 3, 1) := by decide +kernel
theorem dX10_stops_116 : decode cX10_stops 116 = .ok (.iload_n 3, 1) := by decide +kernel
theorem dX10_stops_117 : decode cX10_stops 117 = .ok (.ifCond .le 112, 3) := by decide +kernel
theorem dX10_stops_120 : decode cX10_stops 120 = .ok (.aload_n 0, 1) := by decide +kernel
theorem dX10_stops_121 : decode cX10_stops 121 = .ok (.iload_n 1, 1) := by decide +kernel
theorem dX10_stops_122 : decode cX10_stops 122 = .ok (.invokevirtual 370, 3) := by decide +kernel
theorem dX10_stops_125 : decode cX10_stops 125 = .ok (.istore 4, 2) := by decide +kernel
theorem dX10_stops_127 : decode cX10_stops 127 = .ok (.iload 4, 2) := by decide +kernel
theorem dX10_stops_129 : decode cX10_stops 129 = .ok (.iconst (-1), 1) := by decide +kernel
theorem dX10_stops_130 : decode cX10_stops 130 = .ok (.if_icmp .ne 4, 3) := by decide +kernel
theorem dX10_stops_133 : decode cX10_stops 133 = .ok (.return_, 1) := by decide +kernel
theorem dX10_stops_134 : decode cX10_stops 134 = .ok (.aload_n 0, 1) := by decide +kernel
theorem dX10_stops_135 : decode cX10_stops 135 = .ok (.iload_n 1, 1) := by decide +kernel
theorem dX10_stops_136 : decode cX10_stops 136 = .ok (.iload 4, 2) := by decide +kernel
theorem dX10_stops_138 : decode cX10_stops 138 = .ok (.iconst 2, 1) := by decide +kernel
theorem dX10_stops_139 : decode cX10_stops 139 = .ok (.invokevirtual 373, 3) := by decide +kernel
theorem dX10_stops_142 : decode cX10_stops 142 = .ok (.aload_n 0, 1) := by decide +kernel
theorem dX10_stops_143 : decode cX10_stops 143 = .ok (.dup, 1) := by decide +kernel
theorem dX10_stops_144 : decode cX10_stops 144 = .ok (.getfield 356, 3) := by decide +kernel
theorem dX10_stops_147 : decode cX10_stops 147 = .ok (.iconst 1, 1) := by decide +kernel
theorem dX10_stops_148 : decode cX10_stops 148 = .ok (.iload 4, 2) := by decide +kernel
theorem dX10_stops_150 : decode cX10_stops 150 = .ok (.ishl, 1) := by decide +kernel
theorem dX10_stops_151 : decode cX10_stops 151 = .ok (.iconst (-1), 1) := by decide +kernel
theorem dX10_stops_152 : decode cX10_stops 152 = .ok (.ixor, 1) := by decide +kernel
theorem dX10_stops_153 : decode cX10_stops 153 = .ok (.iand, 1) := by decide +kernel
theorem dX10_stops_154 : decode cX10_stops 154 = .ok (.putfield 356, 3) := by decide +kernel
theorem dX10_stops_157 : decode cX10_stops 157 = .ok (.aload_n 0, 1) := by decide +kernel
theorem dX10_stops_158 : decode cX10_stops 158 = .ok (.getfield 96, 3) := by decide +kernel
theorem dX10_stops_161 : decode cX10_stops 161 = .ok (.bipush 8, 2) := by decide +kernel
theorem dX10_stops_163 : decode cX10_stops 163 = .ok (.iload_n 1, 1) := by decide +kernel
theorem dX10_stops_164 : decode cX10_stops 164 = .ok (.imul, 1) := by decide +kernel
theorem dX10_stops_165 : decode cX10_stops 165 = .ok (.iload 4, 2) := by decide +kernel
theorem dX10_stops_167 : decode cX10_stops 167 = .ok (.iadd, 1) := by decide +kernel
theorem dX10_stops_168 : decode cX10_stops 168 = .ok (.iload_n 2, 1) := by decide +kernel
theorem dX10_stops_169 : decode cX10_stops 169 = .ok (.iastore, 1) := by decide +kernel
theorem dX10_stops_170 : decode cX10_stops 170 = .ok (.aload_n 0, 1) := by decide +kernel
theorem dX10_stops_171 : decode cX10_stops 171 = .ok (.getfield 99, 3) := by decide +kernel
theorem dX10_stops_174 : decode cX10_stops 174 = .ok (.bipush 8, 2) := by decide +kernel
theorem dX10_stops_176 : decode cX10_stops 176 = .ok (.iload_n 1, 1) := by decide +kernel
theorem dX10_stops_177 : decode cX10_stops 177 = .ok (.imul, 1) := by decide +kernel
theorem dX10_stops_178 : decode cX10_stops 178 = .ok (.iload 4, 2) := by decide +kernel
theorem dX10_stops_180 : decode cX10_stops 180 = .ok (.iadd, 1) := by decide +kernel
theorem dX10_stops_181 : decode cX10_stops 181 = .ok (.aload_n 0, 1) := by decide +kernel
theorem dX10_stops_182 : decode cX10_stops 182 = .ok (.getfield 72, 3) := by decide +kernel
theorem dX10_stops_185 : decode cX10_stops 185 = .ok (.iload_n 1, 1) := by decide +kernel
theorem dX10_stops_186 : decode cX10_stops 186 = .ok (.iaload, 1) := by decide +kernel
theorem dX10_stops_187 : decode cX10_stops 187 = .ok (.iastore, 1) := by decide +kernel
theorem dX10_stops_188 : decode cX10_stops 188 = .ok (.aload_n 0, 1) := by decide +kernel
theorem dX10_stops_189 : decode cX10_stops 189 = .ok (.getfield 87, 3) := by decide +kernel
theorem dX10_stops_192 : decode cX10_stops 192 = .ok (.bipush 8, 2) := by decide +kernel
theorem dX10_stops_194 : decode cX10_stops 194 = .ok (.iload_n 1, 1) := by decide +kernel
theorem dX10_stops_195 : decode cX10_stops 195 = .ok (.imul, 1) := by decide +kernel
theorem dX10_stops_196 : decode cX10_stops 196 = .ok (.iload 4, 2) := by decide +kernel
theorem dX10_stops_198 : decode cX10_stops 198 = .ok (.iadd, 1) := by decide +kernel
theorem dX10_stops_199 : decode cX10_stops 199 = .ok (.iconst 0, 1) := by decide +kernel
theorem dX10_stops_200 : decode cX10_stops 200 = .ok (.aload_n 0, 1) := by decide +kernel
theorem dX10_stops_201 : decode cX10_stops 201 = .ok (.getfield 87, 3) := by decide +kernel
theorem dX10_stops_204 : decode cX10_stops 204 = .ok (.bipush 8, 2) := by decide +kernel
theorem dX10_stops_206 : decode cX10_stops 206 = .ok (.iload_n 1, 1) := by decide +kernel
theorem dX10_stops_207 : decode cX10_stops 207 = .ok (.imul, 1) := by decide +kernel
theorem dX10_stops_208 : decode cX10_stops 208 = .ok (.iload 4, 2) := by decide +kernel
theorem dX10_stops_210 : decode cX10_stops 210 = .ok (.iadd, 1) := by decide +kernel
theorem dX10_stops_211 : decode cX10_stops 211 = .ok (.iaload, 1) := by decide +kernel
theorem dX10_stops_212 : decode cX10_stops 212 = .ok (.aload_n 0, 1) := by decide +kernel
theorem dX10_stops_213 : decode cX10_stops 213 = .ok (.getfield 40, 3) := by decide +kernel
theorem dX10_stops_216 : decode cX10_stops 216 = .ok (.iload_n 2, 1) := by decide +kernel
theorem dX10_stops_217 : decode cX10_stops 217 = .ok (.iaload, 1) := by decide +kernel
theorem dX10_stops_218 : decode cX10_stops 218 = .ok (.isub, 1) := by decide +kernel
theorem dX10_stops_219 : decode cX10_stops 219 = .ok (.invokestatic 376, 3) := by decide +kernel
theorem dX10_stops_222 : decode cX10_stops 222 = .ok (.iastore, 1) := by decide +kernel
theorem dX10_stops_223 : decode cX10_stops 223 = .ok (.iinc 3 (-1), 3) := by decide +kernel
theorem dX10_stops_226 : decode cX10_stops 226 = .ok (.goto (-110), 3) := by decide +kernel
theorem dX10_stops_229 : decode cX10_stops 229 = .ok (.iconst 0, 1) := by decide +kernel
theorem dX10_stops_230 : decode cX10_stops 230 = .ok (.istore 4, 2) := by decide +kernel
theorem dX10_stops_232 : decode cX10_stops 232 = .ok (.iload 4, 2) := by decide +kernel
theorem dX10_stops_234 : decode cX10_stops 234 = .ok (.aload_n 0, 1) := by decide +kernel
theorem dX10_stops_235 : decode cX10_stops 235 = .ok (.getfield 13, 3) := by decide +kernel
theorem dX10_stops_238 : decode cX10_stops 238 = .ok (.iconst 0, 1) := by decide +kernel
theorem dX10_stops_239 : decode cX10_stops 239 = .ok (.iaload, 1) := by decide +kernel
theorem dX10_stops_240 : decode cX10_stops 240 = .ok (.if_icmp .ge 33, 3) := by decide +kernel
theorem dX10_stops_243 : decode cX10_stops 243 = .ok (.aload_n 0, 1) := by decide +kernel
theorem dX10_stops_244 : decode cX10_stops 244 = .ok (.getfield 93, 3) := by decide +kernel
theorem dX10_stops_247 : decode cX10_stops 247 = .ok (.bipush 8, 2) := by decide +kernel
theorem dX10_stops_249 : decode cX10_stops 249 = .ok (.iload_n 1, 1) := by decide +kernel
theorem dX10_stops_250 : decode cX10_stops 250 = .ok (.imul, 1) := by decide +kernel
theorem dX10_stops_251 : decode cX10_stops 251 = .ok (.iload 4, 2) := by decide +kernel
theorem dX10_stops_253 : decode cX10_stops 253 = .ok (.iadd, 1) := by decide +kernel
theorem dX10_stops_254 : decode cX10_stops 254 = .ok (.dup2, 1) := by decide +kernel
theorem dX10_stops_255 : decode cX10_stops 255 = .ok (.iaload, 1) := by decide +kernel
theorem dX10_stops_256 : decode cX10_stops 256 = .ok (.aload_n 0, 1) := by decide +kernel
theorem dX10_stops_257 : decode cX10_stops 257 = .ok (.getfield 356, 3) := by decide +kernel
theorem dX10_stops_260 : decode cX10_stops 260 = .ok (.iload 4, 2) := by decide +kernel
theorem dX10_stops_262 : decode cX10_stops 262 = .ok (.ishr, 1) := by decide +kernel
theorem dX10_stops_263 : decode cX10_stops 263 = .ok (.iconst 1, 1) := by decide +kernel
theorem dX10_stops_264 : decode cX10_stops 264 = .ok (.iand, 1) := by decide +kernel
theorem dX10_stops_265 : decode cX10_stops 265 = .ok (.iadd, 1) := by decide +kernel
theorem dX10_stops_266 : decode cX10_stops 266 = .ok (.iastore, 1) := by decide +kernel
theorem dX10_stops_267 : decode cX10_stops 267 = .ok (.iinc 4 1, 3) := by decide +kernel
theorem dX10_stops_270 : decode cX10_stops 270 = .ok (.goto (-38), 3) := by decide +kernel
theorem dX10_stops_273 : decode cX10_stops 273 = .ok (.return_, 1) := by decide +kernel
theorem dX10_isComing_0 : decode cX10_isComing 0 = .ok (.iload_n 2, 1) := by decide +kernel
theorem dX10_isComing_1 : decode cX10_isComing 1 = .ok (.aload_n 0, 1) := by decide +kernel
theorem dX10_isComing_2 : decode cX10_isComing 2 = .ok (.getfield 31, 3) := by decide +kernel
theorem dX10_isComing_5 : decode cX10_isComing 5 = .ok (.iload_n 1, 1) := by decide +kernel
theorem dX10_isComing_6 : decode cX10_isComing 6 = .ok (.iaload, 1) := by decide +kernel
theorem dX10_isComing_7 : decode cX10_isComing 7 = .ok (.if_icmp .lt 24, 3) := by decide +kernel
theorem dX10_isComing_10 : decode cX10_isComing 10 = .ok (.iload_n 2, 1) := by decide +kernel
theorem dX10_isComing_11 : decode cX10_isComing 11 = .ok (.aload_n 0, 1) := by decide +kernel
theorem dX10_isComing_12 : decode cX10_isComing 12 = .ok (.getfield 31, 3) := by decide +kernel
theorem dX10_isComing_15 : decode cX10_isComing 15 = .ok (.iload_n 1, 1) := by decide +kernel
theorem dX10_isComing_16 : decode cX10_isComing 16 = .ok (.iaload, 1) := by decide +kernel
theorem dX10_isComing_17 : decode cX10_isComing 17 = .ok (.isub, 1) := by decide +kernel
theorem dX10_isComing_18 : decode cX10_isComing 18 = .ok (.aload_n 0, 1) := by decide +kernel
theorem dX10_isComing_19 : decode cX10_isComing 19 = .ok (.iload_n 1, 1) := by decide +kernel
theorem dX10_isComing_20 : decode cX10_isComing 20 = .ok (.invokevirtual 378, 3) := by decide +kernel
theorem dX10_isComing_23 : decode cX10_isComing 23 = .ok (.irem, 1) := by decide +kernel
theorem dX10_isComing_24 : decode cX10_isComing 24 = .ok (.ifCond .ne 7, 3) := by decide +kernel
theorem dX10_isComing_27 : decode cX10_isComing 27 = .ok (.iconst 1, 1) := by decide +kernel
theorem dX10_isComing_28 : decode cX10_isComing 28 = .ok (.goto 4, 3) := by decide +kernel
theorem dX10_isComing_31 : decode cX10_isComing 31 = .ok (.iconst 0, 1) := by decide +kernel
theorem dX10_isComing_32 : decode cX10_isComing 32 = .ok (.ireturn, 1) := by decide +kernel
theorem dX10_doesRain_0 : decode cX10_doesRain 0 = .ok (.aload_n 0, 1) := by decide +kernel
theorem dX10_doesRain_1 : decode cX10_doesRain 1 = .ok (.getfield 13, 3) := by decide +kernel
theorem dX10_doesRain_4 : decode cX10_doesRain 4 = .ok (.iconst 4, 1) := by decide +kernel
theorem dX10_doesRain_5 : decode cX10_doesRain 5 = .ok (.iaload, 1) := by decide +kernel
theorem dX10_doesRain_6 : decode cX10_doesRain 6 = .ok (.istore_n 3, 1) := by decide +kernel
theorem dX10_doesRain_7 : decode cX10_doesRain 7 = .ok (.iload_n 2, 1) := by decide +kernel
theorem dX10_doesRain_8 : decode cX10_doesRain 8 = .ok (.ifCond .eq 13, 3) := by decide +kernel
theorem dX10_doesRain_11 : decode cX10_doesRain 11 = .ok (.iload_n 3, 1) := by decide +kernel
theorem dX10_doesRain_12 : decode cX10_doesRain 12 = .ok (.ifCond .eq 9, 3) := by decide +kernel
theorem dX10_doesRain_15 : decode cX10_doesRain 15 = .ok (.iload_n 3, 1) := by decide +kernel
theorem dX10_doesRain_16 : decode cX10_doesRain 16 = .ok (.bipush 100, 2) := by decide +kernel
theorem dX10_doesRain_18 : decode cX10_doesRain 18 = .ok (.if_icmp .ne 15, 3) := by decide +kernel
theorem dX10_doesRain_21 : decode cX10_doesRain 21 = .ok (.iload_n 3, 1) := by decide +kernel
theorem dX10_doesRain_22 : decode cX10_doesRain 22 = .ok (.bipush 50, 2) := by decide +kernel
theorem dX10_doesRain_24 : decode cX10_doesRain 24 = .ok (.if_icmp .lt 7, 3) := by decide +kernel
theorem dX10_doesRain_27 : decode cX10_doesRain 27 = .ok (.iconst 1, 1) := by decide +kernel
theorem dX10_doesRain_28 : decode cX10_doesRain 28 = .ok (.goto 4, 3) := by decide +kernel
theorem dX10_doesRain_31 : decode cX10_doesRain 31 = .ok (.iconst 0, 1) := by decide +kernel
theorem dX10_doesRain_32 : decode cX10_doesRain 32 = .ok (.ireturn, 1) := by decide +kernel
theorem dX10_doesRain_33 : decode cX10_doesRain 33 = .ok (.aload_n 0, 1) := by decide +kernel
theorem dX10_doesRain_34 : decode cX10_doesRain 34 = .ok (.getfield 75, 3) := by decide +kernel
theorem dX10_doesRain_37 : decode cX10_doesRain 37 = .ok (.iload_n 1, 1) := by decide +kernel
theorem dX10_doesRain_38 : decode cX10_doesRain 38 = .ok (.aload_n 0, 1) := by decide +kernel
theorem dX10_doesRain_39 : decode cX10_doesRain 39 = .ok (.getfield 75, 3) := by decide +kernel
theorem dX10_doesRain_42 : decode cX10_doesRain 42 = .ok (.iload_n 1, 1) := by decide +kernel
theorem dX10_doesRain_43 : decode cX10_doesRain 43 = .ok (.iaload, 1) := by decide +kernel
theorem dX10_doesRain_44 : decode cX10_doesRain 44 = .ok (.ldc_w 381, 3) := by decide +kernel
theorem dX10_doesRain_47 : decode cX10_doesRain 47 = .ok (.imul, 1) := by decide +kernel
theorem dX10_doesRain_48 : decode cX10_doesRain 48 = .ok (.sipush 12345, 3) := by decide +kernel
theorem dX10_doesRain_51 : decode cX10_doesRain 51 = .ok (.iadd, 1) := by decide +kernel
theorem dX10_doesRain_52 : decode cX10_doesRain 52 = .ok (.ldc_w 384, 3) := by decide +kernel
theorem dX10_doesRain_55 : decode cX10_doesRain 55 = .ok (.iand, 1) := by decide +kernel
theorem dX10_doesRain_56 : decode cX10_doesRain 56 = .ok (.iastore, 1) := by decide +kernel
theorem dX10_doesRain_57 : decode cX10_doesRain 57 = .ok (.aload_n 0, 1) := by decide +kernel
theorem dX10_doesRain_58 : decode cX10_doesRain 58 = .ok (.getfield 75, 3) := by decide +kernel
theorem dX10_doesRain_61 : decode cX10_doesRain 61 = .ok (.iload_n 1, 1) := by decide +kernel
theorem dX10_doesRain_62 : decode cX10_doesRain 62 = .ok (.iaload, 1) := by decide +kernel
theorem dX10_doesRain_63 : decode cX10_doesRain 63 = .ok (.bipush 16, 2) := by decide +kernel
theorem dX10_doesRain_65 : decode cX10_doesRain 65 = .ok (.ishr, 1) := by decide +kernel
theorem dX10_doesRain_66 : decode cX10_doesRain 66 = .ok (.bipush 100, 2) := by decide +kernel
theorem dX10_doesRain_68 : decode cX10_doesRain 68 = .ok (.irem, 1) := by decide +kernel
theorem dX10_doesRain_69 : decode cX10_doesRain 69 = .ok (.iload_n 3, 1) := by decide +kernel
theorem dX10_doesRain_70 : decode cX10_doesRain 70 = .ok (.if_icmp .ge 7, 3) := by decide +kernel
theorem dX10_doesRain_73 : decode cX10_doesRain 73 = .ok (.iconst 1, 1) := by decide +kernel
theorem dX10_doesRain_74 : decode cX10_doesRain 74 = .ok (.goto 4, 3) := by decide +kernel
theorem dX10_doesRain_77 : decode cX10_doesRain 77 = .ok (.iconst 0, 1) := by decide +kernel
theorem dX10_doesRain_78 : decode cX10_doesRain 78 = .ok (.ireturn, 1) := by decide +kernel
theorem dX10_passes_0 : decode cX10_passes 0 = .ok (.iconst 0, 1) := by decide +kernel
theorem dX10_passes_1 : decode cX10_passes 1 = .ok (.istore_n 3, 1) := by decide +kernel
theorem dX10_passes_2 : decode cX10_passes 2 = .ok (.iload_n 3, 1) := by decide +kernel
theorem dX10_passes_3 : decode cX10_passes 3 = .ok (.aload_n 0, 1) := by decide +kernel
theorem dX10_passes_4 : decode cX10_passes 4 = .ok (.getfield 13, 3) := by decide +kernel
theorem dX10_passes_7 : decode cX10_passes 7 = .ok (.iconst 0, 1) := by decide +kernel
theorem dX10_passes_8 : decode cX10_passes 8 = .ok (.iaload, 1) := by decide +kernel
theorem dX10_passes_9 : decode cX10_passes 9 = .ok (.if_icmp .ge 44, 3) := by decide +kernel
theorem dX10_passes_12 : decode cX10_passes 12 = .ok (.aload_n 0, 1) := by decide +kernel
theorem dX10_passes_13 : decode cX10_passes 13 = .ok (.getfield 84, 3) := by decide +kernel
theorem dX10_passes_16 : decode cX10_passes 16 = .ok (.bipush 8, 2) := by decide +kernel
theorem dX10_passes_18 : decode cX10_passes 18 = .ok (.iload_n 1, 1) := by decide +kernel
theorem dX10_passes_19 : decode cX10_passes 19 = .ok (.imul, 1) := by decide +kernel
theorem dX10_passes_20 : decode cX10_passes 20 = .ok (.iload_n 3, 1) := by decide +kernel
theorem dX10_passes_21 : decode cX10_passes 21 = .ok (.iadd, 1) := by decide +kernel
theorem dX10_passes_22 : decode cX10_passes 22 = .ok (.iaload, 1) := by decide +kernel
theorem dX10_passes_23 : decode cX10_passes 23 = .ok (.ifCond .ne 24, 3) := by decide +kernel
theorem dX10_passes_26 : decode cX10_passes 26 = .ok (.aload_n 0, 1) := by decide +kernel
theorem dX10_passes_27 : decode cX10_passes 27 = .ok (.getfield 19, 3) := by decide +kernel
theorem dX10_passes_30 : decode cX10_passes 30 = .ok (.iload_n 3, 1) := by decide +kernel
theorem dX10_passes_31 : decode cX10_passes 31 = .ok (.iaload, 1) := by decide +kernel
theorem dX10_passes_32 : decode cX10_passes 32 = .ok (.aload_n 0, 1) := by decide +kernel
theorem dX10_passes_33 : decode cX10_passes 33 = .ok (.getfield 72, 3) := by decide +kernel
theorem dX10_passes_36 : decode cX10_passes 36 = .ok (.iload_n 1, 1) := by decide +kernel
theorem dX10_passes_37 : decode cX10_passes 37 = .ok (.iaload, 1) := by decide +kernel
theorem dX10_passes_38 : decode cX10_passes 38 = .ok (.if_icmp .ne 9, 3) := by decide +kernel
theorem dX10_passes_41 : decode cX10_passes 41 = .ok (.aload_n 0, 1) := by decide +kernel
theorem dX10_passes_42 : decode cX10_passes 42 = .ok (.iload_n 1, 1) := by decide +kernel
theorem dX10_passes_43 : decode cX10_passes 43 = .ok (.iload_n 3, 1) := by decide +kernel
theorem dX10_passes_44 : decode cX10_passes 44 = .ok (.invokevirtual 385, 3) := by decide +kernel
theorem dX10_passes_47 : decode cX10_passes 47 = .ok (.iinc 3 1, 3) := by decide +kernel
theorem dX10_passes_50 : decode cX10_passes 50 = .ok (.goto (-48), 3) := by decide +kernel
theorem dX10_passes_53 : decode cX10_passes 53 = .ok (.iconst 0, 1) := by decide +kernel
theorem dX10_passes_54 : decode cX10_passes 54 = .ok (.istore_n 3, 1) := by decide +kernel
theorem dX10_passes_55 : decode cX10_passes 55 = .ok (.iload_n 3, 1) := by decide +kernel
theorem dX10_passes_56 : decode cX10_passes 56 = .ok (.aload_n 0, 1) := by decide +kernel
theorem dX10_passes_57 : decode cX10_passes 57 = .ok (.getfield 13, 3) := by decide +kernel
theorem dX10_passes_60 : decode cX10_passes 60 = .ok (.iconst 1, 1) := by decide +kernel
theorem dX10_passes_61 : decode cX10_passes 61 = .ok (.iaload, 1) := by decide +kernel
theorem dX10_passes_62 : decode cX10_passes 62 = .ok (.if_icmp .ge 29, 3) := by decide +kernel
theorem dX10_passes_65 : decode cX10_passes 65 = .ok (.aload_n 0, 1) := by decide +kernel
theorem dX10_passes_66 : decode cX10_passes 66 = .ok (.iload_n 3, 1) := by decide +kernel
theorem dX10_passes_67 : decode cX10_passes 67 = .ok (.aload_n 0, 1) := by decide +kernel
theorem dX10_passes_68 : decode cX10_passes 68 = .ok (.getfield 72, 3) := by decide +kernel
theorem dX10_passes_71 : decode cX10_passes 71 = .ok (.iload_n 1, 1) := by decide +kernel
theorem dX10_passes_72 : decode cX10_passes 72 = .ok (.iaload, 1) := by decide +kernel
theorem dX10_passes_73 : decode cX10_passes 73 = .ok (.invokevirtual 388, 3) := by decide +kernel
theorem dX10_passes_76 : decode cX10_passes 76 = .ok (.ifCond .eq 9, 3) := by decide +kernel
theorem dX10_passes_79 : decode cX10_passes 79 = .ok (.aload_n 0, 1) := by decide +kernel
theorem dX10_passes_80 : decode cX10_passes 80 = .ok (.iload_n 1, 1) := by decide +kernel
theorem dX10_passes_81 : decode cX10_passes 81 = .ok (.iload_n 3, 1) := by decide +kernel
theorem dX10_passes_82 : decode cX10_passes 82 = .ok (.invokevirtual 392, 3) := by decide +kernel
theorem dX10_passes_85 : decode cX10_passes 85 = .ok (.iinc 3 1, 3) := by decide +kernel
theorem dX10_passes_88 : decode cX10_passes 88 = .ok (.goto (-33), 3) := by decide +kernel
theorem dX10_passes_91 : decode cX10_passes 91 = .ok (.aload_n 0, 1) := by decide +kernel
theorem dX10_passes_92 : decode cX10_passes 92 = .ok (.iload_n 1, 1) := by decide +kernel
theorem dX10_passes_93 : decode cX10_passes 93 = .ok (.iload_n 2, 1) := by decide +kernel
theorem dX10_passes_94 : decode cX10_passes 94 = .ok (.invokevirtual 395, 3) := by decide +kernel
theorem dX10_passes_97 : decode cX10_passes 97 = .ok (.istore_n 3, 1) := by decide +kernel
theorem dX10_passes_98 : decode cX10_passes 98 = .ok (.aload_n 0, 1) := by decide +kernel
theorem dX10_passes_99 : decode cX10_passes 99 = .ok (.getfield 13, 3) := by decide +kernel
theorem dX10_passes_102 : decode cX10_passes 102 = .ok (.iconst 3, 1) := by decide +kernel
theorem dX10_passes_103 : decode cX10_passes 103 = .ok (.iaload, 1) := by decide +kernel
theorem dX10_passes_104 : decode cX10_passes 104 = .ok (.istore 4, 2) := by decide +kernel
theorem dX10_passes_106 : decode cX10_passes 106 = .ok (.iload 4, 2) := by decide +kernel
theorem dX10_passes_108 : decode cX10_passes 108 = .ok (.aload_n 0, 1) := by decide +kernel
theorem dX10_passes_109 : decode cX10_passes 109 = .ok (.getfield 78, 3) := by decide +kernel
theorem dX10_passes_112 : decode cX10_passes 112 = .ok (.iload_n 1, 1) := by decide +kernel
theorem dX10_passes_113 : decode cX10_passes 113 = .ok (.iaload, 1) := by decide +kernel
theorem dX10_passes_114 : decode cX10_passes 114 = .ok (.if_icmp .ge 75, 3) := by decide +kernel
theorem dX10_passes_117 : decode cX10_passes 117 = .ok (.iload_n 3, 1) := by decide +kernel
theorem dX10_passes_118 : decode cX10_passes 118 = .ok (.ifCond .eq 71, 3) := by decide +kernel
theorem dX10_passes_121 : decode cX10_passes 121 = .ok (.aload_n 0, 1) := by decide +kernel
theorem dX10_passes_122 : decode cX10_passes 122 = .ok (.getfield 81, 3) := by decide +kernel
theorem dX10_passes_125 : decode cX10_passes 125 = .ok (.bipush 8, 2) := by decide +kernel
theorem dX10_passes_127 : decode cX10_passes 127 = .ok (.iload_n 1, 1) := by decide +kernel
theorem dX10_passes_128 : decode cX10_passes 128 = .ok (.imul, 1) := by decide +kernel
theorem dX10_passes_129 : decode cX10_passes 129 = .ok (.iload 4, 2) := by decide +kernel
theorem dX10_passes_131 : decode cX10_passes 131 = .ok (.iadd, 1) := by decide +kernel
theorem dX10_passes_132 : decode cX10_passes 132 = .ok (.iaload, 1) := by decide +kernel
theorem dX10_passes_133 : decode cX10_passes 133 = .ok (.istore 5, 2) := by decide +kernel
theorem dX10_passes_135 : decode cX10_passes 135 = .ok (.aload_n 0, 1) := by decide +kernel
theorem dX10_passes_136 : decode cX10_passes 136 = .ok (.iload_n 1, 1) := by decide +kernel
theorem dX10_passes_137 : decode cX10_passes 137 = .ok (.iload 5, 2) := by decide +kernel
theorem dX10_passes_139 : decode cX10_passes 139 = .ok (.iconst 0, 1) := by decide +kernel
theorem dX10_passes_140 : decode cX10_passes 140 = .ok (.invokevirtual 352, 3) := by decide +kernel
theorem dX10_passes_143 : decode cX10_passes 143 = .ok (.aload_n 0, 1) := by decide +kernel
theorem dX10_passes_144 : decode cX10_passes 144 = .ok (.getfield 90, 3) := by decide +kernel
theorem dX10_passes_147 : decode cX10_passes 147 = .ok (.bipush 8, 2) := by decide +kernel
theorem dX10_passes_149 : decode cX10_passes 149 = .ok (.iload_n 1, 1) := by decide +kernel
theorem dX10_passes_150 : decode cX10_passes 150 = .ok (.imul, 1) := by decide +kernel
theorem dX10_passes_151 : decode cX10_passes 151 = .ok (.iload 5, 2) := by decide +kernel
theorem dX10_passes_153 : decode cX10_passes 153 = .ok (.iadd, 1) := by decide +kernel
theorem dX10_passes_154 : decode cX10_passes 154 = .ok (.sipush 999, 3) := by decide +kernel
theorem dX10_passes_157 : decode cX10_passes 157 = .ok (.aload_n 0, 1) := by decide +kernel
theorem dX10_passes_158 : decode cX10_passes 158 = .ok (.getfield 90, 3) := by decide +kernel
theorem dX10_passes_161 : decode cX10_passes 161 = .ok (.bipush 8, 2) := by decide +kernel
theorem dX10_passes_163 : decode cX10_passes 163 = .ok (.iload_n 1, 1) := by decide +kernel
theorem dX10_passes_164 : decode cX10_passes 164 = .ok (.imul, 1) := by decide +kernel
theorem dX10_passes_165 : decode cX10_passes 165 = .ok (.iload 5, 2) := by decide +kernel
theorem dX10_passes_167 : decode cX10_passes 167 = .ok (.iadd, 1) := by decide +kernel
theorem dX10_passes_168 : decode cX10_passes 168 = .ok (.iaload, 1) := by decide +kernel
theorem dX10_passes_169 : decode cX10_passes 169 = .ok (.aload_n 0, 1) := by decide +kernel
theorem dX10_passes_170 : decode cX10_passes 170 = .ok (.iconst 2, 1) := by decide +kernel
theorem dX10_passes_171 : decode cX10_passes 171 = .ok (.iconst 0, 1) := by decide +kernel
theorem dX10_passes_172 : decode cX10_passes 172 = .ok (.bipush 99, 2) := by decide +kernel
theorem dX10_passes_174 : decode cX10_passes 174 = .ok (.iconst 1, 1) := by decide +kernel
theorem dX10_passes_175 : decode cX10_passes 175 = .ok (.invokevirtual 366, 3) := by decide +kernel
theorem dX10_passes_178 : decode cX10_passes 178 = .ok (.iadd, 1) := by decide +kernel
theorem dX10_passes_179 : decode cX10_passes 179 = .ok (.invokestatic 399, 3) := by decide +kernel
theorem dX10_passes_182 : decode cX10_passes 182 = .ok (.iastore, 1) := by decide +kernel
theorem dX10_passes_183 : decode cX10_passes 183 = .ok (.iinc 4 1, 3) := by decide +kernel
theorem dX10_passes_186 : decode cX10_passes 186 = .ok (.goto (-80), 3) := by decide +kernel
theorem dX10_passes_189 : decode cX10_passes 189 = .ok (.aload_n 0, 1) := by decide +kernel
theorem dX10_passes_190 : decode cX10_passes 190 = .ok (.getfield 72, 3) := by decide +kernel
theorem dX10_passes_193 : decode cX10_passes 193 = .ok (.iload_n 1, 1) := by decide +kernel
theorem dX10_passes_194 : decode cX10_passes 194 = .ok (.dup2, 1) := by decide +kernel
theorem dX10_passes_195 : decode cX10_passes 195 = .ok (.iaload, 1) := by decide +kernel
theorem dX10_passes_196 : decode cX10_passes 196 = .ok (.iconst 1, 1) := by decide +kernel
theorem dX10_passes_197 : decode cX10_passes 197 = .ok (.iadd, 1) := by decide +kernel
theorem dX10_passes_198 : decode cX10_passes 198 = .ok (.iastore, 1) := by decide +kernel
theorem dX10_passes_199 : decode cX10_passes 199 = .ok (.return_, 1) := by decide +kernel
theorem dX10_goesOn_0 : decode cX10_goesOn 0 = .ok (.iconst 0, 1) := by decide +kernel
theorem dX10_goesOn_1 : decode cX10_goesOn 1 = .ok (.istore_n 2, 1) := by decide +kernel
theorem dX10_goesOn_2 : decode cX10_goesOn 2 = .ok (.iload_n 2, 1) := by decide +kernel
theorem dX10_goesOn_3 : decode cX10_goesOn 3 = .ok (.iload_n 1, 1) := by decide +kernel
theorem dX10_goesOn_4 : decode cX10_goesOn 4 = .ok (.if_icmp .ge 15, 3) := by decide +kernel
theorem dX10_goesOn_7 : decode cX10_goesOn 7 = .ok (.aload_n 0, 1) := by decide +kernel
theorem dX10_goesOn_8 : decode cX10_goesOn 8 = .ok (.iconst 1, 1) := by decide +kernel
theorem dX10_goesOn_9 : decode cX10_goesOn 9 = .ok (.iconst 0, 1) := by decide +kernel
theorem dX10_goesOn_10 : decode cX10_goesOn 10 = .ok (.invokevirtual 401, 3) := by decide +kernel
theorem dX10_goesOn_13 : decode cX10_goesOn 13 = .ok (.iinc 2 1, 3) := by decide +kernel
theorem dX10_goesOn_16 : decode cX10_goesOn 16 = .ok (.goto (-14), 3) := by decide +kernel
theorem dX10_goesOn_19 : decode cX10_goesOn 19 = .ok (.return_, 1) := by decide +kernel
theorem dX10_runs_0 : decode cX10_runs 0 = .ok (.aload_n 0, 1) := by decide +kernel
theorem dX10_runs_1 : decode cX10_runs 1 = .ok (.iconst 1, 1) := by decide +kernel
theorem dX10_runs_2 : decode cX10_runs 2 = .ok (.iconst 0, 1) := by decide +kernel
theorem dX10_runs_3 : decode cX10_runs 3 = .ok (.invokevirtual 405, 3) := by decide +kernel
theorem dX10_runs_6 : decode cX10_runs 6 = .ok (.aload_n 0, 1) := by decide +kernel
theorem dX10_runs_7 : decode cX10_runs 7 = .ok (.iload_n 1, 1) := by decide +kernel
theorem dX10_runs_8 : decode cX10_runs 8 = .ok (.invokevirtual 408, 3) := by decide +kernel
theorem dX10_runs_11 : decode cX10_runs 11 = .ok (.return_, 1) := by decide +kernel
theorem dX10_soulsOf_0 : decode cX10_soulsOf 0 = .ok (.iconst 0, 1) := by decide +kernel
theorem dX10_soulsOf_1 : decode cX10_soulsOf 1 = .ok (.istore_n 3, 1) := by decide +kernel
theorem dX10_soulsOf_2 : decode cX10_soulsOf 2 = .ok (.iconst 0, 1) := by decide +kernel
theorem dX10_soulsOf_3 : decode cX10_soulsOf 3 = .ok (.istore 4, 2) := by decide +kernel
theorem dX10_soulsOf_5 : decode cX10_soulsOf 5 = .ok (.iload 4, 2) := by decide +kernel
theorem dX10_soulsOf_7 : decode cX10_soulsOf 7 = .ok (.aload_n 0, 1) := by decide +kernel
theorem dX10_soulsOf_8 : decode cX10_soulsOf 8 = .ok (.getfield 13, 3) := by decide +kernel
theorem dX10_soulsOf_11 : decode cX10_soulsOf 11 = .ok (.iconst 0, 1) := by decide +kernel
theorem dX10_soulsOf_12 : decode cX10_soulsOf 12 = .ok (.iaload, 1) := by decide +kernel
theorem dX10_soulsOf_13 : decode cX10_soulsOf 13 = .ok (.if_icmp .ge 33, 3) := by decide +kernel
theorem dX10_soulsOf_16 : decode cX10_soulsOf 16 = .ok (.iload_n 3, 1) := by decide +kernel
theorem dX10_soulsOf_17 : decode cX10_soulsOf 17 = .ok (.aload_n 0, 1) := by decide +kernel
theorem dX10_soulsOf_18 : decode cX10_soulsOf 18 = .ok (.getfield 84, 3) := by decide +kernel
theorem dX10_soulsOf_21 : decode cX10_soulsOf 21 = .ok (.bipush 8, 2) := by decide +kernel
theorem dX10_soulsOf_23 : decode cX10_soulsOf 23 = .ok (.iload_n 1, 1) := by decide +kernel
theorem dX10_soulsOf_24 : decode cX10_soulsOf 24 = .ok (.imul, 1) := by decide +kernel
theorem dX10_soulsOf_25 : decode cX10_soulsOf 25 = .ok (.iload 4, 2) := by decide +kernel
theorem dX10_soulsOf_27 : decode cX10_soulsOf 27 = .ok (.iadd, 1) := by decide +kernel
theorem dX10_soulsOf_28 : decode cX10_soulsOf 28 = .ok (.iaload, 1) := by decide +kernel
theorem dX10_soulsOf_29 : decode cX10_soulsOf 29 = .ok (.iload_n 2, 1) := by decide +kernel
theorem dX10_soulsOf_30 : decode cX10_soulsOf 30 = .ok (.if_icmp .ne 7, 3) := by decide +kernel
theorem dX10_soulsOf_33 : decode cX10_soulsOf 33 = .ok (.iconst 1, 1) := by decide +kernel
theorem dX10_soulsOf_34 : decode cX10_soulsOf 34 = .ok (.goto 4, 3) := by decide +kernel
theorem dX10_soulsOf_37 : decode cX10_soulsOf 37 = .ok (.iconst 0, 1) := by decide +kernel
theorem dX10_soulsOf_38 : decode cX10_soulsOf 38 = .ok (.iadd, 1) := by decide +kernel
theorem dX10_soulsOf_39 : decode cX10_soulsOf 39 = .ok (.istore_n 3, 1) := by decide +kernel
theorem dX10_soulsOf_40 : decode cX10_soulsOf 40 = .ok (.iinc 4 1, 3) := by decide +kernel
theorem dX10_soulsOf_43 : decode cX10_soulsOf 43 = .ok (.goto (-38), 3) := by decide +kernel
theorem dX10_soulsOf_46 : decode cX10_soulsOf 46 = .ok (.iload_n 3, 1) := by decide +kernel
theorem dX10_soulsOf_47 : decode cX10_soulsOf 47 = .ok (.ireturn, 1) := by decide +kernel
theorem dX10_kindness_0 : decode cX10_kindness 0 = .ok (.iconst 0, 1) := by decide +kernel
theorem dX10_kindness_1 : decode cX10_kindness 1 = .ok (.istore_n 2, 1) := by decide +kernel
theorem dX10_kindness_2 : decode cX10_kindness 2 = .ok (.iconst 0, 1) := by decide +kernel
theorem dX10_kindness_3 : decode cX10_kindness 3 = .ok (.istore_n 3, 1) := by decide +kernel
theorem dX10_kindness_4 : decode cX10_kindness 4 = .ok (.iload_n 3, 1) := by decide +kernel
theorem dX10_kindness_5 : decode cX10_kindness 5 = .ok (.aload_n 0, 1) := by decide +kernel
theorem dX10_kindness_6 : decode cX10_kindness 6 = .ok (.getfield 13, 3) := by decide +kernel
theorem dX10_kindness_9 : decode cX10_kindness 9 = .ok (.iconst 0, 1) := by decide +kernel
theorem dX10_kindness_10 : decode cX10_kindness 10 = .ok (.iaload, 1) := by decide +kernel
theorem dX10_kindness_11 : decode cX10_kindness 11 = .ok (.if_icmp .ge 37, 3) := by decide +kernel
theorem dX10_kindness_14 : decode cX10_kindness 14 = .ok (.iload_n 2, 1) := by decide +kernel
theorem dX10_kindness_15 : decode cX10_kindness 15 = .ok (.aload_n 0, 1) := by decide +kernel
theorem dX10_kindness_16 : decode cX10_kindness 16 = .ok (.getfield 84, 3) := by decide +kernel
theorem dX10_kindness_19 : decode cX10_kindness 19 = .ok (.bipush 8, 2) := by decide +kernel
theorem dX10_kindness_21 : decode cX10_kindness 21 = .ok (.iload_n 1, 1) := by decide +kernel
theorem dX10_kindness_22 : decode cX10_kindness 22 = .ok (.imul, 1) := by decide +kernel
theorem dX10_kindness_23 : decode cX10_kindness 23 = .ok (.iload_n 3, 1) := by decide +kernel
theorem dX10_kindness_24 : decode cX10_kindness 24 = .ok (.iadd, 1) := by decide +kernel
theorem dX10_kindness_25 : decode cX10_kindness 25 = .ok (.iaload, 1) := by decide +kernel
theorem dX10_kindness_26 : decode cX10_kindness 26 = .ok (.iconst 2, 1) := by decide +kernel
theorem dX10_kindness_27 : decode cX10_kindness 27 = .ok (.if_icmp .ne 12, 3) := by decide +kernel
theorem dX10_kindness_30 : decode cX10_kindness 30 = .ok (.aload_n 0, 1) := by decide +kernel
theorem dX10_kindness_31 : decode cX10_kindness 31 = .ok (.getfield 22, 3) := by decide +kernel
theorem dX10_kindness_34 : decode cX10_kindness 34 = .ok (.iload_n 3, 1) := by decide +kernel
theorem dX10_kindness_35 : decode cX10_kindness 35 = .ok (.iaload, 1) := by decide +kernel
theorem dX10_kindness_36 : decode cX10_kindness 36 = .ok (.goto 4, 3) := by decide +kernel
theorem dX10_kindness_39 : decode cX10_kindness 39 = .ok (.iconst 0, 1) := by decide +kernel
theorem dX10_kindness_40 : decode cX10_kindness 40 = .ok (.iadd, 1) := by decide +kernel
theorem dX10_kindness_41 : decode cX10_kindness 41 = .ok (.istore_n 2, 1) := by decide +kernel
theorem dX10_kindness_42 : decode cX10_kindness 42 = .ok (.iinc 3 1, 3) := by decide +kernel
theorem dX10_kindness_45 : decode cX10_kindness 45 = .ok (.goto (-41), 3) := by decide +kernel
theorem dX10_kindness_48 : decode cX10_kindness 48 = .ok (.iload_n 2, 1) := by decide +kernel
theorem dX10_kindness_49 : decode cX10_kindness 49 = .ok (.ireturn, 1) := by decide +kernel
theorem dX10_allOf_0 : decode cX10_allOf 0 = .ok (.iconst 0, 1) := by decide +kernel
theorem dX10_allOf_1 : decode cX10_allOf 1 = .ok (.istore_n 3, 1) := by decide +kernel
theorem dX10_allOf_2 : decode cX10_allOf 2 = .ok (.iconst 0, 1) := by decide +kernel
theorem dX10_allOf_3 : decode cX10_allOf 3 = .ok (.istore 4, 2) := by decide +kernel
theorem dX10_allOf_5 : decode cX10_allOf 5 = .ok (.iload 4, 2) := by decide +kernel
theorem dX10_allOf_7 : decode cX10_allOf 7 = .ok (.aload_n 0, 1) := by decide +kernel
theorem dX10_allOf_8 : decode cX10_allOf 8 = .ok (.getfield 13, 3) := by decide +kernel
theorem dX10_allOf_11 : decode cX10_allOf 11 = .ok (.iconst 0, 1) := by decide +kernel
theorem dX10_allOf_12 : decode cX10_allOf 12 = .ok (.iaload, 1) := by decide +kernel
theorem dX10_allOf_13 : decode cX10_allOf 13 = .ok (.if_icmp .ge 21, 3) := by decide +kernel
theorem dX10_allOf_16 : decode cX10_allOf 16 = .ok (.iload_n 3, 1) := by decide +kernel
theorem dX10_allOf_17 : decode cX10_allOf 17 = .ok (.aload_n 1, 1) := by decide +kernel
theorem dX10_allOf_18 : decode cX10_allOf 18 = .ok (.bipush 8, 2) := by decide +kernel
theorem dX10_allOf_20 : decode cX10_allOf 20 = .ok (.iload_n 2, 1) := by decide +kernel
theorem dX10_allOf_21 : decode cX10_allOf 21 = .ok (.imul, 1) := by decide +kernel
theorem dX10_allOf_22 : decode cX10_allOf 22 = .ok (.iload 4, 2) := by decide +kernel
theorem dX10_allOf_24 : decode cX10_allOf 24 = .ok (.iadd, 1) := by decide +kernel
theorem dX10_allOf_25 : decode cX10_allOf 25 = .ok (.iaload, 1) := by decide +kernel
theorem dX10_allOf_26 : decode cX10_allOf 26 = .ok (.iadd, 1) := by decide +kernel
theorem dX10_allOf_27 : decode cX10_allOf 27 = .ok (.istore_n 3, 1) := by decide +kernel
theorem dX10_allOf_28 : decode cX10_allOf 28 = .ok (.iinc 4 1, 3) := by decide +kernel
theorem dX10_allOf_31 : decode cX10_allOf 31 = .ok (.goto (-26), 3) := by decide +kernel
theorem dX10_allOf_34 : decode cX10_allOf 34 = .ok (.iload_n 3, 1) := by decide +kernel
theorem dX10_allOf_35 : decode cX10_allOf 35 = .ok (.ireturn, 1) := by decide +kernel
theorem dX10_orNone_0 : decode cX10_orNone 0 = .ok (.iload_n 0, 1) := by decide +kernel
theorem dX10_orNone_1 : decode cX10_orNone 1 = .ok (.iconst (-1), 1) := by decide +kernel
theorem dX10_orNone_2 : decode cX10_orNone 2 = .ok (.if_icmp .ne 8, 3) := by decide +kernel
theorem dX10_orNone_5 : decode cX10_orNone 5 = .ok (.bipush (-2), 2) := by decide +kernel
theorem dX10_orNone_7 : decode cX10_orNone 7 = .ok (.goto 4, 3) := by decide +kernel
theorem dX10_orNone_10 : decode cX10_orNone 10 = .ok (.iload_n 0, 1) := by decide +kernel
theorem dX10_orNone_11 : decode cX10_orNone 11 = .ok (.ireturn, 1) := by decide +kernel
theorem dX10_withSoul_0 : decode cX10_withSoul 0 = .ok (.iconst 0, 1) := by decide +kernel
theorem dX10_withSoul_1 : decode cX10_withSoul 1 = .ok (.istore_n 2, 1) := by decide +kernel
theorem dX10_withSoul_2 : decode cX10_withSoul 2 = .ok (.iconst 0, 1) := by decide +kernel
theorem dX10_withSoul_3 : decode cX10_withSoul 3 = .ok (.istore_n 3, 1) := by decide +kernel
theorem dX10_withSoul_4 : decode cX10_withSoul 4 = .ok (.iload_n 3, 1) := by decide +kernel
theorem dX10_withSoul_5 : decode cX10_withSoul 5 = .ok (.aload_n 0, 1) := by decide +kernel
theorem dX10_withSoul_6 : decode cX10_withSoul 6 = .ok (.getfield 13, 3) := by decide +kernel
theorem dX10_withSoul_9 : decode cX10_withSoul 9 = .ok (.iconst 0, 1) := by decide +kernel
theorem dX10_withSoul_10 : decode cX10_withSoul 10 = .ok (.iaload, 1) := by decide +kernel
theorem dX10_withSoul_11 : decode cX10_withSoul 11 = .ok (.if_icmp .ge 59, 3) := by decide +kernel
theorem dX10_withSoul_14 : decode cX10_withSoul 14 = .ok (.aload_n 0, 1) := by decide +kernel
theorem dX10_withSoul_15 : decode cX10_withSoul 15 = .ok (.getfield 84, 3) := by decide +kernel
theorem dX10_withSoul_18 : decode cX10_withSoul 18 = .ok (.iload_n 1, 1) := by decide +kernel
theorem dX10_withSoul_19 : decode cX10_withSoul 19 = .ok (.iaload, 1) := by decide +kernel
theorem dX10_withSoul_20 : decode cX10_withSoul 20 = .ok (.iconst 2, 1) := by decide +kernel
theorem dX10_withSoul_21 : decode cX10_withSoul 21 = .ok (.if_icmp .ne 49, 3) := by decide +kernel
theorem dX10_withSoul_24 : decode cX10_withSoul 24 = .ok (.iload_n 2, 1) := by decide +kernel
theorem dX10_withSoul_25 : decode cX10_withSoul 25 = .ok (.aload_n 0, 1) := by decide +kernel
theorem dX10_withSoul_26 : decode cX10_withSoul 26 = .ok (.getfield 96, 3) := by decide +kernel
theorem dX10_withSoul_29 : decode cX10_withSoul 29 = .ok (.iload_n 3, 1) := by decide +kernel
theorem dX10_withSoul_30 : decode cX10_withSoul 30 = .ok (.iaload, 1) := by decide +kernel
theorem dX10_withSoul_31 : decode cX10_withSoul 31 = .ok (.aload_n 0, 1) := by decide +kernel
theorem dX10_withSoul_32 : decode cX10_withSoul 32 = .ok (.getfield 96, 3) := by decide +kernel
theorem dX10_withSoul_35 : decode cX10_withSoul 35 = .ok (.iload_n 1, 1) := by decide +kernel
theorem dX10_withSoul_36 : decode cX10_withSoul 36 = .ok (.iaload, 1) := by decide +kernel
theorem dX10_withSoul_37 : decode cX10_withSoul 37 = .ok (.if_icmp .ne 24, 3) := by decide +kernel
theorem dX10_withSoul_40 : decode cX10_withSoul 40 = .ok (.aload_n 0, 1) := by decide +kernel
theorem dX10_withSoul_41 : decode cX10_withSoul 41 = .ok (.getfield 99, 3) := by decide +kernel
theorem dX10_withSoul_44 : decode cX10_withSoul 44 = .ok (.iload_n 3, 1) := by decide +kernel
theorem dX10_withSoul_45 : decode cX10_withSoul 45 = .ok (.iaload, 1) := by decide +kernel
theorem dX10_withSoul_46 : decode cX10_withSoul 46 = .ok (.aload_n 0, 1) := by decide +kernel
theorem dX10_withSoul_47 : decode cX10_withSoul 47 = .ok (.getfield 99, 3) := by decide +kernel
theorem dX10_withSoul_50 : decode cX10_withSoul 50 = .ok (.iload_n 1, 1) := by decide +kernel
theorem dX10_withSoul_51 : decode cX10_withSoul 51 = .ok (.iaload, 1) := by decide +kernel
theorem dX10_withSoul_52 : decode cX10_withSoul 52 = .ok (.if_icmp .ne 9, 3) := by decide +kernel
theorem dX10_withSoul_55 : decode cX10_withSoul 55 = .ok (.iconst 1, 1) := by decide +kernel
theorem dX10_withSoul_56 : decode cX10_withSoul 56 = .ok (.iload_n 3, 1) := by decide +kernel
theorem dX10_withSoul_57 : decode cX10_withSoul 57 = .ok (.ishl, 1) := by decide +kernel
theorem dX10_withSoul_58 : decode cX10_withSoul 58 = .ok (.goto 4, 3) := by decide +kernel
theorem dX10_withSoul_61 : decode cX10_withSoul 61 = .ok (.iconst 0, 1) := by decide +kernel
theorem dX10_withSoul_62 : decode cX10_withSoul 62 = .ok (.ior, 1) := by decide +kernel
theorem dX10_withSoul_63 : decode cX10_withSoul 63 = .ok (.istore_n 2, 1) := by decide +kernel
theorem dX10_withSoul_64 : decode cX10_withSoul 64 = .ok (.iinc 3 1, 3) := by decide +kernel
theorem dX10_withSoul_67 : decode cX10_withSoul 67 = .ok (.goto (-63), 3) := by decide +kernel
theorem dX10_withSoul_70 : decode cX10_withSoul 70 = .ok (.iload_n 2, 1) := by decide +kernel
theorem dX10_withSoul_71 : decode cX10_withSoul 71 = .ok (.ireturn, 1) := by decide +kernel
theorem dX10_soul_0 : decode cX10_soul 0 = .ok (.aload_n 0, 1) := by decide +kernel
theorem dX10_soul_1 : decode cX10_soul 1 = .ok (.aload_n 0, 1) := by decide +kernel
theorem dX10_soul_2 : decode cX10_soul 2 = .ok (.iload_n 1, 1) := by decide +kernel
theorem dX10_soul_3 : decode cX10_soul 3 = .ok (.invokevirtual 411, 3) := by decide +kernel
theorem dX10_soul_6 : decode cX10_soul 6 = .ok (.ifCond .ne 7, 3) := by decide +kernel
theorem dX10_soul_9 : decode cX10_soul 9 = .ok (.iconst 1, 1) := by decide +kernel
theorem dX10_soul_10 : decode cX10_soul 10 = .ok (.goto 18, 3) := by decide +kernel
theorem dX10_soul_13 : decode cX10_soul 13 = .ok (.iload_n 2, 1) := by decide +kernel
theorem dX10_soul_14 : decode cX10_soul 14 = .ok (.ifCond .lt 9, 3) := by decide +kernel
theorem dX10_soul_17 : decode cX10_soul 17 = .ok (.iload_n 2, 1) := by decide +kernel
theorem dX10_soul_18 : decode cX10_soul 18 = .ok (.bipush 7, 2) := by decide +kernel
theorem dX10_soul_20 : decode cX10_soul 20 = .ok (.if_icmp .le 7, 3) := by decide +kernel
theorem dX10_soul_23 : decode cX10_soul 23 = .ok (.iconst 2, 1) := by decide +kernel
theorem dX10_soul_24 : decode cX10_soul 24 = .ok (.goto 4, 3) := by decide +kernel
theorem dX10_soul_27 : decode cX10_soul 27 = .ok (.iconst 0, 1) := by decide +kernel
theorem dX10_soul_28 : decode cX10_soul 28 = .ok (.putfield 142, 3) := by decide +kernel
theorem dX10_soul_31 : decode cX10_soul 31 = .ok (.aload_n 0, 1) := by decide +kernel
theorem dX10_soul_32 : decode cX10_soul 32 = .ok (.getfield 142, 3) := by decide +kernel
theorem dX10_soul_35 : decode cX10_soul 35 = .ok (.ifCond .eq 5, 3) := by decide +kernel
theorem dX10_soul_38 : decode cX10_soul 38 = .ok (.iconst 0, 1) := by decide +kernel
theorem dX10_soul_39 : decode cX10_soul 39 = .ok (.ireturn, 1) := by decide +kernel
theorem dX10_soul_40 : decode cX10_soul 40 = .ok (.iload_n 2, 1) := by decide +kernel
theorem dX10_soul_41 : decode cX10_soul 41 = .ok (.tableswitch 98 0 6 #[43, 50, 57, 64, 71, 81, 88], 43) := by decide +kernel
theorem dX10_soul_84 : decode cX10_soul 84 = .ok (.aload_n 0, 1) := by decide +kernel
theorem dX10_soul_85 : decode cX10_soul 85 = .ok (.getfield 84, 3) := by decide +kernel
theorem dX10_soul_88 : decode cX10_soul 88 = .ok (.iload_n 1, 1) := by decide +kernel
theorem dX10_soul_89 : decode cX10_soul 89 = .ok (.iaload, 1) := by decide +kernel
theorem dX10_soul_90 : decode cX10_soul 90 = .ok (.ireturn, 1) := by decide +kernel
theorem dX10_soul_91 : decode cX10_soul 91 = .ok (.aload_n 0, 1) := by decide +kernel
theorem dX10_soul_92 : decode cX10_soul 92 = .ok (.getfield 22, 3) := by decide +kernel
theorem dX10_soul_95 : decode cX10_soul 95 = .ok (.iload_n 1, 1) := by decide +kernel
theorem dX10_soul_96 : decode cX10_soul 96 = .ok (.iaload, 1) := by decide +kernel
theorem dX10_soul_97 : decode cX10_soul 97 = .ok (.ireturn, 1) := by decide +kernel
theorem dX10_soul_98 : decode cX10_soul 98 = .ok (.aload_n 0, 1) := by decide +kernel
theorem dX10_soul_99 : decode cX10_soul 99 = .ok (.getfield 87, 3) := by decide +kernel
theorem dX10_soul_102 : decode cX10_soul 102 = .ok (.iload_n 1, 1) := by decide +kernel
theorem dX10_soul_103 : decode cX10_soul 103 = .ok (.iaload, 1) := by decide +kernel
theorem dX10_soul_104 : decode cX10_soul 104 = .ok (.ireturn, 1) := by decide +kernel
theorem dX10_soul_105 : decode cX10_soul 105 = .ok (.aload_n 0, 1) := by decide +kernel
theorem dX10_soul_106 : decode cX10_soul 106 = .ok (.getfield 90, 3) := by decide +kernel
theorem dX10_soul_109 : decode cX10_soul 109 = .ok (.iload_n 1, 1) := by decide +kernel
theorem dX10_soul_110 : decode cX10_soul 110 = .ok (.iaload, 1) := by decide +kernel
theorem dX10_soul_111 : decode cX10_soul 111 = .ok (.ireturn, 1) := by decide +kernel
theorem dX10_soul_112 : decode cX10_soul 112 = .ok (.aload_n 0, 1) := by decide +kernel
theorem dX10_soul_113 : decode cX10_soul 113 = .ok (.iconst 0, 1) := by decide +kernel
theorem dX10_soul_114 : decode cX10_soul 114 = .ok (.iload_n 1, 1) := by decide +kernel
theorem dX10_soul_115 : decode cX10_soul 115 = .ok (.invokevirtual 328, 3) := by decide +kernel
theorem dX10_soul_118 : decode cX10_soul 118 = .ok (.invokestatic 414, 3) := by decide +kernel
theorem dX10_soul_121 : decode cX10_soul 121 = .ok (.ireturn, 1) := by decide +kernel
theorem dX10_soul_122 : decode cX10_soul 122 = .ok (.aload_n 0, 1) := by decide +kernel
theorem dX10_soul_123 : decode cX10_soul 123 = .ok (.getfield 93, 3) := by decide +kernel
theorem dX10_soul_126 : decode cX10_soul 126 = .ok (.iload_n 1, 1) := by decide +kernel
theorem dX10_soul_127 : decode cX10_soul 127 = .ok (.iaload, 1) := by decide +kernel
theorem dX10_soul_128 : decode cX10_soul 128 = .ok (.ireturn, 1) := by decide +kernel
theorem dX10_soul_129 : decode cX10_soul 129 = .ok (.aload_n 0, 1) := by decide +kernel
theorem dX10_soul_130 : decode cX10_soul 130 = .ok (.getfield 96, 3) := by decide +kernel
theorem dX10_soul_133 : decode cX10_soul 133 = .ok (.iload_n 1, 1) := by decide +kernel
theorem dX10_soul_134 : decode cX10_soul 134 = .ok (.iaload, 1) := by decide +kernel
theorem dX10_soul_135 : decode cX10_soul 135 = .ok (.invokestatic 414, 3) := by decide +kernel
theorem dX10_soul_138 : decode cX10_soul 138 = .ok (.ireturn, 1) := by decide +kernel
theorem dX10_soul_139 : decode cX10_soul 139 = .ok (.aload_n 0, 1) := by decide +kernel
theorem dX10_soul_140 : decode cX10_soul 140 = .ok (.iload_n 1, 1) := by decide +kernel
theorem dX10_soul_141 : decode cX10_soul 141 = .ok (.invokevirtual 417, 3) := by decide +kernel
theorem dX10_soul_144 : decode cX10_soul 144 = .ok (.ireturn, 1) := by decide +kernel
theorem dX10_goneWith_0 : decode cX10_goneWith 0 = .ok (.iconst 0, 1) := by decide +kernel
theorem dX10_goneWith_1 : decode cX10_goneWith 1 = .ok (.istore_n 2, 1) := by decide +kernel
theorem dX10_goneWith_2 : decode cX10_goneWith 2 = .ok (.iconst 0, 1) := by decide +kernel
theorem dX10_goneWith_3 : decode cX10_goneWith 3 = .ok (.istore_n 3, 1) := by decide +kernel
theorem dX10_goneWith_4 : decode cX10_goneWith 4 = .ok (.iload_n 3, 1) := by decide +kernel
theorem dX10_goneWith_5 : decode cX10_goneWith 5 = .ok (.aload_n 0, 1) := by decide +kernel
theorem dX10_goneWith_6 : decode cX10_goneWith 6 = .ok (.getfield 13, 3) := by decide +kernel
theorem dX10_goneWith_9 : decode cX10_goneWith 9 = .ok (.iconst 0, 1) := by decide +kernel
theorem dX10_goneWith_10 : decode cX10_goneWith 10 = .ok (.iaload, 1) := by decide +kernel
theorem dX10_goneWith_11 : decode cX10_goneWith 11 = .ok (.if_icmp .ge 27, 3) := by decide +kernel
theorem dX10_goneWith_14 : decode cX10_goneWith 14 = .ok (.iload_n 2, 1) := by decide +kernel
theorem dX10_goneWith_15 : decode cX10_goneWith 15 = .ok (.aload_n 0, 1) := by decide +kernel
theorem dX10_goneWith_16 : decode cX10_goneWith 16 = .ok (.getfield 96, 3) := by decide +kernel
theorem dX10_goneWith_19 : decode cX10_goneWith 19 = .ok (.iload_n 3, 1) := by decide +kernel
theorem dX10_goneWith_20 : decode cX10_goneWith 20 = .ok (.iaload, 1) := by decide +kernel
theorem dX10_goneWith_21 : decode cX10_goneWith 21 = .ok (.iload_n 1, 1) := by decide +kernel
theorem dX10_goneWith_22 : decode cX10_goneWith 22 = .ok (.if_icmp .ne 7, 3) := by decide +kernel
theorem dX10_goneWith_25 : decode cX10_goneWith 25 = .ok (.iconst 1, 1) := by decide +kernel
theorem dX10_goneWith_26 : decode cX10_goneWith 26 = .ok (.goto 4, 3) := by decide +kernel
theorem dX10_goneWith_29 : decode cX10_goneWith 29 = .ok (.iconst 0, 1) := by decide +kernel
theorem dX10_goneWith_30 : decode cX10_goneWith 30 = .ok (.iadd, 1) := by decide +kernel
theorem dX10_goneWith_31 : decode cX10_goneWith 31 = .ok (.istore_n 2, 1) := by decide +kernel
theorem dX10_goneWith_32 : decode cX10_goneWith 32 = .ok (.iinc 3 1, 3) := by decide +kernel
theorem dX10_goneWith_35 : decode cX10_goneWith 35 = .ok (.goto (-31), 3) := by decide +kernel
theorem dX10_goneWith_38 : decode cX10_goneWith 38 = .ok (.iload_n 2, 1) := by decide +kernel
theorem dX10_goneWith_39 : decode cX10_goneWith 39 = .ok (.ireturn, 1) := by decide +kernel
theorem dX10_bus_0 : decode cX10_bus 0 = .ok (.aload_n 0, 1) := by decide +kernel
theorem dX10_bus_1 : decode cX10_bus 1 = .ok (.iconst 0, 1) := by decide +kernel
theorem dX10_bus_2 : decode cX10_bus 2 = .ok (.putfield 142, 3) := by decide +kernel
theorem dX10_bus_5 : decode cX10_bus 5 = .ok (.aload_n 0, 1) := by decide +kernel
theorem dX10_bus_6 : decode cX10_bus 6 = .ok (.iload_n 1, 1) := by decide +kernel
theorem dX10_bus_7 : decode cX10_bus 7 = .ok (.invokevirtual 420, 3) := by decide +kernel
theorem dX10_bus_10 : decode cX10_bus 10 = .ok (.ifCond .ne 5, 3) := by decide +kernel
theorem dX10_bus_13 : decode cX10_bus 13 = .ok (.iconst (-1), 1) := by decide +kernel
theorem dX10_bus_14 : decode cX10_bus 14 = .ok (.ireturn, 1) := by decide +kernel
theorem dX10_bus_15 : decode cX10_bus 15 = .ok (.iload_n 2, 1) := by decide +kernel
theorem dX10_bus_16 : decode cX10_bus 16 = .ok (.tableswitch 70 0 4 #[36, 43, 50, 57, 64], 36) := by decide +kernel
theorem dX10_bus_52 : decode cX10_bus 52 = .ok (.aload_n 0, 1) := by decide +kernel
theorem dX10_bus_53 : decode cX10_bus 53 = .ok (.getfield 31, 3) := by decide +kernel
theorem dX10_bus_56 : decode cX10_bus 56 = .ok (.iload_n 1, 1) := by decide +kernel
theorem dX10_bus_57 : decode cX10_bus 57 = .ok (.iaload, 1) := by decide +kernel
theorem dX10_bus_58 : decode cX10_bus 58 = .ok (.ireturn, 1) := by decide +kernel
theorem dX10_bus_59 : decode cX10_bus 59 = .ok (.aload_n 0, 1) := by decide +kernel
theorem dX10_bus_60 : decode cX10_bus 60 = .ok (.getfield 34, 3) := by decide +kernel
theorem dX10_bus_63 : decode cX10_bus 63 = .ok (.iload_n 1, 1) := by decide +kernel
theorem dX10_bus_64 : decode cX10_bus 64 = .ok (.iaload, 1) := by decide +kernel
theorem dX10_bus_65 : decode cX10_bus 65 = .ok (.ireturn, 1) := by decide +kernel
theorem dX10_bus_66 : decode cX10_bus 66 = .ok (.aload_n 0, 1) := by decide +kernel
theorem dX10_bus_67 : decode cX10_bus 67 = .ok (.getfield 37, 3) := by decide +kernel
theorem dX10_bus_70 : decode cX10_bus 70 = .ok (.iload_n 1, 1) := by decide +kernel
theorem dX10_bus_71 : decode cX10_bus 71 = .ok (.iaload, 1) := by decide +kernel
theorem dX10_bus_72 : decode cX10_bus 72 = .ok (.ireturn, 1) := by decide +kernel
theorem dX10_bus_73 : decode cX10_bus 73 = .ok (.aload_n 0, 1) := by decide +kernel
theorem dX10_bus_74 : decode cX10_bus 74 = .ok (.getfield 40, 3) := by decide +kernel
theorem dX10_bus_77 : decode cX10_bus 77 = .ok (.iload_n 1, 1) := by decide +kernel
theorem dX10_bus_78 : decode cX10_bus 78 = .ok (.iaload, 1) := by decide +kernel
theorem dX10_bus_79 : decode cX10_bus 79 = .ok (.ireturn, 1) := by decide +kernel
theorem dX10_bus_80 : decode cX10_bus 80 = .ok (.aload_n 0, 1) := by decide +kernel
theorem dX10_bus_81 : decode cX10_bus 81 = .ok (.iload_n 1, 1) := by decide +kernel
theorem dX10_bus_82 : decode cX10_bus 82 = .ok (.invokevirtual 423, 3) := by decide +kernel
theorem dX10_bus_85 : decode cX10_bus 85 = .ok (.ireturn, 1) := by decide +kernel
theorem dX10_bus_86 : decode cX10_bus 86 = .ok (.iconst (-1), 1) := by decide +kernel
theorem dX10_bus_87 : decode cX10_bus 87 = .ok (.ireturn, 1) := by decide +kernel
theorem dX10_queue_0 : decode cX10_queue 0 = .ok (.aload_n 0, 1) := by decide +kernel
theorem dX10_queue_1 : decode cX10_queue 1 = .ok (.iconst 0, 1) := by decide +kernel
theorem dX10_queue_2 : decode cX10_queue 2 = .ok (.putfield 142, 3) := by decide +kernel
theorem dX10_queue_5 : decode cX10_queue 5 = .ok (.iload_n 1, 1) := by decide +kernel
theorem dX10_queue_6 : decode cX10_queue 6 = .ok (.ifCond .lt 9, 3) := by decide +kernel
theorem dX10_queue_9 : decode cX10_queue 9 = .ok (.iload_n 1, 1) := by decide +kernel
theorem dX10_queue_10 : decode cX10_queue 10 = .ok (.bipush 7, 2) := by decide +kernel
theorem dX10_queue_12 : decode cX10_queue 12 = .ok (.if_icmp .le 5, 3) := by decide +kernel
theorem dX10_queue_15 : decode cX10_queue 15 = .ok (.iconst (-1), 1) := by decide +kernel
theorem dX10_queue_16 : decode cX10_queue 16 = .ok (.ireturn, 1) := by decide +kernel
theorem dX10_queue_17 : decode cX10_queue 17 = .ok (.iload_n 1, 1) := by decide +kernel
theorem dX10_queue_18 : decode cX10_queue 18 = .ok (.aload_n 0, 1) := by decide +kernel
theorem dX10_queue_19 : decode cX10_queue 19 = .ok (.getfield 78, 3) := by decide +kernel
theorem dX10_queue_22 : decode cX10_queue 22 = .ok (.iconst 0, 1) := by decide +kernel
theorem dX10_queue_23 : decode cX10_queue 23 = .ok (.iaload, 1) := by decide +kernel
theorem dX10_queue_24 : decode cX10_queue 24 = .ok (.if_icmp .ge 12, 3) := by decide +kernel
theorem dX10_queue_27 : decode cX10_queue 27 = .ok (.aload_n 0, 1) := by decide +kernel
theorem dX10_queue_28 : decode cX10_queue 28 = .ok (.getfield 81, 3) := by decide +kernel
theorem dX10_queue_31 : decode cX10_queue 31 = .ok (.iload_n 1, 1) := by decide +kernel
theorem dX10_queue_32 : decode cX10_queue 32 = .ok (.iaload, 1) := by decide +kernel
theorem dX10_queue_33 : decode cX10_queue 33 = .ok (.goto 5, 3) := by decide +kernel
theorem dX10_queue_36 : decode cX10_queue 36 = .ok (.bipush (-2), 2) := by decide +kernel
theorem dX10_queue_38 : decode cX10_queue 38 = .ok (.ireturn, 1) := by decide +kernel
theorem dX10_lets_0 : decode cX10_lets 0 = .ok (.aload_n 0, 1) := by decide +kernel
theorem dX10_lets_1 : decode cX10_lets 1 = .ok (.iconst 0, 1) := by decide +kernel
theorem dX10_lets_2 : decode cX10_lets 2 = .ok (.putfield 142, 3) := by decide +kernel
theorem dX10_lets_5 : decode cX10_lets 5 = .ok (.aload_n 0, 1) := by decide +kernel
theorem dX10_lets_6 : decode cX10_lets 6 = .ok (.iload_n 1, 1) := by decide +kernel
theorem dX10_lets_7 : decode cX10_lets 7 = .ok (.invokevirtual 411, 3) := by decide +kernel
theorem dX10_lets_10 : decode cX10_lets 10 = .ok (.ifCond .ne 5, 3) := by decide +kernel
theorem dX10_lets_13 : decode cX10_lets 13 = .ok (.iconst (-1), 1) := by decide +kernel
theorem dX10_lets_14 : decode cX10_lets 14 = .ok (.ireturn, 1) := by decide +kernel
theorem dX10_lets_15 : decode cX10_lets 15 = .ok (.iconst 0, 1) := by decide +kernel
theorem dX10_lets_16 : decode cX10_lets 16 = .ok (.istore_n 2, 1) := by decide +kernel
theorem dX10_lets_17 : decode cX10_lets 17 = .ok (.iconst 0, 1) := by decide +kernel
theorem dX10_lets_18 : decode cX10_lets 18 = .ok (.istore_n 3, 1) := by decide +kernel
theorem dX10_lets_19 : decode cX10_lets 19 = .ok (.iload_n 3, 1) := by decide +kernel
theorem dX10_lets_20 : decode cX10_lets 20 = .ok (.aload_n 0, 1) := by decide +kernel
theorem dX10_lets_21 : decode cX10_lets 21 = .ok (.getfield 13, 3) := by decide +kernel
theorem dX10_lets_24 : decode cX10_lets 24 = .ok (.iconst 2, 1) := by decide +kernel
theorem dX10_lets_25 : decode cX10_lets 25 = .ok (.iaload, 1) := by decide +kernel
theorem dX10_lets_26 : decode cX10_lets 26 = .ok (.if_icmp .ge 34, 3) := by decide +kernel
theorem dX10_lets_29 : decode cX10_lets 29 = .ok (.iload_n 2, 1) := by decide +kernel
theorem dX10_lets_30 : decode cX10_lets 30 = .ok (.aload_n 0, 1) := by decide +kernel
theorem dX10_lets_31 : decode cX10_lets 31 = .ok (.getfield 43, 3) := by decide +kernel
theorem dX10_lets_34 : decode cX10_lets 34 = .ok (.iload_n 3, 1) := by decide +kernel
theorem dX10_lets_35 : decode cX10_lets 35 = .ok (.iaload, 1) := by decide +kernel
theorem dX10_lets_36 : decode cX10_lets 36 = .ok (.iload_n 1, 1) := by decide +kernel
theorem dX10_lets_37 : decode cX10_lets 37 = .ok (.if_icmp .ne 14, 3) := by decide +kernel
theorem dX10_lets_40 : decode cX10_lets 40 = .ok (.iconst 1, 1) := by decide +kernel
theorem dX10_lets_41 : decode cX10_lets 41 = .ok (.aload_n 0, 1) := by decide +kernel
theorem dX10_lets_42 : decode cX10_lets 42 = .ok (.getfield 46, 3) := by decide +kernel
theorem dX10_lets_45 : decode cX10_lets 45 = .ok (.iload_n 3, 1) := by decide +kernel
theorem dX10_lets_46 : decode cX10_lets 46 = .ok (.iaload, 1) := by decide +kernel
theorem dX10_lets_47 : decode cX10_lets 47 = .ok (.ishl, 1) := by decide +kernel
theorem dX10_lets_48 : decode cX10_lets 48 = .ok (.goto 4, 3) := by decide +kernel
theorem dX10_lets_51 : decode cX10_lets 51 = .ok (.iconst 0, 1) := by decide +kernel
theorem dX10_lets_52 : decode cX10_lets 52 = .ok (.ior, 1) := by decide +kernel
theorem dX10_lets_53 : decode cX10_lets 53 = .ok (.istore_n 2, 1) := by decide +kernel
theorem dX10_lets_54 : decode cX10_lets 54 = .ok (.iinc 3 1, 3) := by decide +kernel
theorem dX10_lets_57 : decode cX10_lets 57 = .ok (.goto (-38), 3) := by decide +kernel
theorem dX10_lets_60 : decode cX10_lets 60 = .ok (.iload_n 2, 1) := by decide +kernel
theorem dX10_lets_61 : decode cX10_lets 61 = .ok (.ireturn, 1) := by decide +kernel
theorem dX10_law_0 : decode cX10_law 0 = .ok (.aload_n 0, 1) := by decide +kernel
theorem dX10_law_1 : decode cX10_law 1 = .ok (.iconst 0, 1) := by decide +kernel
theorem dX10_law_2 : decode cX10_law 2 = .ok (.putfield 142, 3) := by decide +kernel
theorem dX10_law_5 : decode cX10_law 5 = .ok (.iload_n 1, 1) := by decide +kernel
theorem dX10_law_6 : decode cX10_law 6 = .ok (.ifCond .lt 37, 3) := by decide +kernel
theorem dX10_law_9 : decode cX10_law 9 = .ok (.iload_n 1, 1) := by decide +kernel
theorem dX10_law_10 : decode cX10_law 10 = .ok (.iconst 2, 1) := by decide +kernel
theorem dX10_law_11 : decode cX10_law 11 = .ok (.if_icmp .gt 32, 3) := by decide +kernel
theorem dX10_law_14 : decode cX10_law 14 = .ok (.aload_n 0, 1) := by decide +kernel
theorem dX10_law_15 : decode cX10_law 15 = .ok (.iload_n 1, 1) := by decide +kernel
theorem dX10_law_16 : decode cX10_law 16 = .ok (.invokevirtual 336, 3) := by decide +kernel
theorem dX10_law_19 : decode cX10_law 19 = .ok (.ifCond .eq 24, 3) := by decide +kernel
theorem dX10_law_22 : decode cX10_law 22 = .ok (.aload_n 0, 1) := by decide +kernel
theorem dX10_law_23 : decode cX10_law 23 = .ok (.iload_n 2, 1) := by decide +kernel
theorem dX10_law_24 : decode cX10_law 24 = .ok (.invokevirtual 411, 3) := by decide +kernel
theorem dX10_law_27 : decode cX10_law 27 = .ok (.ifCond .eq 16, 3) := by decide +kernel
theorem dX10_law_30 : decode cX10_law 30 = .ok (.iload_n 1, 1) := by decide +kernel
theorem dX10_law_31 : decode cX10_law 31 = .ok (.iconst 2, 1) := by decide +kernel
theorem dX10_law_32 : decode cX10_law 32 = .ok (.if_icmp .eq 15, 3) := by decide +kernel
theorem dX10_law_35 : decode cX10_law 35 = .ok (.aload_n 0, 1) := by decide +kernel
theorem dX10_law_36 : decode cX10_law 36 = .ok (.iload_n 3, 1) := by decide +kernel
theorem dX10_law_37 : decode cX10_law 37 = .ok (.invokevirtual 420, 3) := by decide +kernel
theorem dX10_law_40 : decode cX10_law 40 = .ok (.ifCond .ne 7, 3) := by decide +kernel
theorem dX10_law_43 : decode cX10_law 43 = .ok (.ldc2_w 428, 3) := by decide +kernel
theorem dX10_law_46 : decode cX10_law 46 = .ok (.lreturn, 1) := by decide +kernel
theorem dX10_law_47 : decode cX10_law 47 = .ok (.aload_n 0, 1) := by decide +kernel
theorem dX10_law_48 : decode cX10_law 48 = .ok (.iconst 0, 1) := by decide +kernel
theorem dX10_law_49 : decode cX10_law 49 = .ok (.iload_n 2, 1) := by decide +kernel
theorem dX10_law_50 : decode cX10_law 50 = .ok (.iload_n 1, 1) := by decide +kernel
theorem dX10_law_51 : decode cX10_law 51 = .ok (.iconst 2, 1) := by decide +kernel
theorem dX10_law_52 : decode cX10_law 52 = .ok (.if_icmp .ne 7, 3) := by decide +kernel
theorem dX10_law_55 : decode cX10_law 55 = .ok (.iconst 0, 1) := by decide +kernel
theorem dX10_law_56 : decode cX10_law 56 = .ok (.goto 9, 3) := by decide +kernel
theorem dX10_law_59 : decode cX10_law 59 = .ok (.aload_n 0, 1) := by decide +kernel
theorem dX10_law_60 : decode cX10_law 60 = .ok (.getfield 40, 3) := by decide +kernel
theorem dX10_law_63 : decode cX10_law 63 = .ok (.iload_n 3, 1) := by decide +kernel
theorem dX10_law_64 : decode cX10_law 64 = .ok (.iaload, 1) := by decide +kernel
theorem dX10_law_65 : decode cX10_law 65 = .ok (.invokevirtual 352, 3) := by decide +kernel
theorem dX10_law_68 : decode cX10_law 68 = .ok (.aload_n 0, 1) := by decide +kernel
theorem dX10_law_69 : decode cX10_law 69 = .ok (.iload_n 1, 1) := by decide +kernel
theorem dX10_law_70 : decode cX10_law 70 = .ok (.invokevirtual 339, 3) := by decide +kernel
theorem dX10_law_73 : decode cX10_law 73 = .ok (.ifCond .eq 12, 3) := by decide +kernel
theorem dX10_law_76 : decode cX10_law 76 = .ok (.aload_n 0, 1) := by decide +kernel
theorem dX10_law_77 : decode cX10_law 77 = .ok (.getfield 69, 3) := by decide +kernel
theorem dX10_law_80 : decode cX10_law 80 = .ok (.iconst 0, 1) := by decide +kernel
theorem dX10_law_81 : decode cX10_law 81 = .ok (.laload, 1) := by decide +kernel
theorem dX10_law_82 : decode cX10_law 82 = .ok (.goto 6, 3) := by decide +kernel
theorem dX10_law_85 : decode cX10_law 85 = .ok (.ldc2_w 428, 3) := by decide +kernel
theorem dX10_law_88 : decode cX10_law 88 = .ok (.lreturn, 1) := by decide +kernel
theorem dX10_keepNow_0 : decode cX10_keepNow 0 = .ok (.aload_n 0, 1) := by decide +kernel
theorem dX10_keepNow_1 : decode cX10_keepNow 1 = .ok (.getfield 302, 3) := by decide +kernel
theorem dX10_keepNow_4 : decode cX10_keepNow 4 = .ok (.bipush 20, 2) := by decide +kernel
theorem dX10_keepNow_6 : decode cX10_keepNow 6 = .ok (.if_icmp .ne 39, 3) := by decide +kernel
theorem dX10_keepNow_9 : decode cX10_keepNow 9 = .ok (.iconst 1, 1) := by decide +kernel
theorem dX10_keepNow_10 : decode cX10_keepNow 10 = .ok (.istore_n 1, 1) := by decide +kernel
theorem dX10_keepNow_11 : decode cX10_keepNow 11 = .ok (.iload_n 1, 1) := by decide +kernel
theorem dX10_keepNow_12 : decode cX10_keepNow 12 = .ok (.bipush 20, 2) := by decide +kernel
theorem dX10_keepNow_14 : decode cX10_keepNow 14 = .ok (.if_icmp .ge 21, 3) := by decide +kernel
theorem dX10_keepNow_17 : decode cX10_keepNow 17 = .ok (.aload_n 0, 1) := by decide +kernel
theorem dX10_keepNow_18 : decode cX10_keepNow 18 = .ok (.iconst 3, 1) := by decide +kernel
theorem dX10_keepNow_19 : decode cX10_keepNow 19 = .ok (.iload_n 1, 1) := by decide +kernel
theorem dX10_keepNow_20 : decode cX10_keepNow 20 = .ok (.iadd, 1) := by decide +kernel
theorem dX10_keepNow_21 : decode cX10_keepNow 21 = .ok (.iconst 1, 1) := by decide +kernel
theorem dX10_keepNow_22 : decode cX10_keepNow 22 = .ok (.isub, 1) := by decide +kernel
theorem dX10_keepNow_23 : decode cX10_keepNow 23 = .ok (.iconst 3, 1) := by decide +kernel
theorem dX10_keepNow_24 : decode cX10_keepNow 24 = .ok (.iload_n 1, 1) := by decide +kernel
theorem dX10_keepNow_25 : decode cX10_keepNow 25 = .ok (.iadd, 1) := by decide +kernel
theorem dX10_keepNow_26 : decode cX10_keepNow 26 = .ok (.invokevirtual 405, 3) := by decide +kernel
theorem dX10_keepNow_29 : decode cX10_keepNow 29 = .ok (.iinc 1 1, 3) := by decide +kernel
theorem dX10_keepNow_32 : decode cX10_keepNow 32 = .ok (.goto (-21), 3) := by decide +kernel
theorem dX10_keepNow_35 : decode cX10_keepNow 35 = .ok (.aload_n 0, 1) := by decide +kernel
theorem dX10_keepNow_36 : decode cX10_keepNow 36 = .ok (.dup, 1) := by decide +kernel
theorem dX10_keepNow_37 : decode cX10_keepNow 37 = .ok (.getfield 302, 3) := by decide +kernel
theorem dX10_keepNow_40 : decode cX10_keepNow 40 = .ok (.iconst 1, 1) := by decide +kernel
theorem dX10_keepNow_41 : decode cX10_keepNow 41 = .ok (.isub, 1) := by decide +kernel
theorem dX10_keepNow_42 : decode cX10_keepNow 42 = .ok (.putfield 302, 3) := by decide +kernel
theorem dX10_keepNow_45 : decode cX10_keepNow 45 = .ok (.aload_n 0, 1) := by decide +kernel
theorem dX10_keepNow_46 : decode cX10_keepNow 46 = .ok (.iconst 3, 1) := by decide +kernel
theorem dX10_keepNow_47 : decode cX10_keepNow 47 = .ok (.aload_n 0, 1) := by decide +kernel
theorem dX10_keepNow_48 : decode cX10_keepNow 48 = .ok (.getfield 302, 3) := by decide +kernel
theorem dX10_keepNow_51 : decode cX10_keepNow 51 = .ok (.iadd, 1) := by decide +kernel
theorem dX10_keepNow_52 : decode cX10_keepNow 52 = .ok (.iconst 0, 1) := by decide +kernel
theorem dX10_keepNow_53 : decode cX10_keepNow 53 = .ok (.invokevirtual 405, 3) := by decide +kernel
theorem dX10_keepNow_56 : decode cX10_keepNow 56 = .ok (.aload_n 0, 1) := by decide +kernel
theorem dX10_keepNow_57 : decode cX10_keepNow 57 = .ok (.dup, 1) := by decide +kernel
theorem dX10_keepNow_58 : decode cX10_keepNow 58 = .ok (.getfield 302, 3) := by decide +kernel
theorem dX10_keepNow_61 : decode cX10_keepNow 61 = .ok (.iconst 1, 1) := by decide +kernel
theorem dX10_keepNow_62 : decode cX10_keepNow 62 = .ok (.iadd, 1) := by decide +kernel
theorem dX10_keepNow_63 : decode cX10_keepNow 63 = .ok (.putfield 302, 3) := by decide +kernel
theorem dX10_keepNow_66 : decode cX10_keepNow 66 = .ok (.return_, 1) := by decide +kernel
theorem dX10_move_0 : decode cX10_move 0 = .ok (.aload_n 0, 1) := by decide +kernel
theorem dX10_move_1 : decode cX10_move 1 = .ok (.iconst 0, 1) := by decide +kernel
theorem dX10_move_2 : decode cX10_move 2 = .ok (.putfield 142, 3) := by decide +kernel
theorem dX10_move_5 : decode cX10_move 5 = .ok (.aload_n 0, 1) := by decide +kernel
theorem dX10_move_6 : decode cX10_move 6 = .ok (.iload_n 1, 1) := by decide +kernel
theorem dX10_move_7 : decode cX10_move 7 = .ok (.invokevirtual 411, 3) := by decide +kernel
theorem dX10_move_10 : decode cX10_move 10 = .ok (.ifCond .eq 27, 3) := by decide +kernel
theorem dX10_move_13 : decode cX10_move 13 = .ok (.aload_n 0, 1) := by decide +kernel
theorem dX10_move_14 : decode cX10_move 14 = .ok (.getfield 84, 3) := by decide +kernel
theorem dX10_move_17 : decode cX10_move 17 = .ok (.iload_n 1, 1) := by decide +kernel
theorem dX10_move_18 : decode cX10_move 18 = .ok (.iaload, 1) := by decide +kernel
theorem dX10_move_19 : decode cX10_move 19 = .ok (.iconst 1, 1) := by decide +kernel
theorem dX10_move_20 : decode cX10_move 20 = .ok (.if_icmp .ne 17, 3) := by decide +kernel
theorem dX10_move_23 : decode cX10_move 23 = .ok (.iload_n 2, 1) := by decide +kernel
theorem dX10_move_24 : decode cX10_move 24 = .ok (.ifCond .lt 13, 3) := by decide +kernel
theorem dX10_move_27 : decode cX10_move 27 = .ok (.iload_n 2, 1) := by decide +kernel
theorem dX10_move_28 : decode cX10_move 28 = .ok (.aload_n 0, 1) := by decide +kernel
theorem dX10_move_29 : decode cX10_move 29 = .ok (.getfield 78, 3) := by decide +kernel
theorem dX10_move_32 : decode cX10_move 32 = .ok (.iconst 0, 1) := by decide +kernel
theorem dX10_move_33 : decode cX10_move 33 = .ok (.iaload, 1) := by decide +kernel
theorem dX10_move_34 : decode cX10_move 34 = .ok (.if_icmp .lt 5, 3) := by decide +kernel
theorem dX10_move_37 : decode cX10_move 37 = .ok (.iconst 0, 1) := by decide +kernel
theorem dX10_move_38 : decode cX10_move 38 = .ok (.ireturn, 1) := by decide +kernel
theorem dX10_move_39 : decode cX10_move 39 = .ok (.aload_n 0, 1) := by decide +kernel
theorem dX10_move_40 : decode cX10_move 40 = .ok (.iconst 0, 1) := by decide +kernel
theorem dX10_move_41 : decode cX10_move 41 = .ok (.iload_n 1, 1) := by decide +kernel
theorem dX10_move_42 : decode cX10_move 42 = .ok (.invokevirtual 328, 3) := by decide +kernel
theorem dX10_move_45 : decode cX10_move 45 = .ok (.istore_n 3, 1) := by decide +kernel
theorem dX10_move_46 : decode cX10_move 46 = .ok (.iload_n 3, 1) := by decide +kernel
theorem dX10_move_47 : decode cX10_move 47 = .ok (.iload_n 2, 1) := by decide +kernel
theorem dX10_move_48 : decode cX10_move 48 = .ok (.if_icmp .ne 5, 3) := by decide +kernel
theorem dX10_move_51 : decode cX10_move 51 = .ok (.iconst 0, 1) := by decide +kernel
theorem dX10_move_52 : decode cX10_move 52 = .ok (.ireturn, 1) := by decide +kernel
theorem dX10_move_53 : decode cX10_move 53 = .ok (.aload_n 0, 1) := by decide +kernel
theorem dX10_move_54 : decode cX10_move 54 = .ok (.invokevirtual 430, 3) := by decide +kernel
theorem dX10_move_57 : decode cX10_move 57 = .ok (.iload_n 2, 1) := by decide +kernel
theorem dX10_move_58 : decode cX10_move 58 = .ok (.iload_n 3, 1) := by decide +kernel
theorem dX10_move_59 : decode cX10_move 59 = .ok (.if_icmp .le 7, 3) := by decide +kernel
theorem dX10_move_62 : decode cX10_move 62 = .ok (.iconst 1, 1) := by decide +kernel
theorem dX10_move_63 : decode cX10_move 63 = .ok (.goto 4, 3) := by decide +kernel
theorem dX10_move_66 : decode cX10_move 66 = .ok (.iconst (-1), 1) := by decide +kernel
theorem dX10_move_67 : decode cX10_move 67 = .ok (.istore 4, 2) := by decide +kernel
theorem dX10_move_69 : decode cX10_move 69 = .ok (.iload_n 3, 1) := by decide +kernel
theorem dX10_move_70 : decode cX10_move 70 = .ok (.istore 5, 2) := by decide +kernel
theorem dX10_move_72 : decode cX10_move 72 = .ok (.iload 5, 2) := by decide +kernel
theorem dX10_move_74 : decode cX10_move 74 = .ok (.iload_n 2, 1) := by decide +kernel
theorem dX10_move_75 : decode cX10_move 75 = .ok (.if_icmp .eq 30, 3) := by decide +kernel
theorem dX10_move_78 : decode cX10_move 78 = .ok (.aload_n 0, 1) := by decide +kernel
theorem dX10_move_79 : decode cX10_move 79 = .ok (.getfield 81, 3) := by decide +kernel
theorem dX10_move_82 : decode cX10_move 82 = .ok (.iload 5, 2) := by decide +kernel
theorem dX10_move_84 : decode cX10_move 84 = .ok (.aload_n 0, 1) := by decide +kernel
theorem dX10_move_85 : decode cX10_move 85 = .ok (.getfield 81, 3) := by decide +kernel
theorem dX10_move_88 : decode cX10_move 88 = .ok (.iload 5, 2) := by decide +kernel
theorem dX10_move_90 : decode cX10_move 90 = .ok (.iload 4, 2) := by decide +kernel
theorem dX10_move_92 : decode cX10_move 92 = .ok (.iadd, 1) := by decide +kernel
theorem dX10_move_93 : decode cX10_move 93 = .ok (.iaload, 1) := by decide +kernel
theorem dX10_move_94 : decode cX10_move 94 = .ok (.iastore, 1) := by decide +kernel
theorem dX10_move_95 : decode cX10_move 95 = .ok (.iload 5, 2) := by decide +kernel
theorem dX10_move_97 : decode cX10_move 97 = .ok (.iload 4, 2) := by decide +kernel
theorem dX10_move_99 : decode cX10_move 99 = .ok (.iadd, 1) := by decide +kernel
theorem dX10_move_100 : decode cX10_move 100 = .ok (.istore 5, 2) := by decide +kernel
theorem dX10_move_102 : decode cX10_move 102 = .ok (.goto (-30), 3) := by decide +kernel
theorem dX10_move_105 : decode cX10_move 105 = .ok (.aload_n 0, 1) := by decide +kernel
theorem dX10_move_106 : decode cX10_move 106 = .ok (.getfield 81, 3) := by decide +kernel
theorem dX10_move_109 : decode cX10_move 109 = .ok (.iload_n 2, 1) := by decide +kernel
theorem dX10_move_110 : decode cX10_move 110 = .ok (.iload_n 1, 1) := by decide +kernel
theorem dX10_move_111 : decode cX10_move 111 = .ok (.iastore, 1) := by decide +kernel
theorem dX10_move_112 : decode cX10_move 112 = .ok (.iconst 1, 1) := by decide +kernel
theorem dX10_move_113 : decode cX10_move 113 = .ok (.ireturn, 1) := by decide +kernel
theorem dX10_give_0 : decode cX10_give 0 = .ok (.aload_n 0, 1) := by decide +kernel
theorem dX10_give_1 : decode cX10_give 1 = .ok (.iconst 0, 1) := by decide +kernel
theorem dX10_give_2 : decode cX10_give 2 = .ok (.putfield 142, 3) := by decide +kernel
theorem dX10_give_5 : decode cX10_give 5 = .ok (.aload_n 0, 1) := by decide +kernel
theorem dX10_give_6 : decode cX10_give 6 = .ok (.iload_n 1, 1) := by decide +kernel
theorem dX10_give_7 : decode cX10_give 7 = .ok (.invokevirtual 411, 3) := by decide +kernel
theorem dX10_give_10 : decode cX10_give 10 = .ok (.ifCond .eq 24, 3) := by decide +kernel
theorem dX10_give_13 : decode cX10_give 13 = .ok (.iload_n 2, 1) := by decide +kernel
theorem dX10_give_14 : decode cX10_give 14 = .ok (.iconst 1, 1) := by decide +kernel
theorem dX10_give_15 : decode cX10_give 15 = .ok (.if_icmp .lt 19, 3) := by decide +kernel
theorem dX10_give_18 : decode cX10_give 18 = .ok (.iload_n 2, 1) := by decide +kernel
theorem dX10_give_19 : decode cX10_give 19 = .ok (.bipush 99, 2) := by decide +kernel
theorem dX10_give_21 : decode cX10_give 21 = .ok (.if_icmp .gt 13, 3) := by decide +kernel
theorem dX10_give_24 : decode cX10_give 24 = .ok (.aload_n 0, 1) := by decide +kernel
theorem dX10_give_25 : decode cX10_give 25 = .ok (.getfield 84, 3) := by decide +kernel
theorem dX10_give_28 : decode cX10_give 28 = .ok (.iload_n 1, 1) := by decide +kernel
theorem dX10_give_29 : decode cX10_give 29 = .ok (.iaload, 1) := by decide +kernel
theorem dX10_give_30 : decode cX10_give 30 = .ok (.iconst 1, 1) := by decide +kernel
theorem dX10_give_31 : decode cX10_give 31 = .ok (.if_icmp .le 5, 3) := by decide +kernel
theorem dX10_give_34 : decode cX10_give 34 = .ok (.iconst (-1), 1) := by decide +kernel
theorem dX10_give_35 : decode cX10_give 35 = .ok (.ireturn, 1) := by decide +kernel
theorem dX10_give_36 : decode cX10_give 36 = .ok (.aload_n 0, 1) := by decide +kernel
theorem dX10_give_37 : decode cX10_give 37 = .ok (.invokevirtual 430, 3) := by decide +kernel
theorem dX10_give_40 : decode cX10_give 40 = .ok (.aload_n 0, 1) := by decide +kernel
theorem dX10_give_41 : decode cX10_give 41 = .ok (.getfield 87, 3) := by decide +kernel
theorem dX10_give_44 : decode cX10_give 44 = .ok (.iload_n 1, 1) := by decide +kernel
theorem dX10_give_45 : decode cX10_give 45 = .ok (.bipush 99, 2) := by decide +kernel
theorem dX10_give_47 : decode cX10_give 47 = .ok (.aload_n 0, 1) := by decide +kernel
theorem dX10_give_48 : decode cX10_give 48 = .ok (.getfield 87, 3) := by decide +kernel
theorem dX10_give_51 : decode cX10_give 51 = .ok (.iload_n 1, 1) := by decide +kernel
theorem dX10_give_52 : decode cX10_give 52 = .ok (.iaload, 1) := by decide +kernel
theorem dX10_give_53 : decode cX10_give 53 = .ok (.iload_n 2, 1) := by decide +kernel
theorem dX10_give_54 : decode cX10_give 54 = .ok (.iadd, 1) := by decide +kernel
theorem dX10_give_55 : decode cX10_give 55 = .ok (.invokestatic 399, 3) := by decide +kernel
theorem dX10_give_58 : decode cX10_give 58 = .ok (.iastore, 1) := by decide +kernel
theorem dX10_give_59 : decode cX10_give 59 = .ok (.aload_n 0, 1) := by decide +kernel
theorem dX10_give_60 : decode cX10_give 60 = .ok (.getfield 87, 3) := by decide +kernel
theorem dX10_give_63 : decode cX10_give 63 = .ok (.iload_n 1, 1) := by decide +kernel
theorem dX10_give_64 : decode cX10_give 64 = .ok (.iaload, 1) := by decide +kernel
theorem dX10_give_65 : decode cX10_give 65 = .ok (.ireturn, 1) := by decide +kernel
theorem dX10_off_0 : decode cX10_off 0 = .ok (.aload_n 0, 1) := by decide +kernel
theorem dX10_off_1 : decode cX10_off 1 = .ok (.iconst 0, 1) := by decide +kernel
theorem dX10_off_2 : decode cX10_off 2 = .ok (.putfield 142, 3) := by decide +kernel
theorem dX10_off_5 : decode cX10_off 5 = .ok (.aload_n 0, 1) := by decide +kernel
theorem dX10_off_6 : decode cX10_off 6 = .ok (.iload_n 1, 1) := by decide +kernel
theorem dX10_off_7 : decode cX10_off 7 = .ok (.invokevirtual 411, 3) := by decide +kernel
theorem dX10_off_10 : decode cX10_off 10 = .ok (.ifCond .eq 13, 3) := by decide +kernel
theorem dX10_off_13 : decode cX10_off 13 = .ok (.aload_n 0, 1) := by decide +kernel
theorem dX10_off_14 : decode cX10_off 14 = .ok (.getfield 84, 3) := by decide +kernel
theorem dX10_off_17 : decode cX10_off 17 = .ok (.iload_n 1, 1) := by decide +kernel
theorem dX10_off_18 : decode cX10_off 18 = .ok (.iaload, 1) := by decide +kernel
theorem dX10_off_19 : decode cX10_off 19 = .ok (.iconst 1, 1) := by decide +kernel
theorem dX10_off_20 : decode cX10_off 20 = .ok (.if_icmp .eq 5, 3) := by decide +kernel
theorem dX10_off_23 : decode cX10_off 23 = .ok (.iconst (-1), 1) := by decide +kernel
theorem dX10_off_24 : decode cX10_off 24 = .ok (.ireturn, 1) := by decide +kernel
theorem dX10_off_25 : decode cX10_off 25 = .ok (.aload_n 0, 1) := by decide +kernel
theorem dX10_off_26 : decode cX10_off 26 = .ok (.invokevirtual 430, 3) := by decide +kernel
theorem dX10_off_29 : decode cX10_off 29 = .ok (.aload_n 0, 1) := by decide +kernel
theorem dX10_off_30 : decode cX10_off 30 = .ok (.iconst 0, 1) := by decide +kernel
theorem dX10_off_31 : decode cX10_off 31 = .ok (.iload_n 1, 1) := by decide +kernel
theorem dX10_off_32 : decode cX10_off 32 = .ok (.iconst 3, 1) := by decide +kernel
theorem dX10_off_33 : decode cX10_off 33 = .ok (.invokevirtual 373, 3) := by decide +kernel
theorem dX10_off_36 : decode cX10_off 36 = .ok (.aload_n 0, 1) := by decide +kernel
theorem dX10_off_37 : decode cX10_off 37 = .ok (.getfield 78, 3) := by decide +kernel
theorem dX10_off_40 : decode cX10_off 40 = .ok (.iconst 0, 1) := by decide +kernel
theorem dX10_off_41 : decode cX10_off 41 = .ok (.iaload, 1) := by decide +kernel
theorem dX10_off_42 : decode cX10_off 42 = .ok (.ireturn, 1) := by decide +kernel
theorem dX10_go_0 : decode cX10_go 0 = .ok (.aload_n 0, 1) := by decide +kernel
theorem dX10_go_1 : decode cX10_go 1 = .ok (.iconst 0, 1) := by decide +kernel
theorem dX10_go_2 : decode cX10_go 2 = .ok (.putfield 142, 3) := by decide +kernel
theorem dX10_go_5 : decode cX10_go 5 = .ok (.iload_n 1, 1) := by decide +kernel
theorem dX10_go_6 : decode cX10_go 6 = .ok (.ifCond .lt 24, 3) := by decide +kernel
theorem dX10_go_9 : decode cX10_go 9 = .ok (.iload_n 1, 1) := by decide +kernel
theorem dX10_go_10 : decode cX10_go 10 = .ok (.sipush 200, 3) := by decide +kernel
theorem dX10_go_13 : decode cX10_go 13 = .ok (.if_icmp .gt 17, 3) := by decide +kernel
theorem dX10_go_16 : decode cX10_go 16 = .ok (.aload_n 0, 1) := by decide +kernel
theorem dX10_go_17 : decode cX10_go 17 = .ok (.getfield 72, 3) := by decide +kernel
theorem dX10_go_20 : decode cX10_go 20 = .ok (.iconst 0, 1) := by decide +kernel
theorem dX10_go_21 : decode cX10_go 21 = .ok (.iaload, 1) := by decide +kernel
theorem dX10_go_22 : decode cX10_go 22 = .ok (.iload_n 1, 1) := by decide +kernel
theorem dX10_go_23 : decode cX10_go 23 = .ok (.iadd, 1) := by decide +kernel
theorem dX10_go_24 : decode cX10_go 24 = .ok (.sipush 9800, 3) := by decide +kernel
theorem dX10_go_27 : decode cX10_go 27 = .ok (.if_icmp .le 5, 3) := by decide +kernel
theorem dX10_go_30 : decode cX10_go 30 = .ok (.iconst (-1), 1) := by decide +kernel
theorem dX10_go_31 : decode cX10_go 31 = .ok (.ireturn, 1) := by decide +kernel
theorem dX10_go_32 : decode cX10_go 32 = .ok (.iload_n 1, 1) := by decide +kernel
theorem dX10_go_33 : decode cX10_go 33 = .ok (.ifCond .le 8, 3) := by decide +kernel
theorem dX10_go_36 : decode cX10_go 36 = .ok (.aload_n 0, 1) := by decide +kernel
theorem dX10_go_37 : decode cX10_go 37 = .ok (.iconst 0, 1) := by decide +kernel
theorem dX10_go_38 : decode cX10_go 38 = .ok (.putfield 302, 3) := by decide +kernel
theorem dX10_go_41 : decode cX10_go 41 = .ok (.iconst 0, 1) := by decide +kernel
theorem dX10_go_42 : decode cX10_go 42 = .ok (.istore_n 2, 1) := by decide +kernel
theorem dX10_go_43 : decode cX10_go 43 = .ok (.iload_n 2, 1) := by decide +kernel
theorem dX10_go_44 : decode cX10_go 44 = .ok (.iload_n 1, 1) := by decide +kernel
theorem dX10_go_45 : decode cX10_go 45 = .ok (.if_icmp .ge 15, 3) := by decide +kernel
theorem dX10_go_48 : decode cX10_go 48 = .ok (.aload_n 0, 1) := by decide +kernel
theorem dX10_go_49 : decode cX10_go 49 = .ok (.iconst 0, 1) := by decide +kernel
theorem dX10_go_50 : decode cX10_go 50 = .ok (.iconst 1, 1) := by decide +kernel
theorem dX10_go_51 : decode cX10_go 51 = .ok (.invokevirtual 401, 3) := by decide +kernel
theorem dX10_go_54 : decode cX10_go 54 = .ok (.iinc 2 1, 3) := by decide +kernel
theorem dX10_go_57 : decode cX10_go 57 = .ok (.goto (-14), 3) := by decide +kernel
theorem dX10_go_60 : decode cX10_go 60 = .ok (.aload_n 0, 1) := by decide +kernel
theorem dX10_go_61 : decode cX10_go 61 = .ok (.getfield 72, 3) := by decide +kernel
theorem dX10_go_64 : decode cX10_go 64 = .ok (.iconst 0, 1) := by decide +kernel
theorem dX10_go_65 : decode cX10_go 65 = .ok (.iaload, 1) := by decide +kernel
theorem dX10_go_66 : decode cX10_go 66 = .ok (.ireturn, 1) := by decide +kernel
theorem dX10_ahead_0 : decode cX10_ahead 0 = .ok (.aload_n 0, 1) := by decide +kernel
theorem dX10_ahead_1 : decode cX10_ahead 1 = .ok (.iconst 0, 1) := by decide +kernel
theorem dX10_ahead_2 : decode cX10_ahead 2 = .ok (.putfield 142, 3) := by decide +kernel
theorem dX10_ahead_5 : decode cX10_ahead 5 = .ok (.iload_n 1, 1) := by decide +kernel
theorem dX10_ahead_6 : decode cX10_ahead 6 = .ok (.ifCond .lt 32, 3) := by decide +kernel
theorem dX10_ahead_9 : decode cX10_ahead 9 = .ok (.iload_n 1, 1) := by decide +kernel
theorem dX10_ahead_10 : decode cX10_ahead 10 = .ok (.sipush 200, 3) := by decide +kernel
theorem dX10_ahead_13 : decode cX10_ahead 13 = .ok (.if_icmp .gt 25, 3) := by decide +kernel
theorem dX10_ahead_16 : decode cX10_ahead 16 = .ok (.iload_n 2, 1) := by decide +kernel
theorem dX10_ahead_17 : decode cX10_ahead 17 = .ok (.ifCond .lt 21, 3) := by decide +kernel
theorem dX10_ahead_20 : decode cX10_ahead 20 = .ok (.iload_n 2, 1) := by decide +kernel
theorem dX10_ahead_21 : decode cX10_ahead 21 = .ok (.iconst 4, 1) := by decide +kernel
theorem dX10_ahead_22 : decode cX10_ahead 22 = .ok (.if_icmp .gt 16, 3) := by decide +kernel
theorem dX10_ahead_25 : decode cX10_ahead 25 = .ok (.iload_n 2, 1) := by decide +kernel
theorem dX10_ahead_26 : decode cX10_ahead 26 = .ok (.iconst 3, 1) := by decide +kernel
theorem dX10_ahead_27 : decode cX10_ahead 27 = .ok (.if_icmp .ne 13, 3) := by decide +kernel
theorem dX10_ahead_30 : decode cX10_ahead 30 = .ok (.aload_n 0, 1) := by decide +kernel
theorem dX10_ahead_31 : decode cX10_ahead 31 = .ok (.iload_n 3, 1) := by decide +kernel
theorem dX10_ahead_32 : decode cX10_ahead 32 = .ok (.invokevirtual 411, 3) := by decide +kernel
theorem dX10_ahead_35 : decode cX10_ahead 35 = .ok (.ifCond .ne 5, 3) := by decide +kernel
theorem dX10_ahead_38 : decode cX10_ahead 38 = .ok (.iconst (-1), 1) := by decide +kernel
theorem dX10_ahead_39 : decode cX10_ahead 39 = .ok (.ireturn, 1) := by decide +kernel
theorem dX10_ahead_40 : decode cX10_ahead 40 = .ok (.aload_n 0, 1) := by decide +kernel
theorem dX10_ahead_41 : decode cX10_ahead 41 = .ok (.iload_n 1, 1) := by decide +kernel
theorem dX10_ahead_42 : decode cX10_ahead 42 = .ok (.invokevirtual 433, 3) := by decide +kernel
theorem dX10_ahead_45 : decode cX10_ahead 45 = .ok (.iload_n 2, 1) := by decide +kernel
theorem dX10_ahead_46 : decode cX10_ahead 46 = .ok (.tableswitch 73 0 3 #[30, 37, 43, 63], 30) := by decide +kernel
theorem dX10_ahead_76 : decode cX10_ahead 76 = .ok (.aload_n 0, 1) := by decide +kernel
theorem dX10_ahead_77 : decode cX10_ahead 77 = .ok (.iconst 1, 1) := by decide +kernel
theorem dX10_ahead_78 : decode cX10_ahead 78 = .ok (.iconst 2, 1) := by decide +kernel
theorem dX10_ahead_79 : decode cX10_ahead 79 = .ok (.invokevirtual 436, 3) := by decide +kernel
theorem dX10_ahead_82 : decode cX10_ahead 82 = .ok (.ireturn, 1) := by decide +kernel
theorem dX10_ahead_83 : decode cX10_ahead 83 = .ok (.aload_n 0, 1) := by decide +kernel
theorem dX10_ahead_84 : decode cX10_ahead 84 = .ok (.iconst 1, 1) := by decide +kernel
theorem dX10_ahead_85 : decode cX10_ahead 85 = .ok (.invokevirtual 439, 3) := by decide +kernel
theorem dX10_ahead_88 : decode cX10_ahead 88 = .ok (.ireturn, 1) := by decide +kernel
theorem dX10_ahead_89 : decode cX10_ahead 89 = .ok (.aload_n 0, 1) := by decide +kernel
theorem dX10_ahead_90 : decode cX10_ahead 90 = .ok (.aload_n 0, 1) := by decide +kernel
theorem dX10_ahead_91 : decode cX10_ahead 91 = .ok (.getfield 93, 3) := by decide +kernel
theorem dX10_ahead_94 : decode cX10_ahead 94 = .ok (.iconst 1, 1) := by decide +kernel
theorem dX10_ahead_95 : decode cX10_ahead 95 = .ok (.invokevirtual 442, 3) := by decide +kernel
theorem dX10_ahead_98 : decode cX10_ahead 98 = .ok (.aload_n 0, 1) := by decide +kernel
theorem dX10_ahead_99 : decode cX10_ahead 99 = .ok (.aload_n 0, 1) := by decide +kernel
theorem dX10_ahead_100 : decode cX10_ahead 100 = .ok (.getfield 93, 3) := by decide +kernel
theorem dX10_ahead_103 : decode cX10_ahead 103 = .ok (.iconst 0, 1) := by decide +kernel
theorem dX10_ahead_104 : decode cX10_ahead 104 = .ok (.invokevirtual 442, 3) := by decide +kernel
theorem dX10_ahead_107 : decode cX10_ahead 107 = .ok (.isub, 1) := by decide +kernel
theorem dX10_ahead_108 : decode cX10_ahead 108 = .ok (.ireturn, 1) := by decide +kernel
theorem dX10_ahead_109 : decode cX10_ahead 109 = .ok (.aload_n 0, 1) := by decide +kernel
theorem dX10_ahead_110 : decode cX10_ahead 110 = .ok (.getfield 90, 3) := by decide +kernel
theorem dX10_ahead_113 : decode cX10_ahead 113 = .ok (.bipush 8, 2) := by decide +kernel
theorem dX10_ahead_115 : decode cX10_ahead 115 = .ok (.iload_n 3, 1) := by decide +kernel
theorem dX10_ahead_116 : decode cX10_ahead 116 = .ok (.iadd, 1) := by decide +kernel
theorem dX10_ahead_117 : decode cX10_ahead 117 = .ok (.iaload, 1) := by decide +kernel
theorem dX10_ahead_118 : decode cX10_ahead 118 = .ok (.ireturn, 1) := by decide +kernel
theorem dX10_ahead_119 : decode cX10_ahead 119 = .ok (.aload_n 0, 1) := by decide +kernel
theorem dX10_ahead_120 : decode cX10_ahead 120 = .ok (.getfield 78, 3) := by decide +kernel
theorem dX10_ahead_123 : decode cX10_ahead 123 = .ok (.iconst 1, 1) := by decide +kernel
theorem dX10_ahead_124 : decode cX10_ahead 124 = .ok (.iaload, 1) := by decide +kernel
theorem dX10_ahead_125 : decode cX10_ahead 125 = .ok (.ireturn, 1) := by decide +kernel
theorem dX10_next_0 : decode cX10_next 0 = .ok (.aload_n 0, 1) := by decide +kernel
theorem dX10_next_1 : decode cX10_next 1 = .ok (.iconst 0, 1) := by decide +kernel
theorem dX10_next_2 : decode cX10_next 2 = .ok (.putfield 142, 3) := by decide +kernel
theorem dX10_next_5 : decode cX10_next 5 = .ok (.aload_n 0, 1) := by decide +kernel
theorem dX10_next_6 : decode cX10_next 6 = .ok (.iload_n 1, 1) := by decide +kernel
theorem dX10_next_7 : decode cX10_next 7 = .ok (.invokevirtual 420, 3) := by decide +kernel
theorem dX10_next_10 : decode cX10_next 10 = .ok (.ifCond .ne 5, 3) := by decide +kernel
theorem dX10_next_13 : decode cX10_next 13 = .ok (.iconst (-1), 1) := by decide +kernel
theorem dX10_next_14 : decode cX10_next 14 = .ok (.ireturn, 1) := by decide +kernel
theorem dX10_next_15 : decode cX10_next 15 = .ok (.iconst 0, 1) := by decide +kernel
theorem dX10_next_16 : decode cX10_next 16 = .ok (.istore_n 2, 1) := by decide +kernel
theorem dX10_next_17 : decode cX10_next 17 = .ok (.aload_n 0, 1) := by decide +kernel
theorem dX10_next_18 : decode cX10_next 18 = .ok (.iload_n 1, 1) := by decide +kernel
theorem dX10_next_19 : decode cX10_next 19 = .ok (.aload_n 0, 1) := by decide +kernel
theorem dX10_next_20 : decode cX10_next 20 = .ok (.getfield 72, 3) := by decide +kernel
theorem dX10_next_23 : decode cX10_next 23 = .ok (.iconst 0, 1) := by decide +kernel
theorem dX10_next_24 : decode cX10_next 24 = .ok (.iaload, 1) := by decide +kernel
theorem dX10_next_25 : decode cX10_next 25 = .ok (.iload_n 2, 1) := by decide +kernel
theorem dX10_next_26 : decode cX10_next 26 = .ok (.iadd, 1) := by decide +kernel
theorem dX10_next_27 : decode cX10_next 27 = .ok (.invokevirtual 388, 3) := by decide +kernel
theorem dX10_next_30 : decode cX10_next 30 = .ok (.ifCond .ne 9, 3) := by decide +kernel
theorem dX10_next_33 : decode cX10_next 33 = .ok (.iinc 2 1, 3) := by decide +kernel
theorem dX10_next_36 : decode cX10_next 36 = .ok (.goto (-19), 3) := by decide +kernel
theorem dX10_next_39 : decode cX10_next 39 = .ok (.iload_n 2, 1) := by decide +kernel
theorem dX10_next_40 : decode cX10_next 40 = .ok (.ireturn, 1) := by decide +kernel
theorem dX10_meet_0 : decode cX10_meet 0 = .ok (.aload_n 0, 1) := by decide +kernel
theorem dX10_meet_1 : decode cX10_meet 1 = .ok (.iconst 0, 1) := by decide +kernel
theorem dX10_meet_2 : decode cX10_meet 2 = .ok (.putfield 142, 3) := by decide +kernel
theorem dX10_meet_5 : decode cX10_meet 5 = .ok (.aload_n 0, 1) := by decide +kernel
theorem dX10_meet_6 : decode cX10_meet 6 = .ok (.iload_n 1, 1) := by decide +kernel
theorem dX10_meet_7 : decode cX10_meet 7 = .ok (.invokevirtual 420, 3) := by decide +kernel
theorem dX10_meet_10 : decode cX10_meet 10 = .ok (.ifCond .eq 16, 3) := by decide +kernel
theorem dX10_meet_13 : decode cX10_meet 13 = .ok (.aload_n 0, 1) := by decide +kernel
theorem dX10_meet_14 : decode cX10_meet 14 = .ok (.iload_n 2, 1) := by decide +kernel
theorem dX10_meet_15 : decode cX10_meet 15 = .ok (.invokevirtual 420, 3) := by decide +kernel
theorem dX10_meet_18 : decode cX10_meet 18 = .ok (.ifCond .eq 8, 3) := by decide +kernel
theorem dX10_meet_21 : decode cX10_meet 21 = .ok (.iload_n 1, 1) := by decide +kernel
theorem dX10_meet_22 : decode cX10_meet 22 = .ok (.iload_n 2, 1) := by decide +kernel
theorem dX10_meet_23 : decode cX10_meet 23 = .ok (.if_icmp .ne 5, 3) := by decide +kernel
theorem dX10_meet_26 : decode cX10_meet 26 = .ok (.iconst (-1), 1) := by decide +kernel
theorem dX10_meet_27 : decode cX10_meet 27 = .ok (.ireturn, 1) := by decide +kernel
theorem dX10_meet_28 : decode cX10_meet 28 = .ok (.iconst 0, 1) := by decide +kernel
theorem dX10_meet_29 : decode cX10_meet 29 = .ok (.istore_n 3, 1) := by decide +kernel
theorem dX10_meet_30 : decode cX10_meet 30 = .ok (.iload_n 3, 1) := by decide +kernel
theorem dX10_meet_31 : decode cX10_meet 31 = .ok (.sipush 1100, 3) := by decide +kernel
theorem dX10_meet_34 : decode cX10_meet 34 = .ok (.if_icmp .gt 43, 3) := by decide +kernel
theorem dX10_meet_37 : decode cX10_meet 37 = .ok (.aload_n 0, 1) := by decide +kernel
theorem dX10_meet_38 : decode cX10_meet 38 = .ok (.iload_n 1, 1) := by decide +kernel
theorem dX10_meet_39 : decode cX10_meet 39 = .ok (.aload_n 0, 1) := by decide +kernel
theorem dX10_meet_40 : decode cX10_meet 40 = .ok (.getfield 72, 3) := by decide +kernel
theorem dX10_meet_43 : decode cX10_meet 43 = .ok (.iconst 0, 1) := by decide +kernel
theorem dX10_meet_44 : decode cX10_meet 44 = .ok (.iaload, 1) := by decide +kernel
theorem dX10_meet_45 : decode cX10_meet 45 = .ok (.iload_n 3, 1) := by decide +kernel
theorem dX10_meet_46 : decode cX10_meet 46 = .ok (.iadd, 1) := by decide +kernel
theorem dX10_meet_47 : decode cX10_meet 47 = .ok (.invokevirtual 388, 3) := by decide +kernel
theorem dX10_meet_50 : decode cX10_meet 50 = .ok (.ifCond .eq 21, 3) := by decide +kernel
theorem dX10_meet_53 : decode cX10_meet 53 = .ok (.aload_n 0, 1) := by decide +kernel
theorem dX10_meet_54 : decode cX10_meet 54 = .ok (.iload_n 2, 1) := by decide +kernel
theorem dX10_meet_55 : decode cX10_meet 55 = .ok (.aload_n 0, 1) := by decide +kernel
theorem dX10_meet_56 : decode cX10_meet 56 = .ok (.getfield 72, 3) := by decide +kernel
theorem dX10_meet_59 : decode cX10_meet 59 = .ok (.iconst 0, 1) := by decide +kernel
theorem dX10_meet_60 : decode cX10_meet 60 = .ok (.iaload, 1) := by decide +kernel
theorem dX10_meet_61 : decode cX10_meet 61 = .ok (.iload_n 3, 1) := by decide +kernel
theorem dX10_meet_62 : decode cX10_meet 62 = .ok (.iadd, 1) := by decide +kernel
theorem dX10_meet_63 : decode cX10_meet 63 = .ok (.invokevirtual 388, 3) := by decide +kernel
theorem dX10_meet_66 : decode cX10_meet 66 = .ok (.ifCond .eq 5, 3) := by decide +kernel
theorem dX10_meet_69 : decode cX10_meet 69 = .ok (.iload_n 3, 1) := by decide +kernel
theorem dX10_meet_70 : decode cX10_meet 70 = .ok (.ireturn, 1) := by decide +kernel
theorem dX10_meet_71 : decode cX10_meet 71 = .ok (.iinc 3 1, 3) := by decide +kernel
theorem dX10_meet_74 : decode cX10_meet 74 = .ok (.goto (-44), 3) := by decide +kernel
theorem dX10_meet_77 : decode cX10_meet 77 = .ok (.bipush (-2), 2) := by decide +kernel
theorem dX10_meet_79 : decode cX10_meet 79 = .ok (.ireturn, 1) := by decide +kernel
theorem dX10_goes_0 : decode cX10_goes 0 = .ok (.aload_n 0, 1) := by decide +kernel
theorem dX10_goes_1 : decode cX10_goes 1 = .ok (.iconst 0, 1) := by decide +kernel
theorem dX10_goes_2 : decode cX10_goes 2 = .ok (.putfield 142, 3) := by decide +kernel
theorem dX10_goes_5 : decode cX10_goes 5 = .ok (.aload_n 0, 1) := by decide +kernel
theorem dX10_goes_6 : decode cX10_goes 6 = .ok (.iload_n 1, 1) := by decide +kernel
theorem dX10_goes_7 : decode cX10_goes 7 = .ok (.invokevirtual 411, 3) := by decide +kernel
theorem dX10_goes_10 : decode cX10_goes 10 = .ok (.ifCond .ne 5, 3) := by decide +kernel
theorem dX10_goes_13 : decode cX10_goes 13 = .ok (.iconst (-1), 1) := by decide +kernel
theorem dX10_goes_14 : decode cX10_goes 14 = .ok (.ireturn, 1) := by decide +kernel
theorem dX10_goes_15 : decode cX10_goes 15 = .ok (.aload_n 0, 1) := by decide +kernel
theorem dX10_goes_16 : decode cX10_goes 16 = .ok (.iconst 1, 1) := by decide +kernel
theorem dX10_goes_17 : decode cX10_goes 17 = .ok (.iconst 0, 1) := by decide +kernel
theorem dX10_goes_18 : decode cX10_goes 18 = .ok (.invokevirtual 405, 3) := by decide +kernel
theorem dX10_goes_21 : decode cX10_goes 21 = .ok (.iconst 0, 1) := by decide +kernel
theorem dX10_goes_22 : decode cX10_goes 22 = .ok (.istore_n 2, 1) := by decide +kernel
theorem dX10_goes_23 : decode cX10_goes 23 = .ok (.iload_n 2, 1) := by decide +kernel
theorem dX10_goes_24 : decode cX10_goes 24 = .ok (.sipush 199, 3) := by decide +kernel
theorem dX10_goes_27 : decode cX10_goes 27 = .ok (.if_icmp .gt 30, 3) := by decide +kernel
theorem dX10_goes_30 : decode cX10_goes 30 = .ok (.aload_n 0, 1) := by decide +kernel
theorem dX10_goes_31 : decode cX10_goes 31 = .ok (.getfield 84, 3) := by decide +kernel
theorem dX10_goes_34 : decode cX10_goes 34 = .ok (.bipush 8, 2) := by decide +kernel
theorem dX10_goes_36 : decode cX10_goes 36 = .ok (.iload_n 1, 1) := by decide +kernel
theorem dX10_goes_37 : decode cX10_goes 37 = .ok (.iadd, 1) := by decide +kernel
theorem dX10_goes_38 : decode cX10_goes 38 = .ok (.iaload, 1) := by decide +kernel
theorem dX10_goes_39 : decode cX10_goes 39 = .ok (.iconst 2, 1) := by decide +kernel
theorem dX10_goes_40 : decode cX10_goes 40 = .ok (.if_icmp .ne 5, 3) := by decide +kernel
theorem dX10_goes_43 : decode cX10_goes 43 = .ok (.iload_n 2, 1) := by decide +kernel
theorem dX10_goes_44 : decode cX10_goes 44 = .ok (.ireturn, 1) := by decide +kernel
theorem dX10_goes_45 : decode cX10_goes 45 = .ok (.aload_n 0, 1) := by decide +kernel
theorem dX10_goes_46 : decode cX10_goes 46 = .ok (.iconst 1, 1) := by decide +kernel
theorem dX10_goes_47 : decode cX10_goes 47 = .ok (.iconst 0, 1) := by decide +kernel
theorem dX10_goes_48 : decode cX10_goes 48 = .ok (.invokevirtual 401, 3) := by decide +kernel
theorem dX10_goes_51 : decode cX10_goes 51 = .ok (.iinc 2 1, 3) := by decide +kernel
theorem dX10_goes_54 : decode cX10_goes 54 = .ok (.goto (-31), 3) := by decide +kernel
theorem dX10_goes_57 : decode cX10_goes 57 = .ok (.bipush (-2), 2) := by decide +kernel
theorem dX10_goes_59 : decode cX10_goes 59 = .ok (.ireturn, 1) := by decide +kernel
theorem dX10_empty_0 : decode cX10_empty 0 = .ok (.aload_n 0, 1) := by decide +kernel
theorem dX10_empty_1 : decode cX10_empty 1 = .ok (.iconst 0, 1) := by decide +kernel
theorem dX10_empty_2 : decode cX10_empty 2 = .ok (.putfield 142, 3) := by decide +kernel
theorem dX10_empty_5 : decode cX10_empty 5 = .ok (.aload_n 0, 1) := by decide +kernel
theorem dX10_empty_6 : decode cX10_empty 6 = .ok (.iconst 1, 1) := by decide +kernel
theorem dX10_empty_7 : decode cX10_empty 7 = .ok (.iconst 0, 1) := by decide +kernel
theorem dX10_empty_8 : decode cX10_empty 8 = .ok (.invokevirtual 405, 3) := by decide +kernel
theorem dX10_empty_11 : decode cX10_empty 11 = .ok (.iconst 0, 1) := by decide +kernel
theorem dX10_empty_12 : decode cX10_empty 12 = .ok (.istore_n 1, 1) := by decide +kernel
theorem dX10_empty_13 : decode cX10_empty 13 = .ok (.iload_n 1, 1) := by decide +kernel
theorem dX10_empty_14 : decode cX10_empty 14 = .ok (.sipush 199, 3) := by decide +kernel
theorem dX10_empty_17 : decode cX10_empty 17 = .ok (.if_icmp .gt 35, 3) := by decide +kernel
theorem dX10_empty_20 : decode cX10_empty 20 = .ok (.aload_n 0, 1) := by decide +kernel
theorem dX10_empty_21 : decode cX10_empty 21 = .ok (.getfield 78, 3) := by decide +kernel
theorem dX10_empty_24 : decode cX10_empty 24 = .ok (.iconst 1, 1) := by decide +kernel
theorem dX10_empty_25 : decode cX10_empty 25 = .ok (.iaload, 1) := by decide +kernel
theorem dX10_empty_26 : decode cX10_empty 26 = .ok (.ifCond .ne 14, 3) := by decide +kernel
theorem dX10_empty_29 : decode cX10_empty 29 = .ok (.aload_n 0, 1) := by decide +kernel
theorem dX10_empty_30 : decode cX10_empty 30 = .ok (.iconst 1, 1) := by decide +kernel
theorem dX10_empty_31 : decode cX10_empty 31 = .ok (.iconst 0, 1) := by decide +kernel
theorem dX10_empty_32 : decode cX10_empty 32 = .ok (.invokevirtual 436, 3) := by decide +kernel
theorem dX10_empty_35 : decode cX10_empty 35 = .ok (.ifCond .ne 5, 3) := by decide +kernel
theorem dX10_empty_38 : decode cX10_empty 38 = .ok (.iload_n 1, 1) := by decide +kernel
theorem dX10_empty_39 : decode cX10_empty 39 = .ok (.ireturn, 1) := by decide +kernel
theorem dX10_empty_40 : decode cX10_empty 40 = .ok (.aload_n 0, 1) := by decide +kernel
theorem dX10_empty_41 : decode cX10_empty 41 = .ok (.iconst 1, 1) := by decide +kernel
theorem dX10_empty_42 : decode cX10_empty 42 = .ok (.iconst 0, 1) := by decide +kernel
theorem dX10_empty_43 : decode cX10_empty 43 = .ok (.invokevirtual 401, 3) := by decide +kernel
theorem dX10_empty_46 : decode cX10_empty 46 = .ok (.iinc 1 1, 3) := by decide +kernel
theorem dX10_empty_49 : decode cX10_empty 49 = .ok (.goto (-36), 3) := by decide +kernel
theorem dX10_empty_52 : decode cX10_empty 52 = .ok (.bipush (-2), 2) := by decide +kernel
theorem dX10_empty_54 : decode cX10_empty 54 = .ok (.ireturn, 1) := by decide +kernel
theorem dX10_rows_0 : decode cX10_rows 0 = .ok (.iload_n 2, 1) := by decide +kernel
theorem dX10_rows_1 : decode cX10_rows 1 = .ok (.ifCond .eq 54, 3) := by decide +kernel
theorem dX10_rows_4 : decode cX10_rows 4 = .ok (.iconst 0, 1) := by decide +kernel
theorem dX10_rows_5 : decode cX10_rows 5 = .ok (.istore_n 3, 1) := by decide +kernel
theorem dX10_rows_6 : decode cX10_rows 6 = .ok (.iload_n 3, 1) := by decide +kernel
theorem dX10_rows_7 : decode cX10_rows 7 = .ok (.aload_n 0, 1) := by decide +kernel
theorem dX10_rows_8 : decode cX10_rows 8 = .ok (.getfield 13, 3) := by decide +kernel
theorem dX10_rows_11 : decode cX10_rows 11 = .ok (.iconst 0, 1) := by decide +kernel
theorem dX10_rows_12 : decode cX10_rows 12 = .ok (.iaload, 1) := by decide +kernel
theorem dX10_rows_13 : decode cX10_rows 13 = .ok (.if_icmp .ge 41, 3) := by decide +kernel
theorem dX10_rows_16 : decode cX10_rows 16 = .ok (.iload_n 2, 1) := by decide +kernel
theorem dX10_rows_17 : decode cX10_rows 17 = .ok (.iload_n 3, 1) := by decide +kernel
theorem dX10_rows_18 : decode cX10_rows 18 = .ok (.ishr, 1) := by decide +kernel
theorem dX10_rows_19 : decode cX10_rows 19 = .ok (.iconst 1, 1) := by decide +kernel
theorem dX10_rows_20 : decode cX10_rows 20 = .ok (.iand, 1) := by decide +kernel
theorem dX10_rows_21 : decode cX10_rows 21 = .ok (.ifCond .ne 6, 3) := by decide +kernel
theorem dX10_rows_24 : decode cX10_rows 24 = .ok (.goto 24, 3) := by decide +kernel
theorem dX10_rows_27 : decode cX10_rows 27 = .ok (.aload_n 0, 1) := by decide +kernel
theorem dX10_rows_28 : decode cX10_rows 28 = .ok (.getfield 108, 3) := by decide +kernel
theorem dX10_rows_31 : decode cX10_rows 31 = .ok (.iload_n 1, 1) := by decide +kernel
theorem dX10_rows_32 : decode cX10_rows 32 = .ok (.iload_n 3, 1) := by decide +kernel
theorem dX10_rows_33 : decode cX10_rows 33 = .ok (.iastore, 1) := by decide +kernel
theorem dX10_rows_34 : decode cX10_rows 34 = .ok (.aload_n 0, 1) := by decide +kernel
theorem dX10_rows_35 : decode cX10_rows 35 = .ok (.iload_n 1, 1) := by decide +kernel
theorem dX10_rows_36 : decode cX10_rows 36 = .ok (.iconst 1, 1) := by decide +kernel
theorem dX10_rows_37 : decode cX10_rows 37 = .ok (.iadd, 1) := by decide +kernel
theorem dX10_rows_38 : decode cX10_rows 38 = .ok (.iload_n 2, 1) := by decide +kernel
theorem dX10_rows_39 : decode cX10_rows 39 = .ok (.iconst 1, 1) := by decide +kernel
theorem dX10_rows_40 : decode cX10_rows 40 = .ok (.iload_n 3, 1) := by decide +kernel
theorem dX10_rows_41 : decode cX10_rows 41 = .ok (.ishl, 1) := by decide +kernel
theorem dX10_rows_42 : decode cX10_rows 42 = .ok (.iconst (-1), 1) := by decide +kernel
theorem dX10_rows_43 : decode cX10_rows 43 = .ok (.ixor, 1) := by decide +kernel
theorem dX10_rows_44 : decode cX10_rows 44 = .ok (.iand, 1) := by decide +kernel
theorem dX10_rows_45 : decode cX10_rows 45 = .ok (.invokevirtual 446, 3) := by decide +kernel
theorem dX10_rows_48 : decode cX10_rows 48 = .ok (.iinc 3 1, 3) := by decide +kernel
theorem dX10_rows_51 : decode cX10_rows 51 = .ok (.goto (-45), 3) := by decide +kernel
theorem dX10_rows_54 : decode cX10_rows 54 = .ok (.return_, 1) := by decide +kernel
theorem dX10_rows_55 : decode cX10_rows 55 = .ok (.aload_n 0, 1) := by decide +kernel
theorem dX10_rows_56 : decode cX10_rows 56 = .ok (.iconst 1, 1) := by decide +kernel
theorem dX10_rows_57 : decode cX10_rows 57 = .ok (.iconst 0, 1) := by decide +kernel
theorem dX10_rows_58 : decode cX10_rows 58 = .ok (.invokevirtual 405, 3) := by decide +kernel
theorem dX10_rows_61 : decode cX10_rows 61 = .ok (.iconst 0, 1) := by decide +kernel
theorem dX10_rows_62 : decode cX10_rows 62 = .ok (.istore_n 3, 1) := by decide +kernel
theorem dX10_rows_63 : decode cX10_rows 63 = .ok (.iload_n 3, 1) := by decide +kernel
theorem dX10_rows_64 : decode cX10_rows 64 = .ok (.iload_n 1, 1) := by decide +kernel
theorem dX10_rows_65 : decode cX10_rows 65 = .ok (.if_icmp .ge 24, 3) := by decide +kernel
theorem dX10_rows_68 : decode cX10_rows 68 = .ok (.aload_n 0, 1) := by decide +kernel
theorem dX10_rows_69 : decode cX10_rows 69 = .ok (.getfield 81, 3) := by decide +kernel
theorem dX10_rows_72 : decode cX10_rows 72 = .ok (.bipush 8, 2) := by decide +kernel
theorem dX10_rows_74 : decode cX10_rows 74 = .ok (.iload_n 3, 1) := by decide +kernel
theorem dX10_rows_75 : decode cX10_rows 75 = .ok (.iadd, 1) := by decide +kernel
theorem dX10_rows_76 : decode cX10_rows 76 = .ok (.aload_n 0, 1) := by decide +kernel
theorem dX10_rows_77 : decode cX10_rows 77 = .ok (.getfield 108, 3) := by decide +kernel
theorem dX10_rows_80 : decode cX10_rows 80 = .ok (.iload_n 3, 1) := by decide +kernel
theorem dX10_rows_81 : decode cX10_rows 81 = .ok (.iaload, 1) := by decide +kernel
theorem dX10_rows_82 : decode cX10_rows 82 = .ok (.iastore, 1) := by decide +kernel
theorem dX10_rows_83 : decode cX10_rows 83 = .ok (.iinc 3 1, 3) := by decide +kernel
theorem dX10_rows_86 : decode cX10_rows 86 = .ok (.goto (-23), 3) := by decide +kernel
theorem dX10_rows_89 : decode cX10_rows 89 = .ok (.aload_n 0, 1) := by decide +kernel
theorem dX10_rows_90 : decode cX10_rows 90 = .ok (.bipush 20, 2) := by decide +kernel
theorem dX10_rows_92 : decode cX10_rows 92 = .ok (.invokevirtual 408, 3) := by decide +kernel
theorem dX10_rows_95 : decode cX10_rows 95 = .ok (.aload_n 0, 1) := by decide +kernel
theorem dX10_rows_96 : decode cX10_rows 96 = .ok (.iconst 1, 1) := by decide +kernel
theorem dX10_rows_97 : decode cX10_rows 97 = .ok (.invokevirtual 439, 3) := by decide +kernel
theorem dX10_rows_100 : decode cX10_rows 100 = .ok (.istore_n 3, 1) := by decide +kernel
theorem dX10_rows_101 : decode cX10_rows 101 = .ok (.iload_n 3, 1) := by decide +kernel
theorem dX10_rows_102 : decode cX10_rows 102 = .ok (.aload_n 0, 1) := by decide +kernel
theorem dX10_rows_103 : decode cX10_rows 103 = .ok (.getfield 449, 3) := by decide +kernel
theorem dX10_rows_106 : decode cX10_rows 106 = .ok (.if_icmp .gt 4, 3) := by decide +kernel
theorem dX10_rows_109 : decode cX10_rows 109 = .ok (.return_, 1) := by decide +kernel
theorem dX10_rows_110 : decode cX10_rows 110 = .ok (.aload_n 0, 1) := by decide +kernel
theorem dX10_rows_111 : decode cX10_rows 111 = .ok (.iload_n 3, 1) := by decide +kernel
theorem dX10_rows_112 : decode cX10_rows 112 = .ok (.putfield 449, 3) := by decide +kernel
theorem dX10_rows_115 : decode cX10_rows 115 = .ok (.iconst 0, 1) := by decide +kernel
theorem dX10_rows_116 : decode cX10_rows 116 = .ok (.istore 4, 2) := by decide +kernel
theorem dX10_rows_118 : decode cX10_rows 118 = .ok (.iload 4, 2) := by decide +kernel
theorem dX10_rows_120 : decode cX10_rows 120 = .ok (.iload_n 1, 1) := by decide +kernel
theorem dX10_rows_121 : decode cX10_rows 121 = .ok (.if_icmp .ge 23, 3) := by decide +kernel
theorem dX10_rows_124 : decode cX10_rows 124 = .ok (.aload_n 0, 1) := by decide +kernel
theorem dX10_rows_125 : decode cX10_rows 125 = .ok (.getfield 111, 3) := by decide +kernel
theorem dX10_rows_128 : decode cX10_rows 128 = .ok (.iload 4, 2) := by decide +kernel
theorem dX10_rows_130 : decode cX10_rows 130 = .ok (.aload_n 0, 1) := by decide +kernel
theorem dX10_rows_131 : decode cX10_rows 131 = .ok (.getfield 108, 3) := by decide +kernel
theorem dX10_rows_134 : decode cX10_rows 134 = .ok (.iload 4, 2) := by decide +kernel
theorem dX10_rows_136 : decode cX10_rows 136 = .ok (.iaload, 1) := by decide +kernel
theorem dX10_rows_137 : decode cX10_rows 137 = .ok (.iastore, 1) := by decide +kernel
theorem dX10_rows_138 : decode cX10_rows 138 = .ok (.iinc 4 1, 3) := by decide +kernel
theorem dX10_rows_141 : decode cX10_rows 141 = .ok (.goto (-23), 3) := by decide +kernel
theorem dX10_rows_144 : decode cX10_rows 144 = .ok (.return_, 1) := by decide +kernel
theorem dX10_order_0 : decode cX10_order 0 = .ok (.aload_n 0, 1) := by decide +kernel
theorem dX10_order_1 : decode cX10_order 1 = .ok (.iconst 0, 1) := by decide +kernel
theorem dX10_order_2 : decode cX10_order 2 = .ok (.putfield 142, 3) := by decide +kernel
theorem dX10_order_5 : decode cX10_order 5 = .ok (.iload_n 1, 1) := by decide +kernel
theorem dX10_order_6 : decode cX10_order 6 = .ok (.ifCond .lt 8, 3) := by decide +kernel
theorem dX10_order_9 : decode cX10_order 9 = .ok (.iload_n 1, 1) := by decide +kernel
theorem dX10_order_10 : decode cX10_order 10 = .ok (.iconst 4, 1) := by decide +kernel
theorem dX10_order_11 : decode cX10_order 11 = .ok (.if_icmp .le 5, 3) := by decide +kernel
theorem dX10_order_14 : decode cX10_order 14 = .ok (.iconst (-1), 1) := by decide +kernel
theorem dX10_order_15 : decode cX10_order 15 = .ok (.ireturn, 1) := by decide +kernel
theorem dX10_order_16 : decode cX10_order 16 = .ok (.iconst 4, 1) := by decide +kernel
theorem dX10_order_17 : decode cX10_order 17 = .ok (.aload_n 0, 1) := by decide +kernel
theorem dX10_order_18 : decode cX10_order 18 = .ok (.getfield 78, 3) := by decide +kernel
theorem dX10_order_21 : decode cX10_order 21 = .ok (.iconst 0, 1) := by decide +kernel
theorem dX10_order_22 : decode cX10_order 22 = .ok (.iaload, 1) := by decide +kernel
theorem dX10_order_23 : decode cX10_order 23 = .ok (.invokestatic 399, 3) := by decide +kernel
theorem dX10_order_26 : decode cX10_order 26 = .ok (.istore_n 2, 1) := by decide +kernel
theorem dX10_order_27 : decode cX10_order 27 = .ok (.iconst 0, 1) := by decide +kernel
theorem dX10_order_28 : decode cX10_order 28 = .ok (.istore_n 3, 1) := by decide +kernel
theorem dX10_order_29 : decode cX10_order 29 = .ok (.iconst 0, 1) := by decide +kernel
theorem dX10_order_30 : decode cX10_order 30 = .ok (.istore 4, 2) := by decide +kernel
theorem dX10_order_32 : decode cX10_order 32 = .ok (.iload 4, 2) := by decide +kernel
theorem dX10_order_34 : decode cX10_order 34 = .ok (.iload_n 2, 1) := by decide +kernel
theorem dX10_order_35 : decode cX10_order 35 = .ok (.if_icmp .ge 21, 3) := by decide +kernel
theorem dX10_order_38 : decode cX10_order 38 = .ok (.iload_n 3, 1) := by decide +kernel
theorem dX10_order_39 : decode cX10_order 39 = .ok (.iconst 1, 1) := by decide +kernel
theorem dX10_order_40 : decode cX10_order 40 = .ok (.aload_n 0, 1) := by decide +kernel
theorem dX10_order_41 : decode cX10_order 41 = .ok (.getfield 81, 3) := by decide +kernel
theorem dX10_order_44 : decode cX10_order 44 = .ok (.iload 4, 2) := by decide +kernel
theorem dX10_order_46 : decode cX10_order 46 = .ok (.iaload, 1) := by decide +kernel
theorem dX10_order_47 : decode cX10_order 47 = .ok (.ishl, 1) := by decide +kernel
theorem dX10_order_48 : decode cX10_order 48 = .ok (.ior, 1) := by decide +kernel
theorem dX10_order_49 : decode cX10_order 49 = .ok (.istore_n 3, 1) := by decide +kernel
theorem dX10_order_50 : decode cX10_order 50 = .ok (.iinc 4 1, 3) := by decide +kernel
theorem dX10_order_53 : decode cX10_order 53 = .ok (.goto (-21), 3) := by decide +kernel
theorem dX10_order_56 : decode cX10_order 56 = .ok (.aload_n 0, 1) := by decide +kernel
theorem dX10_order_57 : decode cX10_order 57 = .ok (.iconst (-1), 1) := by decide +kernel
theorem dX10_order_58 : decode cX10_order 58 = .ok (.putfield 449, 3) := by decide +kernel
theorem dX10_order_61 : decode cX10_order 61 = .ok (.aload_n 0, 1) := by decide +kernel
theorem dX10_order_62 : decode cX10_order 62 = .ok (.iconst 0, 1) := by decide +kernel
theorem dX10_order_63 : decode cX10_order 63 = .ok (.iload_n 3, 1) := by decide +kernel
theorem dX10_order_64 : decode cX10_order 64 = .ok (.invokevirtual 446, 3) := by decide +kernel
theorem dX10_order_67 : decode cX10_order 67 = .ok (.iload_n 1, 1) := by decide +kernel
theorem dX10_order_68 : decode cX10_order 68 = .ok (.iconst 4, 1) := by decide +kernel
theorem dX10_order_69 : decode cX10_order 69 = .ok (.if_icmp .ne 10, 3) := by decide +kernel
theorem dX10_order_72 : decode cX10_order 72 = .ok (.aload_n 0, 1) := by decide +kernel
theorem dX10_order_73 : decode cX10_order 73 = .ok (.getfield 449, 3) := by decide +kernel
theorem dX10_order_76 : decode cX10_order 76 = .ok (.goto 19, 3) := by decide +kernel
theorem dX10_order_79 : decode cX10_order 79 = .ok (.iload_n 1, 1) := by decide +kernel
theorem dX10_order_80 : decode cX10_order 80 = .ok (.iload_n 2, 1) := by decide +kernel
theorem dX10_order_81 : decode cX10_order 81 = .ok (.if_icmp .ge 12, 3) := by decide +kernel
theorem dX10_order_84 : decode cX10_order 84 = .ok (.aload_n 0, 1) := by decide +kernel
theorem dX10_order_85 : decode cX10_order 85 = .ok (.getfield 111, 3) := by decide +kernel
theorem dX10_order_88 : decode cX10_order 88 = .ok (.iload_n 1, 1) := by decide +kernel
theorem dX10_order_89 : decode cX10_order 89 = .ok (.iaload, 1) := by decide +kernel
theorem dX10_order_90 : decode cX10_order 90 = .ok (.goto 5, 3) := by decide +kernel
theorem dX10_order_93 : decode cX10_order 93 = .ok (.bipush (-2), 2) := by decide +kernel
theorem dX10_order_95 : decode cX10_order 95 = .ok (.ireturn, 1) := by decide +kernel
theorem dX10_trips_0 : decode cX10_trips 0 = .ok (.aload_n 0, 1) := by decide +kernel
theorem dX10_trips_1 : decode cX10_trips 1 = .ok (.iconst 0, 1) := by decide +kernel
theorem dX10_trips_2 : decode cX10_trips 2 = .ok (.putfield 142, 3) := by decide +kernel
theorem dX10_trips_5 : decode cX10_trips 5 = .ok (.aload_n 0, 1) := by decide +kernel
theorem dX10_trips_6 : decode cX10_trips 6 = .ok (.iload_n 1, 1) := by decide +kernel
theorem dX10_trips_7 : decode cX10_trips 7 = .ok (.invokevirtual 420, 3) := by decide +kernel
theorem dX10_trips_10 : decode cX10_trips 10 = .ok (.ifCond .ne 5, 3) := by decide +kernel
theorem dX10_trips_13 : decode cX10_trips 13 = .ok (.iconst (-1), 1) := by decide +kernel
theorem dX10_trips_14 : decode cX10_trips 14 = .ok (.ireturn, 1) := by decide +kernel
theorem dX10_trips_15 : decode cX10_trips 15 = .ok (.iconst 0, 1) := by decide +kernel
theorem dX10_trips_16 : decode cX10_trips 16 = .ok (.istore_n 2, 1) := by decide +kernel
theorem dX10_trips_17 : decode cX10_trips 17 = .ok (.iconst 0, 1) := by decide +kernel
theorem dX10_trips_18 : decode cX10_trips 18 = .ok (.istore_n 3, 1) := by decide +kernel
theorem dX10_trips_19 : decode cX10_trips 19 = .ok (.iload_n 3, 1) := by decide +kernel
theorem dX10_trips_20 : decode cX10_trips 20 = .ok (.aload_n 0, 1) := by decide +kernel
theorem dX10_trips_21 : decode cX10_trips 21 = .ok (.getfield 78, 3) := by decide +kernel
theorem dX10_trips_24 : decode cX10_trips 24 = .ok (.iconst 0, 1) := by decide +kernel
theorem dX10_trips_25 : decode cX10_trips 25 = .ok (.iaload, 1) := by decide +kernel
theorem dX10_trips_26 : decode cX10_trips 26 = .ok (.if_icmp .ge 32, 3) := by decide +kernel
theorem dX10_trips_29 : decode cX10_trips 29 = .ok (.iload_n 2, 1) := by decide +kernel
theorem dX10_trips_30 : decode cX10_trips 30 = .ok (.aload_n 0, 1) := by decide +kernel
theorem dX10_trips_31 : decode cX10_trips 31 = .ok (.iconst 0, 1) := by decide +kernel
theorem dX10_trips_32 : decode cX10_trips 32 = .ok (.aload_n 0, 1) := by decide +kernel
theorem dX10_trips_33 : decode cX10_trips 33 = .ok (.getfield 81, 3) := by decide +kernel
theorem dX10_trips_36 : decode cX10_trips 36 = .ok (.iload_n 3, 1) := by decide +kernel
theorem dX10_trips_37 : decode cX10_trips 37 = .ok (.iaload, 1) := by decide +kernel
theorem dX10_trips_38 : decode cX10_trips 38 = .ok (.iload_n 1, 1) := by decide +kernel
theorem dX10_trips_39 : decode cX10_trips 39 = .ok (.invokevirtual 362, 3) := by decide +kernel
theorem dX10_trips_42 : decode cX10_trips 42 = .ok (.ifCond .eq 7, 3) := by decide +kernel
theorem dX10_trips_45 : decode cX10_trips 45 = .ok (.iconst 1, 1) := by decide +kernel
theorem dX10_trips_46 : decode cX10_trips 46 = .ok (.goto 4, 3) := by decide +kernel
theorem dX10_trips_49 : decode cX10_trips 49 = .ok (.iconst 0, 1) := by decide +kernel
theorem dX10_trips_50 : decode cX10_trips 50 = .ok (.iadd, 1) := by decide +kernel
theorem dX10_trips_51 : decode cX10_trips 51 = .ok (.istore_n 2, 1) := by decide +kernel
theorem dX10_trips_52 : decode cX10_trips 52 = .ok (.iinc 3 1, 3) := by decide +kernel
theorem dX10_trips_55 : decode cX10_trips 55 = .ok (.goto (-36), 3) := by decide +kernel
theorem dX10_trips_58 : decode cX10_trips 58 = .ok (.iload_n 2, 1) := by decide +kernel
theorem dX10_trips_59 : decode cX10_trips 59 = .ok (.aload_n 0, 1) := by decide +kernel
theorem dX10_trips_60 : decode cX10_trips 60 = .ok (.getfield 37, 3) := by decide +kernel
theorem dX10_trips_63 : decode cX10_trips 63 = .ok (.iload_n 1, 1) := by decide +kernel
theorem dX10_trips_64 : decode cX10_trips 64 = .ok (.iaload, 1) := by decide +kernel
theorem dX10_trips_65 : decode cX10_trips 65 = .ok (.iadd, 1) := by decide +kernel
theorem dX10_trips_66 : decode cX10_trips 66 = .ok (.iconst 1, 1) := by decide +kernel
theorem dX10_trips_67 : decode cX10_trips 67 = .ok (.isub, 1) := by decide +kernel
theorem dX10_trips_68 : decode cX10_trips 68 = .ok (.aload_n 0, 1) := by decide +kernel
theorem dX10_trips_69 : decode cX10_trips 69 = .ok (.getfield 37, 3) := by decide +kernel
theorem dX10_trips_72 : decode cX10_trips 72 = .ok (.iload_n 1, 1) := by decide +kernel
theorem dX10_trips_73 : decode cX10_trips 73 = .ok (.iaload, 1) := by decide +kernel
theorem dX10_trips_74 : decode cX10_trips 74 = .ok (.idiv, 1) := by decide +kernel
theorem dX10_trips_75 : decode cX10_trips 75 = .ok (.ireturn, 1) := by decide +kernel
theorem dX10_matches_0 : decode cX10_matches 0 = .ok (.iload_n 1, 1) := by decide +kernel
theorem dX10_matches_1 : decode cX10_matches 1 = .ok (.aload_n 0, 1) := by decide +kernel
theorem dX10_matches_2 : decode cX10_matches 2 = .ok (.getfield 13, 3) := by decide +kernel
theorem dX10_matches_5 : decode cX10_matches 5 = .ok (.iconst 1, 1) := by decide +kernel
theorem dX10_matches_6 : decode cX10_matches 6 = .ok (.iaload, 1) := by decide +kernel
theorem dX10_matches_7 : decode cX10_matches 7 = .ok (.if_icmp .ne 47, 3) := by decide +kernel
theorem dX10_matches_10 : decode cX10_matches 10 = .ok (.iload_n 3, 1) := by decide +kernel
theorem dX10_matches_11 : decode cX10_matches 11 = .ok (.aload_n 0, 1) := by decide +kernel
theorem dX10_matches_12 : decode cX10_matches 12 = .ok (.getfield 452, 3) := by decide +kernel
theorem dX10_matches_15 : decode cX10_matches 15 = .ok (.if_icmp .gt 4, 3) := by decide +kernel
theorem dX10_matches_18 : decode cX10_matches 18 = .ok (.return_, 1) := by decide +kernel
theorem dX10_matches_19 : decode cX10_matches 19 = .ok (.aload_n 0, 1) := by decide +kernel
theorem dX10_matches_20 : decode cX10_matches 20 = .ok (.iload_n 3, 1) := by decide +kernel
theorem dX10_matches_21 : decode cX10_matches 21 = .ok (.putfield 452, 3) := by decide +kernel
theorem dX10_matches_24 : decode cX10_matches 24 = .ok (.iconst 0, 1) := by decide +kernel
theorem dX10_matches_25 : decode cX10_matches 25 = .ok (.istore 4, 2) := by decide +kernel
theorem dX10_matches_27 : decode cX10_matches 27 = .ok (.iload 4, 2) := by decide +kernel
theorem dX10_matches_29 : decode cX10_matches 29 = .ok (.iload_n 1, 1) := by decide +kernel
theorem dX10_matches_30 : decode cX10_matches 30 = .ok (.if_icmp .ge 23, 3) := by decide +kernel
theorem dX10_matches_33 : decode cX10_matches 33 = .ok (.aload_n 0, 1) := by decide +kernel
theorem dX10_matches_34 : decode cX10_matches 34 = .ok (.getfield 117, 3) := by decide +kernel
theorem dX10_matches_37 : decode cX10_matches 37 = .ok (.iload 4, 2) := by decide +kernel
theorem dX10_matches_39 : decode cX10_matches 39 = .ok (.aload_n 0, 1) := by decide +kernel
theorem dX10_matches_40 : decode cX10_matches 40 = .ok (.getfield 114, 3) := by decide +kernel
theorem dX10_matches_43 : decode cX10_matches 43 = .ok (.iload 4, 2) := by decide +kernel
theorem dX10_matches_45 : decode cX10_matches 45 = .ok (.iaload, 1) := by decide +kernel
theorem dX10_matches_46 : decode cX10_matches 46 = .ok (.iastore, 1) := by decide +kernel
theorem dX10_matches_47 : decode cX10_matches 47 = .ok (.iinc 4 1, 3) := by decide +kernel
theorem dX10_matches_50 : decode cX10_matches 50 = .ok (.goto (-23), 3) := by decide +kernel
theorem dX10_matches_53 : decode cX10_matches 53 = .ok (.return_, 1) := by decide +kernel
theorem dX10_matches_54 : decode cX10_matches 54 = .ok (.iconst 0, 1) := by decide +kernel
theorem dX10_matches_55 : decode cX10_matches 55 = .ok (.istore 4, 2) := by decide +kernel
theorem dX10_matches_57 : decode cX10_matches 57 = .ok (.iload 4, 2) := by decide +kernel
theorem dX10_matches_59 : decode cX10_matches 59 = .ok (.aload_n 0, 1) := by decide +kernel
theorem dX10_matches_60 : decode cX10_matches 60 = .ok (.getfield 13, 3) := by decide +kernel
theorem dX10_matches_63 : decode cX10_matches 63 = .ok (.iconst 0, 1) := by decide +kernel
theorem dX10_matches_64 : decode cX10_matches 64 = .ok (.iaload, 1) := by decide +kernel
theorem dX10_matches_65 : decode cX10_matches 65 = .ok (.if_icmp .ge 74, 3) := by decide +kernel
theorem dX10_matches_68 : decode cX10_matches 68 = .ok (.aload_n 0, 1) := by decide +kernel
theorem dX10_matches_69 : decode cX10_matches 69 = .ok (.getfield 84, 3) := by decide +kernel
theorem dX10_matches_72 : decode cX10_matches 72 = .ok (.iload 4, 2) := by decide +kernel
theorem dX10_matches_74 : decode cX10_matches 74 = .ok (.iaload, 1) := by decide +kernel
theorem dX10_matches_75 : decode cX10_matches 75 = .ok (.iconst 1, 1) := by decide +kernel
theorem dX10_matches_76 : decode cX10_matches 76 = .ok (.if_icmp .ne 57, 3) := by decide +kernel
theorem dX10_matches_79 : decode cX10_matches 79 = .ok (.iload_n 2, 1) := by decide +kernel
theorem dX10_matches_80 : decode cX10_matches 80 = .ok (.iload 4, 2) := by decide +kernel
theorem dX10_matches_82 : decode cX10_matches 82 = .ok (.ishr, 1) := by decide +kernel
theorem dX10_matches_83 : decode cX10_matches 83 = .ok (.iconst 1, 1) := by decide +kernel
theorem dX10_matches_84 : decode cX10_matches 84 = .ok (.iand, 1) := by decide +kernel
theorem dX10_matches_85 : decode cX10_matches 85 = .ok (.iconst 1, 1) := by decide +kernel
theorem dX10_matches_86 : decode cX10_matches 86 = .ok (.if_icmp .eq 47, 3) := by decide +kernel
theorem dX10_matches_89 : decode cX10_matches 89 = .ok (.aload_n 0, 1) := by decide +kernel
theorem dX10_matches_90 : decode cX10_matches 90 = .ok (.iconst 0, 1) := by decide +kernel
theorem dX10_matches_91 : decode cX10_matches 91 = .ok (.iload 4, 2) := by decide +kernel
theorem dX10_matches_93 : decode cX10_matches 93 = .ok (.iload_n 1, 1) := by decide +kernel
theorem dX10_matches_94 : decode cX10_matches 94 = .ok (.invokevirtual 362, 3) := by decide +kernel
theorem dX10_matches_97 : decode cX10_matches 97 = .ok (.ifCond .ne 6, 3) := by decide +kernel
theorem dX10_matches_100 : decode cX10_matches 100 = .ok (.goto 33, 3) := by decide +kernel
theorem dX10_matches_103 : decode cX10_matches 103 = .ok (.aload_n 0, 1) := by decide +kernel
theorem dX10_matches_104 : decode cX10_matches 104 = .ok (.getfield 114, 3) := by decide +kernel
theorem dX10_matches_107 : decode cX10_matches 107 = .ok (.iload_n 1, 1) := by decide +kernel
theorem dX10_matches_108 : decode cX10_matches 108 = .ok (.iload 4, 2) := by decide +kernel
theorem dX10_matches_110 : decode cX10_matches 110 = .ok (.iastore, 1) := by decide +kernel
theorem dX10_matches_111 : decode cX10_matches 111 = .ok (.aload_n 0, 1) := by decide +kernel
theorem dX10_matches_112 : decode cX10_matches 112 = .ok (.iload_n 1, 1) := by decide +kernel
theorem dX10_matches_113 : decode cX10_matches 113 = .ok (.iconst 1, 1) := by decide +kernel
theorem dX10_matches_114 : decode cX10_matches 114 = .ok (.iadd, 1) := by decide +kernel
theorem dX10_matches_115 : decode cX10_matches 115 = .ok (.iload_n 2, 1) := by decide +kernel
theorem dX10_matches_116 : decode cX10_matches 116 = .ok (.iconst 1, 1) := by decide +kernel
theorem dX10_matches_117 : decode cX10_matches 117 = .ok (.iload 4, 2) := by decide +kernel
theorem dX10_matches_119 : decode cX10_matches 119 = .ok (.ishl, 1) := by decide +kernel
theorem dX10_matches_120 : decode cX10_matches 120 = .ok (.ior, 1) := by decide +kernel
theorem dX10_matches_121 : decode cX10_matches 121 = .ok (.iload_n 3, 1) := by decide +kernel
theorem dX10_matches_122 : decode cX10_matches 122 = .ok (.aload_n 0, 1) := by decide +kernel
theorem dX10_matches_123 : decode cX10_matches 123 = .ok (.getfield 22, 3) := by decide +kernel
theorem dX10_matches_126 : decode cX10_matches 126 = .ok (.iload 4, 2) := by decide +kernel
theorem dX10_matches_128 : decode cX10_matches 128 = .ok (.iaload, 1) := by decide +kernel
theorem dX10_matches_129 : decode cX10_matches 129 = .ok (.iadd, 1) := by decide +kernel
theorem dX10_matches_130 : decode cX10_matches 130 = .ok (.invokevirtual 455, 3) := by decide +kernel
theorem dX10_matches_133 : decode cX10_matches 133 = .ok (.iinc 4 1, 3) := by decide +kernel
theorem dX10_matches_136 : decode cX10_matches 136 = .ok (.goto (-79), 3) := by decide +kernel
theorem dX10_matches_139 : decode cX10_matches 139 = .ok (.aload_n 0, 1) := by decide +kernel
theorem dX10_matches_140 : decode cX10_matches 140 = .ok (.getfield 114, 3) := by decide +kernel
theorem dX10_matches_143 : decode cX10_matches 143 = .ok (.iload_n 1, 1) := by decide +kernel
theorem dX10_matches_144 : decode cX10_matches 144 = .ok (.bipush (-2), 2) := by decide +kernel
theorem dX10_matches_146 : decode cX10_matches 146 = .ok (.iastore, 1) := by decide +kernel
theorem dX10_matches_147 : decode cX10_matches 147 = .ok (.aload_n 0, 1) := by decide +kernel
theorem dX10_matches_148 : decode cX10_matches 148 = .ok (.iload_n 1, 1) := by decide +kernel
theorem dX10_matches_149 : decode cX10_matches 149 = .ok (.iconst 1, 1) := by decide +kernel
theorem dX10_matches_150 : decode cX10_matches 150 = .ok (.iadd, 1) := by decide +kernel
theorem dX10_matches_151 : decode cX10_matches 151 = .ok (.iload_n 2, 1) := by decide +kernel
theorem dX10_matches_152 : decode cX10_matches 152 = .ok (.iload_n 3, 1) := by decide +kernel
theorem dX10_matches_153 : decode cX10_matches 153 = .ok (.invokevirtual 455, 3) := by decide +kernel
theorem dX10_matches_156 : decode cX10_matches 156 = .ok (.return_, 1) := by decide +kernel
theorem dX10_match_0 : decode cX10_match 0 = .ok (.aload_n 0, 1) := by decide +kernel
theorem dX10_match_1 : decode cX10_match 1 = .ok (.iconst 0, 1) := by decide +kernel
theorem dX10_match_2 : decode cX10_match 2 = .ok (.putfield 142, 3) := by decide +kernel
theorem dX10_match_5 : decode cX10_match 5 = .ok (.iload_n 1, 1) := by decide +kernel
theorem dX10_match_6 : decode cX10_match 6 = .ok (.ifCond .lt 8, 3) := by decide +kernel
theorem dX10_match_9 : decode cX10_match 9 = .ok (.iload_n 1, 1) := by decide +kernel
theorem dX10_match_10 : decode cX10_match 10 = .ok (.iconst 4, 1) := by decide +kernel
theorem dX10_match_11 : decode cX10_match 11 = .ok (.if_icmp .le 5, 3) := by decide +kernel
theorem dX10_match_14 : decode cX10_match 14 = .ok (.iconst (-1), 1) := by decide +kernel
theorem dX10_match_15 : decode cX10_match 15 = .ok (.ireturn, 1) := by decide +kernel
theorem dX10_match_16 : decode cX10_match 16 = .ok (.aload_n 0, 1) := by decide +kernel
theorem dX10_match_17 : decode cX10_match 17 = .ok (.iconst (-1), 1) := by decide +kernel
theorem dX10_match_18 : decode cX10_match 18 = .ok (.putfield 452, 3) := by decide +kernel
theorem dX10_match_21 : decode cX10_match 21 = .ok (.aload_n 0, 1) := by decide +kernel
theorem dX10_match_22 : decode cX10_match 22 = .ok (.iconst 0, 1) := by decide +kernel
theorem dX10_match_23 : decode cX10_match 23 = .ok (.iconst 0, 1) := by decide +kernel
theorem dX10_match_24 : decode cX10_match 24 = .ok (.iconst 0, 1) := by decide +kernel
theorem dX10_match_25 : decode cX10_match 25 = .ok (.invokevirtual 455, 3) := by decide +kernel
theorem dX10_match_28 : decode cX10_match 28 = .ok (.iload_n 1, 1) := by decide +kernel
theorem dX10_match_29 : decode cX10_match 29 = .ok (.iconst 4, 1) := by decide +kernel
theorem dX10_match_30 : decode cX10_match 30 = .ok (.if_icmp .ne 10, 3) := by decide +kernel
theorem dX10_match_33 : decode cX10_match 33 = .ok (.aload_n 0, 1) := by decide +kernel
theorem dX10_match_34 : decode cX10_match 34 = .ok (.getfield 452, 3) := by decide +kernel
theorem dX10_match_37 : decode cX10_match 37 = .ok (.goto 24, 3) := by decide +kernel
theorem dX10_match_40 : decode cX10_match 40 = .ok (.iload_n 1, 1) := by decide +kernel
theorem dX10_match_41 : decode cX10_match 41 = .ok (.aload_n 0, 1) := by decide +kernel
theorem dX10_match_42 : decode cX10_match 42 = .ok (.getfield 13, 3) := by decide +kernel
theorem dX10_match_45 : decode cX10_match 45 = .ok (.iconst 1, 1) := by decide +kernel
theorem dX10_match_46 : decode cX10_match 46 = .ok (.iaload, 1) := by decide +kernel
theorem dX10_match_47 : decode cX10_match 47 = .ok (.if_icmp .ge 12, 3) := by decide +kernel
theorem dX10_match_50 : decode cX10_match 50 = .ok (.aload_n 0, 1) := by decide +kernel
theorem dX10_match_51 : decode cX10_match 51 = .ok (.getfield 117, 3) := by decide +kernel
theorem dX10_match_54 : decode cX10_match 54 = .ok (.iload_n 1, 1) := by decide +kernel
theorem dX10_match_55 : decode cX10_match 55 = .ok (.iaload, 1) := by decide +kernel
theorem dX10_match_56 : decode cX10_match 56 = .ok (.goto 5, 3) := by decide +kernel
theorem dX10_match_59 : decode cX10_match 59 = .ok (.bipush (-2), 2) := by decide +kernel
theorem dX10_match_61 : decode cX10_match 61 = .ok (.ireturn, 1) := by decide +kernel
theorem dX10_isGoneBy_0 : decode cX10_isGoneBy 0 = .ok (.aload_n 0, 1) := by decide +kernel
theorem dX10_isGoneBy_1 : decode cX10_isGoneBy 1 = .ok (.iconst 1, 1) := by decide +kernel
theorem dX10_isGoneBy_2 : decode cX10_isGoneBy 2 = .ok (.iconst 0, 1) := by decide +kernel
theorem dX10_isGoneBy_3 : decode cX10_isGoneBy 3 = .ok (.invokevirtual 405, 3) := by decide +kernel
theorem dX10_isGoneBy_6 : decode cX10_isGoneBy 6 = .ok (.aload_n 0, 1) := by decide +kernel
theorem dX10_isGoneBy_7 : decode cX10_isGoneBy 7 = .ok (.getfield 87, 3) := by decide +kernel
theorem dX10_isGoneBy_10 : decode cX10_isGoneBy 10 = .ok (.bipush 8, 2) := by decide +kernel
theorem dX10_isGoneBy_12 : decode cX10_isGoneBy 12 = .ok (.iload_n 1, 1) := by decide +kernel
theorem dX10_isGoneBy_13 : decode cX10_isGoneBy 13 = .ok (.iadd, 1) := by decide +kernel
theorem dX10_isGoneBy_14 : decode cX10_isGoneBy 14 = .ok (.bipush 99, 2) := by decide +kernel
theorem dX10_isGoneBy_16 : decode cX10_isGoneBy 16 = .ok (.aload_n 0, 1) := by decide +kernel
theorem dX10_isGoneBy_17 : decode cX10_isGoneBy 17 = .ok (.getfield 87, 3) := by decide +kernel
theorem dX10_isGoneBy_20 : decode cX10_isGoneBy 20 = .ok (.bipush 8, 2) := by decide +kernel
theorem dX10_isGoneBy_22 : decode cX10_isGoneBy 22 = .ok (.iload_n 1, 1) := by decide +kernel
theorem dX10_isGoneBy_23 : decode cX10_isGoneBy 23 = .ok (.iadd, 1) := by decide +kernel
theorem dX10_isGoneBy_24 : decode cX10_isGoneBy 24 = .ok (.iaload, 1) := by decide +kernel
theorem dX10_isGoneBy_25 : decode cX10_isGoneBy 25 = .ok (.iload_n 2, 1) := by decide +kernel
theorem dX10_isGoneBy_26 : decode cX10_isGoneBy 26 = .ok (.iadd, 1) := by decide +kernel
theorem dX10_isGoneBy_27 : decode cX10_isGoneBy 27 = .ok (.invokestatic 399, 3) := by decide +kernel
theorem dX10_isGoneBy_30 : decode cX10_isGoneBy 30 = .ok (.iastore, 1) := by decide +kernel
theorem dX10_isGoneBy_31 : decode cX10_isGoneBy 31 = .ok (.aload_n 0, 1) := by decide +kernel
theorem dX10_isGoneBy_32 : decode cX10_isGoneBy 32 = .ok (.bipush 60, 2) := by decide +kernel
theorem dX10_isGoneBy_34 : decode cX10_isGoneBy 34 = .ok (.invokevirtual 408, 3) := by decide +kernel
theorem dX10_isGoneBy_37 : decode cX10_isGoneBy 37 = .ok (.aload_n 0, 1) := by decide +kernel
theorem dX10_isGoneBy_38 : decode cX10_isGoneBy 38 = .ok (.getfield 84, 3) := by decide +kernel
theorem dX10_isGoneBy_41 : decode cX10_isGoneBy 41 = .ok (.bipush 8, 2) := by decide +kernel
theorem dX10_isGoneBy_43 : decode cX10_isGoneBy 43 = .ok (.iload_n 1, 1) := by decide +kernel
theorem dX10_isGoneBy_44 : decode cX10_isGoneBy 44 = .ok (.iadd, 1) := by decide +kernel
theorem dX10_isGoneBy_45 : decode cX10_isGoneBy 45 = .ok (.iaload, 1) := by decide +kernel
theorem dX10_isGoneBy_46 : decode cX10_isGoneBy 46 = .ok (.iconst 2, 1) := by decide +kernel
theorem dX10_isGoneBy_47 : decode cX10_isGoneBy 47 = .ok (.if_icmp .ne 7, 3) := by decide +kernel
theorem dX10_isGoneBy_50 : decode cX10_isGoneBy 50 = .ok (.iconst 1, 1) := by decide +kernel
theorem dX10_isGoneBy_51 : decode cX10_isGoneBy 51 = .ok (.goto 4, 3) := by decide +kernel
theorem dX10_isGoneBy_54 : decode cX10_isGoneBy 54 = .ok (.iconst 0, 1) := by decide +kernel
theorem dX10_isGoneBy_55 : decode cX10_isGoneBy 55 = .ok (.ireturn, 1) := by decide +kernel
theorem dX10_coins_0 : decode cX10_coins 0 = .ok (.aload_n 0, 1) := by decide +kernel
theorem dX10_coins_1 : decode cX10_coins 1 = .ok (.iconst 0, 1) := by decide +kernel
theorem dX10_coins_2 : decode cX10_coins 2 = .ok (.putfield 142, 3) := by decide +kernel
theorem dX10_coins_5 : decode cX10_coins 5 = .ok (.aload_n 0, 1) := by decide +kernel
theorem dX10_coins_6 : decode cX10_coins 6 = .ok (.iload_n 1, 1) := by decide +kernel
theorem dX10_coins_7 : decode cX10_coins 7 = .ok (.invokevirtual 411, 3) := by decide +kernel
theorem dX10_coins_10 : decode cX10_coins 10 = .ok (.ifCond .ne 5, 3) := by decide +kernel
theorem dX10_coins_13 : decode cX10_coins 13 = .ok (.iconst (-1), 1) := by decide +kernel
theorem dX10_coins_14 : decode cX10_coins 14 = .ok (.ireturn, 1) := by decide +kernel
theorem dX10_coins_15 : decode cX10_coins 15 = .ok (.iconst 0, 1) := by decide +kernel
theorem dX10_coins_16 : decode cX10_coins 16 = .ok (.istore_n 2, 1) := by decide +kernel
theorem dX10_coins_17 : decode cX10_coins 17 = .ok (.iload_n 2, 1) := by decide +kernel
theorem dX10_coins_18 : decode cX10_coins 18 = .ok (.bipush 99, 2) := by decide +kernel
theorem dX10_coins_20 : decode cX10_coins 20 = .ok (.if_icmp .gt 20, 3) := by decide +kernel
theorem dX10_coins_23 : decode cX10_coins 23 = .ok (.aload_n 0, 1) := by decide +kernel
theorem dX10_coins_24 : decode cX10_coins 24 = .ok (.iload_n 1, 1) := by decide +kernel
theorem dX10_coins_25 : decode cX10_coins 25 = .ok (.iload_n 2, 1) := by decide +kernel
theorem dX10_coins_26 : decode cX10_coins 26 = .ok (.invokevirtual 458, 3) := by decide +kernel
theorem dX10_coins_29 : decode cX10_coins 29 = .ok (.ifCond .eq 5, 3) := by decide +kernel
theorem dX10_coins_32 : decode cX10_coins 32 = .ok (.iload_n 2, 1) := by decide +kernel
theorem dX10_coins_33 : decode cX10_coins 33 = .ok (.ireturn, 1) := by decide +kernel
theorem dX10_coins_34 : decode cX10_coins 34 = .ok (.iinc 2 1, 3) := by decide +kernel
theorem dX10_coins_37 : decode cX10_coins 37 = .ok (.goto (-20), 3) := by decide +kernel
theorem dX10_coins_40 : decode cX10_coins 40 = .ok (.bipush (-2), 2) := by decide +kernel
theorem dX10_coins_42 : decode cX10_coins 42 = .ok (.ireturn, 1) := by decide +kernel
theorem dX10_hasOf_0 : decode cX10_hasOf 0 = .ok (.iload_n 3, 1) := by decide +kernel
theorem dX10_hasOf_1 : decode cX10_hasOf 1 = .ok (.ifCond .ne 26, 3) := by decide +kernel
theorem dX10_hasOf_4 : decode cX10_hasOf 4 = .ok (.iload 4, 2) := by decide +kernel
theorem dX10_hasOf_6 : decode cX10_hasOf 6 = .ok (.ifCond .ne 14, 3) := by decide +kernel
theorem dX10_hasOf_9 : decode cX10_hasOf 9 = .ok (.aload_n 0, 1) := by decide +kernel
theorem dX10_hasOf_10 : decode cX10_hasOf 10 = .ok (.getfield 22, 3) := by decide +kernel
theorem dX10_hasOf_13 : decode cX10_hasOf 13 = .ok (.iload_n 1, 1) := by decide +kernel
theorem dX10_hasOf_14 : decode cX10_hasOf 14 = .ok (.iaload, 1) := by decide +kernel
theorem dX10_hasOf_15 : decode cX10_hasOf 15 = .ok (.iconst 2, 1) := by decide +kernel
theorem dX10_hasOf_16 : decode cX10_hasOf 16 = .ok (.idiv, 1) := by decide +kernel
theorem dX10_hasOf_17 : decode cX10_hasOf 17 = .ok (.goto 9, 3) := by decide +kernel
theorem dX10_hasOf_20 : decode cX10_hasOf 20 = .ok (.aload_n 0, 1) := by decide +kernel
theorem dX10_hasOf_21 : decode cX10_hasOf 21 = .ok (.getfield 22, 3) := by decide +kernel
theorem dX10_hasOf_24 : decode cX10_hasOf 24 = .ok (.iload_n 1, 1) := by decide +kernel
theorem dX10_hasOf_25 : decode cX10_hasOf 25 = .ok (.iaload, 1) := by decide +kernel
theorem dX10_hasOf_26 : decode cX10_hasOf 26 = .ok (.ireturn, 1) := by decide +kernel
theorem dX10_hasOf_27 : decode cX10_hasOf 27 = .ok (.iload 4, 2) := by decide +kernel
theorem dX10_hasOf_29 : decode cX10_hasOf 29 = .ok (.ifCond .ne 19, 3) := by decide +kernel
theorem dX10_hasOf_32 : decode cX10_hasOf 32 = .ok (.aload_n 0, 1) := by decide +kernel
theorem dX10_hasOf_33 : decode cX10_hasOf 33 = .ok (.getfield 22, 3) := by decide +kernel
theorem dX10_hasOf_36 : decode cX10_hasOf 36 = .ok (.iload_n 1, 1) := by decide +kernel
theorem dX10_hasOf_37 : decode cX10_hasOf 37 = .ok (.iaload, 1) := by decide +kernel
theorem dX10_hasOf_38 : decode cX10_hasOf 38 = .ok (.aload_n 0, 1) := by decide +kernel
theorem dX10_hasOf_39 : decode cX10_hasOf 39 = .ok (.getfield 87, 3) := by decide +kernel
theorem dX10_hasOf_42 : decode cX10_hasOf 42 = .ok (.iload_n 1, 1) := by decide +kernel
theorem dX10_hasOf_43 : decode cX10_hasOf 43 = .ok (.iaload, 1) := by decide +kernel
theorem dX10_hasOf_44 : decode cX10_hasOf 44 = .ok (.iadd, 1) := by decide +kernel
theorem dX10_hasOf_45 : decode cX10_hasOf 45 = .ok (.goto 16, 3) := by decide +kernel
theorem dX10_hasOf_48 : decode cX10_hasOf 48 = .ok (.aload_n 0, 1) := by decide +kernel
theorem dX10_hasOf_49 : decode cX10_hasOf 49 = .ok (.getfield 87, 3) := by decide +kernel
theorem dX10_hasOf_52 : decode cX10_hasOf 52 = .ok (.iload_n 1, 1) := by decide +kernel
theorem dX10_hasOf_53 : decode cX10_hasOf 53 = .ok (.iaload, 1) := by decide +kernel
theorem dX10_hasOf_54 : decode cX10_hasOf 54 = .ok (.aload_n 0, 1) := by decide +kernel
theorem dX10_hasOf_55 : decode cX10_hasOf 55 = .ok (.getfield 22, 3) := by decide +kernel
theorem dX10_hasOf_58 : decode cX10_hasOf 58 = .ok (.iload_n 2, 1) := by decide +kernel
theorem dX10_hasOf_59 : decode cX10_hasOf 59 = .ok (.iaload, 1) := by decide +kernel
theorem dX10_hasOf_60 : decode cX10_hasOf 60 = .ok (.isub, 1) := by decide +kernel
theorem dX10_hasOf_61 : decode cX10_hasOf 61 = .ok (.ireturn, 1) := by decide +kernel
theorem dX10_isRest_0 : decode cX10_isRest 0 = .ok (.iload_n 3, 1) := by decide +kernel
theorem dX10_isRest_1 : decode cX10_isRest 1 = .ok (.iconst 2, 1) := by decide +kernel
theorem dX10_isRest_2 : decode cX10_isRest 2 = .ok (.idiv, 1) := by decide +kernel
theorem dX10_isRest_3 : decode cX10_isRest 3 = .ok (.istore 4, 2) := by decide +kernel
theorem dX10_isRest_5 : decode cX10_isRest 5 = .ok (.iload_n 3, 1) := by decide +kernel
theorem dX10_isRest_6 : decode cX10_isRest 6 = .ok (.iconst 2, 1) := by decide +kernel
theorem dX10_isRest_7 : decode cX10_isRest 7 = .ok (.irem, 1) := by decide +kernel
theorem dX10_isRest_8 : decode cX10_isRest 8 = .ok (.istore 5, 2) := by decide +kernel
theorem dX10_isRest_10 : decode cX10_isRest 10 = .ok (.aload_n 0, 1) := by decide +kernel
theorem dX10_isRest_11 : decode cX10_isRest 11 = .ok (.iload_n 1, 1) := by decide +kernel
theorem dX10_isRest_12 : decode cX10_isRest 12 = .ok (.iload_n 2, 1) := by decide +kernel
theorem dX10_isRest_13 : decode cX10_isRest 13 = .ok (.iconst 1, 1) := by decide +kernel
theorem dX10_isRest_14 : decode cX10_isRest 14 = .ok (.iload 4, 2) := by decide +kernel
theorem dX10_isRest_16 : decode cX10_isRest 16 = .ok (.isub, 1) := by decide +kernel
theorem dX10_isRest_17 : decode cX10_isRest 17 = .ok (.iload 5, 2) := by decide +kernel
theorem dX10_isRest_19 : decode cX10_isRest 19 = .ok (.invokevirtual 461, 3) := by decide +kernel
theorem dX10_isRest_22 : decode cX10_isRest 22 = .ok (.aload_n 0, 1) := by decide +kernel
theorem dX10_isRest_23 : decode cX10_isRest 23 = .ok (.iload_n 1, 1) := by decide +kernel
theorem dX10_isRest_24 : decode cX10_isRest 24 = .ok (.iload_n 2, 1) := by decide +kernel
theorem dX10_isRest_25 : decode cX10_isRest 25 = .ok (.iload 4, 2) := by decide +kernel
theorem dX10_isRest_27 : decode cX10_isRest 27 = .ok (.iload 5, 2) := by decide +kernel
theorem dX10_isRest_29 : decode cX10_isRest 29 = .ok (.invokevirtual 461, 3) := by decide +kernel
theorem dX10_isRest_32 : decode cX10_isRest 32 = .ok (.if_icmp .gt 32, 3) := by decide +kernel
theorem dX10_isRest_35 : decode cX10_isRest 35 = .ok (.aload_n 0, 1) := by decide +kernel
theorem dX10_isRest_36 : decode cX10_isRest 36 = .ok (.iload_n 2, 1) := by decide +kernel
theorem dX10_isRest_37 : decode cX10_isRest 37 = .ok (.iload_n 1, 1) := by decide +kernel
theorem dX10_isRest_38 : decode cX10_isRest 38 = .ok (.iconst 1, 1) := by decide +kernel
theorem dX10_isRest_39 : decode cX10_isRest 39 = .ok (.iload 5, 2) := by decide +kernel
theorem dX10_isRest_41 : decode cX10_isRest 41 = .ok (.isub, 1) := by decide +kernel
theorem dX10_isRest_42 : decode cX10_isRest 42 = .ok (.iload 4, 2) := by decide +kernel
theorem dX10_isRest_44 : decode cX10_isRest 44 = .ok (.invokevirtual 461, 3) := by decide +kernel
theorem dX10_isRest_47 : decode cX10_isRest 47 = .ok (.aload_n 0, 1) := by decide +kernel
theorem dX10_isRest_48 : decode cX10_isRest 48 = .ok (.iload_n 2, 1) := by decide +kernel
theorem dX10_isRest_49 : decode cX10_isRest 49 = .ok (.iload_n 1, 1) := by decide +kernel
theorem dX10_isRest_50 : decode cX10_isRest 50 = .ok (.iload 5, 2) := by decide +kernel
theorem dX10_isRest_52 : decode cX10_isRest 52 = .ok (.iload 4, 2) := by decide +kernel
theorem dX10_isRest_54 : decode cX10_isRest 54 = .ok (.invokevirtual 461, 3) := by decide +kernel
theorem dX10_isRest_57 : decode cX10_isRest 57 = .ok (.if_icmp .gt 7, 3) := by decide +kernel
theorem dX10_isRest_60 : decode cX10_isRest 60 = .ok (.iconst 1, 1) := by decide +kernel
theorem dX10_isRest_61 : decode cX10_isRest 61 = .ok (.goto 4, 3) := by decide +kernel
theorem dX10_isRest_64 : decode cX10_isRest 64 = .ok (.iconst 0, 1) := by decide +kernel
theorem dX10_isRest_65 : decode cX10_isRest 65 = .ok (.ireturn, 1) := by decide +kernel
theorem dX10_restOf_0 : decode cX10_restOf 0 = .ok (.iconst 0, 1) := by decide +kernel
theorem dX10_restOf_1 : decode cX10_restOf 1 = .ok (.istore 4, 2) := by decide +kernel
theorem dX10_restOf_3 : decode cX10_restOf 3 = .ok (.iconst 0, 1) := by decide +kernel
theorem dX10_restOf_4 : decode cX10_restOf 4 = .ok (.istore 5, 2) := by decide +kernel
theorem dX10_restOf_6 : decode cX10_restOf 6 = .ok (.iload 5, 2) := by decide +kernel
theorem dX10_restOf_8 : decode cX10_restOf 8 = .ok (.iconst 4, 1) := by decide +kernel
theorem dX10_restOf_9 : decode cX10_restOf 9 = .ok (.if_icmp .ge 45, 3) := by decide +kernel
theorem dX10_restOf_12 : decode cX10_restOf 12 = .ok (.aload_n 0, 1) := by decide +kernel
theorem dX10_restOf_13 : decode cX10_restOf 13 = .ok (.iload_n 1, 1) := by decide +kernel
theorem dX10_restOf_14 : decode cX10_restOf 14 = .ok (.iload_n 2, 1) := by decide +kernel
theorem dX10_restOf_15 : decode cX10_restOf 15 = .ok (.iload 5, 2) := by decide +kernel
theorem dX10_restOf_17 : decode cX10_restOf 17 = .ok (.invokevirtual 464, 3) := by decide +kernel
theorem dX10_restOf_20 : decode cX10_restOf 20 = .ok (.ifCond .ne 6, 3) := by decide +kernel
theorem dX10_restOf_23 : decode cX10_restOf 23 = .ok (.goto 25, 3) := by decide +kernel
theorem dX10_restOf_26 : decode cX10_restOf 26 = .ok (.iload 4, 2) := by decide +kernel
theorem dX10_restOf_28 : decode cX10_restOf 28 = .ok (.iload_n 3, 1) := by decide +kernel
theorem dX10_restOf_29 : decode cX10_restOf 29 = .ok (.if_icmp .ne 16, 3) := by decide +kernel
theorem dX10_restOf_32 : decode cX10_restOf 32 = .ok (.bipush 10, 2) := by decide +kernel
theorem dX10_restOf_34 : decode cX10_restOf 34 = .ok (.iload 5, 2) := by decide +kernel
theorem dX10_restOf_36 : decode cX10_restOf 36 = .ok (.iconst 2, 1) := by decide +kernel
theorem dX10_restOf_37 : decode cX10_restOf 37 = .ok (.idiv, 1) := by decide +kernel
theorem dX10_restOf_38 : decode cX10_restOf 38 = .ok (.imul, 1) := by decide +kernel
theorem dX10_restOf_39 : decode cX10_restOf 39 = .ok (.iload 5, 2) := by decide +kernel
theorem dX10_restOf_41 : decode cX10_restOf 41 = .ok (.iconst 2, 1) := by decide +kernel
theorem dX10_restOf_42 : decode cX10_restOf 42 = .ok (.irem, 1) := by decide +kernel
theorem dX10_restOf_43 : decode cX10_restOf 43 = .ok (.iadd, 1) := by decide +kernel
theorem dX10_restOf_44 : decode cX10_restOf 44 = .ok (.ireturn, 1) := by decide +kernel
theorem dX10_restOf_45 : decode cX10_restOf 45 = .ok (.iinc 4 1, 3) := by decide +kernel
theorem dX10_restOf_48 : decode cX10_restOf 48 = .ok (.iinc 5 1, 3) := by decide +kernel
theorem dX10_restOf_51 : decode cX10_restOf 51 = .ok (.goto (-45), 3) := by decide +kernel
theorem dX10_restOf_54 : decode cX10_restOf 54 = .ok (.iload_n 3, 1) := by decide +kernel
theorem dX10_restOf_55 : decode cX10_restOf 55 = .ok (.iconst (-1), 1) := by decide +kernel
theorem dX10_restOf_56 : decode cX10_restOf 56 = .ok (.if_icmp .ne 8, 3) := by decide +kernel
theorem dX10_restOf_59 : decode cX10_restOf 59 = .ok (.iload 4, 2) := by decide +kernel
theorem dX10_restOf_61 : decode cX10_restOf 61 = .ok (.goto 5, 3) := by decide +kernel
theorem dX10_restOf_64 : decode cX10_restOf 64 = .ok (.bipush (-2), 2) := by decide +kernel
theorem dX10_restOf_66 : decode cX10_restOf 66 = .ok (.ireturn, 1) := by decide +kernel
theorem dX10_areTwo_0 : decode cX10_areTwo 0 = .ok (.aload_n 0, 1) := by decide +kernel
theorem dX10_areTwo_1 : decode cX10_areTwo 1 = .ok (.iload_n 1, 1) := by decide +kernel
theorem dX10_areTwo_2 : decode cX10_areTwo 2 = .ok (.invokevirtual 411, 3) := by decide +kernel
theorem dX10_areTwo_5 : decode cX10_areTwo 5 = .ok (.ifCond .eq 20, 3) := by decide +kernel
theorem dX10_areTwo_8 : decode cX10_areTwo 8 = .ok (.aload_n 0, 1) := by decide +kernel
theorem dX10_areTwo_9 : decode cX10_areTwo 9 = .ok (.iload_n 2, 1) := by decide +kernel
theorem dX10_areTwo_10 : decode cX10_areTwo 10 = .ok (.invokevirtual 411, 3) := by decide +kernel
theorem dX10_areTwo_13 : decode cX10_areTwo 13 = .ok (.ifCond .eq 12, 3) := by decide +kernel
theorem dX10_areTwo_16 : decode cX10_areTwo 16 = .ok (.iload_n 1, 1) := by decide +kernel
theorem dX10_areTwo_17 : decode cX10_areTwo 17 = .ok (.iload_n 2, 1) := by decide +kernel
theorem dX10_areTwo_18 : decode cX10_areTwo 18 = .ok (.if_icmp .eq 7, 3) := by decide +kernel
theorem dX10_areTwo_21 : decode cX10_areTwo 21 = .ok (.iconst 1, 1) := by decide +kernel
theorem dX10_areTwo_22 : decode cX10_areTwo 22 = .ok (.goto 4, 3) := by decide +kernel
theorem dX10_areTwo_25 : decode cX10_areTwo 25 = .ok (.iconst 0, 1) := by decide +kernel
theorem dX10_areTwo_26 : decode cX10_areTwo 26 = .ok (.ireturn, 1) := by decide +kernel
theorem dX10_rests_0 : decode cX10_rests 0 = .ok (.aload_n 0, 1) := by decide +kernel
theorem dX10_rests_1 : decode cX10_rests 1 = .ok (.iconst 0, 1) := by decide +kernel
theorem dX10_rests_2 : decode cX10_rests 2 = .ok (.putfield 142, 3) := by decide +kernel
theorem dX10_rests_5 : decode cX10_rests 5 = .ok (.aload_n 0, 1) := by decide +kernel
theorem dX10_rests_6 : decode cX10_rests 6 = .ok (.iload_n 1, 1) := by decide +kernel
theorem dX10_rests_7 : decode cX10_rests 7 = .ok (.iload_n 2, 1) := by decide +kernel
theorem dX10_rests_8 : decode cX10_rests 8 = .ok (.invokevirtual 467, 3) := by decide +kernel
theorem dX10_rests_11 : decode cX10_rests 11 = .ok (.ifCond .eq 13, 3) := by decide +kernel
theorem dX10_rests_14 : decode cX10_rests 14 = .ok (.aload_n 0, 1) := by decide +kernel
theorem dX10_rests_15 : decode cX10_rests 15 = .ok (.iload_n 1, 1) := by decide +kernel
theorem dX10_rests_16 : decode cX10_rests 16 = .ok (.iload_n 2, 1) := by decide +kernel
theorem dX10_rests_17 : decode cX10_rests 17 = .ok (.iconst (-1), 1) := by decide +kernel
theorem dX10_rests_18 : decode cX10_rests 18 = .ok (.invokevirtual 470, 3) := by decide +kernel
theorem dX10_rests_21 : decode cX10_rests 21 = .ok (.goto 4, 3) := by decide +kernel
theorem dX10_rests_24 : decode cX10_rests 24 = .ok (.iconst (-1), 1) := by decide +kernel
theorem dX10_rests_25 : decode cX10_rests 25 = .ok (.ireturn, 1) := by decide +kernel
theorem dX10_rest_0 : decode cX10_rest 0 = .ok (.aload_n 0, 1) := by decide +kernel
theorem dX10_rest_1 : decode cX10_rest 1 = .ok (.iconst 0, 1) := by decide +kernel
theorem dX10_rest_2 : decode cX10_rest 2 = .ok (.putfield 142, 3) := by decide +kernel
theorem dX10_rest_5 : decode cX10_rest 5 = .ok (.aload_n 0, 1) := by decide +kernel
theorem dX10_rest_6 : decode cX10_rest 6 = .ok (.iload_n 1, 1) := by decide +kernel
theorem dX10_rest_7 : decode cX10_rest 7 = .ok (.iload_n 2, 1) := by decide +kernel
theorem dX10_rest_8 : decode cX10_rest 8 = .ok (.invokevirtual 467, 3) := by decide +kernel
theorem dX10_rest_11 : decode cX10_rest 11 = .ok (.ifCond .eq 17, 3) := by decide +kernel
theorem dX10_rest_14 : decode cX10_rest 14 = .ok (.iload_n 3, 1) := by decide +kernel
theorem dX10_rest_15 : decode cX10_rest 15 = .ok (.ifCond .lt 13, 3) := by decide +kernel
theorem dX10_rest_18 : decode cX10_rest 18 = .ok (.aload_n 0, 1) := by decide +kernel
theorem dX10_rest_19 : decode cX10_rest 19 = .ok (.iload_n 1, 1) := by decide +kernel
theorem dX10_rest_20 : decode cX10_rest 20 = .ok (.iload_n 2, 1) := by decide +kernel
theorem dX10_rest_21 : decode cX10_rest 21 = .ok (.iload_n 3, 1) := by decide +kernel
theorem dX10_rest_22 : decode cX10_rest 22 = .ok (.invokevirtual 470, 3) := by decide +kernel
theorem dX10_rest_25 : decode cX10_rest 25 = .ok (.goto 4, 3) := by decide +kernel
theorem dX10_rest_28 : decode cX10_rest 28 = .ok (.iconst (-1), 1) := by decide +kernel
theorem dX10_rest_29 : decode cX10_rest 29 = .ok (.ireturn, 1) := by decide +kernel
theorem dX10_common_0 : decode cX10_common 0 = .ok (.lload_n 0, 1) := by decide +kernel
theorem dX10_common_1 : decode cX10_common 1 = .ok (.lstore 4, 2) := by decide +kernel
theorem dX10_common_3 : decode cX10_common 3 = .ok (.lload_n 2, 1) := by decide +kernel
theorem dX10_common_4 : decode cX10_common 4 = .ok (.lstore 6, 2) := by decide +kernel
theorem dX10_common_6 : decode cX10_common 6 = .ok (.lload 6, 2) := by decide +kernel
theorem dX10_common_8 : decode cX10_common 8 = .ok (.lconst 0, 1) := by decide +kernel
theorem dX10_common_9 : decode cX10_common 9 = .ok (.lcmp, 1) := by decide +kernel
theorem dX10_common_10 : decode cX10_common 10 = .ok (.ifCond .eq 21, 3) := by decide +kernel
theorem dX10_common_13 : decode cX10_common 13 = .ok (.lload 4, 2) := by decide +kernel
theorem dX10_common_15 : decode cX10_common 15 = .ok (.lload 6, 2) := by decide +kernel
theorem dX10_common_17 : decode cX10_common 17 = .ok (.lrem, 1) := by decide +kernel
theorem dX10_common_18 : decode cX10_common 18 = .ok (.lstore 8, 2) := by decide +kernel
theorem dX10_common_20 : decode cX10_common 20 = .ok (.lload 6, 2) := by decide +kernel
theorem dX10_common_22 : decode cX10_common 22 = .ok (.lstore 4, 2) := by decide +kernel
theorem dX10_common_24 : decode cX10_common 24 = .ok (.lload 8, 2) := by decide +kernel
theorem dX10_common_26 : decode cX10_common 26 = .ok (.lstore 6, 2) := by decide +kernel
theorem dX10_common_28 : decode cX10_common 28 = .ok (.goto (-22), 3) := by decide +kernel
theorem dX10_common_31 : decode cX10_common 31 = .ok (.lload 4, 2) := by decide +kernel
theorem dX10_common_33 : decode cX10_common 33 = .ok (.lreturn, 1) := by decide +kernel
theorem dX10_dry_0 : decode cX10_dry 0 = .ok (.aload_n 0, 1) := by decide +kernel
theorem dX10_dry_1 : decode cX10_dry 1 = .ok (.iconst 0, 1) := by decide +kernel
theorem dX10_dry_2 : decode cX10_dry 2 = .ok (.putfield 142, 3) := by decide +kernel
theorem dX10_dry_5 : decode cX10_dry 5 = .ok (.iload_n 1, 1) := by decide +kernel
theorem dX10_dry_6 : decode cX10_dry 6 = .ok (.ifCond .lt 18, 3) := by decide +kernel
theorem dX10_dry_9 : decode cX10_dry 9 = .ok (.iload_n 1, 1) := by decide +kernel
theorem dX10_dry_10 : decode cX10_dry 10 = .ok (.bipush 6, 2) := by decide +kernel
theorem dX10_dry_12 : decode cX10_dry 12 = .ok (.if_icmp .gt 12, 3) := by decide +kernel
theorem dX10_dry_15 : decode cX10_dry 15 = .ok (.iload_n 2, 1) := by decide +kernel
theorem dX10_dry_16 : decode cX10_dry 16 = .ok (.ifCond .lt 8, 3) := by decide +kernel
theorem dX10_dry_19 : decode cX10_dry 19 = .ok (.iload_n 2, 1) := by decide +kernel
theorem dX10_dry_20 : decode cX10_dry 20 = .ok (.iconst 1, 1) := by decide +kernel
theorem dX10_dry_21 : decode cX10_dry 21 = .ok (.if_icmp .le 7, 3) := by decide +kernel
theorem dX10_dry_24 : decode cX10_dry 24 = .ok (.ldc2_w 474, 3) := by decide +kernel
theorem dX10_dry_27 : decode cX10_dry 27 = .ok (.lreturn, 1) := by decide +kernel
theorem dX10_dry_28 : decode cX10_dry 28 = .ok (.lconst 1, 1) := by decide +kernel
theorem dX10_dry_29 : decode cX10_dry 29 = .ok (.lstore_n 3, 1) := by decide +kernel
theorem dX10_dry_30 : decode cX10_dry 30 = .ok (.lconst 1, 1) := by decide +kernel
theorem dX10_dry_31 : decode cX10_dry 31 = .ok (.lstore 5, 2) := by decide +kernel
theorem dX10_dry_33 : decode cX10_dry 33 = .ok (.iconst 0, 1) := by decide +kernel
theorem dX10_dry_34 : decode cX10_dry 34 = .ok (.istore 7, 2) := by decide +kernel
theorem dX10_dry_36 : decode cX10_dry 36 = .ok (.iload 7, 2) := by decide +kernel
theorem dX10_dry_38 : decode cX10_dry 38 = .ok (.iload_n 1, 1) := by decide +kernel
theorem dX10_dry_39 : decode cX10_dry 39 = .ok (.if_icmp .ge 31, 3) := by decide +kernel
theorem dX10_dry_42 : decode cX10_dry 42 = .ok (.lload_n 3, 1) := by decide +kernel
theorem dX10_dry_43 : decode cX10_dry 43 = .ok (.ldc2_w 476, 3) := by decide +kernel
theorem dX10_dry_46 : decode cX10_dry 46 = .ok (.aload_n 0, 1) := by decide +kernel
theorem dX10_dry_47 : decode cX10_dry 47 = .ok (.getfield 13, 3) := by decide +kernel
theorem dX10_dry_50 : decode cX10_dry 50 = .ok (.iconst 4, 1) := by decide +kernel
theorem dX10_dry_51 : decode cX10_dry 51 = .ok (.iaload, 1) := by decide +kernel
theorem dX10_dry_52 : decode cX10_dry 52 = .ok (.i2l, 1) := by decide +kernel
theorem dX10_dry_53 : decode cX10_dry 53 = .ok (.lsub, 1) := by decide +kernel
theorem dX10_dry_54 : decode cX10_dry 54 = .ok (.lmul, 1) := by decide +kernel
theorem dX10_dry_55 : decode cX10_dry 55 = .ok (.lstore_n 3, 1) := by decide +kernel
theorem dX10_dry_56 : decode cX10_dry 56 = .ok (.lload 5, 2) := by decide +kernel
theorem dX10_dry_58 : decode cX10_dry 58 = .ok (.ldc2_w 476, 3) := by decide +kernel
theorem dX10_dry_61 : decode cX10_dry 61 = .ok (.lmul, 1) := by decide +kernel
theorem dX10_dry_62 : decode cX10_dry 62 = .ok (.lstore 5, 2) := by decide +kernel
theorem dX10_dry_64 : decode cX10_dry 64 = .ok (.iinc 7 1, 3) := by decide +kernel
theorem dX10_dry_67 : decode cX10_dry 67 = .ok (.goto (-31), 3) := by decide +kernel
theorem dX10_dry_70 : decode cX10_dry 70 = .ok (.lload_n 3, 1) := by decide +kernel
theorem dX10_dry_71 : decode cX10_dry 71 = .ok (.lload 5, 2) := by decide +kernel
theorem dX10_dry_73 : decode cX10_dry 73 = .ok (.invokestatic 478, 3) := by decide +kernel
theorem dX10_dry_76 : decode cX10_dry 76 = .ok (.lstore 7, 2) := by decide +kernel
theorem dX10_dry_78 : decode cX10_dry 78 = .ok (.iload_n 2, 1) := by decide +kernel
theorem dX10_dry_79 : decode cX10_dry 79 = .ok (.ifCond .ne 10, 3) := by decide +kernel
theorem dX10_dry_82 : decode cX10_dry 82 = .ok (.lload_n 3, 1) := by decide +kernel
theorem dX10_dry_83 : decode cX10_dry 83 = .ok (.lload 7, 2) := by decide +kernel
theorem dX10_dry_85 : decode cX10_dry 85 = .ok (.ldiv, 1) := by decide +kernel
theorem dX10_dry_86 : decode cX10_dry 86 = .ok (.goto 8, 3) := by decide +kernel
theorem dX10_dry_89 : decode cX10_dry 89 = .ok (.lload 5, 2) := by decide +kernel
theorem dX10_dry_91 : decode cX10_dry 91 = .ok (.lload 7, 2) := by decide +kernel
theorem dX10_dry_93 : decode cX10_dry 93 = .ok (.ldiv, 1) := by decide +kernel
theorem dX10_dry_94 : decode cX10_dry 94 = .ok (.lreturn, 1) := by decide +kernel
theorem dX10_see_0 : decode cX10_see 0 = .ok (.aload_n 0, 1) := by decide +kernel
theorem dX10_see_1 : decode cX10_see 1 = .ok (.iconst 0, 1) := by decide +kernel
theorem dX10_see_2 : decode cX10_see 2 = .ok (.putfield 142, 3) := by decide +kernel
theorem dX10_see_5 : decode cX10_see 5 = .ok (.iload_n 1, 1) := by decide +kernel
theorem dX10_see_6 : decode cX10_see 6 = .ok (.iconst 1, 1) := by decide +kernel
theorem dX10_see_7 : decode cX10_see 7 = .ok (.if_icmp .lt 26, 3) := by decide +kernel
theorem dX10_see_10 : decode cX10_see 10 = .ok (.iload_n 1, 1) := by decide +kernel
theorem dX10_see_11 : decode cX10_see 11 = .ok (.bipush 60, 2) := by decide +kernel
theorem dX10_see_13 : decode cX10_see 13 = .ok (.if_icmp .gt 20, 3) := by decide +kernel
theorem dX10_see_16 : decode cX10_see 16 = .ok (.aload_n 0, 1) := by decide +kernel
theorem dX10_see_17 : decode cX10_see 17 = .ok (.iload_n 2, 1) := by decide +kernel
theorem dX10_see_18 : decode cX10_see 18 = .ok (.invokevirtual 411, 3) := by decide +kernel
theorem dX10_see_21 : decode cX10_see 21 = .ok (.ifCond .eq 12, 3) := by decide +kernel
theorem dX10_see_24 : decode cX10_see 24 = .ok (.aload_n 0, 1) := by decide +kernel
theorem dX10_see_25 : decode cX10_see 25 = .ok (.getfield 295, 3) := by decide +kernel
theorem dX10_see_28 : decode cX10_see 28 = .ok (.bipush 24, 2) := by decide +kernel
theorem dX10_see_30 : decode cX10_see 30 = .ok (.if_icmp .ne 5, 3) := by decide +kernel
theorem dX10_see_33 : decode cX10_see 33 = .ok (.iconst (-1), 1) := by decide +kernel
theorem dX10_see_34 : decode cX10_see 34 = .ok (.ireturn, 1) := by decide +kernel
theorem dX10_see_35 : decode cX10_see 35 = .ok (.aload_n 0, 1) := by decide +kernel
theorem dX10_see_36 : decode cX10_see 36 = .ok (.getfield 123, 3) := by decide +kernel
theorem dX10_see_39 : decode cX10_see 39 = .ok (.aload_n 0, 1) := by decide +kernel
theorem dX10_see_40 : decode cX10_see 40 = .ok (.getfield 295, 3) := by decide +kernel
theorem dX10_see_43 : decode cX10_see 43 = .ok (.iload_n 1, 1) := by decide +kernel
theorem dX10_see_44 : decode cX10_see 44 = .ok (.iastore, 1) := by decide +kernel
theorem dX10_see_45 : decode cX10_see 45 = .ok (.aload_n 0, 1) := by decide +kernel
theorem dX10_see_46 : decode cX10_see 46 = .ok (.getfield 126, 3) := by decide +kernel
theorem dX10_see_49 : decode cX10_see 49 = .ok (.aload_n 0, 1) := by decide +kernel
theorem dX10_see_50 : decode cX10_see 50 = .ok (.getfield 295, 3) := by decide +kernel
theorem dX10_see_53 : decode cX10_see 53 = .ok (.iload_n 2, 1) := by decide +kernel
theorem dX10_see_54 : decode cX10_see 54 = .ok (.iastore, 1) := by decide +kernel
theorem dX10_see_55 : decode cX10_see 55 = .ok (.aload_n 0, 1) := by decide +kernel
theorem dX10_see_56 : decode cX10_see 56 = .ok (.getfield 129, 3) := by decide +kernel
theorem dX10_see_59 : decode cX10_see 59 = .ok (.aload_n 0, 1) := by decide +kernel
theorem dX10_see_60 : decode cX10_see 60 = .ok (.getfield 295, 3) := by decide +kernel
theorem dX10_see_63 : decode cX10_see 63 = .ok (.iload_n 3, 1) := by decide +kernel
theorem dX10_see_64 : decode cX10_see 64 = .ok (.bastore, 1) := by decide +kernel
theorem dX10_see_65 : decode cX10_see 65 = .ok (.aload_n 0, 1) := by decide +kernel
theorem dX10_see_66 : decode cX10_see 66 = .ok (.getfield 133, 3) := by decide +kernel
theorem dX10_see_69 : decode cX10_see 69 = .ok (.aload_n 0, 1) := by decide +kernel
theorem dX10_see_70 : decode cX10_see 70 = .ok (.getfield 295, 3) := by decide +kernel
theorem dX10_see_73 : decode cX10_see 73 = .ok (.iconst (-1), 1) := by decide +kernel
theorem dX10_see_74 : decode cX10_see 74 = .ok (.iastore, 1) := by decide +kernel
theorem dX10_see_75 : decode cX10_see 75 = .ok (.aload_n 0, 1) := by decide +kernel
theorem dX10_see_76 : decode cX10_see 76 = .ok (.dup, 1) := by decide +kernel
theorem dX10_see_77 : decode cX10_see 77 = .ok (.getfield 295, 3) := by decide +kernel
theorem dX10_see_80 : decode cX10_see 80 = .ok (.iconst 1, 1) := by decide +kernel
theorem dX10_see_81 : decode cX10_see 81 = .ok (.iadd, 1) := by decide +kernel
theorem dX10_see_82 : decode cX10_see 82 = .ok (.putfield 295, 3) := by decide +kernel
theorem dX10_see_85 : decode cX10_see 85 = .ok (.aload_n 0, 1) := by decide +kernel
theorem dX10_see_86 : decode cX10_see 86 = .ok (.getfield 295, 3) := by decide +kernel
theorem dX10_see_89 : decode cX10_see 89 = .ok (.iconst 1, 1) := by decide +kernel
theorem dX10_see_90 : decode cX10_see 90 = .ok (.isub, 1) := by decide +kernel
theorem dX10_see_91 : decode cX10_see 91 = .ok (.ireturn, 1) := by decide +kernel
theorem dX10_strike_0 : decode cX10_strike 0 = .ok (.aload_n 0, 1) := by decide +kernel
theorem dX10_strike_1 : decode cX10_strike 1 = .ok (.iconst 0, 1) := by decide +kernel
theorem dX10_strike_2 : decode cX10_strike 2 = .ok (.putfield 142, 3) := by decide +kernel
theorem dX10_strike_5 : decode cX10_strike 5 = .ok (.iload_n 1, 1) := by decide +kernel
theorem dX10_strike_6 : decode cX10_strike 6 = .ok (.ifCond .lt 20, 3) := by decide +kernel
theorem dX10_strike_9 : decode cX10_strike 9 = .ok (.iload_n 1, 1) := by decide +kernel
theorem dX10_strike_10 : decode cX10_strike 10 = .ok (.aload_n 0, 1) := by decide +kernel
theorem dX10_strike_11 : decode cX10_strike 11 = .ok (.getfield 295, 3) := by decide +kernel
theorem dX10_strike_14 : decode cX10_strike 14 = .ok (.if_icmp .ge 12, 3) := by decide +kernel
theorem dX10_strike_17 : decode cX10_strike 17 = .ok (.aload_n 0, 1) := by decide +kernel
theorem dX10_strike_18 : decode cX10_strike 18 = .ok (.getfield 295, 3) := by decide +kernel
theorem dX10_strike_21 : decode cX10_strike 21 = .ok (.bipush 24, 2) := by decide +kernel
theorem dX10_strike_23 : decode cX10_strike 23 = .ok (.if_icmp .ne 5, 3) := by decide +kernel
theorem dX10_strike_26 : decode cX10_strike 26 = .ok (.iconst (-1), 1) := by decide +kernel
theorem dX10_strike_27 : decode cX10_strike 27 = .ok (.ireturn, 1) := by decide +kernel
theorem dX10_strike_28 : decode cX10_strike 28 = .ok (.aload_n 0, 1) := by decide +kernel
theorem dX10_strike_29 : decode cX10_strike 29 = .ok (.getfield 133, 3) := by decide +kernel
theorem dX10_strike_32 : decode cX10_strike 32 = .ok (.aload_n 0, 1) := by decide +kernel
theorem dX10_strike_33 : decode cX10_strike 33 = .ok (.getfield 295, 3) := by decide +kernel
theorem dX10_strike_36 : decode cX10_strike 36 = .ok (.iload_n 1, 1) := by decide +kernel
theorem dX10_strike_37 : decode cX10_strike 37 = .ok (.iastore, 1) := by decide +kernel
theorem dX10_strike_38 : decode cX10_strike 38 = .ok (.aload_n 0, 1) := by decide +kernel
theorem dX10_strike_39 : decode cX10_strike 39 = .ok (.dup, 1) := by decide +kernel
theorem dX10_strike_40 : decode cX10_strike 40 = .ok (.getfield 295, 3) := by decide +kernel
theorem dX10_strike_43 : decode cX10_strike 43 = .ok (.iconst 1, 1) := by decide +kernel
theorem dX10_strike_44 : decode cX10_strike 44 = .ok (.iadd, 1) := by decide +kernel
theorem dX10_strike_45 : decode cX10_strike 45 = .ok (.putfield 295, 3) := by decide +kernel
theorem dX10_strike_48 : decode cX10_strike 48 = .ok (.aload_n 0, 1) := by decide +kernel
theorem dX10_strike_49 : decode cX10_strike 49 = .ok (.getfield 295, 3) := by decide +kernel
theorem dX10_strike_52 : decode cX10_strike 52 = .ok (.iconst 1, 1) := by decide +kernel
theorem dX10_strike_53 : decode cX10_strike 53 = .ok (.isub, 1) := by decide +kernel
theorem dX10_strike_54 : decode cX10_strike 54 = .ok (.ireturn, 1) := by decide +kernel
theorem dX10_known_0 : decode cX10_known 0 = .ok (.aload_n 0, 1) := by decide +kernel
theorem dX10_known_1 : decode cX10_known 1 = .ok (.iconst 0, 1) := by decide +kernel
theorem dX10_known_2 : decode cX10_known 2 = .ok (.putfield 142, 3) := by decide +kernel
theorem dX10_known_5 : decode cX10_known 5 = .ok (.iload_n 1, 1) := by decide +kernel
theorem dX10_known_6 : decode cX10_known 6 = .ok (.iconst (-1), 1) := by decide +kernel
theorem dX10_known_7 : decode cX10_known 7 = .ok (.if_icmp .lt 11, 3) := by decide +kernel
theorem dX10_known_10 : decode cX10_known 10 = .ok (.iload_n 1, 1) := by decide +kernel
theorem dX10_known_11 : decode cX10_known 11 = .ok (.aload_n 0, 1) := by decide +kernel
theorem dX10_known_12 : decode cX10_known 12 = .ok (.getfield 295, 3) := by decide +kernel
theorem dX10_known_15 : decode cX10_known 15 = .ok (.if_icmp .le 5, 3) := by decide +kernel
theorem dX10_known_18 : decode cX10_known 18 = .ok (.iconst 0, 1) := by decide +kernel
theorem dX10_known_19 : decode cX10_known 19 = .ok (.ireturn, 1) := by decide +kernel
theorem dX10_known_20 : decode cX10_known 20 = .ok (.aload_n 0, 1) := by decide +kernel
theorem dX10_known_21 : decode cX10_known 21 = .ok (.iload_n 1, 1) := by decide +kernel
theorem dX10_known_22 : decode cX10_known 22 = .ok (.putfield 120, 3) := by decide +kernel
theorem dX10_known_25 : decode cX10_known 25 = .ok (.iconst 1, 1) := by decide +kernel
theorem dX10_known_26 : decode cX10_known 26 = .ok (.ireturn, 1) := by decide +kernel
theorem dX10_knownMany_0 : decode cX10_knownMany 0 = .ok (.aload_n 0, 1) := by decide +kernel
theorem dX10_knownMany_1 : decode cX10_knownMany 1 = .ok (.getfield 120, 3) := by decide +kernel
theorem dX10_knownMany_4 : decode cX10_knownMany 4 = .ok (.iconst (-1), 1) := by decide +kernel
theorem dX10_knownMany_5 : decode cX10_knownMany 5 = .ok (.if_icmp .ne 10, 3) := by decide +kernel
theorem dX10_knownMany_8 : decode cX10_knownMany 8 = .ok (.aload_n 0, 1) := by decide +kernel
theorem dX10_knownMany_9 : decode cX10_knownMany 9 = .ok (.getfield 295, 3) := by decide +kernel
theorem dX10_knownMany_12 : decode cX10_knownMany 12 = .ok (.goto 7, 3) := by decide +kernel
theorem dX10_knownMany_15 : decode cX10_knownMany 15 = .ok (.aload_n 0, 1) := by decide +kernel
theorem dX10_knownMany_16 : decode cX10_knownMany 16 = .ok (.getfield 120, 3) := by decide +kernel
theorem dX10_knownMany_19 : decode cX10_knownMany 19 = .ok (.ireturn, 1) := by decide +kernel
theorem dX10_isSo_0 : decode cX10_isSo 0 = .ok (.iconst 0, 1) := by decide +kernel
theorem dX10_isSo_1 : decode cX10_isSo 1 = .ok (.istore_n 2, 1) := by decide +kernel
theorem dX10_isSo_2 : decode cX10_isSo 2 = .ok (.iload_n 2, 1) := by decide +kernel
theorem dX10_isSo_3 : decode cX10_isSo 3 = .ok (.aload_n 0, 1) := by decide +kernel
theorem dX10_isSo_4 : decode cX10_isSo 4 = .ok (.invokevirtual 481, 3) := by decide +kernel
theorem dX10_isSo_7 : decode cX10_isSo 7 = .ok (.if_icmp .ge 75, 3) := by decide +kernel
theorem dX10_isSo_10 : decode cX10_isSo 10 = .ok (.aload_n 0, 1) := by decide +kernel
theorem dX10_isSo_11 : decode cX10_isSo 11 = .ok (.getfield 136, 3) := by decide +kernel
theorem dX10_isSo_14 : decode cX10_isSo 14 = .ok (.iload_n 2, 1) := by decide +kernel
theorem dX10_isSo_15 : decode cX10_isSo 15 = .ok (.baload, 1) := by decide +kernel
theorem dX10_isSo_16 : decode cX10_isSo 16 = .ok (.ifCond .ne 60, 3) := by decide +kernel
theorem dX10_isSo_19 : decode cX10_isSo 19 = .ok (.aload_n 0, 1) := by decide +kernel
theorem dX10_isSo_20 : decode cX10_isSo 20 = .ok (.getfield 133, 3) := by decide +kernel
theorem dX10_isSo_23 : decode cX10_isSo 23 = .ok (.iload_n 2, 1) := by decide +kernel
theorem dX10_isSo_24 : decode cX10_isSo 24 = .ok (.iaload, 1) := by decide +kernel
theorem dX10_isSo_25 : decode cX10_isSo 25 = .ok (.iconst (-1), 1) := by decide +kernel
theorem dX10_isSo_26 : decode cX10_isSo 26 = .ok (.if_icmp .ne 50, 3) := by decide +kernel
theorem dX10_isSo_29 : decode cX10_isSo 29 = .ok (.aload_n 0, 1) := by decide +kernel
theorem dX10_isSo_30 : decode cX10_isSo 30 = .ok (.getfield 123, 3) := by decide +kernel
theorem dX10_isSo_33 : decode cX10_isSo 33 = .ok (.iload_n 2, 1) := by decide +kernel
theorem dX10_isSo_34 : decode cX10_isSo 34 = .ok (.iaload, 1) := by decide +kernel
theorem dX10_isSo_35 : decode cX10_isSo 35 = .ok (.iload_n 1, 1) := by decide +kernel
theorem dX10_isSo_36 : decode cX10_isSo 36 = .ok (.if_icmp .eq 6, 3) := by decide +kernel
theorem dX10_isSo_39 : decode cX10_isSo 39 = .ok (.goto 37, 3) := by decide +kernel
theorem dX10_isSo_42 : decode cX10_isSo 42 = .ok (.aload_n 0, 1) := by decide +kernel
theorem dX10_isSo_43 : decode cX10_isSo 43 = .ok (.getfield 84, 3) := by decide +kernel
theorem dX10_isSo_46 : decode cX10_isSo 46 = .ok (.bipush 8, 2) := by decide +kernel
theorem dX10_isSo_48 : decode cX10_isSo 48 = .ok (.aload_n 0, 1) := by decide +kernel
theorem dX10_isSo_49 : decode cX10_isSo 49 = .ok (.getfield 126, 3) := by decide +kernel
theorem dX10_isSo_52 : decode cX10_isSo 52 = .ok (.iload_n 2, 1) := by decide +kernel
theorem dX10_isSo_53 : decode cX10_isSo 53 = .ok (.iaload, 1) := by decide +kernel
theorem dX10_isSo_54 : decode cX10_isSo 54 = .ok (.iadd, 1) := by decide +kernel
theorem dX10_isSo_55 : decode cX10_isSo 55 = .ok (.iaload, 1) := by decide +kernel
theorem dX10_isSo_56 : decode cX10_isSo 56 = .ok (.iconst 2, 1) := by decide +kernel
theorem dX10_isSo_57 : decode cX10_isSo 57 = .ok (.if_icmp .ne 7, 3) := by decide +kernel
theorem dX10_isSo_60 : decode cX10_isSo 60 = .ok (.iconst 1, 1) := by decide +kernel
theorem dX10_isSo_61 : decode cX10_isSo 61 = .ok (.goto 4, 3) := by decide +kernel
theorem dX10_isSo_64 : decode cX10_isSo 64 = .ok (.iconst 0, 1) := by decide +kernel
theorem dX10_isSo_65 : decode cX10_isSo 65 = .ok (.aload_n 0, 1) := by decide +kernel
theorem dX10_isSo_66 : decode cX10_isSo 66 = .ok (.getfield 129, 3) := by decide +kernel
theorem dX10_isSo_69 : decode cX10_isSo 69 = .ok (.iload_n 2, 1) := by decide +kernel
theorem dX10_isSo_70 : decode cX10_isSo 70 = .ok (.baload, 1) := by decide +kernel
theorem dX10_isSo_71 : decode cX10_isSo 71 = .ok (.if_icmp .eq 5, 3) := by decide +kernel
theorem dX10_isSo_74 : decode cX10_isSo 74 = .ok (.iconst 0, 1) := by decide +kernel
theorem dX10_isSo_75 : decode cX10_isSo 75 = .ok (.ireturn, 1) := by decide +kernel
theorem dX10_isSo_76 : decode cX10_isSo 76 = .ok (.iinc 2 1, 3) := by decide +kernel
theorem dX10_isSo_79 : decode cX10_isSo 79 = .ok (.goto (-77), 3) := by decide +kernel
theorem dX10_isSo_82 : decode cX10_isSo 82 = .ok (.iconst 1, 1) := by decide +kernel
theorem dX10_isSo_83 : decode cX10_isSo 83 = .ok (.ireturn, 1) := by decide +kernel
theorem dX10_fitsEvery_0 : decode cX10_fitsEvery 0 = .ok (.aload_n 0, 1) := by decide +kernel
theorem dX10_fitsEvery_1 : decode cX10_fitsEvery 1 = .ok (.iconst 1, 1) := by decide +kernel
theorem dX10_fitsEvery_2 : decode cX10_fitsEvery 2 = .ok (.invokevirtual 325, 3) := by decide +kernel
theorem dX10_fitsEvery_5 : decode cX10_fitsEvery 5 = .ok (.iconst 1, 1) := by decide +kernel
theorem dX10_fitsEvery_6 : decode cX10_fitsEvery 6 = .ok (.istore_n 2, 1) := by decide +kernel
theorem dX10_fitsEvery_7 : decode cX10_fitsEvery 7 = .ok (.iload_n 2, 1) := by decide +kernel
theorem dX10_fitsEvery_8 : decode cX10_fitsEvery 8 = .ok (.iload_n 1, 1) := by decide +kernel
theorem dX10_fitsEvery_9 : decode cX10_fitsEvery 9 = .ok (.if_icmp .gt 25, 3) := by decide +kernel
theorem dX10_fitsEvery_12 : decode cX10_fitsEvery 12 = .ok (.aload_n 0, 1) := by decide +kernel
theorem dX10_fitsEvery_13 : decode cX10_fitsEvery 13 = .ok (.iconst 1, 1) := by decide +kernel
theorem dX10_fitsEvery_14 : decode cX10_fitsEvery 14 = .ok (.iconst 0, 1) := by decide +kernel
theorem dX10_fitsEvery_15 : decode cX10_fitsEvery 15 = .ok (.invokevirtual 401, 3) := by decide +kernel
theorem dX10_fitsEvery_18 : decode cX10_fitsEvery 18 = .ok (.aload_n 0, 1) := by decide +kernel
theorem dX10_fitsEvery_19 : decode cX10_fitsEvery 19 = .ok (.iload_n 2, 1) := by decide +kernel
theorem dX10_fitsEvery_20 : decode cX10_fitsEvery 20 = .ok (.invokevirtual 484, 3) := by decide +kernel
theorem dX10_fitsEvery_23 : decode cX10_fitsEvery 23 = .ok (.ifCond .ne 5, 3) := by decide +kernel
theorem dX10_fitsEvery_26 : decode cX10_fitsEvery 26 = .ok (.iconst 0, 1) := by decide +kernel
theorem dX10_fitsEvery_27 : decode cX10_fitsEvery 27 = .ok (.ireturn, 1) := by decide +kernel
theorem dX10_fitsEvery_28 : decode cX10_fitsEvery 28 = .ok (.iinc 2 1, 3) := by decide +kernel
theorem dX10_fitsEvery_31 : decode cX10_fitsEvery 31 = .ok (.goto (-24), 3) := by decide +kernel
theorem dX10_fitsEvery_34 : decode cX10_fitsEvery 34 = .ok (.iconst 1, 1) := by decide +kernel
theorem dX10_fitsEvery_35 : decode cX10_fitsEvery 35 = .ok (.ireturn, 1) := by decide +kernel
theorem dX10_everiesOf_0 : decode cX10_everiesOf 0 = .ok (.iconst 0, 1) := by decide +kernel
theorem dX10_everiesOf_1 : decode cX10_everiesOf 1 = .ok (.istore_n 2, 1) := by decide +kernel
theorem dX10_everiesOf_2 : decode cX10_everiesOf 2 = .ok (.iconst 0, 1) := by decide +kernel
theorem dX10_everiesOf_3 : decode cX10_everiesOf 3 = .ok (.istore_n 3, 1) := by decide +kernel
theorem dX10_everiesOf_4 : decode cX10_everiesOf 4 = .ok (.iload_n 3, 1) := by decide +kernel
theorem dX10_everiesOf_5 : decode cX10_everiesOf 5 = .ok (.aload_n 0, 1) := by decide +kernel
theorem dX10_everiesOf_6 : decode cX10_everiesOf 6 = .ok (.invokevirtual 481, 3) := by decide +kernel
theorem dX10_everiesOf_9 : decode cX10_everiesOf 9 = .ok (.if_icmp .ge 16, 3) := by decide +kernel
theorem dX10_everiesOf_12 : decode cX10_everiesOf 12 = .ok (.aload_n 0, 1) := by decide +kernel
theorem dX10_everiesOf_13 : decode cX10_everiesOf 13 = .ok (.getfield 136, 3) := by decide +kernel
theorem dX10_everiesOf_16 : decode cX10_everiesOf 16 = .ok (.iload_n 3, 1) := by decide +kernel
theorem dX10_everiesOf_17 : decode cX10_everiesOf 17 = .ok (.iconst 0, 1) := by decide +kernel
theorem dX10_everiesOf_18 : decode cX10_everiesOf 18 = .ok (.bastore, 1) := by decide +kernel
theorem dX10_everiesOf_19 : decode cX10_everiesOf 19 = .ok (.iinc 3 1, 3) := by decide +kernel
theorem dX10_everiesOf_22 : decode cX10_everiesOf 22 = .ok (.goto (-18), 3) := by decide +kernel
theorem dX10_everiesOf_25 : decode cX10_everiesOf 25 = .ok (.aload_n 0, 1) := by decide +kernel
theorem dX10_everiesOf_26 : decode cX10_everiesOf 26 = .ok (.invokevirtual 481, 3) := by decide +kernel
theorem dX10_everiesOf_29 : decode cX10_everiesOf 29 = .ok (.iconst 1, 1) := by decide +kernel
theorem dX10_everiesOf_30 : decode cX10_everiesOf 30 = .ok (.isub, 1) := by decide +kernel
theorem dX10_everiesOf_31 : decode cX10_everiesOf 31 = .ok (.istore_n 3, 1) := by decide +kernel
theorem dX10_everiesOf_32 : decode cX10_everiesOf 32 = .ok (.iload_n 3, 1) := by decide +kernel
theorem dX10_everiesOf_33 : decode cX10_everiesOf 33 = .ok (.ifCond .lt 40, 3) := by decide +kernel
theorem dX10_everiesOf_36 : decode cX10_everiesOf 36 = .ok (.aload_n 0, 1) := by decide +kernel
theorem dX10_everiesOf_37 : decode cX10_everiesOf 37 = .ok (.getfield 136, 3) := by decide +kernel
theorem dX10_everiesOf_40 : decode cX10_everiesOf 40 = .ok (.iload_n 3, 1) := by decide +kernel
theorem dX10_everiesOf_41 : decode cX10_everiesOf 41 = .ok (.baload, 1) := by decide +kernel
theorem dX10_everiesOf_42 : decode cX10_everiesOf 42 = .ok (.ifCond .ne 25, 3) := by decide +kernel
theorem dX10_everiesOf_45 : decode cX10_everiesOf 45 = .ok (.aload_n 0, 1) := by decide +kernel
theorem dX10_everiesOf_46 : decode cX10_everiesOf 46 = .ok (.getfield 133, 3) := by decide +kernel
theorem dX10_everiesOf_49 : decode cX10_everiesOf 49 = .ok (.iload_n 3, 1) := by decide +kernel
theorem dX10_everiesOf_50 : decode cX10_everiesOf 50 = .ok (.iaload, 1) := by decide +kernel
theorem dX10_everiesOf_51 : decode cX10_everiesOf 51 = .ok (.iconst (-1), 1) := by decide +kernel
theorem dX10_everiesOf_52 : decode cX10_everiesOf 52 = .ok (.if_icmp .eq 15, 3) := by decide +kernel
theorem dX10_everiesOf_55 : decode cX10_everiesOf 55 = .ok (.aload_n 0, 1) := by decide +kernel
theorem dX10_everiesOf_56 : decode cX10_everiesOf 56 = .ok (.getfield 136, 3) := by decide +kernel
theorem dX10_everiesOf_59 : decode cX10_everiesOf 59 = .ok (.aload_n 0, 1) := by decide +kernel
theorem dX10_everiesOf_60 : decode cX10_everiesOf 60 = .ok (.getfield 133, 3) := by decide +kernel
theorem dX10_everiesOf_63 : decode cX10_everiesOf 63 = .ok (.iload_n 3, 1) := by decide +kernel
theorem dX10_everiesOf_64 : decode cX10_everiesOf 64 = .ok (.iaload, 1) := by decide +kernel
theorem dX10_everiesOf_65 : decode cX10_everiesOf 65 = .ok (.iconst 1, 1) := by decide +kernel
theorem dX10_everiesOf_66 : decode cX10_everiesOf 66 = .ok (.bastore, 1) := by decide +kernel
theorem dX10_everiesOf_67 : decode cX10_everiesOf 67 = .ok (.iinc 3 (-1), 3) := by decide +kernel
theorem dX10_everiesOf_70 : decode cX10_everiesOf 70 = .ok (.goto (-38), 3) := by decide +kernel
theorem dX10_everiesOf_73 : decode cX10_everiesOf 73 = .ok (.iconst 0, 1) := by decide +kernel
theorem dX10_everiesOf_74 : decode cX10_everiesOf 74 = .ok (.istore_n 3, 1) := by decide +kernel
theorem dX10_everiesOf_75 : decode cX10_everiesOf 75 = .ok (.iload_n 3, 1) := by decide +kernel
theorem dX10_everiesOf_76 : decode cX10_everiesOf 76 = .ok (.aload_n 0, 1) := by decide +kernel
theorem dX10_everiesOf_77 : decode cX10_everiesOf 77 = .ok (.invokevirtual 481, 3) := by decide +kernel
theorem dX10_everiesOf_80 : decode cX10_everiesOf 80 = .ok (.if_icmp .ge 39, 3) := by decide +kernel
theorem dX10_everiesOf_83 : decode cX10_everiesOf 83 = .ok (.aload_n 0, 1) := by decide +kernel
theorem dX10_everiesOf_84 : decode cX10_everiesOf 84 = .ok (.getfield 136, 3) := by decide +kernel
theorem dX10_everiesOf_87 : decode cX10_everiesOf 87 = .ok (.iload_n 3, 1) := by decide +kernel
theorem dX10_everiesOf_88 : decode cX10_everiesOf 88 = .ok (.baload, 1) := by decide +kernel
theorem dX10_everiesOf_89 : decode cX10_everiesOf 89 = .ok (.ifCond .ne 24, 3) := by decide +kernel
theorem dX10_everiesOf_92 : decode cX10_everiesOf 92 = .ok (.aload_n 0, 1) := by decide +kernel
theorem dX10_everiesOf_93 : decode cX10_everiesOf 93 = .ok (.getfield 133, 3) := by decide +kernel
theorem dX10_everiesOf_96 : decode cX10_everiesOf 96 = .ok (.iload_n 3, 1) := by decide +kernel
theorem dX10_everiesOf_97 : decode cX10_everiesOf 97 = .ok (.iaload, 1) := by decide +kernel
theorem dX10_everiesOf_98 : decode cX10_everiesOf 98 = .ok (.iconst (-1), 1) := by decide +kernel
theorem dX10_everiesOf_99 : decode cX10_everiesOf 99 = .ok (.if_icmp .ne 14, 3) := by decide +kernel
theorem dX10_everiesOf_102 : decode cX10_everiesOf 102 = .ok (.iload_n 2, 1) := by decide +kernel
theorem dX10_everiesOf_103 : decode cX10_everiesOf 103 = .ok (.aload_n 0, 1) := by decide +kernel
theorem dX10_everiesOf_104 : decode cX10_everiesOf 104 = .ok (.getfield 123, 3) := by decide +kernel
theorem dX10_everiesOf_107 : decode cX10_everiesOf 107 = .ok (.iload_n 3, 1) := by decide +kernel
theorem dX10_everiesOf_108 : decode cX10_everiesOf 108 = .ok (.iaload, 1) := by decide +kernel
theorem dX10_everiesOf_109 : decode cX10_everiesOf 109 = .ok (.invokestatic 376, 3) := by decide +kernel
theorem dX10_everiesOf_112 : decode cX10_everiesOf 112 = .ok (.istore_n 2, 1) := by decide +kernel
theorem dX10_everiesOf_113 : decode cX10_everiesOf 113 = .ok (.iinc 3 1, 3) := by decide +kernel
theorem dX10_everiesOf_116 : decode cX10_everiesOf 116 = .ok (.goto (-41), 3) := by decide +kernel
theorem dX10_everiesOf_119 : decode cX10_everiesOf 119 = .ok (.iconst 0, 1) := by decide +kernel
theorem dX10_everiesOf_120 : decode cX10_everiesOf 120 = .ok (.istore_n 3, 1) := by decide +kernel
theorem dX10_everiesOf_121 : decode cX10_everiesOf 121 = .ok (.aload_n 0, 1) := by decide +kernel
theorem dX10_everiesOf_122 : decode cX10_everiesOf 122 = .ok (.iload_n 1, 1) := by decide +kernel
theorem dX10_everiesOf_123 : decode cX10_everiesOf 123 = .ok (.putfield 102, 3) := by decide +kernel
theorem dX10_everiesOf_126 : decode cX10_everiesOf 126 = .ok (.iconst 0, 1) := by decide +kernel
theorem dX10_everiesOf_127 : decode cX10_everiesOf 127 = .ok (.istore 4, 2) := by decide +kernel
theorem dX10_everiesOf_129 : decode cX10_everiesOf 129 = .ok (.iload 4, 2) := by decide +kernel
theorem dX10_everiesOf_131 : decode cX10_everiesOf 131 = .ok (.bipush 30, 2) := by decide +kernel
theorem dX10_everiesOf_133 : decode cX10_everiesOf 133 = .ok (.if_icmp .ge 36, 3) := by decide +kernel
theorem dX10_everiesOf_136 : decode cX10_everiesOf 136 = .ok (.aload_n 0, 1) := by decide +kernel
theorem dX10_everiesOf_137 : decode cX10_everiesOf 137 = .ok (.iload 4, 2) := by decide +kernel
theorem dX10_everiesOf_139 : decode cX10_everiesOf 139 = .ok (.iconst 1, 1) := by decide +kernel
theorem dX10_everiesOf_140 : decode cX10_everiesOf 140 = .ok (.iadd, 1) := by decide +kernel
theorem dX10_everiesOf_141 : decode cX10_everiesOf 141 = .ok (.putfield 331, 3) := by decide +kernel
theorem dX10_everiesOf_144 : decode cX10_everiesOf 144 = .ok (.iload_n 3, 1) := by decide +kernel
theorem dX10_everiesOf_145 : decode cX10_everiesOf 145 = .ok (.aload_n 0, 1) := by decide +kernel
theorem dX10_everiesOf_146 : decode cX10_everiesOf 146 = .ok (.iload_n 2, 1) := by decide +kernel
theorem dX10_everiesOf_147 : decode cX10_everiesOf 147 = .ok (.invokevirtual 487, 3) := by decide +kernel
theorem dX10_everiesOf_150 : decode cX10_everiesOf 150 = .ok (.ifCond .eq 10, 3) := by decide +kernel
theorem dX10_everiesOf_153 : decode cX10_everiesOf 153 = .ok (.iconst 1, 1) := by decide +kernel
theorem dX10_everiesOf_154 : decode cX10_everiesOf 154 = .ok (.iload 4, 2) := by decide +kernel
theorem dX10_everiesOf_156 : decode cX10_everiesOf 156 = .ok (.ishl, 1) := by decide +kernel
theorem dX10_everiesOf_157 : decode cX10_everiesOf 157 = .ok (.goto 4, 3) := by decide +kernel
theorem dX10_everiesOf_160 : decode cX10_everiesOf 160 = .ok (.iconst 0, 1) := by decide +kernel
theorem dX10_everiesOf_161 : decode cX10_everiesOf 161 = .ok (.ior, 1) := by decide +kernel
theorem dX10_everiesOf_162 : decode cX10_everiesOf 162 = .ok (.istore_n 3, 1) := by decide +kernel
theorem dX10_everiesOf_163 : decode cX10_everiesOf 163 = .ok (.iinc 4 1, 3) := by decide +kernel
theorem dX10_everiesOf_166 : decode cX10_everiesOf 166 = .ok (.goto (-37), 3) := by decide +kernel
theorem dX10_everiesOf_169 : decode cX10_everiesOf 169 = .ok (.aload_n 0, 1) := by decide +kernel
theorem dX10_everiesOf_170 : decode cX10_everiesOf 170 = .ok (.iconst (-1), 1) := by decide +kernel
theorem dX10_everiesOf_171 : decode cX10_everiesOf 171 = .ok (.putfield 102, 3) := by decide +kernel
theorem dX10_everiesOf_174 : decode cX10_everiesOf 174 = .ok (.iload_n 3, 1) := by decide +kernel
theorem dX10_everiesOf_175 : decode cX10_everiesOf 175 = .ok (.ireturn, 1) := by decide +kernel
theorem dX10_everies_0 : decode cX10_everies 0 = .ok (.aload_n 0, 1) := by decide +kernel
theorem dX10_everies_1 : decode cX10_everies 1 = .ok (.iconst 0, 1) := by decide +kernel
theorem dX10_everies_2 : decode cX10_everies 2 = .ok (.putfield 142, 3) := by decide +kernel
theorem dX10_everies_5 : decode cX10_everies 5 = .ok (.aload_n 0, 1) := by decide +kernel
theorem dX10_everies_6 : decode cX10_everies 6 = .ok (.iload_n 1, 1) := by decide +kernel
theorem dX10_everies_7 : decode cX10_everies 7 = .ok (.invokevirtual 420, 3) := by decide +kernel
theorem dX10_everies_10 : decode cX10_everies 10 = .ok (.ifCond .eq 11, 3) := by decide +kernel
theorem dX10_everies_13 : decode cX10_everies 13 = .ok (.aload_n 0, 1) := by decide +kernel
theorem dX10_everies_14 : decode cX10_everies 14 = .ok (.iload_n 1, 1) := by decide +kernel
theorem dX10_everies_15 : decode cX10_everies 15 = .ok (.invokevirtual 490, 3) := by decide +kernel
theorem dX10_everies_18 : decode cX10_everies 18 = .ok (.goto 4, 3) := by decide +kernel
theorem dX10_everies_21 : decode cX10_everies 21 = .ok (.iconst (-1), 1) := by decide +kernel
theorem dX10_everies_22 : decode cX10_everies 22 = .ok (.ireturn, 1) := by decide +kernel
theorem dX10_ask_0 : decode cX10_ask 0 = .ok (.aload_n 0, 1) := by decide +kernel
theorem dX10_ask_1 : decode cX10_ask 1 = .ok (.iconst 0, 1) := by decide +kernel
theorem dX10_ask_2 : decode cX10_ask 2 = .ok (.putfield 142, 3) := by decide +kernel
theorem dX10_ask_5 : decode cX10_ask 5 = .ok (.aload_n 0, 1) := by decide +kernel
theorem dX10_ask_6 : decode cX10_ask 6 = .ok (.iload_n 1, 1) := by decide +kernel
theorem dX10_ask_7 : decode cX10_ask 7 = .ok (.invokevirtual 420, 3) := by decide +kernel
theorem dX10_ask_10 : decode cX10_ask 10 = .ok (.ifCond .eq 12, 3) := by decide +kernel
theorem dX10_ask_13 : decode cX10_ask 13 = .ok (.iload_n 2, 1) := by decide +kernel
theorem dX10_ask_14 : decode cX10_ask 14 = .ok (.ifCond .lt 8, 3) := by decide +kernel
theorem dX10_ask_17 : decode cX10_ask 17 = .ok (.iload_n 2, 1) := by decide +kernel
theorem dX10_ask_18 : decode cX10_ask 18 = .ok (.iconst 1, 1) := by decide +kernel
theorem dX10_ask_19 : decode cX10_ask 19 = .ok (.if_icmp .le 5, 3) := by decide +kernel
theorem dX10_ask_22 : decode cX10_ask 22 = .ok (.iconst (-1), 1) := by decide +kernel
theorem dX10_ask_23 : decode cX10_ask 23 = .ok (.ireturn, 1) := by decide +kernel
theorem dX10_ask_24 : decode cX10_ask 24 = .ok (.aload_n 0, 1) := by decide +kernel
theorem dX10_ask_25 : decode cX10_ask 25 = .ok (.iload_n 1, 1) := by decide +kernel
theorem dX10_ask_26 : decode cX10_ask 26 = .ok (.invokevirtual 490, 3) := by decide +kernel
theorem dX10_ask_29 : decode cX10_ask 29 = .ok (.istore_n 3, 1) := by decide +kernel
theorem dX10_ask_30 : decode cX10_ask 30 = .ok (.iconst (-1), 1) := by decide +kernel
theorem dX10_ask_31 : decode cX10_ask 31 = .ok (.istore 4, 2) := by decide +kernel
theorem dX10_ask_33 : decode cX10_ask 33 = .ok (.iconst 0, 1) := by decide +kernel
theorem dX10_ask_34 : decode cX10_ask 34 = .ok (.istore 5, 2) := by decide +kernel
theorem dX10_ask_36 : decode cX10_ask 36 = .ok (.iconst 0, 1) := by decide +kernel
theorem dX10_ask_37 : decode cX10_ask 37 = .ok (.istore 6, 2) := by decide +kernel
theorem dX10_ask_39 : decode cX10_ask 39 = .ok (.iload 6, 2) := by decide +kernel
theorem dX10_ask_41 : decode cX10_ask 41 = .ok (.bipush 60, 2) := by decide +kernel
theorem dX10_ask_43 : decode cX10_ask 43 = .ok (.if_icmp .gt 113, 3) := by decide +kernel
theorem dX10_ask_46 : decode cX10_ask 46 = .ok (.iconst 0, 1) := by decide +kernel
theorem dX10_ask_47 : decode cX10_ask 47 = .ok (.istore 7, 2) := by decide +kernel
theorem dX10_ask_49 : decode cX10_ask 49 = .ok (.iconst 0, 1) := by decide +kernel
theorem dX10_ask_50 : decode cX10_ask 50 = .ok (.istore 8, 2) := by decide +kernel
theorem dX10_ask_52 : decode cX10_ask 52 = .ok (.iconst 0, 1) := by decide +kernel
theorem dX10_ask_53 : decode cX10_ask 53 = .ok (.istore 9, 2) := by decide +kernel
theorem dX10_ask_55 : decode cX10_ask 55 = .ok (.iload 9, 2) := by decide +kernel
theorem dX10_ask_57 : decode cX10_ask 57 = .ok (.bipush 30, 2) := by decide +kernel
theorem dX10_ask_59 : decode cX10_ask 59 = .ok (.if_icmp .ge 58, 3) := by decide +kernel
theorem dX10_ask_62 : decode cX10_ask 62 = .ok (.iload_n 3, 1) := by decide +kernel
theorem dX10_ask_63 : decode cX10_ask 63 = .ok (.iload 9, 2) := by decide +kernel
theorem dX10_ask_65 : decode cX10_ask 65 = .ok (.ishr, 1) := by decide +kernel
theorem dX10_ask_66 : decode cX10_ask 66 = .ok (.iconst 1, 1) := by decide +kernel
theorem dX10_ask_67 : decode cX10_ask 67 = .ok (.iand, 1) := by decide +kernel
theorem dX10_ask_68 : decode cX10_ask 68 = .ok (.ifCond .ne 6, 3) := by decide +kernel
theorem dX10_ask_71 : decode cX10_ask 71 = .ok (.goto 40, 3) := by decide +kernel
theorem dX10_ask_74 : decode cX10_ask 74 = .ok (.iload 6, 2) := by decide +kernel
theorem dX10_ask_76 : decode cX10_ask 76 = .ok (.aload_n 0, 1) := by decide +kernel
theorem dX10_ask_77 : decode cX10_ask 77 = .ok (.getfield 31, 3) := by decide +kernel
theorem dX10_ask_80 : decode cX10_ask 80 = .ok (.iload_n 1, 1) := by decide +kernel
theorem dX10_ask_81 : decode cX10_ask 81 = .ok (.iaload, 1) := by decide +kernel
theorem dX10_ask_82 : decode cX10_ask 82 = .ok (.if_icmp .lt 26, 3) := by decide +kernel
theorem dX10_ask_85 : decode cX10_ask 85 = .ok (.iload 6, 2) := by decide +kernel
theorem dX10_ask_87 : decode cX10_ask 87 = .ok (.aload_n 0, 1) := by decide +kernel
theorem dX10_ask_88 : decode cX10_ask 88 = .ok (.getfield 31, 3) := by decide +kernel
theorem dX10_ask_91 : decode cX10_ask 91 = .ok (.iload_n 1, 1) := by decide +kernel
theorem dX10_ask_92 : decode cX10_ask 92 = .ok (.iaload, 1) := by decide +kernel
theorem dX10_ask_93 : decode cX10_ask 93 = .ok (.isub, 1) := by decide +kernel
theorem dX10_ask_94 : decode cX10_ask 94 = .ok (.iload 9, 2) := by decide +kernel
theorem dX10_ask_96 : decode cX10_ask 96 = .ok (.iconst 1, 1) := by decide +kernel
theorem dX10_ask_97 : decode cX10_ask 97 = .ok (.iadd, 1) := by decide +kernel
theorem dX10_ask_98 : decode cX10_ask 98 = .ok (.irem, 1) := by decide +kernel
theorem dX10_ask_99 : decode cX10_ask 99 = .ok (.ifCond .ne 9, 3) := by decide +kernel
theorem dX10_ask_102 : decode cX10_ask 102 = .ok (.iinc 7 1, 3) := by decide +kernel
theorem dX10_ask_105 : decode cX10_ask 105 = .ok (.goto 6, 3) := by decide +kernel
theorem dX10_ask_108 : decode cX10_ask 108 = .ok (.iinc 8 1, 3) := by decide +kernel
theorem dX10_ask_111 : decode cX10_ask 111 = .ok (.iinc 9 1, 3) := by decide +kernel
theorem dX10_ask_114 : decode cX10_ask 114 = .ok (.goto (-59), 3) := by decide +kernel
theorem dX10_ask_117 : decode cX10_ask 117 = .ok (.iload 7, 2) := by decide +kernel
theorem dX10_ask_119 : decode cX10_ask 119 = .ok (.iload 8, 2) := by decide +kernel
theorem dX10_ask_121 : decode cX10_ask 121 = .ok (.invokestatic 376, 3) := by decide +kernel
theorem dX10_ask_124 : decode cX10_ask 124 = .ok (.istore 9, 2) := by decide +kernel
theorem dX10_ask_126 : decode cX10_ask 126 = .ok (.iload 4, 2) := by decide +kernel
theorem dX10_ask_128 : decode cX10_ask 128 = .ok (.iconst (-1), 1) := by decide +kernel
theorem dX10_ask_129 : decode cX10_ask 129 = .ok (.if_icmp .eq 13, 3) := by decide +kernel
theorem dX10_ask_132 : decode cX10_ask 132 = .ok (.iload 9, 2) := by decide +kernel
theorem dX10_ask_134 : decode cX10_ask 134 = .ok (.iload 5, 2) := by decide +kernel
theorem dX10_ask_136 : decode cX10_ask 136 = .ok (.if_icmp .lt 6, 3) := by decide +kernel
theorem dX10_ask_139 : decode cX10_ask 139 = .ok (.goto 11, 3) := by decide +kernel
theorem dX10_ask_142 : decode cX10_ask 142 = .ok (.iload 6, 2) := by decide +kernel
theorem dX10_ask_144 : decode cX10_ask 144 = .ok (.istore 4, 2) := by decide +kernel
theorem dX10_ask_146 : decode cX10_ask 146 = .ok (.iload 9, 2) := by decide +kernel
theorem dX10_ask_148 : decode cX10_ask 148 = .ok (.istore 5, 2) := by decide +kernel
theorem dX10_ask_150 : decode cX10_ask 150 = .ok (.iinc 6 1, 3) := by decide +kernel
theorem dX10_ask_153 : decode cX10_ask 153 = .ok (.goto (-114), 3) := by decide +kernel
theorem dX10_ask_156 : decode cX10_ask 156 = .ok (.iload_n 2, 1) := by decide +kernel
theorem dX10_ask_157 : decode cX10_ask 157 = .ok (.ifCond .ne 8, 3) := by decide +kernel
theorem dX10_ask_160 : decode cX10_ask 160 = .ok (.iload 4, 2) := by decide +kernel
theorem dX10_ask_162 : decode cX10_ask 162 = .ok (.goto 5, 3) := by decide +kernel
theorem dX10_ask_165 : decode cX10_ask 165 = .ok (.iload 5, 2) := by decide +kernel
theorem dX10_ask_167 : decode cX10_ask 167 = .ok (.ireturn, 1) := by decide +kernel
theorem dX10_chance_0 : decode cX10_chance 0 = .ok (.aload_n 0, 1) := by decide +kernel
theorem dX10_chance_1 : decode cX10_chance 1 = .ok (.iconst 0, 1) := by decide +kernel
theorem dX10_chance_2 : decode cX10_chance 2 = .ok (.putfield 142, 3) := by decide +kernel
theorem dX10_chance_5 : decode cX10_chance 5 = .ok (.iload_n 1, 1) := by decide +kernel
theorem dX10_chance_6 : decode cX10_chance 6 = .ok (.ifCond .lt 35, 3) := by decide +kernel
theorem dX10_chance_9 : decode cX10_chance 9 = .ok (.iload_n 2, 1) := by decide +kernel
theorem dX10_chance_10 : decode cX10_chance 10 = .ok (.iconst 1, 1) := by decide +kernel
theorem dX10_chance_11 : decode cX10_chance 11 = .ok (.if_icmp .lt 30, 3) := by decide +kernel
theorem dX10_chance_14 : decode cX10_chance 14 = .ok (.iload_n 2, 1) := by decide +kernel
theorem dX10_chance_15 : decode cX10_chance 15 = .ok (.bipush 99, 2) := by decide +kernel
theorem dX10_chance_17 : decode cX10_chance 17 = .ok (.if_icmp .gt 24, 3) := by decide +kernel
theorem dX10_chance_20 : decode cX10_chance 20 = .ok (.aload_n 0, 1) := by decide +kernel
theorem dX10_chance_21 : decode cX10_chance 21 = .ok (.iload_n 3, 1) := by decide +kernel
theorem dX10_chance_22 : decode cX10_chance 22 = .ok (.invokevirtual 411, 3) := by decide +kernel
theorem dX10_chance_25 : decode cX10_chance 25 = .ok (.ifCond .eq 16, 3) := by decide +kernel
theorem dX10_chance_28 : decode cX10_chance 28 = .ok (.iload 4, 2) := by decide +kernel
theorem dX10_chance_30 : decode cX10_chance 30 = .ok (.ifCond .lt 11, 3) := by decide +kernel
theorem dX10_chance_33 : decode cX10_chance 33 = .ok (.iload 4, 2) := by decide +kernel
theorem dX10_chance_35 : decode cX10_chance 35 = .ok (.sipush 999, 3) := by decide +kernel
theorem dX10_chance_38 : decode cX10_chance 38 = .ok (.if_icmp .le 5, 3) := by decide +kernel
theorem dX10_chance_41 : decode cX10_chance 41 = .ok (.iconst (-1), 1) := by decide +kernel
theorem dX10_chance_42 : decode cX10_chance 42 = .ok (.ireturn, 1) := by decide +kernel
theorem dX10_chance_43 : decode cX10_chance 43 = .ok (.iload_n 1, 1) := by decide +kernel
theorem dX10_chance_44 : decode cX10_chance 44 = .ok (.istore 5, 2) := by decide +kernel
theorem dX10_chance_46 : decode cX10_chance 46 = .ok (.iconst 0, 1) := by decide +kernel
theorem dX10_chance_47 : decode cX10_chance 47 = .ok (.istore 6, 2) := by decide +kernel
theorem dX10_chance_49 : decode cX10_chance 49 = .ok (.iconst 0, 1) := by decide +kernel
theorem dX10_chance_50 : decode cX10_chance 50 = .ok (.istore 7, 2) := by decide +kernel
theorem dX10_chance_52 : decode cX10_chance 52 = .ok (.iload 7, 2) := by decide +kernel
theorem dX10_chance_54 : decode cX10_chance 54 = .ok (.bipush 10, 2) := by decide +kernel
theorem dX10_chance_56 : decode cX10_chance 56 = .ok (.if_icmp .ge 76, 3) := by decide +kernel
theorem dX10_chance_59 : decode cX10_chance 59 = .ok (.aload_n 0, 1) := by decide +kernel
theorem dX10_chance_60 : decode cX10_chance 60 = .ok (.iconst 1, 1) := by decide +kernel
theorem dX10_chance_61 : decode cX10_chance 61 = .ok (.iconst 0, 1) := by decide +kernel
theorem dX10_chance_62 : decode cX10_chance 62 = .ok (.invokevirtual 405, 3) := by decide +kernel
theorem dX10_chance_65 : decode cX10_chance 65 = .ok (.aload_n 0, 1) := by decide +kernel
theorem dX10_chance_66 : decode cX10_chance 66 = .ok (.getfield 75, 3) := by decide +kernel
theorem dX10_chance_69 : decode cX10_chance 69 = .ok (.iconst 1, 1) := by decide +kernel
theorem dX10_chance_70 : decode cX10_chance 70 = .ok (.iload 5, 2) := by decide +kernel
theorem dX10_chance_72 : decode cX10_chance 72 = .ok (.iastore, 1) := by decide +kernel
theorem dX10_chance_73 : decode cX10_chance 73 = .ok (.iconst 0, 1) := by decide +kernel
theorem dX10_chance_74 : decode cX10_chance 74 = .ok (.istore 8, 2) := by decide +kernel
theorem dX10_chance_76 : decode cX10_chance 76 = .ok (.iload 8, 2) := by decide +kernel
theorem dX10_chance_78 : decode cX10_chance 78 = .ok (.iload_n 2, 1) := by decide +kernel
theorem dX10_chance_79 : decode cX10_chance 79 = .ok (.if_icmp .ge 15, 3) := by decide +kernel
theorem dX10_chance_82 : decode cX10_chance 82 = .ok (.aload_n 0, 1) := by decide +kernel
theorem dX10_chance_83 : decode cX10_chance 83 = .ok (.iconst 1, 1) := by decide +kernel
theorem dX10_chance_84 : decode cX10_chance 84 = .ok (.iconst 1, 1) := by decide +kernel
theorem dX10_chance_85 : decode cX10_chance 85 = .ok (.invokevirtual 401, 3) := by decide +kernel
theorem dX10_chance_88 : decode cX10_chance 88 = .ok (.iinc 8 1, 3) := by decide +kernel
theorem dX10_chance_91 : decode cX10_chance 91 = .ok (.goto (-15), 3) := by decide +kernel
theorem dX10_chance_94 : decode cX10_chance 94 = .ok (.aload_n 0, 1) := by decide +kernel
theorem dX10_chance_95 : decode cX10_chance 95 = .ok (.getfield 75, 3) := by decide +kernel
theorem dX10_chance_98 : decode cX10_chance 98 = .ok (.iconst 1, 1) := by decide +kernel
theorem dX10_chance_99 : decode cX10_chance 99 = .ok (.iaload, 1) := by decide +kernel
theorem dX10_chance_100 : decode cX10_chance 100 = .ok (.istore 5, 2) := by decide +kernel
theorem dX10_chance_102 : decode cX10_chance 102 = .ok (.iload 6, 2) := by decide +kernel
theorem dX10_chance_104 : decode cX10_chance 104 = .ok (.aload_n 0, 1) := by decide +kernel
theorem dX10_chance_105 : decode cX10_chance 105 = .ok (.getfield 90, 3) := by decide +kernel
theorem dX10_chance_108 : decode cX10_chance 108 = .ok (.bipush 8, 2) := by decide +kernel
theorem dX10_chance_110 : decode cX10_chance 110 = .ok (.iload_n 3, 1) := by decide +kernel
theorem dX10_chance_111 : decode cX10_chance 111 = .ok (.iadd, 1) := by decide +kernel
theorem dX10_chance_112 : decode cX10_chance 112 = .ok (.iaload, 1) := by decide +kernel
theorem dX10_chance_113 : decode cX10_chance 113 = .ok (.iload 4, 2) := by decide +kernel
theorem dX10_chance_115 : decode cX10_chance 115 = .ok (.if_icmp .lt 7, 3) := by decide +kernel
theorem dX10_chance_118 : decode cX10_chance 118 = .ok (.iconst 1, 1) := by decide +kernel
theorem dX10_chance_119 : decode cX10_chance 119 = .ok (.goto 4, 3) := by decide +kernel
theorem dX10_chance_122 : decode cX10_chance 122 = .ok (.iconst 0, 1) := by decide +kernel
theorem dX10_chance_123 : decode cX10_chance 123 = .ok (.iadd, 1) := by decide +kernel
theorem dX10_chance_124 : decode cX10_chance 124 = .ok (.istore 6, 2) := by decide +kernel
theorem dX10_chance_126 : decode cX10_chance 126 = .ok (.iinc 7 1, 3) := by decide +kernel
theorem dX10_chance_129 : decode cX10_chance 129 = .ok (.goto (-77), 3) := by decide +kernel
theorem dX10_chance_132 : decode cX10_chance 132 = .ok (.iload 6, 2) := by decide +kernel
theorem dX10_chance_134 : decode cX10_chance 134 = .ok (.ireturn, 1) := by decide +kernel
theorem dX10_tried_0 : decode cX10_tried 0 = .ok (.aload_n 0, 1) := by decide +kernel
theorem dX10_tried_1 : decode cX10_tried 1 = .ok (.iconst 0, 1) := by decide +kernel
theorem dX10_tried_2 : decode cX10_tried 2 = .ok (.putfield 142, 3) := by decide +kernel
theorem dX10_tried_5 : decode cX10_tried 5 = .ok (.iload_n 1, 1) := by decide +kernel
theorem dX10_tried_6 : decode cX10_tried 6 = .ok (.iconst 2, 1) := by decide +kernel
theorem dX10_tried_7 : decode cX10_tried 7 = .ok (.if_icmp .ne 11, 3) := by decide +kernel
theorem dX10_tried_10 : decode cX10_tried 10 = .ok (.aload_n 0, 1) := by decide +kernel
theorem dX10_tried_11 : decode cX10_tried 11 = .ok (.iload_n 2, 1) := by decide +kernel
theorem dX10_tried_12 : decode cX10_tried 12 = .ok (.invokevirtual 411, 3) := by decide +kernel
theorem dX10_tried_15 : decode cX10_tried 15 = .ok (.goto 21, 3) := by decide +kernel
theorem dX10_tried_18 : decode cX10_tried 18 = .ok (.iload_n 1, 1) := by decide +kernel
theorem dX10_tried_19 : decode cX10_tried 19 = .ok (.ifCond .lt 16, 3) := by decide +kernel
theorem dX10_tried_22 : decode cX10_tried 22 = .ok (.iload_n 1, 1) := by decide +kernel
theorem dX10_tried_23 : decode cX10_tried 23 = .ok (.iconst 5, 1) := by decide +kernel
theorem dX10_tried_24 : decode cX10_tried 24 = .ok (.if_icmp .gt 11, 3) := by decide +kernel
theorem dX10_tried_27 : decode cX10_tried 27 = .ok (.iload_n 2, 1) := by decide +kernel
theorem dX10_tried_28 : decode cX10_tried 28 = .ok (.ifCond .ne 7, 3) := by decide +kernel
theorem dX10_tried_31 : decode cX10_tried 31 = .ok (.iconst 1, 1) := by decide +kernel
theorem dX10_tried_32 : decode cX10_tried 32 = .ok (.goto 4, 3) := by decide +kernel
theorem dX10_tried_35 : decode cX10_tried 35 = .ok (.iconst 0, 1) := by decide +kernel
theorem dX10_tried_36 : decode cX10_tried 36 = .ok (.istore 4, 2) := by decide +kernel
theorem dX10_tried_38 : decode cX10_tried 38 = .ok (.iload 4, 2) := by decide +kernel
theorem dX10_tried_40 : decode cX10_tried 40 = .ok (.ifCond .eq 14, 3) := by decide +kernel
theorem dX10_tried_43 : decode cX10_tried 43 = .ok (.iload_n 3, 1) := by decide +kernel
theorem dX10_tried_44 : decode cX10_tried 44 = .ok (.ifCond .lt 10, 3) := by decide +kernel
theorem dX10_tried_47 : decode cX10_tried 47 = .ok (.iload_n 3, 1) := by decide +kernel
theorem dX10_tried_48 : decode cX10_tried 48 = .ok (.sipush 200, 3) := by decide +kernel
theorem dX10_tried_51 : decode cX10_tried 51 = .ok (.if_icmp .le 5, 3) := by decide +kernel
theorem dX10_tried_54 : decode cX10_tried 54 = .ok (.iconst (-1), 1) := by decide +kernel
theorem dX10_tried_55 : decode cX10_tried 55 = .ok (.ireturn, 1) := by decide +kernel
theorem dX10_tried_56 : decode cX10_tried 56 = .ok (.aload_n 0, 1) := by decide +kernel
theorem dX10_tried_57 : decode cX10_tried 57 = .ok (.iconst 1, 1) := by decide +kernel
theorem dX10_tried_58 : decode cX10_tried 58 = .ok (.iconst 0, 1) := by decide +kernel
theorem dX10_tried_59 : decode cX10_tried 59 = .ok (.invokevirtual 405, 3) := by decide +kernel
theorem dX10_tried_62 : decode cX10_tried 62 = .ok (.iload_n 1, 1) := by decide +kernel
theorem dX10_tried_63 : decode cX10_tried 63 = .ok (.iconst 2, 1) := by decide +kernel
theorem dX10_tried_64 : decode cX10_tried 64 = .ok (.if_icmp .ne 23, 3) := by decide +kernel
theorem dX10_tried_67 : decode cX10_tried 67 = .ok (.aload_n 0, 1) := by decide +kernel
theorem dX10_tried_68 : decode cX10_tried 68 = .ok (.getfield 84, 3) := by decide +kernel
theorem dX10_tried_71 : decode cX10_tried 71 = .ok (.bipush 8, 2) := by decide +kernel
theorem dX10_tried_73 : decode cX10_tried 73 = .ok (.iload_n 2, 1) := by decide +kernel
theorem dX10_tried_74 : decode cX10_tried 74 = .ok (.iadd, 1) := by decide +kernel
theorem dX10_tried_75 : decode cX10_tried 75 = .ok (.iaload, 1) := by decide +kernel
theorem dX10_tried_76 : decode cX10_tried 76 = .ok (.iconst 2, 1) := by decide +kernel
theorem dX10_tried_77 : decode cX10_tried 77 = .ok (.if_icmp .ge 10, 3) := by decide +kernel
theorem dX10_tried_80 : decode cX10_tried 80 = .ok (.aload_n 0, 1) := by decide +kernel
theorem dX10_tried_81 : decode cX10_tried 81 = .ok (.iconst 1, 1) := by decide +kernel
theorem dX10_tried_82 : decode cX10_tried 82 = .ok (.iload_n 2, 1) := by decide +kernel
theorem dX10_tried_83 : decode cX10_tried 83 = .ok (.iconst 3, 1) := by decide +kernel
theorem dX10_tried_84 : decode cX10_tried 84 = .ok (.invokevirtual 373, 3) := by decide +kernel
theorem dX10_tried_87 : decode cX10_tried 87 = .ok (.iconst 0, 1) := by decide +kernel
theorem dX10_tried_88 : decode cX10_tried 88 = .ok (.istore 5, 2) := by decide +kernel
theorem dX10_tried_90 : decode cX10_tried 90 = .ok (.iload 5, 2) := by decide +kernel
theorem dX10_tried_92 : decode cX10_tried 92 = .ok (.bipush 8, 2) := by decide +kernel
theorem dX10_tried_94 : decode cX10_tried 94 = .ok (.if_icmp .ge 26, 3) := by decide +kernel
theorem dX10_tried_97 : decode cX10_tried 97 = .ok (.iload_n 1, 1) := by decide +kernel
theorem dX10_tried_98 : decode cX10_tried 98 = .ok (.iconst 5, 1) := by decide +kernel
theorem dX10_tried_99 : decode cX10_tried 99 = .ok (.if_icmp .ne 21, 3) := by decide +kernel
theorem dX10_tried_102 : decode cX10_tried 102 = .ok (.aload_n 0, 1) := by decide +kernel
theorem dX10_tried_103 : decode cX10_tried 103 = .ok (.getfield 87, 3) := by decide +kernel
theorem dX10_tried_106 : decode cX10_tried 106 = .ok (.bipush 8, 2) := by decide +kernel
theorem dX10_tried_108 : decode cX10_tried 108 = .ok (.iload 5, 2) := by decide +kernel
theorem dX10_tried_110 : decode cX10_tried 110 = .ok (.iadd, 1) := by decide +kernel
theorem dX10_tried_111 : decode cX10_tried 111 = .ok (.bipush 99, 2) := by decide +kernel
theorem dX10_tried_113 : decode cX10_tried 113 = .ok (.iastore, 1) := by decide +kernel
theorem dX10_tried_114 : decode cX10_tried 114 = .ok (.iinc 5 1, 3) := by decide +kernel
theorem dX10_tried_117 : decode cX10_tried 117 = .ok (.goto (-27), 3) := by decide +kernel
theorem dX10_tried_120 : decode cX10_tried 120 = .ok (.aload_n 0, 1) := by decide +kernel
theorem dX10_tried_121 : decode cX10_tried 121 = .ok (.iload_n 1, 1) := by decide +kernel
theorem dX10_tried_122 : decode cX10_tried 122 = .ok (.putfield 349, 3) := by decide +kernel
theorem dX10_tried_125 : decode cX10_tried 125 = .ok (.aload_n 0, 1) := by decide +kernel
theorem dX10_tried_126 : decode cX10_tried 126 = .ok (.iload_n 3, 1) := by decide +kernel
theorem dX10_tried_127 : decode cX10_tried 127 = .ok (.invokevirtual 408, 3) := by decide +kernel
theorem dX10_tried_130 : decode cX10_tried 130 = .ok (.aload_n 0, 1) := by decide +kernel
theorem dX10_tried_131 : decode cX10_tried 131 = .ok (.iconst 0, 1) := by decide +kernel
theorem dX10_tried_132 : decode cX10_tried 132 = .ok (.putfield 349, 3) := by decide +kernel
theorem dX10_tried_135 : decode cX10_tried 135 = .ok (.aload_n 0, 1) := by decide +kernel
theorem dX10_tried_136 : decode cX10_tried 136 = .ok (.iconst 1, 1) := by decide +kernel
theorem dX10_tried_137 : decode cX10_tried 137 = .ok (.iconst 2, 1) := by decide +kernel
theorem dX10_tried_138 : decode cX10_tried 138 = .ok (.invokevirtual 436, 3) := by decide +kernel
theorem dX10_tried_141 : decode cX10_tried 141 = .ok (.aload_n 0, 1) := by decide +kernel
theorem dX10_tried_142 : decode cX10_tried 142 = .ok (.iconst 0, 1) := by decide +kernel
theorem dX10_tried_143 : decode cX10_tried 143 = .ok (.iconst 2, 1) := by decide +kernel
theorem dX10_tried_144 : decode cX10_tried 144 = .ok (.invokevirtual 436, 3) := by decide +kernel
theorem dX10_tried_147 : decode cX10_tried 147 = .ok (.isub, 1) := by decide +kernel
theorem dX10_tried_148 : decode cX10_tried 148 = .ok (.ireturn, 1) := by decide +kernel
theorem dX10_undo_0 : decode cX10_undo 0 = .ok (.aload_n 0, 1) := by decide +kernel
theorem dX10_undo_1 : decode cX10_undo 1 = .ok (.iconst 0, 1) := by decide +kernel
theorem dX10_undo_2 : decode cX10_undo 2 = .ok (.putfield 142, 3) := by decide +kernel
theorem dX10_undo_5 : decode cX10_undo 5 = .ok (.aload_n 0, 1) := by decide +kernel
theorem dX10_undo_6 : decode cX10_undo 6 = .ok (.getfield 302, 3) := by decide +kernel
theorem dX10_undo_9 : decode cX10_undo 9 = .ok (.ifCond .ne 5, 3) := by decide +kernel
theorem dX10_undo_12 : decode cX10_undo 12 = .ok (.iconst (-1), 1) := by decide +kernel
theorem dX10_undo_13 : decode cX10_undo 13 = .ok (.ireturn, 1) := by decide +kernel
theorem dX10_undo_14 : decode cX10_undo 14 = .ok (.aload_n 0, 1) := by decide +kernel
theorem dX10_undo_15 : decode cX10_undo 15 = .ok (.dup, 1) := by decide +kernel
theorem dX10_undo_16 : decode cX10_undo 16 = .ok (.getfield 302, 3) := by decide +kernel
theorem dX10_undo_19 : decode cX10_undo 19 = .ok (.iconst 1, 1) := by decide +kernel
theorem dX10_undo_20 : decode cX10_undo 20 = .ok (.isub, 1) := by decide +kernel
theorem dX10_undo_21 : decode cX10_undo 21 = .ok (.putfield 302, 3) := by decide +kernel
theorem dX10_undo_24 : decode cX10_undo 24 = .ok (.aload_n 0, 1) := by decide +kernel
theorem dX10_undo_25 : decode cX10_undo 25 = .ok (.iconst 0, 1) := by decide +kernel
theorem dX10_undo_26 : decode cX10_undo 26 = .ok (.iconst 3, 1) := by decide +kernel
theorem dX10_undo_27 : decode cX10_undo 27 = .ok (.aload_n 0, 1) := by decide +kernel
theorem dX10_undo_28 : decode cX10_undo 28 = .ok (.getfield 302, 3) := by decide +kernel
theorem dX10_undo_31 : decode cX10_undo 31 = .ok (.iadd, 1) := by decide +kernel
theorem dX10_undo_32 : decode cX10_undo 32 = .ok (.invokevirtual 405, 3) := by decide +kernel
theorem dX10_undo_35 : decode cX10_undo 35 = .ok (.aload_n 0, 1) := by decide +kernel
theorem dX10_undo_36 : decode cX10_undo 36 = .ok (.getfield 302, 3) := by decide +kernel
theorem dX10_undo_39 : decode cX10_undo 39 = .ok (.ireturn, 1) := by decide +kernel
theorem dX10_keep_0 : decode cX10_keep 0 = .ok (.aload_n 0, 1) := by decide +kernel
theorem dX10_keep_1 : decode cX10_keep 1 = .ok (.iconst 0, 1) := by decide +kernel
theorem dX10_keep_2 : decode cX10_keep 2 = .ok (.putfield 142, 3) := by decide +kernel
theorem dX10_keep_5 : decode cX10_keep 5 = .ok (.aload_n 0, 1) := by decide +kernel
theorem dX10_keep_6 : decode cX10_keep 6 = .ok (.iconst 2, 1) := by decide +kernel
theorem dX10_keep_7 : decode cX10_keep 7 = .ok (.iconst 0, 1) := by decide +kernel
theorem dX10_keep_8 : decode cX10_keep 8 = .ok (.invokevirtual 405, 3) := by decide +kernel
theorem dX10_keep_11 : decode cX10_keep 11 = .ok (.aload_n 0, 1) := by decide +kernel
theorem dX10_keep_12 : decode cX10_keep 12 = .ok (.iconst 1, 1) := by decide +kernel
theorem dX10_keep_13 : decode cX10_keep 13 = .ok (.putfield 298, 3) := by decide +kernel
theorem dX10_keep_16 : decode cX10_keep 16 = .ok (.aload_n 0, 1) := by decide +kernel
theorem dX10_keep_17 : decode cX10_keep 17 = .ok (.getfield 72, 3) := by decide +kernel
theorem dX10_keep_20 : decode cX10_keep 20 = .ok (.iconst 0, 1) := by decide +kernel
theorem dX10_keep_21 : decode cX10_keep 21 = .ok (.iaload, 1) := by decide +kernel
theorem dX10_keep_22 : decode cX10_keep 22 = .ok (.ireturn, 1) := by decide +kernel
theorem dX10_back_0 : decode cX10_back 0 = .ok (.aload_n 0, 1) := by decide +kernel
theorem dX10_back_1 : decode cX10_back 1 = .ok (.iconst 0, 1) := by decide +kernel
theorem dX10_back_2 : decode cX10_back 2 = .ok (.putfield 142, 3) := by decide +kernel
theorem dX10_back_5 : decode cX10_back 5 = .ok (.aload_n 0, 1) := by decide +kernel
theorem dX10_back_6 : decode cX10_back 6 = .ok (.getfield 298, 3) := by decide +kernel
theorem dX10_back_9 : decode cX10_back 9 = .ok (.ifCond .ne 5, 3) := by decide +kernel
theorem dX10_back_12 : decode cX10_back 12 = .ok (.iconst (-1), 1) := by decide +kernel
theorem dX10_back_13 : decode cX10_back 13 = .ok (.ireturn, 1) := by decide +kernel
theorem dX10_back_14 : decode cX10_back 14 = .ok (.aload_n 0, 1) := by decide +kernel
theorem dX10_back_15 : decode cX10_back 15 = .ok (.iconst 0, 1) := by decide +kernel
theorem dX10_back_16 : decode cX10_back 16 = .ok (.iconst 2, 1) := by decide +kernel
theorem dX10_back_17 : decode cX10_back 17 = .ok (.invokevirtual 405, 3) := by decide +kernel
theorem dX10_back_20 : decode cX10_back 20 = .ok (.aload_n 0, 1) := by decide +kernel
theorem dX10_back_21 : decode cX10_back 21 = .ok (.iconst 0, 1) := by decide +kernel
theorem dX10_back_22 : decode cX10_back 22 = .ok (.putfield 302, 3) := by decide +kernel
theorem dX10_back_25 : decode cX10_back 25 = .ok (.aload_n 0, 1) := by decide +kernel
theorem dX10_back_26 : decode cX10_back 26 = .ok (.getfield 72, 3) := by decide +kernel
theorem dX10_back_29 : decode cX10_back 29 = .ok (.iconst 0, 1) := by decide +kernel
theorem dX10_back_30 : decode cX10_back 30 = .ok (.iaload, 1) := by decide +kernel
theorem dX10_back_31 : decode cX10_back 31 = .ok (.ireturn, 1) := by decide +kernel
theorem dX10_count_0 : decode cX10_count 0 = .ok (.aload_n 0, 1) := by decide +kernel
theorem dX10_count_1 : decode cX10_count 1 = .ok (.iconst 0, 1) := by decide +kernel
theorem dX10_count_2 : decode cX10_count 2 = .ok (.putfield 142, 3) := by decide +kernel
theorem dX10_count_5 : decode cX10_count 5 = .ok (.iload_n 1, 1) := by decide +kernel
theorem dX10_count_6 : decode cX10_count 6 = .ok (.tableswitch 168 0 13 #[70, 77, 84, 91, 99, 106, 113, 120, 127, 133, 143, 153, 158, 163], 70) := by decide +kernel
theorem dX10_count_76 : decode cX10_count 76 = .ok (.aload_n 0, 1) := by decide +kernel
theorem dX10_count_77 : decode cX10_count 77 = .ok (.getfield 13, 3) := by decide +kernel
theorem dX10_count_80 : decode cX10_count 80 = .ok (.iconst 0, 1) := by decide +kernel
theorem dX10_count_81 : decode cX10_count 81 = .ok (.iaload, 1) := by decide +kernel
theorem dX10_count_82 : decode cX10_count 82 = .ok (.ireturn, 1) := by decide +kernel
theorem dX10_count_83 : decode cX10_count 83 = .ok (.aload_n 0, 1) := by decide +kernel
theorem dX10_count_84 : decode cX10_count 84 = .ok (.getfield 13, 3) := by decide +kernel
theorem dX10_count_87 : decode cX10_count 87 = .ok (.iconst 1, 1) := by decide +kernel
theorem dX10_count_88 : decode cX10_count 88 = .ok (.iaload, 1) := by decide +kernel
theorem dX10_count_89 : decode cX10_count 89 = .ok (.ireturn, 1) := by decide +kernel
theorem dX10_count_90 : decode cX10_count 90 = .ok (.aload_n 0, 1) := by decide +kernel
theorem dX10_count_91 : decode cX10_count 91 = .ok (.getfield 13, 3) := by decide +kernel
theorem dX10_count_94 : decode cX10_count 94 = .ok (.iconst 3, 1) := by decide +kernel
theorem dX10_count_95 : decode cX10_count 95 = .ok (.iaload, 1) := by decide +kernel
theorem dX10_count_96 : decode cX10_count 96 = .ok (.ireturn, 1) := by decide +kernel
theorem dX10_count_97 : decode cX10_count 97 = .ok (.aload_n 0, 1) := by decide +kernel
theorem dX10_count_98 : decode cX10_count 98 = .ok (.getfield 13, 3) := by decide +kernel
theorem dX10_count_101 : decode cX10_count 101 = .ok (.bipush 6, 2) := by decide +kernel
theorem dX10_count_103 : decode cX10_count 103 = .ok (.iaload, 1) := by decide +kernel
theorem dX10_count_104 : decode cX10_count 104 = .ok (.ireturn, 1) := by decide +kernel
theorem dX10_count_105 : decode cX10_count 105 = .ok (.aload_n 0, 1) := by decide +kernel
theorem dX10_count_106 : decode cX10_count 106 = .ok (.getfield 72, 3) := by decide +kernel
theorem dX10_count_109 : decode cX10_count 109 = .ok (.iconst 0, 1) := by decide +kernel
theorem dX10_count_110 : decode cX10_count 110 = .ok (.iaload, 1) := by decide +kernel
theorem dX10_count_111 : decode cX10_count 111 = .ok (.ireturn, 1) := by decide +kernel
theorem dX10_count_112 : decode cX10_count 112 = .ok (.aload_n 0, 1) := by decide +kernel
theorem dX10_count_113 : decode cX10_count 113 = .ok (.getfield 78, 3) := by decide +kernel
theorem dX10_count_116 : decode cX10_count 116 = .ok (.iconst 0, 1) := by decide +kernel
theorem dX10_count_117 : decode cX10_count 117 = .ok (.iaload, 1) := by decide +kernel
theorem dX10_count_118 : decode cX10_count 118 = .ok (.ireturn, 1) := by decide +kernel
theorem dX10_count_119 : decode cX10_count 119 = .ok (.aload_n 0, 1) := by decide +kernel
theorem dX10_count_120 : decode cX10_count 120 = .ok (.iconst 0, 1) := by decide +kernel
theorem dX10_count_121 : decode cX10_count 121 = .ok (.iconst 2, 1) := by decide +kernel
theorem dX10_count_122 : decode cX10_count 122 = .ok (.invokevirtual 436, 3) := by decide +kernel
theorem dX10_count_125 : decode cX10_count 125 = .ok (.ireturn, 1) := by decide +kernel
theorem dX10_count_126 : decode cX10_count 126 = .ok (.aload_n 0, 1) := by decide +kernel
theorem dX10_count_127 : decode cX10_count 127 = .ok (.iconst 0, 1) := by decide +kernel
theorem dX10_count_128 : decode cX10_count 128 = .ok (.iconst 3, 1) := by decide +kernel
theorem dX10_count_129 : decode cX10_count 129 = .ok (.invokevirtual 436, 3) := by decide +kernel
theorem dX10_count_132 : decode cX10_count 132 = .ok (.ireturn, 1) := by decide +kernel
theorem dX10_count_133 : decode cX10_count 133 = .ok (.aload_n 0, 1) := by decide +kernel
theorem dX10_count_134 : decode cX10_count 134 = .ok (.iconst 0, 1) := by decide +kernel
theorem dX10_count_135 : decode cX10_count 135 = .ok (.invokevirtual 439, 3) := by decide +kernel
theorem dX10_count_138 : decode cX10_count 138 = .ok (.ireturn, 1) := by decide +kernel
theorem dX10_count_139 : decode cX10_count 139 = .ok (.aload_n 0, 1) := by decide +kernel
theorem dX10_count_140 : decode cX10_count 140 = .ok (.aload_n 0, 1) := by decide +kernel
theorem dX10_count_141 : decode cX10_count 141 = .ok (.getfield 90, 3) := by decide +kernel
theorem dX10_count_144 : decode cX10_count 144 = .ok (.iconst 0, 1) := by decide +kernel
theorem dX10_count_145 : decode cX10_count 145 = .ok (.invokevirtual 442, 3) := by decide +kernel
theorem dX10_count_148 : decode cX10_count 148 = .ok (.ireturn, 1) := by decide +kernel
theorem dX10_count_149 : decode cX10_count 149 = .ok (.aload_n 0, 1) := by decide +kernel
theorem dX10_count_150 : decode cX10_count 150 = .ok (.aload_n 0, 1) := by decide +kernel
theorem dX10_count_151 : decode cX10_count 151 = .ok (.getfield 93, 3) := by decide +kernel
theorem dX10_count_154 : decode cX10_count 154 = .ok (.iconst 0, 1) := by decide +kernel
theorem dX10_count_155 : decode cX10_count 155 = .ok (.invokevirtual 442, 3) := by decide +kernel
theorem dX10_count_158 : decode cX10_count 158 = .ok (.ireturn, 1) := by decide +kernel
theorem dX10_count_159 : decode cX10_count 159 = .ok (.aload_n 0, 1) := by decide +kernel
theorem dX10_count_160 : decode cX10_count 160 = .ok (.getfield 295, 3) := by decide +kernel
theorem dX10_count_163 : decode cX10_count 163 = .ok (.ireturn, 1) := by decide +kernel
theorem dX10_count_164 : decode cX10_count 164 = .ok (.aload_n 0, 1) := by decide +kernel
theorem dX10_count_165 : decode cX10_count 165 = .ok (.invokevirtual 481, 3) := by decide +kernel
theorem dX10_count_168 : decode cX10_count 168 = .ok (.ireturn, 1) := by decide +kernel
theorem dX10_count_169 : decode cX10_count 169 = .ok (.aload_n 0, 1) := by decide +kernel
theorem dX10_count_170 : decode cX10_count 170 = .ok (.getfield 302, 3) := by decide +kernel
theorem dX10_count_173 : decode cX10_count 173 = .ok (.ireturn, 1) := by decide +kernel
theorem dX10_count_174 : decode cX10_count 174 = .ok (.iconst (-1), 1) := by decide +kernel
theorem dX10_count_175 : decode cX10_count 175 = .ok (.ireturn, 1) := by decide +kernel
