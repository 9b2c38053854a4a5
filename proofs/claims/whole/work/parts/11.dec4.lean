/-! printed by my own program: decode rows -/
theorem k_fm_look_64 : decode me_fm_look.2.1 64 = .ok (.getfield 69, 3) := by decide +kernel
theorem k_fm_look_67 : decode me_fm_look.2.1 67 = .ok (.iload_n 2, 1) := by decide +kernel
theorem k_fm_look_68 : decode me_fm_look.2.1 68 = .ok (.iaload, 1) := by decide +kernel
theorem k_fm_look_69 : decode me_fm_look.2.1 69 = .ok (.ifCond .lt 7, 3) := by decide +kernel
theorem k_fm_look_72 : decode me_fm_look.2.1 72 = .ok (.iconst 1, 1) := by decide +kernel
theorem k_fm_look_73 : decode me_fm_look.2.1 73 = .ok (.goto 4, 3) := by decide +kernel
theorem k_fm_look_76 : decode me_fm_look.2.1 76 = .ok (.iconst 0, 1) := by decide +kernel
theorem k_fm_look_77 : decode me_fm_look.2.1 77 = .ok (.istore_n 1, 1) := by decide +kernel
theorem k_fm_look_78 : decode me_fm_look.2.1 78 = .ok (.iinc 2 1, 3) := by decide +kernel
theorem k_fm_look_81 : decode me_fm_look.2.1 81 = .ok (.goto (-30), 3) := by decide +kernel
theorem k_fm_look_84 : decode me_fm_look.2.1 84 = .ok (.iload_n 1, 1) := by decide +kernel
theorem k_fm_look_85 : decode me_fm_look.2.1 85 = .ok (.ifCond .ne 4, 3) := by decide +kernel
theorem k_fm_look_88 : decode me_fm_look.2.1 88 = .ok (.return_, 1) := by decide +kernel
theorem k_fm_look_89 : decode me_fm_look.2.1 89 = .ok (.aload_n 0, 1) := by decide +kernel
theorem k_fm_look_90 : decode me_fm_look.2.1 90 = .ok (.invokevirtual 173, 3) := by decide +kernel
theorem k_fm_look_93 : decode me_fm_look.2.1 93 = .ok (.iconst 0, 1) := by decide +kernel
theorem k_fm_look_94 : decode me_fm_look.2.1 94 = .ok (.istore_n 2, 1) := by decide +kernel
theorem k_fm_look_95 : decode me_fm_look.2.1 95 = .ok (.iload_n 2, 1) := by decide +kernel
theorem k_fm_look_96 : decode me_fm_look.2.1 96 = .ok (.aload_n 0, 1) := by decide +kernel
theorem k_fm_look_97 : decode me_fm_look.2.1 97 = .ok (.getfield 155, 3) := by decide +kernel
theorem k_fm_look_100 : decode me_fm_look.2.1 100 = .ok (.if_icmp .ge 16, 3) := by decide +kernel
theorem k_fm_look_103 : decode me_fm_look.2.1 103 = .ok (.aload_n 0, 1) := by decide +kernel
theorem k_fm_look_104 : decode me_fm_look.2.1 104 = .ok (.getfield 87, 3) := by decide +kernel
theorem k_fm_look_107 : decode me_fm_look.2.1 107 = .ok (.iload_n 2, 1) := by decide +kernel
theorem k_fm_look_108 : decode me_fm_look.2.1 108 = .ok (.iconst 0, 1) := by decide +kernel
theorem k_fm_look_109 : decode me_fm_look.2.1 109 = .ok (.iastore, 1) := by decide +kernel
theorem k_fm_look_110 : decode me_fm_look.2.1 110 = .ok (.iinc 2 1, 3) := by decide +kernel
theorem k_fm_look_113 : decode me_fm_look.2.1 113 = .ok (.goto (-18), 3) := by decide +kernel
theorem k_fm_look_116 : decode me_fm_look.2.1 116 = .ok (.aload_n 0, 1) := by decide +kernel
theorem k_fm_look_117 : decode me_fm_look.2.1 117 = .ok (.aload_n 0, 1) := by decide +kernel
theorem k_fm_look_118 : decode me_fm_look.2.1 118 = .ok (.invokevirtual 288, 3) := by decide +kernel
theorem k_fm_look_121 : decode me_fm_look.2.1 121 = .ok (.ifCond .eq 7, 3) := by decide +kernel
theorem k_fm_look_124 : decode me_fm_look.2.1 124 = .ok (.iconst 0, 1) := by decide +kernel
theorem k_fm_look_125 : decode me_fm_look.2.1 125 = .ok (.goto 4, 3) := by decide +kernel
theorem k_fm_look_128 : decode me_fm_look.2.1 128 = .ok (.iconst 3, 1) := by decide +kernel
theorem k_fm_look_129 : decode me_fm_look.2.1 129 = .ok (.putfield 270, 3) := by decide +kernel
theorem k_fm_look_132 : decode me_fm_look.2.1 132 = .ok (.iconst 0, 1) := by decide +kernel
theorem k_fm_look_133 : decode me_fm_look.2.1 133 = .ok (.istore_n 2, 1) := by decide +kernel
theorem k_fm_look_134 : decode me_fm_look.2.1 134 = .ok (.iload_n 2, 1) := by decide +kernel
theorem k_fm_look_135 : decode me_fm_look.2.1 135 = .ok (.aload_n 0, 1) := by decide +kernel
theorem k_fm_look_136 : decode me_fm_look.2.1 136 = .ok (.getfield 155, 3) := by decide +kernel
theorem k_fm_look_139 : decode me_fm_look.2.1 139 = .ok (.if_icmp .ge 97, 3) := by decide +kernel
theorem k_fm_look_142 : decode me_fm_look.2.1 142 = .ok (.iconst 0, 1) := by decide +kernel
theorem k_fm_look_143 : decode me_fm_look.2.1 143 = .ok (.istore_n 3, 1) := by decide +kernel
theorem k_fm_look_144 : decode me_fm_look.2.1 144 = .ok (.iconst 1, 1) := by decide +kernel
theorem k_fm_look_145 : decode me_fm_look.2.1 145 = .ok (.istore 4, 2) := by decide +kernel
theorem k_fm_look_147 : decode me_fm_look.2.1 147 = .ok (.iload 4, 2) := by decide +kernel
theorem k_fm_look_149 : decode me_fm_look.2.1 149 = .ok (.bipush 60, 2) := by decide +kernel
theorem k_fm_look_151 : decode me_fm_look.2.1 151 = .ok (.if_icmp .gt 26, 3) := by decide +kernel
theorem k_fm_look_154 : decode me_fm_look.2.1 154 = .ok (.iload_n 3, 1) := by decide +kernel
theorem k_fm_look_155 : decode me_fm_look.2.1 155 = .ok (.ifCond .ne 22, 3) := by decide +kernel
theorem k_fm_look_158 : decode me_fm_look.2.1 158 = .ok (.aload_n 0, 1) := by decide +kernel
theorem k_fm_look_159 : decode me_fm_look.2.1 159 = .ok (.getfield 87, 3) := by decide +kernel
theorem k_fm_look_162 : decode me_fm_look.2.1 162 = .ok (.iload_n 2, 1) := by decide +kernel
theorem k_fm_look_163 : decode me_fm_look.2.1 163 = .ok (.iload 4, 2) := by decide +kernel
theorem k_fm_look_165 : decode me_fm_look.2.1 165 = .ok (.iastore, 1) := by decide +kernel
theorem k_fm_look_166 : decode me_fm_look.2.1 166 = .ok (.aload_n 0, 1) := by decide +kernel
theorem k_fm_look_167 : decode me_fm_look.2.1 167 = .ok (.invokevirtual 288, 3) := by decide +kernel
theorem k_fm_look_170 : decode me_fm_look.2.1 170 = .ok (.istore_n 3, 1) := by decide +kernel
theorem k_fm_look_171 : decode me_fm_look.2.1 171 = .ok (.iinc 4 1, 3) := by decide +kernel
theorem k_fm_look_174 : decode me_fm_look.2.1 174 = .ok (.goto (-27), 3) := by decide +kernel
theorem k_fm_look_177 : decode me_fm_look.2.1 177 = .ok (.iload_n 3, 1) := by decide +kernel
theorem k_fm_look_178 : decode me_fm_look.2.1 178 = .ok (.ifCond .eq 13, 3) := by decide +kernel
theorem k_fm_look_181 : decode me_fm_look.2.1 181 = .ok (.aload_n 0, 1) := by decide +kernel
theorem k_fm_look_182 : decode me_fm_look.2.1 182 = .ok (.dup, 1) := by decide +kernel
theorem k_fm_look_183 : decode me_fm_look.2.1 183 = .ok (.getfield 285, 3) := by decide +kernel
theorem k_fm_look_186 : decode me_fm_look.2.1 186 = .ok (.iconst 1, 1) := by decide +kernel
theorem k_fm_look_187 : decode me_fm_look.2.1 187 = .ok (.iadd, 1) := by decide +kernel
theorem k_fm_look_188 : decode me_fm_look.2.1 188 = .ok (.putfield 285, 3) := by decide +kernel
theorem k_fm_look_191 : decode me_fm_look.2.1 191 = .ok (.iload_n 3, 1) := by decide +kernel
theorem k_fm_look_192 : decode me_fm_look.2.1 192 = .ok (.ifCond .eq 31, 3) := by decide +kernel
theorem k_fm_look_195 : decode me_fm_look.2.1 195 = .ok (.aload_n 0, 1) := by decide +kernel
theorem k_fm_look_196 : decode me_fm_look.2.1 196 = .ok (.getfield 270, 3) := by decide +kernel
theorem k_fm_look_199 : decode me_fm_look.2.1 199 = .ok (.iconst 3, 1) := by decide +kernel
theorem k_fm_look_200 : decode me_fm_look.2.1 200 = .ok (.if_icmp .ne 23, 3) := by decide +kernel
theorem k_fm_look_203 : decode me_fm_look.2.1 203 = .ok (.aload_n 0, 1) := by decide +kernel
theorem k_fm_look_204 : decode me_fm_look.2.1 204 = .ok (.iconst 1, 1) := by decide +kernel
theorem k_fm_look_205 : decode me_fm_look.2.1 205 = .ok (.putfield 270, 3) := by decide +kernel
theorem k_fm_look_208 : decode me_fm_look.2.1 208 = .ok (.aload_n 0, 1) := by decide +kernel
theorem k_fm_look_209 : decode me_fm_look.2.1 209 = .ok (.iload_n 2, 1) := by decide +kernel
theorem k_fm_look_210 : decode me_fm_look.2.1 210 = .ok (.putfield 273, 3) := by decide +kernel
theorem k_fm_look_213 : decode me_fm_look.2.1 213 = .ok (.aload_n 0, 1) := by decide +kernel
theorem k_fm_look_214 : decode me_fm_look.2.1 214 = .ok (.aload_n 0, 1) := by decide +kernel
theorem k_fm_look_215 : decode me_fm_look.2.1 215 = .ok (.getfield 87, 3) := by decide +kernel
theorem k_fm_look_218 : decode me_fm_look.2.1 218 = .ok (.iload_n 2, 1) := by decide +kernel
theorem k_fm_look_219 : decode me_fm_look.2.1 219 = .ok (.iaload, 1) := by decide +kernel
theorem k_fm_look_220 : decode me_fm_look.2.1 220 = .ok (.putfield 276, 3) := by decide +kernel
theorem k_fm_look_223 : decode me_fm_look.2.1 223 = .ok (.aload_n 0, 1) := by decide +kernel
theorem k_fm_look_224 : decode me_fm_look.2.1 224 = .ok (.getfield 87, 3) := by decide +kernel
theorem k_fm_look_227 : decode me_fm_look.2.1 227 = .ok (.iload_n 2, 1) := by decide +kernel
theorem k_fm_look_228 : decode me_fm_look.2.1 228 = .ok (.iconst 0, 1) := by decide +kernel
theorem k_fm_look_229 : decode me_fm_look.2.1 229 = .ok (.iastore, 1) := by decide +kernel
theorem k_fm_look_230 : decode me_fm_look.2.1 230 = .ok (.iinc 2 1, 3) := by decide +kernel
theorem k_fm_look_233 : decode me_fm_look.2.1 233 = .ok (.goto (-99), 3) := by decide +kernel
theorem k_fm_look_236 : decode me_fm_look.2.1 236 = .ok (.iconst 0, 1) := by decide +kernel
theorem k_fm_look_237 : decode me_fm_look.2.1 237 = .ok (.istore_n 2, 1) := by decide +kernel
theorem k_fm_look_238 : decode me_fm_look.2.1 238 = .ok (.iload_n 2, 1) := by decide +kernel
theorem k_fm_look_239 : decode me_fm_look.2.1 239 = .ok (.aload_n 0, 1) := by decide +kernel
theorem k_fm_look_240 : decode me_fm_look.2.1 240 = .ok (.getfield 155, 3) := by decide +kernel
theorem k_fm_look_243 : decode me_fm_look.2.1 243 = .ok (.if_icmp .ge 49, 3) := by decide +kernel
theorem k_fm_look_246 : decode me_fm_look.2.1 246 = .ok (.aload_n 0, 1) := by decide +kernel
theorem k_fm_look_247 : decode me_fm_look.2.1 247 = .ok (.getfield 270, 3) := by decide +kernel
theorem k_fm_look_250 : decode me_fm_look.2.1 250 = .ok (.iconst 3, 1) := by decide +kernel
theorem k_fm_look_251 : decode me_fm_look.2.1 251 = .ok (.if_icmp .ne 41, 3) := by decide +kernel
theorem k_fm_look_254 : decode me_fm_look.2.1 254 = .ok (.iload_n 2, 1) := by decide +kernel
theorem k_fm_look_255 : decode me_fm_look.2.1 255 = .ok (.iconst 1, 1) := by decide +kernel
theorem k_fm_look_256 : decode me_fm_look.2.1 256 = .ok (.iadd, 1) := by decide +kernel
theorem k_fm_look_257 : decode me_fm_look.2.1 257 = .ok (.istore_n 3, 1) := by decide +kernel
theorem k_fm_look_258 : decode me_fm_look.2.1 258 = .ok (.iload_n 3, 1) := by decide +kernel
theorem k_fm_look_259 : decode me_fm_look.2.1 259 = .ok (.aload_n 0, 1) := by decide +kernel
theorem k_fm_look_260 : decode me_fm_look.2.1 260 = .ok (.getfield 155, 3) := by decide +kernel
theorem k_fm_look_263 : decode me_fm_look.2.1 263 = .ok (.if_icmp .ge 23, 3) := by decide +kernel
theorem k_fm_look_266 : decode me_fm_look.2.1 266 = .ok (.aload_n 0, 1) := by decide +kernel
theorem k_fm_look_267 : decode me_fm_look.2.1 267 = .ok (.getfield 270, 3) := by decide +kernel
theorem k_fm_look_270 : decode me_fm_look.2.1 270 = .ok (.iconst 3, 1) := by decide +kernel
theorem k_fm_look_271 : decode me_fm_look.2.1 271 = .ok (.if_icmp .ne 15, 3) := by decide +kernel
theorem k_fm_look_274 : decode me_fm_look.2.1 274 = .ok (.aload_n 0, 1) := by decide +kernel
theorem k_fm_look_275 : decode me_fm_look.2.1 275 = .ok (.iload_n 2, 1) := by decide +kernel
theorem k_fm_look_276 : decode me_fm_look.2.1 276 = .ok (.iload_n 3, 1) := by decide +kernel
theorem k_fm_look_277 : decode me_fm_look.2.1 277 = .ok (.invokevirtual 291, 3) := by decide +kernel
theorem k_fm_look_280 : decode me_fm_look.2.1 280 = .ok (.iinc 3 1, 3) := by decide +kernel
theorem k_fm_look_283 : decode me_fm_look.2.1 283 = .ok (.goto (-25), 3) := by decide +kernel
theorem k_fm_look_286 : decode me_fm_look.2.1 286 = .ok (.iinc 2 1, 3) := by decide +kernel
theorem k_fm_look_289 : decode me_fm_look.2.1 289 = .ok (.goto (-51), 3) := by decide +kernel
theorem k_fm_look_292 : decode me_fm_look.2.1 292 = .ok (.return_, 1) := by decide +kernel
theorem k_fm_explains_0 : decode me_fm_explains.2.1 0 = .ok (.aload_n 0, 1) := by decide +kernel
theorem k_fm_explains_1 : decode me_fm_explains.2.1 1 = .ok (.invokevirtual 176, 3) := by decide +kernel
theorem k_fm_explains_4 : decode me_fm_explains.2.1 4 = .ok (.iconst 1, 1) := by decide +kernel
theorem k_fm_explains_5 : decode me_fm_explains.2.1 5 = .ok (.istore_n 1, 1) := by decide +kernel
theorem k_fm_explains_6 : decode me_fm_explains.2.1 6 = .ok (.iconst 0, 1) := by decide +kernel
theorem k_fm_explains_7 : decode me_fm_explains.2.1 7 = .ok (.istore_n 2, 1) := by decide +kernel
theorem k_fm_explains_8 : decode me_fm_explains.2.1 8 = .ok (.iload_n 2, 1) := by decide +kernel
theorem k_fm_explains_9 : decode me_fm_explains.2.1 9 = .ok (.aload_n 0, 1) := by decide +kernel
theorem k_fm_explains_10 : decode me_fm_explains.2.1 10 = .ok (.getfield 158, 3) := by decide +kernel
theorem k_fm_explains_13 : decode me_fm_explains.2.1 13 = .ok (.if_icmp .ge 50, 3) := by decide +kernel
theorem k_fm_explains_16 : decode me_fm_explains.2.1 16 = .ok (.iload_n 1, 1) := by decide +kernel
theorem k_fm_explains_17 : decode me_fm_explains.2.1 17 = .ok (.ifCond .eq 46, 3) := by decide +kernel
theorem k_fm_explains_20 : decode me_fm_explains.2.1 20 = .ok (.aload_n 0, 1) := by decide +kernel
theorem k_fm_explains_21 : decode me_fm_explains.2.1 21 = .ok (.getfield 69, 3) := by decide +kernel
theorem k_fm_explains_24 : decode me_fm_explains.2.1 24 = .ok (.iload_n 2, 1) := by decide +kernel
theorem k_fm_explains_25 : decode me_fm_explains.2.1 25 = .ok (.iaload, 1) := by decide +kernel
theorem k_fm_explains_26 : decode me_fm_explains.2.1 26 = .ok (.ifCond .lt 25, 3) := by decide +kernel
theorem k_fm_explains_29 : decode me_fm_explains.2.1 29 = .ok (.aload_n 0, 1) := by decide +kernel
theorem k_fm_explains_30 : decode me_fm_explains.2.1 30 = .ok (.iload_n 2, 1) := by decide +kernel
theorem k_fm_explains_31 : decode me_fm_explains.2.1 31 = .ok (.invokevirtual 185, 3) := by decide +kernel
theorem k_fm_explains_34 : decode me_fm_explains.2.1 34 = .ok (.aload_n 0, 1) := by decide +kernel
theorem k_fm_explains_35 : decode me_fm_explains.2.1 35 = .ok (.getfield 69, 3) := by decide +kernel
theorem k_fm_explains_38 : decode me_fm_explains.2.1 38 = .ok (.iload_n 2, 1) := by decide +kernel
theorem k_fm_explains_39 : decode me_fm_explains.2.1 39 = .ok (.iaload, 1) := by decide +kernel
theorem k_fm_explains_40 : decode me_fm_explains.2.1 40 = .ok (.isub, 1) := by decide +kernel
theorem k_fm_explains_41 : decode me_fm_explains.2.1 41 = .ok (.invokestatic 258, 3) := by decide +kernel
theorem k_fm_explains_44 : decode me_fm_explains.2.1 44 = .ok (.aload_n 0, 1) := by decide +kernel
theorem k_fm_explains_45 : decode me_fm_explains.2.1 45 = .ok (.getfield 267, 3) := by decide +kernel
theorem k_fm_explains_48 : decode me_fm_explains.2.1 48 = .ok (.if_icmp .gt 7, 3) := by decide +kernel
theorem k_fm_explains_51 : decode me_fm_explains.2.1 51 = .ok (.iconst 1, 1) := by decide +kernel
theorem k_fm_explains_52 : decode me_fm_explains.2.1 52 = .ok (.goto 4, 3) := by decide +kernel
theorem k_fm_explains_55 : decode me_fm_explains.2.1 55 = .ok (.iconst 0, 1) := by decide +kernel
theorem k_fm_explains_56 : decode me_fm_explains.2.1 56 = .ok (.istore_n 1, 1) := by decide +kernel
theorem k_fm_explains_57 : decode me_fm_explains.2.1 57 = .ok (.iinc 2 1, 3) := by decide +kernel
theorem k_fm_explains_60 : decode me_fm_explains.2.1 60 = .ok (.goto (-52), 3) := by decide +kernel
theorem k_fm_explains_63 : decode me_fm_explains.2.1 63 = .ok (.iload_n 1, 1) := by decide +kernel
theorem k_fm_explains_64 : decode me_fm_explains.2.1 64 = .ok (.ireturn, 1) := by decide +kernel
theorem k_fm_two_0 : decode me_fm_two.2.1 0 = .ok (.iconst 1, 1) := by decide +kernel
theorem k_fm_two_1 : decode me_fm_two.2.1 1 = .ok (.istore_n 3, 1) := by decide +kernel
theorem k_fm_two_2 : decode me_fm_two.2.1 2 = .ok (.iload_n 3, 1) := by decide +kernel
theorem k_fm_two_3 : decode me_fm_two.2.1 3 = .ok (.bipush 12, 2) := by decide +kernel
theorem k_fm_two_5 : decode me_fm_two.2.1 5 = .ok (.if_icmp .gt 92, 3) := by decide +kernel
theorem k_fm_two_8 : decode me_fm_two.2.1 8 = .ok (.aload_n 0, 1) := by decide +kernel
theorem k_fm_two_9 : decode me_fm_two.2.1 9 = .ok (.getfield 270, 3) := by decide +kernel
theorem k_fm_two_12 : decode me_fm_two.2.1 12 = .ok (.iconst 3, 1) := by decide +kernel
theorem k_fm_two_13 : decode me_fm_two.2.1 13 = .ok (.if_icmp .ne 84, 3) := by decide +kernel
theorem k_fm_two_16 : decode me_fm_two.2.1 16 = .ok (.iconst 1, 1) := by decide +kernel
theorem k_fm_two_17 : decode me_fm_two.2.1 17 = .ok (.istore 4, 2) := by decide +kernel
theorem k_fm_two_19 : decode me_fm_two.2.1 19 = .ok (.iload 4, 2) := by decide +kernel
theorem k_fm_two_21 : decode me_fm_two.2.1 21 = .ok (.bipush 12, 2) := by decide +kernel
theorem k_fm_two_23 : decode me_fm_two.2.1 23 = .ok (.if_icmp .gt 68, 3) := by decide +kernel
theorem k_fm_two_26 : decode me_fm_two.2.1 26 = .ok (.aload_n 0, 1) := by decide +kernel
theorem k_fm_two_27 : decode me_fm_two.2.1 27 = .ok (.getfield 270, 3) := by decide +kernel
theorem k_fm_two_30 : decode me_fm_two.2.1 30 = .ok (.iconst 3, 1) := by decide +kernel
theorem k_fm_two_31 : decode me_fm_two.2.1 31 = .ok (.if_icmp .ne 60, 3) := by decide +kernel
theorem k_fm_two_34 : decode me_fm_two.2.1 34 = .ok (.aload_n 0, 1) := by decide +kernel
theorem k_fm_two_35 : decode me_fm_two.2.1 35 = .ok (.getfield 87, 3) := by decide +kernel
theorem k_fm_two_38 : decode me_fm_two.2.1 38 = .ok (.iload_n 1, 1) := by decide +kernel
theorem k_fm_two_39 : decode me_fm_two.2.1 39 = .ok (.iload_n 3, 1) := by decide +kernel
theorem k_fm_two_40 : decode me_fm_two.2.1 40 = .ok (.iastore, 1) := by decide +kernel
theorem k_fm_two_41 : decode me_fm_two.2.1 41 = .ok (.aload_n 0, 1) := by decide +kernel
theorem k_fm_two_42 : decode me_fm_two.2.1 42 = .ok (.getfield 87, 3) := by decide +kernel
theorem k_fm_two_45 : decode me_fm_two.2.1 45 = .ok (.iload_n 2, 1) := by decide +kernel
theorem k_fm_two_46 : decode me_fm_two.2.1 46 = .ok (.iload 4, 2) := by decide +kernel
theorem k_fm_two_48 : decode me_fm_two.2.1 48 = .ok (.iastore, 1) := by decide +kernel
theorem k_fm_two_49 : decode me_fm_two.2.1 49 = .ok (.aload_n 0, 1) := by decide +kernel
theorem k_fm_two_50 : decode me_fm_two.2.1 50 = .ok (.invokevirtual 288, 3) := by decide +kernel
theorem k_fm_two_53 : decode me_fm_two.2.1 53 = .ok (.ifCond .ne 6, 3) := by decide +kernel
theorem k_fm_two_56 : decode me_fm_two.2.1 56 = .ok (.goto 29, 3) := by decide +kernel
theorem k_fm_two_59 : decode me_fm_two.2.1 59 = .ok (.aload_n 0, 1) := by decide +kernel
theorem k_fm_two_60 : decode me_fm_two.2.1 60 = .ok (.iconst 2, 1) := by decide +kernel
theorem k_fm_two_61 : decode me_fm_two.2.1 61 = .ok (.putfield 270, 3) := by decide +kernel
theorem k_fm_two_64 : decode me_fm_two.2.1 64 = .ok (.aload_n 0, 1) := by decide +kernel
theorem k_fm_two_65 : decode me_fm_two.2.1 65 = .ok (.iload_n 1, 1) := by decide +kernel
theorem k_fm_two_66 : decode me_fm_two.2.1 66 = .ok (.putfield 273, 3) := by decide +kernel
theorem k_fm_two_69 : decode me_fm_two.2.1 69 = .ok (.aload_n 0, 1) := by decide +kernel
theorem k_fm_two_70 : decode me_fm_two.2.1 70 = .ok (.iload_n 3, 1) := by decide +kernel
theorem k_fm_two_71 : decode me_fm_two.2.1 71 = .ok (.putfield 276, 3) := by decide +kernel
theorem k_fm_two_74 : decode me_fm_two.2.1 74 = .ok (.aload_n 0, 1) := by decide +kernel
theorem k_fm_two_75 : decode me_fm_two.2.1 75 = .ok (.iload_n 2, 1) := by decide +kernel
theorem k_fm_two_76 : decode me_fm_two.2.1 76 = .ok (.putfield 279, 3) := by decide +kernel
theorem k_fm_two_79 : decode me_fm_two.2.1 79 = .ok (.aload_n 0, 1) := by decide +kernel
theorem k_fm_two_80 : decode me_fm_two.2.1 80 = .ok (.iload 4, 2) := by decide +kernel
theorem k_fm_two_82 : decode me_fm_two.2.1 82 = .ok (.putfield 282, 3) := by decide +kernel
theorem k_fm_two_85 : decode me_fm_two.2.1 85 = .ok (.iinc 4 1, 3) := by decide +kernel
theorem k_fm_two_88 : decode me_fm_two.2.1 88 = .ok (.goto (-69), 3) := by decide +kernel
theorem k_fm_two_91 : decode me_fm_two.2.1 91 = .ok (.iinc 3 1, 3) := by decide +kernel
theorem k_fm_two_94 : decode me_fm_two.2.1 94 = .ok (.goto (-92), 3) := by decide +kernel
theorem k_fm_two_97 : decode me_fm_two.2.1 97 = .ok (.aload_n 0, 1) := by decide +kernel
theorem k_fm_two_98 : decode me_fm_two.2.1 98 = .ok (.getfield 87, 3) := by decide +kernel
theorem k_fm_two_101 : decode me_fm_two.2.1 101 = .ok (.iload_n 1, 1) := by decide +kernel
theorem k_fm_two_102 : decode me_fm_two.2.1 102 = .ok (.iconst 0, 1) := by decide +kernel
theorem k_fm_two_103 : decode me_fm_two.2.1 103 = .ok (.iastore, 1) := by decide +kernel
theorem k_fm_two_104 : decode me_fm_two.2.1 104 = .ok (.aload_n 0, 1) := by decide +kernel
theorem k_fm_two_105 : decode me_fm_two.2.1 105 = .ok (.getfield 87, 3) := by decide +kernel
theorem k_fm_two_108 : decode me_fm_two.2.1 108 = .ok (.iload_n 2, 1) := by decide +kernel
theorem k_fm_two_109 : decode me_fm_two.2.1 109 = .ok (.iconst 0, 1) := by decide +kernel
theorem k_fm_two_110 : decode me_fm_two.2.1 110 = .ok (.iastore, 1) := by decide +kernel
theorem k_fm_two_111 : decode me_fm_two.2.1 111 = .ok (.return_, 1) := by decide +kernel
theorem k_fm_explained_0 : decode me_fm_explained.2.1 0 = .ok (.iload_n 1, 1) := by decide +kernel
theorem k_fm_explained_1 : decode me_fm_explained.2.1 1 = .ok (.iconst 4, 1) := by decide +kernel
theorem k_fm_explained_2 : decode me_fm_explained.2.1 2 = .ok (.invokestatic 144, 3) := by decide +kernel
theorem k_fm_explained_5 : decode me_fm_explained.2.1 5 = .ok (.ifCond .ne 10, 3) := by decide +kernel
theorem k_fm_explained_8 : decode me_fm_explained.2.1 8 = .ok (.aload_n 0, 1) := by decide +kernel
theorem k_fm_explained_9 : decode me_fm_explained.2.1 9 = .ok (.bipush (-2), 2) := by decide +kernel
theorem k_fm_explained_11 : decode me_fm_explained.2.1 11 = .ok (.invokevirtual 133, 3) := by decide +kernel
theorem k_fm_explained_14 : decode me_fm_explained.2.1 14 = .ok (.ireturn, 1) := by decide +kernel
theorem k_fm_explained_15 : decode me_fm_explained.2.1 15 = .ok (.aload_n 0, 1) := by decide +kernel
theorem k_fm_explained_16 : decode me_fm_explained.2.1 16 = .ok (.invokevirtual 295, 3) := by decide +kernel
theorem k_fm_explained_19 : decode me_fm_explained.2.1 19 = .ok (.iload_n 1, 1) := by decide +kernel
theorem k_fm_explained_20 : decode me_fm_explained.2.1 20 = .ok (.ifCond .ne 10, 3) := by decide +kernel
theorem k_fm_explained_23 : decode me_fm_explained.2.1 23 = .ok (.aload_n 0, 1) := by decide +kernel
theorem k_fm_explained_24 : decode me_fm_explained.2.1 24 = .ok (.getfield 273, 3) := by decide +kernel
theorem k_fm_explained_27 : decode me_fm_explained.2.1 27 = .ok (.goto 31, 3) := by decide +kernel
theorem k_fm_explained_30 : decode me_fm_explained.2.1 30 = .ok (.iload_n 1, 1) := by decide +kernel
theorem k_fm_explained_31 : decode me_fm_explained.2.1 31 = .ok (.iconst 1, 1) := by decide +kernel
theorem k_fm_explained_32 : decode me_fm_explained.2.1 32 = .ok (.if_icmp .ne 10, 3) := by decide +kernel
theorem k_fm_explained_35 : decode me_fm_explained.2.1 35 = .ok (.aload_n 0, 1) := by decide +kernel
theorem k_fm_explained_36 : decode me_fm_explained.2.1 36 = .ok (.getfield 276, 3) := by decide +kernel
theorem k_fm_explained_39 : decode me_fm_explained.2.1 39 = .ok (.goto 19, 3) := by decide +kernel
theorem k_fm_explained_42 : decode me_fm_explained.2.1 42 = .ok (.iload_n 1, 1) := by decide +kernel
theorem k_fm_explained_43 : decode me_fm_explained.2.1 43 = .ok (.iconst 2, 1) := by decide +kernel
theorem k_fm_explained_44 : decode me_fm_explained.2.1 44 = .ok (.if_icmp .ne 10, 3) := by decide +kernel
theorem k_fm_explained_47 : decode me_fm_explained.2.1 47 = .ok (.aload_n 0, 1) := by decide +kernel
theorem k_fm_explained_48 : decode me_fm_explained.2.1 48 = .ok (.getfield 279, 3) := by decide +kernel
theorem k_fm_explained_51 : decode me_fm_explained.2.1 51 = .ok (.goto 7, 3) := by decide +kernel
theorem k_fm_explained_54 : decode me_fm_explained.2.1 54 = .ok (.aload_n 0, 1) := by decide +kernel
theorem k_fm_explained_55 : decode me_fm_explained.2.1 55 = .ok (.getfield 282, 3) := by decide +kernel
theorem k_fm_explained_58 : decode me_fm_explained.2.1 58 = .ok (.ireturn, 1) := by decide +kernel
theorem k_fm_rivals_0 : decode me_fm_rivals.2.1 0 = .ok (.aload_n 0, 1) := by decide +kernel
theorem k_fm_rivals_1 : decode me_fm_rivals.2.1 1 = .ok (.invokevirtual 295, 3) := by decide +kernel
theorem k_fm_rivals_4 : decode me_fm_rivals.2.1 4 = .ok (.aload_n 0, 1) := by decide +kernel
theorem k_fm_rivals_5 : decode me_fm_rivals.2.1 5 = .ok (.getfield 285, 3) := by decide +kernel
theorem k_fm_rivals_8 : decode me_fm_rivals.2.1 8 = .ok (.ireturn, 1) := by decide +kernel
theorem k_fm_empty_0 : decode me_fm_empty.2.1 0 = .ok (.aload_n 0, 1) := by decide +kernel
theorem k_fm_empty_1 : decode me_fm_empty.2.1 1 = .ok (.iload_n 1, 1) := by decide +kernel
theorem k_fm_empty_2 : decode me_fm_empty.2.1 2 = .ok (.invokevirtual 161, 3) := by decide +kernel
theorem k_fm_empty_5 : decode me_fm_empty.2.1 5 = .ok (.ifCond .ne 9, 3) := by decide +kernel
theorem k_fm_empty_8 : decode me_fm_empty.2.1 8 = .ok (.aload_n 0, 1) := by decide +kernel
theorem k_fm_empty_9 : decode me_fm_empty.2.1 9 = .ok (.iconst (-1), 1) := by decide +kernel
theorem k_fm_empty_10 : decode me_fm_empty.2.1 10 = .ok (.invokevirtual 133, 3) := by decide +kernel
theorem k_fm_empty_13 : decode me_fm_empty.2.1 13 = .ok (.ireturn, 1) := by decide +kernel
theorem k_fm_empty_14 : decode me_fm_empty.2.1 14 = .ok (.aload_n 0, 1) := by decide +kernel
theorem k_fm_empty_15 : decode me_fm_empty.2.1 15 = .ok (.iload_n 1, 1) := by decide +kernel
theorem k_fm_empty_16 : decode me_fm_empty.2.1 16 = .ok (.aload_n 0, 1) := by decide +kernel
theorem k_fm_empty_17 : decode me_fm_empty.2.1 17 = .ok (.getfield 59, 3) := by decide +kernel
theorem k_fm_empty_20 : decode me_fm_empty.2.1 20 = .ok (.invokevirtual 298, 3) := by decide +kernel
theorem k_fm_empty_23 : decode me_fm_empty.2.1 23 = .ok (.ifCond .eq 26, 3) := by decide +kernel
theorem k_fm_empty_26 : decode me_fm_empty.2.1 26 = .ok (.aload_n 0, 1) := by decide +kernel
theorem k_fm_empty_27 : decode me_fm_empty.2.1 27 = .ok (.getfield 56, 3) := by decide +kernel
theorem k_fm_empty_30 : decode me_fm_empty.2.1 30 = .ok (.iload_n 1, 1) := by decide +kernel
theorem k_fm_empty_31 : decode me_fm_empty.2.1 31 = .ok (.iaload, 1) := by decide +kernel
theorem k_fm_empty_32 : decode me_fm_empty.2.1 32 = .ok (.ifCond .lt 24, 3) := by decide +kernel
theorem k_fm_empty_35 : decode me_fm_empty.2.1 35 = .ok (.aload_n 0, 1) := by decide +kernel
theorem k_fm_empty_36 : decode me_fm_empty.2.1 36 = .ok (.getfield 72, 3) := by decide +kernel
theorem k_fm_empty_39 : decode me_fm_empty.2.1 39 = .ok (.aload_n 0, 1) := by decide +kernel
theorem k_fm_empty_40 : decode me_fm_empty.2.1 40 = .ok (.getfield 56, 3) := by decide +kernel
theorem k_fm_empty_43 : decode me_fm_empty.2.1 43 = .ok (.iload_n 1, 1) := by decide +kernel
theorem k_fm_empty_44 : decode me_fm_empty.2.1 44 = .ok (.iaload, 1) := by decide +kernel
theorem k_fm_empty_45 : decode me_fm_empty.2.1 45 = .ok (.baload, 1) := by decide +kernel
theorem k_fm_empty_46 : decode me_fm_empty.2.1 46 = .ok (.ifCond .eq 10, 3) := by decide +kernel
theorem k_fm_empty_49 : decode me_fm_empty.2.1 49 = .ok (.aload_n 0, 1) := by decide +kernel
theorem k_fm_empty_50 : decode me_fm_empty.2.1 50 = .ok (.bipush (-3), 2) := by decide +kernel
theorem k_fm_empty_52 : decode me_fm_empty.2.1 52 = .ok (.invokevirtual 133, 3) := by decide +kernel
theorem k_fm_empty_55 : decode me_fm_empty.2.1 55 = .ok (.ireturn, 1) := by decide +kernel
theorem k_fm_empty_56 : decode me_fm_empty.2.1 56 = .ok (.aload_n 0, 1) := by decide +kernel
theorem k_fm_empty_57 : decode me_fm_empty.2.1 57 = .ok (.getfield 59, 3) := by decide +kernel
theorem k_fm_empty_60 : decode me_fm_empty.2.1 60 = .ok (.iload_n 1, 1) := by decide +kernel
theorem k_fm_empty_61 : decode me_fm_empty.2.1 61 = .ok (.iconst 1, 1) := by decide +kernel
theorem k_fm_empty_62 : decode me_fm_empty.2.1 62 = .ok (.bastore, 1) := by decide +kernel
theorem k_fm_empty_63 : decode me_fm_empty.2.1 63 = .ok (.aload_n 0, 1) := by decide +kernel
theorem k_fm_empty_64 : decode me_fm_empty.2.1 64 = .ok (.invokevirtual 152, 3) := by decide +kernel
theorem k_fm_empty_67 : decode me_fm_empty.2.1 67 = .ok (.iconst 1, 1) := by decide +kernel
theorem k_fm_empty_68 : decode me_fm_empty.2.1 68 = .ok (.ireturn, 1) := by decide +kernel
theorem k_fm_mayEmpty_0 : decode me_fm_mayEmpty.2.1 0 = .ok (.aload_n 2, 1) := by decide +kernel
theorem k_fm_mayEmpty_1 : decode me_fm_mayEmpty.2.1 1 = .ok (.iload_n 1, 1) := by decide +kernel
theorem k_fm_mayEmpty_2 : decode me_fm_mayEmpty.2.1 2 = .ok (.baload, 1) := by decide +kernel
theorem k_fm_mayEmpty_3 : decode me_fm_mayEmpty.2.1 3 = .ok (.ifCond .ne 7, 3) := by decide +kernel
theorem k_fm_mayEmpty_6 : decode me_fm_mayEmpty.2.1 6 = .ok (.iconst 1, 1) := by decide +kernel
theorem k_fm_mayEmpty_7 : decode me_fm_mayEmpty.2.1 7 = .ok (.goto 4, 3) := by decide +kernel
theorem k_fm_mayEmpty_10 : decode me_fm_mayEmpty.2.1 10 = .ok (.iconst 0, 1) := by decide +kernel
theorem k_fm_mayEmpty_11 : decode me_fm_mayEmpty.2.1 11 = .ok (.istore_n 3, 1) := by decide +kernel
theorem k_fm_mayEmpty_12 : decode me_fm_mayEmpty.2.1 12 = .ok (.iload_n 1, 1) := by decide +kernel
theorem k_fm_mayEmpty_13 : decode me_fm_mayEmpty.2.1 13 = .ok (.iconst 1, 1) := by decide +kernel
theorem k_fm_mayEmpty_14 : decode me_fm_mayEmpty.2.1 14 = .ok (.iadd, 1) := by decide +kernel
theorem k_fm_mayEmpty_15 : decode me_fm_mayEmpty.2.1 15 = .ok (.istore 4, 2) := by decide +kernel
theorem k_fm_mayEmpty_17 : decode me_fm_mayEmpty.2.1 17 = .ok (.iload 4, 2) := by decide +kernel
theorem k_fm_mayEmpty_19 : decode me_fm_mayEmpty.2.1 19 = .ok (.aload_n 0, 1) := by decide +kernel
theorem k_fm_mayEmpty_20 : decode me_fm_mayEmpty.2.1 20 = .ok (.getfield 155, 3) := by decide +kernel
theorem k_fm_mayEmpty_23 : decode me_fm_mayEmpty.2.1 23 = .ok (.if_icmp .ge 37, 3) := by decide +kernel
theorem k_fm_mayEmpty_26 : decode me_fm_mayEmpty.2.1 26 = .ok (.iload_n 3, 1) := by decide +kernel
theorem k_fm_mayEmpty_27 : decode me_fm_mayEmpty.2.1 27 = .ok (.ifCond .eq 25, 3) := by decide +kernel
theorem k_fm_mayEmpty_30 : decode me_fm_mayEmpty.2.1 30 = .ok (.aload_n 0, 1) := by decide +kernel
theorem k_fm_mayEmpty_31 : decode me_fm_mayEmpty.2.1 31 = .ok (.getfield 38, 3) := by decide +kernel
theorem k_fm_mayEmpty_34 : decode me_fm_mayEmpty.2.1 34 = .ok (.iload 4, 2) := by decide +kernel
theorem k_fm_mayEmpty_36 : decode me_fm_mayEmpty.2.1 36 = .ok (.iaload, 1) := by decide +kernel
theorem k_fm_mayEmpty_37 : decode me_fm_mayEmpty.2.1 37 = .ok (.iload_n 1, 1) := by decide +kernel
theorem k_fm_mayEmpty_38 : decode me_fm_mayEmpty.2.1 38 = .ok (.if_icmp .ne 10, 3) := by decide +kernel
theorem k_fm_mayEmpty_41 : decode me_fm_mayEmpty.2.1 41 = .ok (.aload_n 2, 1) := by decide +kernel
theorem k_fm_mayEmpty_42 : decode me_fm_mayEmpty.2.1 42 = .ok (.iload 4, 2) := by decide +kernel
theorem k_fm_mayEmpty_44 : decode me_fm_mayEmpty.2.1 44 = .ok (.baload, 1) := by decide +kernel
theorem k_fm_mayEmpty_45 : decode me_fm_mayEmpty.2.1 45 = .ok (.ifCond .eq 7, 3) := by decide +kernel
theorem k_fm_mayEmpty_48 : decode me_fm_mayEmpty.2.1 48 = .ok (.iconst 1, 1) := by decide +kernel
theorem k_fm_mayEmpty_49 : decode me_fm_mayEmpty.2.1 49 = .ok (.goto 4, 3) := by decide +kernel
theorem k_fm_mayEmpty_52 : decode me_fm_mayEmpty.2.1 52 = .ok (.iconst 0, 1) := by decide +kernel
theorem k_fm_mayEmpty_53 : decode me_fm_mayEmpty.2.1 53 = .ok (.istore_n 3, 1) := by decide +kernel
theorem k_fm_mayEmpty_54 : decode me_fm_mayEmpty.2.1 54 = .ok (.iinc 4 1, 3) := by decide +kernel
theorem k_fm_mayEmpty_57 : decode me_fm_mayEmpty.2.1 57 = .ok (.goto (-40), 3) := by decide +kernel
theorem k_fm_mayEmpty_60 : decode me_fm_mayEmpty.2.1 60 = .ok (.iload_n 3, 1) := by decide +kernel
theorem k_fm_mayEmpty_61 : decode me_fm_mayEmpty.2.1 61 = .ok (.ireturn, 1) := by decide +kernel
theorem k_fm_fill_0 : decode me_fm_fill.2.1 0 = .ok (.aload_n 0, 1) := by decide +kernel
theorem k_fm_fill_1 : decode me_fm_fill.2.1 1 = .ok (.iload_n 1, 1) := by decide +kernel
theorem k_fm_fill_2 : decode me_fm_fill.2.1 2 = .ok (.invokevirtual 161, 3) := by decide +kernel
theorem k_fm_fill_5 : decode me_fm_fill.2.1 5 = .ok (.ifCond .ne 9, 3) := by decide +kernel
theorem k_fm_fill_8 : decode me_fm_fill.2.1 8 = .ok (.aload_n 0, 1) := by decide +kernel
theorem k_fm_fill_9 : decode me_fm_fill.2.1 9 = .ok (.iconst (-1), 1) := by decide +kernel
theorem k_fm_fill_10 : decode me_fm_fill.2.1 10 = .ok (.invokevirtual 133, 3) := by decide +kernel
theorem k_fm_fill_13 : decode me_fm_fill.2.1 13 = .ok (.ireturn, 1) := by decide +kernel
theorem k_fm_fill_14 : decode me_fm_fill.2.1 14 = .ok (.aload_n 0, 1) := by decide +kernel
theorem k_fm_fill_15 : decode me_fm_fill.2.1 15 = .ok (.getfield 59, 3) := by decide +kernel
theorem k_fm_fill_18 : decode me_fm_fill.2.1 18 = .ok (.iload_n 1, 1) := by decide +kernel
theorem k_fm_fill_19 : decode me_fm_fill.2.1 19 = .ok (.baload, 1) := by decide +kernel
theorem k_fm_fill_20 : decode me_fm_fill.2.1 20 = .ok (.ifCond .eq 26, 3) := by decide +kernel
theorem k_fm_fill_23 : decode me_fm_fill.2.1 23 = .ok (.aload_n 0, 1) := by decide +kernel
theorem k_fm_fill_24 : decode me_fm_fill.2.1 24 = .ok (.getfield 38, 3) := by decide +kernel
theorem k_fm_fill_27 : decode me_fm_fill.2.1 27 = .ok (.iload_n 1, 1) := by decide +kernel
theorem k_fm_fill_28 : decode me_fm_fill.2.1 28 = .ok (.iaload, 1) := by decide +kernel
theorem k_fm_fill_29 : decode me_fm_fill.2.1 29 = .ok (.ifCond .lt 24, 3) := by decide +kernel
theorem k_fm_fill_32 : decode me_fm_fill.2.1 32 = .ok (.aload_n 0, 1) := by decide +kernel
theorem k_fm_fill_33 : decode me_fm_fill.2.1 33 = .ok (.getfield 59, 3) := by decide +kernel
theorem k_fm_fill_36 : decode me_fm_fill.2.1 36 = .ok (.aload_n 0, 1) := by decide +kernel
theorem k_fm_fill_37 : decode me_fm_fill.2.1 37 = .ok (.getfield 38, 3) := by decide +kernel
theorem k_fm_fill_40 : decode me_fm_fill.2.1 40 = .ok (.iload_n 1, 1) := by decide +kernel
theorem k_fm_fill_41 : decode me_fm_fill.2.1 41 = .ok (.iaload, 1) := by decide +kernel
theorem k_fm_fill_42 : decode me_fm_fill.2.1 42 = .ok (.baload, 1) := by decide +kernel
theorem k_fm_fill_43 : decode me_fm_fill.2.1 43 = .ok (.ifCond .eq 10, 3) := by decide +kernel
theorem k_fm_fill_46 : decode me_fm_fill.2.1 46 = .ok (.aload_n 0, 1) := by decide +kernel
theorem k_fm_fill_47 : decode me_fm_fill.2.1 47 = .ok (.bipush (-3), 2) := by decide +kernel
theorem k_fm_fill_49 : decode me_fm_fill.2.1 49 = .ok (.invokevirtual 133, 3) := by decide +kernel
theorem k_fm_fill_52 : decode me_fm_fill.2.1 52 = .ok (.ireturn, 1) := by decide +kernel
theorem k_fm_fill_53 : decode me_fm_fill.2.1 53 = .ok (.aload_n 0, 1) := by decide +kernel
theorem k_fm_fill_54 : decode me_fm_fill.2.1 54 = .ok (.getfield 59, 3) := by decide +kernel
theorem k_fm_fill_57 : decode me_fm_fill.2.1 57 = .ok (.iload_n 1, 1) := by decide +kernel
theorem k_fm_fill_58 : decode me_fm_fill.2.1 58 = .ok (.iconst 0, 1) := by decide +kernel
theorem k_fm_fill_59 : decode me_fm_fill.2.1 59 = .ok (.bastore, 1) := by decide +kernel
theorem k_fm_fill_60 : decode me_fm_fill.2.1 60 = .ok (.aload_n 0, 1) := by decide +kernel
theorem k_fm_fill_61 : decode me_fm_fill.2.1 61 = .ok (.invokevirtual 152, 3) := by decide +kernel
theorem k_fm_fill_64 : decode me_fm_fill.2.1 64 = .ok (.iconst 1, 1) := by decide +kernel
theorem k_fm_fill_65 : decode me_fm_fill.2.1 65 = .ok (.ireturn, 1) := by decide +kernel
theorem k_fm_order_0 : decode me_fm_order.2.1 0 = .ok (.iconst 0, 1) := by decide +kernel
theorem k_fm_order_1 : decode me_fm_order.2.1 1 = .ok (.istore_n 2, 1) := by decide +kernel
theorem k_fm_order_2 : decode me_fm_order.2.1 2 = .ok (.iload_n 2, 1) := by decide +kernel
theorem k_fm_order_3 : decode me_fm_order.2.1 3 = .ok (.aload_n 0, 1) := by decide +kernel
theorem k_fm_order_4 : decode me_fm_order.2.1 4 = .ok (.getfield 155, 3) := by decide +kernel
theorem k_fm_order_7 : decode me_fm_order.2.1 7 = .ok (.if_icmp .ge 21, 3) := by decide +kernel
theorem k_fm_order_10 : decode me_fm_order.2.1 10 = .ok (.aload_n 0, 1) := by decide +kernel
theorem k_fm_order_11 : decode me_fm_order.2.1 11 = .ok (.getfield 129, 3) := by decide +kernel
theorem k_fm_order_14 : decode me_fm_order.2.1 14 = .ok (.iload_n 2, 1) := by decide +kernel
theorem k_fm_order_15 : decode me_fm_order.2.1 15 = .ok (.aload_n 0, 1) := by decide +kernel
theorem k_fm_order_16 : decode me_fm_order.2.1 16 = .ok (.getfield 59, 3) := by decide +kernel
theorem k_fm_order_19 : decode me_fm_order.2.1 19 = .ok (.iload_n 2, 1) := by decide +kernel
theorem k_fm_order_20 : decode me_fm_order.2.1 20 = .ok (.baload, 1) := by decide +kernel
theorem k_fm_order_21 : decode me_fm_order.2.1 21 = .ok (.bastore, 1) := by decide +kernel
theorem k_fm_order_22 : decode me_fm_order.2.1 22 = .ok (.iinc 2 1, 3) := by decide +kernel
theorem k_fm_order_25 : decode me_fm_order.2.1 25 = .ok (.goto (-23), 3) := by decide +kernel
theorem k_fm_order_28 : decode me_fm_order.2.1 28 = .ok (.bipush (-9), 2) := by decide +kernel
theorem k_fm_order_30 : decode me_fm_order.2.1 30 = .ok (.istore_n 2, 1) := by decide +kernel
theorem k_fm_order_31 : decode me_fm_order.2.1 31 = .ok (.iconst 0, 1) := by decide +kernel
theorem k_fm_order_32 : decode me_fm_order.2.1 32 = .ok (.istore_n 3, 1) := by decide +kernel
theorem k_fm_order_33 : decode me_fm_order.2.1 33 = .ok (.iload_n 3, 1) := by decide +kernel
theorem k_fm_order_34 : decode me_fm_order.2.1 34 = .ok (.iload_n 1, 1) := by decide +kernel
theorem k_fm_order_35 : decode me_fm_order.2.1 35 = .ok (.if_icmp .gt 80, 3) := by decide +kernel
theorem k_fm_order_38 : decode me_fm_order.2.1 38 = .ok (.bipush (-9), 2) := by decide +kernel
theorem k_fm_order_40 : decode me_fm_order.2.1 40 = .ok (.istore_n 2, 1) := by decide +kernel
theorem k_fm_order_41 : decode me_fm_order.2.1 41 = .ok (.iconst 0, 1) := by decide +kernel
theorem k_fm_order_42 : decode me_fm_order.2.1 42 = .ok (.istore 4, 2) := by decide +kernel
theorem k_fm_order_44 : decode me_fm_order.2.1 44 = .ok (.iload 4, 2) := by decide +kernel
theorem k_fm_order_46 : decode me_fm_order.2.1 46 = .ok (.aload_n 0, 1) := by decide +kernel
theorem k_fm_order_47 : decode me_fm_order.2.1 47 = .ok (.getfield 155, 3) := by decide +kernel
theorem k_fm_order_50 : decode me_fm_order.2.1 50 = .ok (.if_icmp .ge 45, 3) := by decide +kernel
theorem k_fm_order_53 : decode me_fm_order.2.1 53 = .ok (.aload_n 0, 1) := by decide +kernel
theorem k_fm_order_54 : decode me_fm_order.2.1 54 = .ok (.iload 4, 2) := by decide +kernel
theorem k_fm_order_56 : decode me_fm_order.2.1 56 = .ok (.aload_n 0, 1) := by decide +kernel
theorem k_fm_order_57 : decode me_fm_order.2.1 57 = .ok (.getfield 129, 3) := by decide +kernel
theorem k_fm_order_60 : decode me_fm_order.2.1 60 = .ok (.invokevirtual 298, 3) := by decide +kernel
theorem k_fm_order_63 : decode me_fm_order.2.1 63 = .ok (.ifCond .eq 26, 3) := by decide +kernel
theorem k_fm_order_66 : decode me_fm_order.2.1 66 = .ok (.iload_n 2, 1) := by decide +kernel
theorem k_fm_order_67 : decode me_fm_order.2.1 67 = .ok (.ifCond .lt 19, 3) := by decide +kernel
theorem k_fm_order_70 : decode me_fm_order.2.1 70 = .ok (.aload_n 0, 1) := by decide +kernel
theorem k_fm_order_71 : decode me_fm_order.2.1 71 = .ok (.getfield 44, 3) := by decide +kernel
theorem k_fm_order_74 : decode me_fm_order.2.1 74 = .ok (.iload 4, 2) := by decide +kernel
theorem k_fm_order_76 : decode me_fm_order.2.1 76 = .ok (.iaload, 1) := by decide +kernel
theorem k_fm_order_77 : decode me_fm_order.2.1 77 = .ok (.aload_n 0, 1) := by decide +kernel
theorem k_fm_order_78 : decode me_fm_order.2.1 78 = .ok (.getfield 44, 3) := by decide +kernel
theorem k_fm_order_81 : decode me_fm_order.2.1 81 = .ok (.iload_n 2, 1) := by decide +kernel
theorem k_fm_order_82 : decode me_fm_order.2.1 82 = .ok (.iaload, 1) := by decide +kernel
theorem k_fm_order_83 : decode me_fm_order.2.1 83 = .ok (.if_icmp .le 6, 3) := by decide +kernel
theorem k_fm_order_86 : decode me_fm_order.2.1 86 = .ok (.iload 4, 2) := by decide +kernel
theorem k_fm_order_88 : decode me_fm_order.2.1 88 = .ok (.istore_n 2, 1) := by decide +kernel
theorem k_fm_order_89 : decode me_fm_order.2.1 89 = .ok (.iinc 4 1, 3) := by decide +kernel
theorem k_fm_order_92 : decode me_fm_order.2.1 92 = .ok (.goto (-48), 3) := by decide +kernel
theorem k_fm_order_95 : decode me_fm_order.2.1 95 = .ok (.iload_n 2, 1) := by decide +kernel
theorem k_fm_order_96 : decode me_fm_order.2.1 96 = .ok (.ifCond .ge 6, 3) := by decide +kernel
theorem k_fm_order_99 : decode me_fm_order.2.1 99 = .ok (.bipush (-9), 2) := by decide +kernel
theorem k_fm_order_101 : decode me_fm_order.2.1 101 = .ok (.ireturn, 1) := by decide +kernel
theorem k_fm_order_102 : decode me_fm_order.2.1 102 = .ok (.aload_n 0, 1) := by decide +kernel
theorem k_fm_order_103 : decode me_fm_order.2.1 103 = .ok (.getfield 129, 3) := by decide +kernel
theorem k_fm_order_106 : decode me_fm_order.2.1 106 = .ok (.iload_n 2, 1) := by decide +kernel
theorem k_fm_order_107 : decode me_fm_order.2.1 107 = .ok (.iconst 1, 1) := by decide +kernel
theorem k_fm_order_108 : decode me_fm_order.2.1 108 = .ok (.bastore, 1) := by decide +kernel
theorem k_fm_order_109 : decode me_fm_order.2.1 109 = .ok (.iinc 3 1, 3) := by decide +kernel
theorem k_fm_order_112 : decode me_fm_order.2.1 112 = .ok (.goto (-79), 3) := by decide +kernel
theorem k_fm_order_115 : decode me_fm_order.2.1 115 = .ok (.iload_n 2, 1) := by decide +kernel
theorem k_fm_order_116 : decode me_fm_order.2.1 116 = .ok (.ireturn, 1) := by decide +kernel
theorem k_fm_tankOf_0 : decode me_fm_tankOf.2.1 0 = .ok (.iload_n 1, 1) := by decide +kernel
theorem k_fm_tankOf_1 : decode me_fm_tankOf.2.1 1 = .ok (.aload_n 0, 1) := by decide +kernel
theorem k_fm_tankOf_2 : decode me_fm_tankOf.2.1 2 = .ok (.getfield 141, 3) := by decide +kernel
theorem k_fm_tankOf_5 : decode me_fm_tankOf.2.1 5 = .ok (.invokestatic 144, 3) := by decide +kernel
theorem k_fm_tankOf_8 : decode me_fm_tankOf.2.1 8 = .ok (.ifCond .ne 9, 3) := by decide +kernel
theorem k_fm_tankOf_11 : decode me_fm_tankOf.2.1 11 = .ok (.aload_n 0, 1) := by decide +kernel
theorem k_fm_tankOf_12 : decode me_fm_tankOf.2.1 12 = .ok (.iconst (-1), 1) := by decide +kernel
theorem k_fm_tankOf_13 : decode me_fm_tankOf.2.1 13 = .ok (.invokevirtual 133, 3) := by decide +kernel
theorem k_fm_tankOf_16 : decode me_fm_tankOf.2.1 16 = .ok (.ireturn, 1) := by decide +kernel
theorem k_fm_tankOf_17 : decode me_fm_tankOf.2.1 17 = .ok (.iload_n 2, 1) := by decide +kernel
theorem k_fm_tankOf_18 : decode me_fm_tankOf.2.1 18 = .ok (.tableswitch 98 0 5 #[38, 59, 66, 73, 80, 87], 38) := by decide +kernel
theorem k_fm_tankOf_56 : decode me_fm_tankOf.2.1 56 = .ok (.aload_n 0, 1) := by decide +kernel
theorem k_fm_tankOf_57 : decode me_fm_tankOf.2.1 57 = .ok (.getfield 17, 3) := by decide +kernel
theorem k_fm_tankOf_60 : decode me_fm_tankOf.2.1 60 = .ok (.iload_n 1, 1) := by decide +kernel
theorem k_fm_tankOf_61 : decode me_fm_tankOf.2.1 61 = .ok (.iaload, 1) := by decide +kernel
theorem k_fm_tankOf_62 : decode me_fm_tankOf.2.1 62 = .ok (.aload_n 0, 1) := by decide +kernel
theorem k_fm_tankOf_63 : decode me_fm_tankOf.2.1 63 = .ok (.getfield 29, 3) := by decide +kernel
theorem k_fm_tankOf_66 : decode me_fm_tankOf.2.1 66 = .ok (.iload_n 1, 1) := by decide +kernel
theorem k_fm_tankOf_67 : decode me_fm_tankOf.2.1 67 = .ok (.iaload, 1) := by decide +kernel
theorem k_fm_tankOf_68 : decode me_fm_tankOf.2.1 68 = .ok (.aload_n 0, 1) := by decide +kernel
theorem k_fm_tankOf_69 : decode me_fm_tankOf.2.1 69 = .ok (.getfield 20, 3) := by decide +kernel
theorem k_fm_tankOf_72 : decode me_fm_tankOf.2.1 72 = .ok (.iload_n 1, 1) := by decide +kernel
theorem k_fm_tankOf_73 : decode me_fm_tankOf.2.1 73 = .ok (.iaload, 1) := by decide +kernel
theorem k_fm_tankOf_74 : decode me_fm_tankOf.2.1 74 = .ok (.idiv, 1) := by decide +kernel
theorem k_fm_tankOf_75 : decode me_fm_tankOf.2.1 75 = .ok (.iadd, 1) := by decide +kernel
theorem k_fm_tankOf_76 : decode me_fm_tankOf.2.1 76 = .ok (.ireturn, 1) := by decide +kernel
theorem k_fm_tankOf_77 : decode me_fm_tankOf.2.1 77 = .ok (.aload_n 0, 1) := by decide +kernel
theorem k_fm_tankOf_78 : decode me_fm_tankOf.2.1 78 = .ok (.getfield 29, 3) := by decide +kernel
theorem k_fm_tankOf_81 : decode me_fm_tankOf.2.1 81 = .ok (.iload_n 1, 1) := by decide +kernel
theorem k_fm_tankOf_82 : decode me_fm_tankOf.2.1 82 = .ok (.iaload, 1) := by decide +kernel
theorem k_fm_tankOf_83 : decode me_fm_tankOf.2.1 83 = .ok (.ireturn, 1) := by decide +kernel
theorem k_fm_tankOf_84 : decode me_fm_tankOf.2.1 84 = .ok (.aload_n 0, 1) := by decide +kernel
theorem k_fm_tankOf_85 : decode me_fm_tankOf.2.1 85 = .ok (.getfield 26, 3) := by decide +kernel
theorem k_fm_tankOf_88 : decode me_fm_tankOf.2.1 88 = .ok (.iload_n 1, 1) := by decide +kernel
theorem k_fm_tankOf_89 : decode me_fm_tankOf.2.1 89 = .ok (.iaload, 1) := by decide +kernel
theorem k_fm_tankOf_90 : decode me_fm_tankOf.2.1 90 = .ok (.ireturn, 1) := by decide +kernel
theorem k_fm_tankOf_91 : decode me_fm_tankOf.2.1 91 = .ok (.aload_n 0, 1) := by decide +kernel
theorem k_fm_tankOf_92 : decode me_fm_tankOf.2.1 92 = .ok (.getfield 32, 3) := by decide +kernel
theorem k_fm_tankOf_95 : decode me_fm_tankOf.2.1 95 = .ok (.iload_n 1, 1) := by decide +kernel
theorem k_fm_tankOf_96 : decode me_fm_tankOf.2.1 96 = .ok (.iaload, 1) := by decide +kernel
theorem k_fm_tankOf_97 : decode me_fm_tankOf.2.1 97 = .ok (.ireturn, 1) := by decide +kernel
theorem k_fm_tankOf_98 : decode me_fm_tankOf.2.1 98 = .ok (.aload_n 0, 1) := by decide +kernel
theorem k_fm_tankOf_99 : decode me_fm_tankOf.2.1 99 = .ok (.getfield 35, 3) := by decide +kernel
theorem k_fm_tankOf_102 : decode me_fm_tankOf.2.1 102 = .ok (.iload_n 1, 1) := by decide +kernel
theorem k_fm_tankOf_103 : decode me_fm_tankOf.2.1 103 = .ok (.iaload, 1) := by decide +kernel
theorem k_fm_tankOf_104 : decode me_fm_tankOf.2.1 104 = .ok (.ireturn, 1) := by decide +kernel
theorem k_fm_tankOf_105 : decode me_fm_tankOf.2.1 105 = .ok (.aload_n 0, 1) := by decide +kernel
theorem k_fm_tankOf_106 : decode me_fm_tankOf.2.1 106 = .ok (.invokevirtual 179, 3) := by decide +kernel
theorem k_fm_tankOf_109 : decode me_fm_tankOf.2.1 109 = .ok (.aload_n 0, 1) := by decide +kernel
theorem k_fm_tankOf_110 : decode me_fm_tankOf.2.1 110 = .ok (.getfield 105, 3) := by decide +kernel
theorem k_fm_tankOf_113 : decode me_fm_tankOf.2.1 113 = .ok (.iload_n 1, 1) := by decide +kernel
theorem k_fm_tankOf_114 : decode me_fm_tankOf.2.1 114 = .ok (.iaload, 1) := by decide +kernel
theorem k_fm_tankOf_115 : decode me_fm_tankOf.2.1 115 = .ok (.ireturn, 1) := by decide +kernel
theorem k_fm_tankOf_116 : decode me_fm_tankOf.2.1 116 = .ok (.aload_n 0, 1) := by decide +kernel
theorem k_fm_tankOf_117 : decode me_fm_tankOf.2.1 117 = .ok (.bipush (-2), 2) := by decide +kernel
theorem k_fm_tankOf_119 : decode me_fm_tankOf.2.1 119 = .ok (.invokevirtual 133, 3) := by decide +kernel
theorem k_fm_tankOf_122 : decode me_fm_tankOf.2.1 122 = .ok (.ireturn, 1) := by decide +kernel
theorem k_fm_jointOf_0 : decode me_fm_jointOf.2.1 0 = .ok (.aload_n 0, 1) := by decide +kernel
theorem k_fm_jointOf_1 : decode me_fm_jointOf.2.1 1 = .ok (.iload_n 1, 1) := by decide +kernel
theorem k_fm_jointOf_2 : decode me_fm_jointOf.2.1 2 = .ok (.invokevirtual 161, 3) := by decide +kernel
theorem k_fm_jointOf_5 : decode me_fm_jointOf.2.1 5 = .ok (.ifCond .ne 9, 3) := by decide +kernel
theorem k_fm_jointOf_8 : decode me_fm_jointOf.2.1 8 = .ok (.aload_n 0, 1) := by decide +kernel
theorem k_fm_jointOf_9 : decode me_fm_jointOf.2.1 9 = .ok (.iconst (-1), 1) := by decide +kernel
theorem k_fm_jointOf_10 : decode me_fm_jointOf.2.1 10 = .ok (.invokevirtual 133, 3) := by decide +kernel
theorem k_fm_jointOf_13 : decode me_fm_jointOf.2.1 13 = .ok (.ireturn, 1) := by decide +kernel
theorem k_fm_jointOf_14 : decode me_fm_jointOf.2.1 14 = .ok (.iload_n 2, 1) := by decide +kernel
theorem k_fm_jointOf_15 : decode me_fm_jointOf.2.1 15 = .ok (.tableswitch 124 0 8 #[49, 56, 63, 70, 77, 84, 91, 106, 113], 49) := by decide +kernel
theorem k_fm_jointOf_64 : decode me_fm_jointOf.2.1 64 = .ok (.aload_n 0, 1) := by decide +kernel
theorem k_fm_jointOf_65 : decode me_fm_jointOf.2.1 65 = .ok (.getfield 44, 3) := by decide +kernel
theorem k_fm_jointOf_68 : decode me_fm_jointOf.2.1 68 = .ok (.iload_n 1, 1) := by decide +kernel
theorem k_fm_jointOf_69 : decode me_fm_jointOf.2.1 69 = .ok (.iaload, 1) := by decide +kernel
theorem k_fm_jointOf_70 : decode me_fm_jointOf.2.1 70 = .ok (.ireturn, 1) := by decide +kernel
theorem k_fm_jointOf_71 : decode me_fm_jointOf.2.1 71 = .ok (.aload_n 0, 1) := by decide +kernel
theorem k_fm_jointOf_72 : decode me_fm_jointOf.2.1 72 = .ok (.getfield 47, 3) := by decide +kernel
theorem k_fm_jointOf_75 : decode me_fm_jointOf.2.1 75 = .ok (.iload_n 1, 1) := by decide +kernel
theorem k_fm_jointOf_76 : decode me_fm_jointOf.2.1 76 = .ok (.iaload, 1) := by decide +kernel
theorem k_fm_jointOf_77 : decode me_fm_jointOf.2.1 77 = .ok (.ireturn, 1) := by decide +kernel
theorem k_fm_jointOf_78 : decode me_fm_jointOf.2.1 78 = .ok (.aload_n 0, 1) := by decide +kernel
theorem k_fm_jointOf_79 : decode me_fm_jointOf.2.1 79 = .ok (.getfield 50, 3) := by decide +kernel
theorem k_fm_jointOf_82 : decode me_fm_jointOf.2.1 82 = .ok (.iload_n 1, 1) := by decide +kernel
theorem k_fm_jointOf_83 : decode me_fm_jointOf.2.1 83 = .ok (.iaload, 1) := by decide +kernel
theorem k_fm_jointOf_84 : decode me_fm_jointOf.2.1 84 = .ok (.ireturn, 1) := by decide +kernel
theorem k_fm_jointOf_85 : decode me_fm_jointOf.2.1 85 = .ok (.aload_n 0, 1) := by decide +kernel
theorem k_fm_jointOf_86 : decode me_fm_jointOf.2.1 86 = .ok (.getfield 41, 3) := by decide +kernel
theorem k_fm_jointOf_89 : decode me_fm_jointOf.2.1 89 = .ok (.iload_n 1, 1) := by decide +kernel
theorem k_fm_jointOf_90 : decode me_fm_jointOf.2.1 90 = .ok (.iaload, 1) := by decide +kernel
theorem k_fm_jointOf_91 : decode me_fm_jointOf.2.1 91 = .ok (.ireturn, 1) := by decide +kernel
theorem k_fm_jointOf_92 : decode me_fm_jointOf.2.1 92 = .ok (.aload_n 0, 1) := by decide +kernel
theorem k_fm_jointOf_93 : decode me_fm_jointOf.2.1 93 = .ok (.getfield 38, 3) := by decide +kernel
theorem k_fm_jointOf_96 : decode me_fm_jointOf.2.1 96 = .ok (.iload_n 1, 1) := by decide +kernel
theorem k_fm_jointOf_97 : decode me_fm_jointOf.2.1 97 = .ok (.iaload, 1) := by decide +kernel
theorem k_fm_jointOf_98 : decode me_fm_jointOf.2.1 98 = .ok (.ireturn, 1) := by decide +kernel
theorem k_fm_jointOf_99 : decode me_fm_jointOf.2.1 99 = .ok (.aload_n 0, 1) := by decide +kernel
theorem k_fm_jointOf_100 : decode me_fm_jointOf.2.1 100 = .ok (.getfield 56, 3) := by decide +kernel
theorem k_fm_jointOf_103 : decode me_fm_jointOf.2.1 103 = .ok (.iload_n 1, 1) := by decide +kernel
theorem k_fm_jointOf_104 : decode me_fm_jointOf.2.1 104 = .ok (.iaload, 1) := by decide +kernel
theorem k_fm_jointOf_105 : decode me_fm_jointOf.2.1 105 = .ok (.ireturn, 1) := by decide +kernel
theorem k_fm_jointOf_106 : decode me_fm_jointOf.2.1 106 = .ok (.aload_n 0, 1) := by decide +kernel
theorem k_fm_jointOf_107 : decode me_fm_jointOf.2.1 107 = .ok (.getfield 59, 3) := by decide +kernel
theorem k_fm_jointOf_110 : decode me_fm_jointOf.2.1 110 = .ok (.iload_n 1, 1) := by decide +kernel
theorem k_fm_jointOf_111 : decode me_fm_jointOf.2.1 111 = .ok (.baload, 1) := by decide +kernel
theorem k_fm_jointOf_112 : decode me_fm_jointOf.2.1 112 = .ok (.ifCond .eq 7, 3) := by decide +kernel
theorem k_fm_jointOf_115 : decode me_fm_jointOf.2.1 115 = .ok (.iconst 1, 1) := by decide +kernel
theorem k_fm_jointOf_116 : decode me_fm_jointOf.2.1 116 = .ok (.goto 4, 3) := by decide +kernel
theorem k_fm_jointOf_119 : decode me_fm_jointOf.2.1 119 = .ok (.iconst 0, 1) := by decide +kernel
theorem k_fm_jointOf_120 : decode me_fm_jointOf.2.1 120 = .ok (.ireturn, 1) := by decide +kernel
theorem k_fm_jointOf_121 : decode me_fm_jointOf.2.1 121 = .ok (.aload_n 0, 1) := by decide +kernel
theorem k_fm_jointOf_122 : decode me_fm_jointOf.2.1 122 = .ok (.getfield 53, 3) := by decide +kernel
theorem k_fm_jointOf_125 : decode me_fm_jointOf.2.1 125 = .ok (.iload_n 1, 1) := by decide +kernel
theorem k_fm_jointOf_126 : decode me_fm_jointOf.2.1 126 = .ok (.iaload, 1) := by decide +kernel
theorem k_fm_jointOf_127 : decode me_fm_jointOf.2.1 127 = .ok (.ireturn, 1) := by decide +kernel
theorem k_fm_jointOf_128 : decode me_fm_jointOf.2.1 128 = .ok (.aload_n 0, 1) := by decide +kernel
theorem k_fm_jointOf_129 : decode me_fm_jointOf.2.1 129 = .ok (.invokevirtual 179, 3) := by decide +kernel
theorem k_fm_jointOf_132 : decode me_fm_jointOf.2.1 132 = .ok (.aload_n 0, 1) := by decide +kernel
theorem k_fm_jointOf_133 : decode me_fm_jointOf.2.1 133 = .ok (.getfield 93, 3) := by decide +kernel
theorem k_fm_jointOf_136 : decode me_fm_jointOf.2.1 136 = .ok (.iload_n 1, 1) := by decide +kernel
theorem k_fm_jointOf_137 : decode me_fm_jointOf.2.1 137 = .ok (.iaload, 1) := by decide +kernel
theorem k_fm_jointOf_138 : decode me_fm_jointOf.2.1 138 = .ok (.ireturn, 1) := by decide +kernel
theorem k_fm_jointOf_139 : decode me_fm_jointOf.2.1 139 = .ok (.aload_n 0, 1) := by decide +kernel
theorem k_fm_jointOf_140 : decode me_fm_jointOf.2.1 140 = .ok (.bipush (-2), 2) := by decide +kernel
theorem k_fm_jointOf_142 : decode me_fm_jointOf.2.1 142 = .ok (.invokevirtual 133, 3) := by decide +kernel
theorem k_fm_jointOf_145 : decode me_fm_jointOf.2.1 145 = .ok (.ireturn, 1) := by decide +kernel
theorem k_fm_count_0 : decode me_fm_count.2.1 0 = .ok (.iload_n 1, 1) := by decide +kernel
theorem k_fm_count_1 : decode me_fm_count.2.1 1 = .ok (.bipush 10, 2) := by decide +kernel
theorem k_fm_count_3 : decode me_fm_count.2.1 3 = .ok (.if_icmp .le 19, 3) := by decide +kernel
theorem k_fm_count_6 : decode me_fm_count.2.1 6 = .ok (.iload_n 1, 1) := by decide +kernel
theorem k_fm_count_7 : decode me_fm_count.2.1 7 = .ok (.bipush 17, 2) := by decide +kernel
theorem k_fm_count_9 : decode me_fm_count.2.1 9 = .ok (.if_icmp .ge 13, 3) := by decide +kernel
theorem k_fm_count_12 : decode me_fm_count.2.1 12 = .ok (.aload_n 0, 1) := by decide +kernel
theorem k_fm_count_13 : decode me_fm_count.2.1 13 = .ok (.getfield 9, 3) := by decide +kernel
theorem k_fm_count_16 : decode me_fm_count.2.1 16 = .ok (.iload_n 1, 1) := by decide +kernel
theorem k_fm_count_17 : decode me_fm_count.2.1 17 = .ok (.bipush 10, 2) := by decide +kernel
theorem k_fm_count_19 : decode me_fm_count.2.1 19 = .ok (.isub, 1) := by decide +kernel
theorem k_fm_count_20 : decode me_fm_count.2.1 20 = .ok (.iaload, 1) := by decide +kernel
theorem k_fm_count_21 : decode me_fm_count.2.1 21 = .ok (.ireturn, 1) := by decide +kernel
theorem k_fm_count_22 : decode me_fm_count.2.1 22 = .ok (.iconst 0, 1) := by decide +kernel
theorem k_fm_count_23 : decode me_fm_count.2.1 23 = .ok (.istore_n 2, 1) := by decide +kernel
theorem k_fm_count_24 : decode me_fm_count.2.1 24 = .ok (.iload_n 1, 1) := by decide +kernel
theorem k_fm_count_25 : decode me_fm_count.2.1 25 = .ok (.tableswitch 138 0 6 #[43, 48, 53, 58, 63, 98, 103], 43) := by decide +kernel
theorem k_fm_count_68 : decode me_fm_count.2.1 68 = .ok (.aload_n 0, 1) := by decide +kernel
theorem k_fm_count_69 : decode me_fm_count.2.1 69 = .ok (.getfield 206, 3) := by decide +kernel
theorem k_fm_count_72 : decode me_fm_count.2.1 72 = .ok (.ireturn, 1) := by decide +kernel
theorem k_fm_count_73 : decode me_fm_count.2.1 73 = .ok (.aload_n 0, 1) := by decide +kernel
theorem k_fm_count_74 : decode me_fm_count.2.1 74 = .ok (.getfield 141, 3) := by decide +kernel
theorem k_fm_count_77 : decode me_fm_count.2.1 77 = .ok (.ireturn, 1) := by decide +kernel
theorem k_fm_count_78 : decode me_fm_count.2.1 78 = .ok (.aload_n 0, 1) := by decide +kernel
theorem k_fm_count_79 : decode me_fm_count.2.1 79 = .ok (.getfield 155, 3) := by decide +kernel
theorem k_fm_count_82 : decode me_fm_count.2.1 82 = .ok (.ireturn, 1) := by decide +kernel
theorem k_fm_count_83 : decode me_fm_count.2.1 83 = .ok (.aload_n 0, 1) := by decide +kernel
theorem k_fm_count_84 : decode me_fm_count.2.1 84 = .ok (.getfield 158, 3) := by decide +kernel
theorem k_fm_count_87 : decode me_fm_count.2.1 87 = .ok (.ireturn, 1) := by decide +kernel
theorem k_fm_count_88 : decode me_fm_count.2.1 88 = .ok (.iconst 0, 1) := by decide +kernel
theorem k_fm_count_89 : decode me_fm_count.2.1 89 = .ok (.istore_n 3, 1) := by decide +kernel
theorem k_fm_count_90 : decode me_fm_count.2.1 90 = .ok (.iload_n 3, 1) := by decide +kernel
theorem k_fm_count_91 : decode me_fm_count.2.1 91 = .ok (.aload_n 0, 1) := by decide +kernel
theorem k_fm_count_92 : decode me_fm_count.2.1 92 = .ok (.getfield 158, 3) := by decide +kernel
theorem k_fm_count_95 : decode me_fm_count.2.1 95 = .ok (.if_icmp .ge 26, 3) := by decide +kernel
theorem k_fm_count_98 : decode me_fm_count.2.1 98 = .ok (.iload_n 2, 1) := by decide +kernel
theorem k_fm_count_99 : decode me_fm_count.2.1 99 = .ok (.aload_n 0, 1) := by decide +kernel
theorem k_fm_count_100 : decode me_fm_count.2.1 100 = .ok (.getfield 72, 3) := by decide +kernel
theorem k_fm_count_103 : decode me_fm_count.2.1 103 = .ok (.iload_n 3, 1) := by decide +kernel
theorem k_fm_count_104 : decode me_fm_count.2.1 104 = .ok (.baload, 1) := by decide +kernel
theorem k_fm_count_105 : decode me_fm_count.2.1 105 = .ok (.ifCond .eq 7, 3) := by decide +kernel
theorem k_fm_count_108 : decode me_fm_count.2.1 108 = .ok (.iconst 1, 1) := by decide +kernel
theorem k_fm_count_109 : decode me_fm_count.2.1 109 = .ok (.goto 4, 3) := by decide +kernel
theorem k_fm_count_112 : decode me_fm_count.2.1 112 = .ok (.iconst 0, 1) := by decide +kernel
theorem k_fm_count_113 : decode me_fm_count.2.1 113 = .ok (.iadd, 1) := by decide +kernel
theorem k_fm_count_114 : decode me_fm_count.2.1 114 = .ok (.istore_n 2, 1) := by decide +kernel
theorem k_fm_count_115 : decode me_fm_count.2.1 115 = .ok (.iinc 3 1, 3) := by decide +kernel
theorem k_fm_count_118 : decode me_fm_count.2.1 118 = .ok (.goto (-28), 3) := by decide +kernel
theorem k_fm_count_121 : decode me_fm_count.2.1 121 = .ok (.iload_n 2, 1) := by decide +kernel
theorem k_fm_count_122 : decode me_fm_count.2.1 122 = .ok (.ireturn, 1) := by decide +kernel
theorem k_fm_count_123 : decode me_fm_count.2.1 123 = .ok (.aload_n 0, 1) := by decide +kernel
theorem k_fm_count_124 : decode me_fm_count.2.1 124 = .ok (.getfield 213, 3) := by decide +kernel
theorem k_fm_count_127 : decode me_fm_count.2.1 127 = .ok (.ireturn, 1) := by decide +kernel
theorem k_fm_count_128 : decode me_fm_count.2.1 128 = .ok (.iconst 0, 1) := by decide +kernel
theorem k_fm_count_129 : decode me_fm_count.2.1 129 = .ok (.istore_n 3, 1) := by decide +kernel
theorem k_fm_count_130 : decode me_fm_count.2.1 130 = .ok (.iload_n 3, 1) := by decide +kernel
theorem k_fm_count_131 : decode me_fm_count.2.1 131 = .ok (.aload_n 0, 1) := by decide +kernel
theorem k_fm_count_132 : decode me_fm_count.2.1 132 = .ok (.getfield 155, 3) := by decide +kernel
theorem k_fm_count_135 : decode me_fm_count.2.1 135 = .ok (.if_icmp .ge 26, 3) := by decide +kernel
theorem k_fm_count_138 : decode me_fm_count.2.1 138 = .ok (.iload_n 2, 1) := by decide +kernel
theorem k_fm_count_139 : decode me_fm_count.2.1 139 = .ok (.aload_n 0, 1) := by decide +kernel
theorem k_fm_count_140 : decode me_fm_count.2.1 140 = .ok (.getfield 59, 3) := by decide +kernel
theorem k_fm_count_143 : decode me_fm_count.2.1 143 = .ok (.iload_n 3, 1) := by decide +kernel
theorem k_fm_count_144 : decode me_fm_count.2.1 144 = .ok (.baload, 1) := by decide +kernel
theorem k_fm_count_145 : decode me_fm_count.2.1 145 = .ok (.ifCond .eq 7, 3) := by decide +kernel
theorem k_fm_count_148 : decode me_fm_count.2.1 148 = .ok (.iconst 1, 1) := by decide +kernel
theorem k_fm_count_149 : decode me_fm_count.2.1 149 = .ok (.goto 4, 3) := by decide +kernel
theorem k_fm_count_152 : decode me_fm_count.2.1 152 = .ok (.iconst 0, 1) := by decide +kernel
theorem k_fm_count_153 : decode me_fm_count.2.1 153 = .ok (.iadd, 1) := by decide +kernel
theorem k_fm_count_154 : decode me_fm_count.2.1 154 = .ok (.istore_n 2, 1) := by decide +kernel
theorem k_fm_count_155 : decode me_fm_count.2.1 155 = .ok (.iinc 3 1, 3) := by decide +kernel
theorem k_fm_count_158 : decode me_fm_count.2.1 158 = .ok (.goto (-28), 3) := by decide +kernel
theorem k_fm_count_161 : decode me_fm_count.2.1 161 = .ok (.iload_n 2, 1) := by decide +kernel
theorem k_fm_count_162 : decode me_fm_count.2.1 162 = .ok (.ireturn, 1) := by decide +kernel
theorem k_fm_count_163 : decode me_fm_count.2.1 163 = .ok (.bipush (-9), 2) := by decide +kernel
theorem k_fm_count_165 : decode me_fm_count.2.1 165 = .ok (.ireturn, 1) := by decide +kernel
theorem k_lw_law_0 : decode me_lw_law.2.1 0 = .ok (.new 7, 3) := by decide +kernel
theorem k_lw_law_3 : decode me_lw_law.2.1 3 = .ok (.dup, 1) := by decide +kernel
theorem k_lw_law_4 : decode me_lw_law.2.1 4 = .ok (.invokespecial 9, 3) := by decide +kernel
theorem k_lw_law_7 : decode me_lw_law.2.1 7 = .ok (.astore_n 1, 1) := by decide +kernel
theorem k_lw_law_8 : decode me_lw_law.2.1 8 = .ok (.new 10, 3) := by decide +kernel
theorem k_lw_law_11 : decode me_lw_law.2.1 11 = .ok (.dup, 1) := by decide +kernel
theorem k_lw_law_12 : decode me_lw_law.2.1 12 = .ok (.invokespecial 12, 3) := by decide +kernel
theorem k_lw_law_15 : decode me_lw_law.2.1 15 = .ok (.astore_n 2, 1) := by decide +kernel
theorem k_lw_law_16 : decode me_lw_law.2.1 16 = .ok (.iconst 0, 1) := by decide +kernel
theorem k_lw_law_17 : decode me_lw_law.2.1 17 = .ok (.istore_n 3, 1) := by decide +kernel
theorem k_lw_law_18 : decode me_lw_law.2.1 18 = .ok (.iload_n 3, 1) := by decide +kernel
theorem k_lw_law_19 : decode me_lw_law.2.1 19 = .ok (.aload_n 0, 1) := by decide +kernel
theorem k_lw_law_20 : decode me_lw_law.2.1 20 = .ok (.arraylength, 1) := by decide +kernel
theorem k_lw_law_21 : decode me_lw_law.2.1 21 = .ok (.bipush 6, 2) := by decide +kernel
theorem k_lw_law_23 : decode me_lw_law.2.1 23 = .ok (.isub, 1) := by decide +kernel
theorem k_lw_law_24 : decode me_lw_law.2.1 24 = .ok (.if_icmp .gt 1076, 3) := by decide +kernel
theorem k_lw_law_27 : decode me_lw_law.2.1 27 = .ok (.aload_n 0, 1) := by decide +kernel
theorem k_lw_law_28 : decode me_lw_law.2.1 28 = .ok (.iload_n 3, 1) := by decide +kernel
theorem k_lw_law_29 : decode me_lw_law.2.1 29 = .ok (.iaload, 1) := by decide +kernel
theorem k_lw_law_30 : decode me_lw_law.2.1 30 = .ok (.bipush 31, 2) := by decide +kernel
theorem k_lw_law_32 : decode me_lw_law.2.1 32 = .ok (.iand, 1) := by decide +kernel
theorem k_lw_law_33 : decode me_lw_law.2.1 33 = .ok (.tableswitch 1061 0 31 #[143, 196, 239, 318, 351, 400, 433, 466, 489, 512, 535, 568, 591, 614, 667, 680, 703, 716, 739, 752, 785, 798, 831, 854, 867, 890, 903, 926, 949, 972, 1005, 1038], 143) := by decide +kernel
theorem k_lw_law_176 : decode me_lw_law.2.1 176 = .ok (.aload_n 1, 1) := by decide +kernel
theorem k_lw_law_177 : decode me_lw_law.2.1 177 = .ok (.aload_n 0, 1) := by decide +kernel
theorem k_lw_law_178 : decode me_lw_law.2.1 178 = .ok (.iload_n 3, 1) := by decide +kernel
theorem k_lw_law_179 : decode me_lw_law.2.1 179 = .ok (.iconst 1, 1) := by decide +kernel
theorem k_lw_law_180 : decode me_lw_law.2.1 180 = .ok (.iadd, 1) := by decide +kernel
theorem k_lw_law_181 : decode me_lw_law.2.1 181 = .ok (.iaload, 1) := by decide +kernel
theorem k_lw_law_182 : decode me_lw_law.2.1 182 = .ok (.aload_n 0, 1) := by decide +kernel
theorem k_lw_law_183 : decode me_lw_law.2.1 183 = .ok (.iload_n 3, 1) := by decide +kernel
theorem k_lw_law_184 : decode me_lw_law.2.1 184 = .ok (.iconst 2, 1) := by decide +kernel
theorem k_lw_law_185 : decode me_lw_law.2.1 185 = .ok (.iadd, 1) := by decide +kernel
theorem k_lw_law_186 : decode me_lw_law.2.1 186 = .ok (.iaload, 1) := by decide +kernel
theorem k_lw_law_187 : decode me_lw_law.2.1 187 = .ok (.aload_n 0, 1) := by decide +kernel
theorem k_lw_law_188 : decode me_lw_law.2.1 188 = .ok (.iload_n 3, 1) := by decide +kernel
theorem k_lw_law_189 : decode me_lw_law.2.1 189 = .ok (.iconst 3, 1) := by decide +kernel
theorem k_lw_law_190 : decode me_lw_law.2.1 190 = .ok (.iadd, 1) := by decide +kernel
theorem k_lw_law_191 : decode me_lw_law.2.1 191 = .ok (.iaload, 1) := by decide +kernel
theorem k_lw_law_192 : decode me_lw_law.2.1 192 = .ok (.aload_n 0, 1) := by decide +kernel
theorem k_lw_law_193 : decode me_lw_law.2.1 193 = .ok (.iload_n 3, 1) := by decide +kernel
theorem k_lw_law_194 : decode me_lw_law.2.1 194 = .ok (.iconst 4, 1) := by decide +kernel
theorem k_lw_law_195 : decode me_lw_law.2.1 195 = .ok (.iadd, 1) := by decide +kernel
theorem k_lw_law_196 : decode me_lw_law.2.1 196 = .ok (.iaload, 1) := by decide +kernel
theorem k_lw_law_197 : decode me_lw_law.2.1 197 = .ok (.invokevirtual 13, 3) := by decide +kernel
theorem k_lw_law_200 : decode me_lw_law.2.1 200 = .ok (.aload_n 2, 1) := by decide +kernel
theorem k_lw_law_201 : decode me_lw_law.2.1 201 = .ok (.aload_n 0, 1) := by decide +kernel
theorem k_lw_law_202 : decode me_lw_law.2.1 202 = .ok (.iload_n 3, 1) := by decide +kernel
theorem k_lw_law_203 : decode me_lw_law.2.1 203 = .ok (.iconst 1, 1) := by decide +kernel
theorem k_lw_law_204 : decode me_lw_law.2.1 204 = .ok (.iadd, 1) := by decide +kernel
theorem k_lw_law_205 : decode me_lw_law.2.1 205 = .ok (.iaload, 1) := by decide +kernel
theorem k_lw_law_206 : decode me_lw_law.2.1 206 = .ok (.aload_n 0, 1) := by decide +kernel
theorem k_lw_law_207 : decode me_lw_law.2.1 207 = .ok (.iload_n 3, 1) := by decide +kernel
theorem k_lw_law_208 : decode me_lw_law.2.1 208 = .ok (.iconst 2, 1) := by decide +kernel
theorem k_lw_law_209 : decode me_lw_law.2.1 209 = .ok (.iadd, 1) := by decide +kernel
theorem k_lw_law_210 : decode me_lw_law.2.1 210 = .ok (.iaload, 1) := by decide +kernel
theorem k_lw_law_211 : decode me_lw_law.2.1 211 = .ok (.aload_n 0, 1) := by decide +kernel
theorem k_lw_law_212 : decode me_lw_law.2.1 212 = .ok (.iload_n 3, 1) := by decide +kernel
theorem k_lw_law_213 : decode me_lw_law.2.1 213 = .ok (.iconst 3, 1) := by decide +kernel
theorem k_lw_law_214 : decode me_lw_law.2.1 214 = .ok (.iadd, 1) := by decide +kernel
theorem k_lw_law_215 : decode me_lw_law.2.1 215 = .ok (.iaload, 1) := by decide +kernel
theorem k_lw_law_216 : decode me_lw_law.2.1 216 = .ok (.aload_n 0, 1) := by decide +kernel
theorem k_lw_law_217 : decode me_lw_law.2.1 217 = .ok (.iload_n 3, 1) := by decide +kernel
theorem k_lw_law_218 : decode me_lw_law.2.1 218 = .ok (.iconst 4, 1) := by decide +kernel
theorem k_lw_law_219 : decode me_lw_law.2.1 219 = .ok (.iadd, 1) := by decide +kernel
theorem k_lw_law_220 : decode me_lw_law.2.1 220 = .ok (.iaload, 1) := by decide +kernel
theorem k_lw_law_221 : decode me_lw_law.2.1 221 = .ok (.invokevirtual 17, 3) := by decide +kernel
theorem k_lw_law_224 : decode me_lw_law.2.1 224 = .ok (.if_icmp .eq 870, 3) := by decide +kernel
theorem k_lw_law_227 : decode me_lw_law.2.1 227 = .ok (.iconst 0, 1) := by decide +kernel
theorem k_lw_law_228 : decode me_lw_law.2.1 228 = .ok (.ireturn, 1) := by decide +kernel
theorem k_lw_law_229 : decode me_lw_law.2.1 229 = .ok (.aload_n 1, 1) := by decide +kernel
theorem k_lw_law_230 : decode me_lw_law.2.1 230 = .ok (.aload_n 0, 1) := by decide +kernel
theorem k_lw_law_231 : decode me_lw_law.2.1 231 = .ok (.iload_n 3, 1) := by decide +kernel
theorem k_lw_law_232 : decode me_lw_law.2.1 232 = .ok (.iconst 1, 1) := by decide +kernel
theorem k_lw_law_233 : decode me_lw_law.2.1 233 = .ok (.iadd, 1) := by decide +kernel
theorem k_lw_law_234 : decode me_lw_law.2.1 234 = .ok (.iaload, 1) := by decide +kernel
theorem k_lw_law_235 : decode me_lw_law.2.1 235 = .ok (.aload_n 0, 1) := by decide +kernel
theorem k_lw_law_236 : decode me_lw_law.2.1 236 = .ok (.iload_n 3, 1) := by decide +kernel
theorem k_lw_law_237 : decode me_lw_law.2.1 237 = .ok (.iconst 2, 1) := by decide +kernel
theorem k_lw_law_238 : decode me_lw_law.2.1 238 = .ok (.iadd, 1) := by decide +kernel
theorem k_lw_law_239 : decode me_lw_law.2.1 239 = .ok (.iaload, 1) := by decide +kernel
theorem k_lw_law_240 : decode me_lw_law.2.1 240 = .ok (.aload_n 0, 1) := by decide +kernel
theorem k_lw_law_241 : decode me_lw_law.2.1 241 = .ok (.iload_n 3, 1) := by decide +kernel
theorem k_lw_law_242 : decode me_lw_law.2.1 242 = .ok (.iconst 3, 1) := by decide +kernel
theorem k_lw_law_243 : decode me_lw_law.2.1 243 = .ok (.iadd, 1) := by decide +kernel
theorem k_lw_law_244 : decode me_lw_law.2.1 244 = .ok (.iaload, 1) := by decide +kernel
theorem k_lw_law_245 : decode me_lw_law.2.1 245 = .ok (.invokevirtual 18, 3) := by decide +kernel
theorem k_lw_law_248 : decode me_lw_law.2.1 248 = .ok (.aload_n 2, 1) := by decide +kernel
theorem k_lw_law_249 : decode me_lw_law.2.1 249 = .ok (.aload_n 0, 1) := by decide +kernel
theorem k_lw_law_250 : decode me_lw_law.2.1 250 = .ok (.iload_n 3, 1) := by decide +kernel
theorem k_lw_law_251 : decode me_lw_law.2.1 251 = .ok (.iconst 1, 1) := by decide +kernel
theorem k_lw_law_252 : decode me_lw_law.2.1 252 = .ok (.iadd, 1) := by decide +kernel
theorem k_lw_law_253 : decode me_lw_law.2.1 253 = .ok (.iaload, 1) := by decide +kernel
theorem k_lw_law_254 : decode me_lw_law.2.1 254 = .ok (.aload_n 0, 1) := by decide +kernel
theorem k_lw_law_255 : decode me_lw_law.2.1 255 = .ok (.iload_n 3, 1) := by decide +kernel
theorem k_lw_law_256 : decode me_lw_law.2.1 256 = .ok (.iconst 2, 1) := by decide +kernel
theorem k_lw_law_257 : decode me_lw_law.2.1 257 = .ok (.iadd, 1) := by decide +kernel
theorem k_lw_law_258 : decode me_lw_law.2.1 258 = .ok (.iaload, 1) := by decide +kernel
theorem k_lw_law_259 : decode me_lw_law.2.1 259 = .ok (.aload_n 0, 1) := by decide +kernel
theorem k_lw_law_260 : decode me_lw_law.2.1 260 = .ok (.iload_n 3, 1) := by decide +kernel
theorem k_lw_law_261 : decode me_lw_law.2.1 261 = .ok (.iconst 3, 1) := by decide +kernel
theorem k_lw_law_262 : decode me_lw_law.2.1 262 = .ok (.iadd, 1) := by decide +kernel
theorem k_lw_law_263 : decode me_lw_law.2.1 263 = .ok (.iaload, 1) := by decide +kernel
theorem k_lw_law_264 : decode me_lw_law.2.1 264 = .ok (.invokevirtual 22, 3) := by decide +kernel
theorem k_lw_law_267 : decode me_lw_law.2.1 267 = .ok (.if_icmp .eq 827, 3) := by decide +kernel
theorem k_lw_law_270 : decode me_lw_law.2.1 270 = .ok (.iconst 0, 1) := by decide +kernel
theorem k_lw_law_271 : decode me_lw_law.2.1 271 = .ok (.ireturn, 1) := by decide +kernel
theorem k_lw_law_272 : decode me_lw_law.2.1 272 = .ok (.aload_n 1, 1) := by decide +kernel
theorem k_lw_law_273 : decode me_lw_law.2.1 273 = .ok (.aload_n 0, 1) := by decide +kernel
theorem k_lw_law_274 : decode me_lw_law.2.1 274 = .ok (.iload_n 3, 1) := by decide +kernel
theorem k_lw_law_275 : decode me_lw_law.2.1 275 = .ok (.iconst 1, 1) := by decide +kernel
theorem k_lw_law_276 : decode me_lw_law.2.1 276 = .ok (.iadd, 1) := by decide +kernel
theorem k_lw_law_277 : decode me_lw_law.2.1 277 = .ok (.iaload, 1) := by decide +kernel
theorem k_lw_law_278 : decode me_lw_law.2.1 278 = .ok (.ifCond .eq 7, 3) := by decide +kernel
theorem k_lw_law_281 : decode me_lw_law.2.1 281 = .ok (.iconst 1, 1) := by decide +kernel
theorem k_lw_law_282 : decode me_lw_law.2.1 282 = .ok (.goto 4, 3) := by decide +kernel
theorem k_lw_law_285 : decode me_lw_law.2.1 285 = .ok (.iconst 0, 1) := by decide +kernel
theorem k_lw_law_286 : decode me_lw_law.2.1 286 = .ok (.aload_n 0, 1) := by decide +kernel
theorem k_lw_law_287 : decode me_lw_law.2.1 287 = .ok (.iload_n 3, 1) := by decide +kernel
theorem k_lw_law_288 : decode me_lw_law.2.1 288 = .ok (.iconst 2, 1) := by decide +kernel
theorem k_lw_law_289 : decode me_lw_law.2.1 289 = .ok (.iadd, 1) := by decide +kernel
theorem k_lw_law_290 : decode me_lw_law.2.1 290 = .ok (.iaload, 1) := by decide +kernel
theorem k_lw_law_291 : decode me_lw_law.2.1 291 = .ok (.aload_n 0, 1) := by decide +kernel
theorem k_lw_law_292 : decode me_lw_law.2.1 292 = .ok (.iload_n 3, 1) := by decide +kernel
theorem k_lw_law_293 : decode me_lw_law.2.1 293 = .ok (.iconst 3, 1) := by decide +kernel
theorem k_lw_law_294 : decode me_lw_law.2.1 294 = .ok (.iadd, 1) := by decide +kernel
theorem k_lw_law_295 : decode me_lw_law.2.1 295 = .ok (.iaload, 1) := by decide +kernel
theorem k_lw_law_296 : decode me_lw_law.2.1 296 = .ok (.aload_n 0, 1) := by decide +kernel
theorem k_lw_law_297 : decode me_lw_law.2.1 297 = .ok (.iload_n 3, 1) := by decide +kernel
theorem k_lw_law_298 : decode me_lw_law.2.1 298 = .ok (.iconst 4, 1) := by decide +kernel
theorem k_lw_law_299 : decode me_lw_law.2.1 299 = .ok (.iadd, 1) := by decide +kernel
theorem k_lw_law_300 : decode me_lw_law.2.1 300 = .ok (.iaload, 1) := by decide +kernel
theorem k_lw_law_301 : decode me_lw_law.2.1 301 = .ok (.aload_n 0, 1) := by decide +kernel
theorem k_lw_law_302 : decode me_lw_law.2.1 302 = .ok (.iload_n 3, 1) := by decide +kernel
theorem k_lw_law_303 : decode me_lw_law.2.1 303 = .ok (.iconst 5, 1) := by decide +kernel
theorem k_lw_law_304 : decode me_lw_law.2.1 304 = .ok (.iadd, 1) := by decide +kernel
theorem k_lw_law_305 : decode me_lw_law.2.1 305 = .ok (.iaload, 1) := by decide +kernel
theorem k_lw_law_306 : decode me_lw_law.2.1 306 = .ok (.invokevirtual 23, 3) := by decide +kernel
theorem k_lw_law_309 : decode me_lw_law.2.1 309 = .ok (.aload_n 2, 1) := by decide +kernel
theorem k_lw_law_310 : decode me_lw_law.2.1 310 = .ok (.aload_n 0, 1) := by decide +kernel
theorem k_lw_law_311 : decode me_lw_law.2.1 311 = .ok (.iload_n 3, 1) := by decide +kernel
theorem k_lw_law_312 : decode me_lw_law.2.1 312 = .ok (.iconst 1, 1) := by decide +kernel
theorem k_lw_law_313 : decode me_lw_law.2.1 313 = .ok (.iadd, 1) := by decide +kernel
theorem k_lw_law_314 : decode me_lw_law.2.1 314 = .ok (.iaload, 1) := by decide +kernel
theorem k_lw_law_315 : decode me_lw_law.2.1 315 = .ok (.ifCond .eq 7, 3) := by decide +kernel
theorem k_lw_law_318 : decode me_lw_law.2.1 318 = .ok (.iconst 1, 1) := by decide +kernel
theorem k_lw_law_319 : decode me_lw_law.2.1 319 = .ok (.goto 4, 3) := by decide +kernel
theorem k_lw_law_322 : decode me_lw_law.2.1 322 = .ok (.iconst 0, 1) := by decide +kernel
theorem k_lw_law_323 : decode me_lw_law.2.1 323 = .ok (.aload_n 0, 1) := by decide +kernel
theorem k_lw_law_324 : decode me_lw_law.2.1 324 = .ok (.iload_n 3, 1) := by decide +kernel
theorem k_lw_law_325 : decode me_lw_law.2.1 325 = .ok (.iconst 2, 1) := by decide +kernel
theorem k_lw_law_326 : decode me_lw_law.2.1 326 = .ok (.iadd, 1) := by decide +kernel
theorem k_lw_law_327 : decode me_lw_law.2.1 327 = .ok (.iaload, 1) := by decide +kernel
theorem k_lw_law_328 : decode me_lw_law.2.1 328 = .ok (.aload_n 0, 1) := by decide +kernel
theorem k_lw_law_329 : decode me_lw_law.2.1 329 = .ok (.iload_n 3, 1) := by decide +kernel
theorem k_lw_law_330 : decode me_lw_law.2.1 330 = .ok (.iconst 3, 1) := by decide +kernel
theorem k_lw_law_331 : decode me_lw_law.2.1 331 = .ok (.iadd, 1) := by decide +kernel
theorem k_lw_law_332 : decode me_lw_law.2.1 332 = .ok (.iaload, 1) := by decide +kernel
theorem k_lw_law_333 : decode me_lw_law.2.1 333 = .ok (.aload_n 0, 1) := by decide +kernel
theorem k_lw_law_334 : decode me_lw_law.2.1 334 = .ok (.iload_n 3, 1) := by decide +kernel
theorem k_lw_law_335 : decode me_lw_law.2.1 335 = .ok (.iconst 4, 1) := by decide +kernel
theorem k_lw_law_336 : decode me_lw_law.2.1 336 = .ok (.iadd, 1) := by decide +kernel
theorem k_lw_law_337 : decode me_lw_law.2.1 337 = .ok (.iaload, 1) := by decide +kernel
theorem k_lw_law_338 : decode me_lw_law.2.1 338 = .ok (.aload_n 0, 1) := by decide +kernel
theorem k_lw_law_339 : decode me_lw_law.2.1 339 = .ok (.iload_n 3, 1) := by decide +kernel
theorem k_lw_law_340 : decode me_lw_law.2.1 340 = .ok (.iconst 5, 1) := by decide +kernel
theorem k_lw_law_341 : decode me_lw_law.2.1 341 = .ok (.iadd, 1) := by decide +kernel
theorem k_lw_law_342 : decode me_lw_law.2.1 342 = .ok (.iaload, 1) := by decide +kernel
theorem k_lw_law_343 : decode me_lw_law.2.1 343 = .ok (.invokevirtual 27, 3) := by decide +kernel
theorem k_lw_law_346 : decode me_lw_law.2.1 346 = .ok (.if_icmp .eq 748, 3) := by decide +kernel
theorem k_lw_law_349 : decode me_lw_law.2.1 349 = .ok (.iconst 0, 1) := by decide +kernel
theorem k_lw_law_350 : decode me_lw_law.2.1 350 = .ok (.ireturn, 1) := by decide +kernel
theorem k_lw_law_351 : decode me_lw_law.2.1 351 = .ok (.aload_n 1, 1) := by decide +kernel
theorem k_lw_law_352 : decode me_lw_law.2.1 352 = .ok (.aload_n 0, 1) := by decide +kernel
theorem k_lw_law_353 : decode me_lw_law.2.1 353 = .ok (.iload_n 3, 1) := by decide +kernel
theorem k_lw_law_354 : decode me_lw_law.2.1 354 = .ok (.iconst 1, 1) := by decide +kernel
theorem k_lw_law_355 : decode me_lw_law.2.1 355 = .ok (.iadd, 1) := by decide +kernel
theorem k_lw_law_356 : decode me_lw_law.2.1 356 = .ok (.iaload, 1) := by decide +kernel
theorem k_lw_law_357 : decode me_lw_law.2.1 357 = .ok (.aload_n 0, 1) := by decide +kernel
theorem k_lw_law_358 : decode me_lw_law.2.1 358 = .ok (.iload_n 3, 1) := by decide +kernel
theorem k_lw_law_359 : decode me_lw_law.2.1 359 = .ok (.iconst 2, 1) := by decide +kernel
theorem k_lw_law_360 : decode me_lw_law.2.1 360 = .ok (.iadd, 1) := by decide +kernel
theorem k_lw_law_361 : decode me_lw_law.2.1 361 = .ok (.iaload, 1) := by decide +kernel
theorem k_lw_law_362 : decode me_lw_law.2.1 362 = .ok (.invokevirtual 28, 3) := by decide +kernel
theorem k_lw_law_365 : decode me_lw_law.2.1 365 = .ok (.aload_n 2, 1) := by decide +kernel
theorem k_lw_law_366 : decode me_lw_law.2.1 366 = .ok (.aload_n 0, 1) := by decide +kernel
theorem k_lw_law_367 : decode me_lw_law.2.1 367 = .ok (.iload_n 3, 1) := by decide +kernel
theorem k_lw_law_368 : decode me_lw_law.2.1 368 = .ok (.iconst 1, 1) := by decide +kernel
theorem k_lw_law_369 : decode me_lw_law.2.1 369 = .ok (.iadd, 1) := by decide +kernel
theorem k_lw_law_370 : decode me_lw_law.2.1 370 = .ok (.iaload, 1) := by decide +kernel
theorem k_lw_law_371 : decode me_lw_law.2.1 371 = .ok (.aload_n 0, 1) := by decide +kernel
theorem k_lw_law_372 : decode me_lw_law.2.1 372 = .ok (.iload_n 3, 1) := by decide +kernel
theorem k_lw_law_373 : decode me_lw_law.2.1 373 = .ok (.iconst 2, 1) := by decide +kernel
theorem k_lw_law_374 : decode me_lw_law.2.1 374 = .ok (.iadd, 1) := by decide +kernel
theorem k_lw_law_375 : decode me_lw_law.2.1 375 = .ok (.iaload, 1) := by decide +kernel
theorem k_lw_law_376 : decode me_lw_law.2.1 376 = .ok (.invokevirtual 32, 3) := by decide +kernel
theorem k_lw_law_379 : decode me_lw_law.2.1 379 = .ok (.if_icmp .eq 715, 3) := by decide +kernel
theorem k_lw_law_382 : decode me_lw_law.2.1 382 = .ok (.iconst 0, 1) := by decide +kernel
theorem k_lw_law_383 : decode me_lw_law.2.1 383 = .ok (.ireturn, 1) := by decide +kernel
theorem k_lw_law_384 : decode me_lw_law.2.1 384 = .ok (.aload_n 1, 1) := by decide +kernel
theorem k_lw_law_385 : decode me_lw_law.2.1 385 = .ok (.aload_n 0, 1) := by decide +kernel
theorem k_lw_law_386 : decode me_lw_law.2.1 386 = .ok (.iload_n 3, 1) := by decide +kernel
theorem k_lw_law_387 : decode me_lw_law.2.1 387 = .ok (.iconst 1, 1) := by decide +kernel
theorem k_lw_law_388 : decode me_lw_law.2.1 388 = .ok (.iadd, 1) := by decide +kernel
theorem k_lw_law_389 : decode me_lw_law.2.1 389 = .ok (.iaload, 1) := by decide +kernel
theorem k_lw_law_390 : decode me_lw_law.2.1 390 = .ok (.aload_n 0, 1) := by decide +kernel
theorem k_lw_law_391 : decode me_lw_law.2.1 391 = .ok (.iload_n 3, 1) := by decide +kernel
theorem k_lw_law_392 : decode me_lw_law.2.1 392 = .ok (.iconst 2, 1) := by decide +kernel
theorem k_lw_law_393 : decode me_lw_law.2.1 393 = .ok (.iadd, 1) := by decide +kernel
theorem k_lw_law_394 : decode me_lw_law.2.1 394 = .ok (.iaload, 1) := by decide +kernel
theorem k_lw_law_395 : decode me_lw_law.2.1 395 = .ok (.ifCond .eq 7, 3) := by decide +kernel
theorem k_lw_law_398 : decode me_lw_law.2.1 398 = .ok (.iconst 1, 1) := by decide +kernel
theorem k_lw_law_399 : decode me_lw_law.2.1 399 = .ok (.goto 4, 3) := by decide +kernel
theorem k_lw_law_402 : decode me_lw_law.2.1 402 = .ok (.iconst 0, 1) := by decide +kernel
theorem k_lw_law_403 : decode me_lw_law.2.1 403 = .ok (.invokevirtual 33, 3) := by decide +kernel
theorem k_lw_law_406 : decode me_lw_law.2.1 406 = .ok (.aload_n 2, 1) := by decide +kernel
theorem k_lw_law_407 : decode me_lw_law.2.1 407 = .ok (.aload_n 0, 1) := by decide +kernel
theorem k_lw_law_408 : decode me_lw_law.2.1 408 = .ok (.iload_n 3, 1) := by decide +kernel
theorem k_lw_law_409 : decode me_lw_law.2.1 409 = .ok (.iconst 1, 1) := by decide +kernel
theorem k_lw_law_410 : decode me_lw_law.2.1 410 = .ok (.iadd, 1) := by decide +kernel
theorem k_lw_law_411 : decode me_lw_law.2.1 411 = .ok (.iaload, 1) := by decide +kernel
theorem k_lw_law_412 : decode me_lw_law.2.1 412 = .ok (.aload_n 0, 1) := by decide +kernel
theorem k_lw_law_413 : decode me_lw_law.2.1 413 = .ok (.iload_n 3, 1) := by decide +kernel
theorem k_lw_law_414 : decode me_lw_law.2.1 414 = .ok (.iconst 2, 1) := by decide +kernel
theorem k_lw_law_415 : decode me_lw_law.2.1 415 = .ok (.iadd, 1) := by decide +kernel
theorem k_lw_law_416 : decode me_lw_law.2.1 416 = .ok (.iaload, 1) := by decide +kernel
theorem k_lw_law_417 : decode me_lw_law.2.1 417 = .ok (.ifCond .eq 7, 3) := by decide +kernel
theorem k_lw_law_420 : decode me_lw_law.2.1 420 = .ok (.iconst 1, 1) := by decide +kernel
theorem k_lw_law_421 : decode me_lw_law.2.1 421 = .ok (.goto 4, 3) := by decide +kernel
theorem k_lw_law_424 : decode me_lw_law.2.1 424 = .ok (.iconst 0, 1) := by decide +kernel
theorem k_lw_law_425 : decode me_lw_law.2.1 425 = .ok (.invokevirtual 37, 3) := by decide +kernel
theorem k_lw_law_428 : decode me_lw_law.2.1 428 = .ok (.if_icmp .eq 666, 3) := by decide +kernel
theorem k_lw_law_431 : decode me_lw_law.2.1 431 = .ok (.iconst 0, 1) := by decide +kernel
theorem k_lw_law_432 : decode me_lw_law.2.1 432 = .ok (.ireturn, 1) := by decide +kernel
theorem k_lw_law_433 : decode me_lw_law.2.1 433 = .ok (.aload_n 1, 1) := by decide +kernel
theorem k_lw_law_434 : decode me_lw_law.2.1 434 = .ok (.aload_n 0, 1) := by decide +kernel
theorem k_lw_law_435 : decode me_lw_law.2.1 435 = .ok (.iload_n 3, 1) := by decide +kernel
theorem k_lw_law_436 : decode me_lw_law.2.1 436 = .ok (.iconst 1, 1) := by decide +kernel
theorem k_lw_law_437 : decode me_lw_law.2.1 437 = .ok (.iadd, 1) := by decide +kernel
theorem k_lw_law_438 : decode me_lw_law.2.1 438 = .ok (.iaload, 1) := by decide +kernel
theorem k_lw_law_439 : decode me_lw_law.2.1 439 = .ok (.aload_n 0, 1) := by decide +kernel
theorem k_lw_law_440 : decode me_lw_law.2.1 440 = .ok (.iload_n 3, 1) := by decide +kernel
theorem k_lw_law_441 : decode me_lw_law.2.1 441 = .ok (.iconst 2, 1) := by decide +kernel
theorem k_lw_law_442 : decode me_lw_law.2.1 442 = .ok (.iadd, 1) := by decide +kernel
theorem k_lw_law_443 : decode me_lw_law.2.1 443 = .ok (.iaload, 1) := by decide +kernel
theorem k_lw_law_444 : decode me_lw_law.2.1 444 = .ok (.invokevirtual 38, 3) := by decide +kernel
theorem k_lw_law_447 : decode me_lw_law.2.1 447 = .ok (.aload_n 2, 1) := by decide +kernel
theorem k_lw_law_448 : decode me_lw_law.2.1 448 = .ok (.aload_n 0, 1) := by decide +kernel
theorem k_lw_law_449 : decode me_lw_law.2.1 449 = .ok (.iload_n 3, 1) := by decide +kernel
theorem k_lw_law_450 : decode me_lw_law.2.1 450 = .ok (.iconst 1, 1) := by decide +kernel
theorem k_lw_law_451 : decode me_lw_law.2.1 451 = .ok (.iadd, 1) := by decide +kernel
theorem k_lw_law_452 : decode me_lw_law.2.1 452 = .ok (.iaload, 1) := by decide +kernel
theorem k_lw_law_453 : decode me_lw_law.2.1 453 = .ok (.aload_n 0, 1) := by decide +kernel
theorem k_lw_law_454 : decode me_lw_law.2.1 454 = .ok (.iload_n 3, 1) := by decide +kernel
theorem k_lw_law_455 : decode me_lw_law.2.1 455 = .ok (.iconst 2, 1) := by decide +kernel
theorem k_lw_law_456 : decode me_lw_law.2.1 456 = .ok (.iadd, 1) := by decide +kernel
theorem k_lw_law_457 : decode me_lw_law.2.1 457 = .ok (.iaload, 1) := by decide +kernel
theorem k_lw_law_458 : decode me_lw_law.2.1 458 = .ok (.invokevirtual 41, 3) := by decide +kernel
theorem k_lw_law_461 : decode me_lw_law.2.1 461 = .ok (.if_icmp .eq 633, 3) := by decide +kernel
theorem k_lw_law_464 : decode me_lw_law.2.1 464 = .ok (.iconst 0, 1) := by decide +kernel
theorem k_lw_law_465 : decode me_lw_law.2.1 465 = .ok (.ireturn, 1) := by decide +kernel
theorem k_lw_law_466 : decode me_lw_law.2.1 466 = .ok (.aload_n 1, 1) := by decide +kernel
theorem k_lw_law_467 : decode me_lw_law.2.1 467 = .ok (.aload_n 0, 1) := by decide +kernel
theorem k_lw_law_468 : decode me_lw_law.2.1 468 = .ok (.iload_n 3, 1) := by decide +kernel
theorem k_lw_law_469 : decode me_lw_law.2.1 469 = .ok (.iconst 1, 1) := by decide +kernel
theorem k_lw_law_470 : decode me_lw_law.2.1 470 = .ok (.iadd, 1) := by decide +kernel
theorem k_lw_law_471 : decode me_lw_law.2.1 471 = .ok (.iaload, 1) := by decide +kernel
theorem k_lw_law_472 : decode me_lw_law.2.1 472 = .ok (.aload_n 0, 1) := by decide +kernel
theorem k_lw_law_473 : decode me_lw_law.2.1 473 = .ok (.iload_n 3, 1) := by decide +kernel
theorem k_lw_law_474 : decode me_lw_law.2.1 474 = .ok (.iconst 2, 1) := by decide +kernel
theorem k_lw_law_475 : decode me_lw_law.2.1 475 = .ok (.iadd, 1) := by decide +kernel
theorem k_lw_law_476 : decode me_lw_law.2.1 476 = .ok (.iaload, 1) := by decide +kernel
theorem k_lw_law_477 : decode me_lw_law.2.1 477 = .ok (.invokevirtual 42, 3) := by decide +kernel
theorem k_lw_law_480 : decode me_lw_law.2.1 480 = .ok (.aload_n 2, 1) := by decide +kernel
theorem k_lw_law_481 : decode me_lw_law.2.1 481 = .ok (.aload_n 0, 1) := by decide +kernel
theorem k_lw_law_482 : decode me_lw_law.2.1 482 = .ok (.iload_n 3, 1) := by decide +kernel
theorem k_lw_law_483 : decode me_lw_law.2.1 483 = .ok (.iconst 1, 1) := by decide +kernel
theorem k_lw_law_484 : decode me_lw_law.2.1 484 = .ok (.iadd, 1) := by decide +kernel
theorem k_lw_law_485 : decode me_lw_law.2.1 485 = .ok (.iaload, 1) := by decide +kernel
theorem k_lw_law_486 : decode me_lw_law.2.1 486 = .ok (.aload_n 0, 1) := by decide +kernel
theorem k_lw_law_487 : decode me_lw_law.2.1 487 = .ok (.iload_n 3, 1) := by decide +kernel
theorem k_lw_law_488 : decode me_lw_law.2.1 488 = .ok (.iconst 2, 1) := by decide +kernel
theorem k_lw_law_489 : decode me_lw_law.2.1 489 = .ok (.iadd, 1) := by decide +kernel
theorem k_lw_law_490 : decode me_lw_law.2.1 490 = .ok (.iaload, 1) := by decide +kernel
theorem k_lw_law_491 : decode me_lw_law.2.1 491 = .ok (.invokevirtual 45, 3) := by decide +kernel
theorem k_lw_law_494 : decode me_lw_law.2.1 494 = .ok (.if_icmp .eq 600, 3) := by decide +kernel
theorem k_lw_law_497 : decode me_lw_law.2.1 497 = .ok (.iconst 0, 1) := by decide +kernel
theorem k_lw_law_498 : decode me_lw_law.2.1 498 = .ok (.ireturn, 1) := by decide +kernel
theorem k_lw_law_499 : decode me_lw_law.2.1 499 = .ok (.aload_n 1, 1) := by decide +kernel
theorem k_lw_law_500 : decode me_lw_law.2.1 500 = .ok (.aload_n 0, 1) := by decide +kernel
theorem k_lw_law_501 : decode me_lw_law.2.1 501 = .ok (.iload_n 3, 1) := by decide +kernel
theorem k_lw_law_502 : decode me_lw_law.2.1 502 = .ok (.iconst 1, 1) := by decide +kernel
theorem k_lw_law_503 : decode me_lw_law.2.1 503 = .ok (.iadd, 1) := by decide +kernel
theorem k_lw_law_504 : decode me_lw_law.2.1 504 = .ok (.iaload, 1) := by decide +kernel
theorem k_lw_law_505 : decode me_lw_law.2.1 505 = .ok (.invokevirtual 46, 3) := by decide +kernel
theorem k_lw_law_508 : decode me_lw_law.2.1 508 = .ok (.aload_n 2, 1) := by decide +kernel
theorem k_lw_law_509 : decode me_lw_law.2.1 509 = .ok (.aload_n 0, 1) := by decide +kernel
theorem k_lw_law_510 : decode me_lw_law.2.1 510 = .ok (.iload_n 3, 1) := by decide +kernel
theorem k_lw_law_511 : decode me_lw_law.2.1 511 = .ok (.iconst 1, 1) := by decide +kernel
theorem k_lw_law_512 : decode me_lw_law.2.1 512 = .ok (.iadd, 1) := by decide +kernel
theorem k_lw_law_513 : decode me_lw_law.2.1 513 = .ok (.iaload, 1) := by decide +kernel
theorem k_lw_law_514 : decode me_lw_law.2.1 514 = .ok (.invokevirtual 50, 3) := by decide +kernel
theorem k_lw_law_517 : decode me_lw_law.2.1 517 = .ok (.if_icmp .eq 577, 3) := by decide +kernel
theorem k_lw_law_520 : decode me_lw_law.2.1 520 = .ok (.iconst 0, 1) := by decide +kernel
theorem k_lw_law_521 : decode me_lw_law.2.1 521 = .ok (.ireturn, 1) := by decide +kernel
theorem k_lw_law_522 : decode me_lw_law.2.1 522 = .ok (.aload_n 1, 1) := by decide +kernel
theorem k_lw_law_523 : decode me_lw_law.2.1 523 = .ok (.aload_n 0, 1) := by decide +kernel
theorem k_lw_law_524 : decode me_lw_law.2.1 524 = .ok (.iload_n 3, 1) := by decide +kernel
theorem k_lw_law_525 : decode me_lw_law.2.1 525 = .ok (.iconst 1, 1) := by decide +kernel
theorem k_lw_law_526 : decode me_lw_law.2.1 526 = .ok (.iadd, 1) := by decide +kernel
theorem k_lw_law_527 : decode me_lw_law.2.1 527 = .ok (.iaload, 1) := by decide +kernel
theorem k_lw_law_528 : decode me_lw_law.2.1 528 = .ok (.invokevirtual 51, 3) := by decide +kernel
theorem k_lw_law_531 : decode me_lw_law.2.1 531 = .ok (.aload_n 2, 1) := by decide +kernel
theorem k_lw_law_532 : decode me_lw_law.2.1 532 = .ok (.aload_n 0, 1) := by decide +kernel
theorem k_lw_law_533 : decode me_lw_law.2.1 533 = .ok (.iload_n 3, 1) := by decide +kernel
theorem k_lw_law_534 : decode me_lw_law.2.1 534 = .ok (.iconst 1, 1) := by decide +kernel
theorem k_lw_law_535 : decode me_lw_law.2.1 535 = .ok (.iadd, 1) := by decide +kernel
theorem k_lw_law_536 : decode me_lw_law.2.1 536 = .ok (.iaload, 1) := by decide +kernel
theorem k_lw_law_537 : decode me_lw_law.2.1 537 = .ok (.invokevirtual 54, 3) := by decide +kernel
theorem k_lw_law_540 : decode me_lw_law.2.1 540 = .ok (.if_icmp .eq 554, 3) := by decide +kernel
theorem k_lw_law_543 : decode me_lw_law.2.1 543 = .ok (.iconst 0, 1) := by decide +kernel
theorem k_lw_law_544 : decode me_lw_law.2.1 544 = .ok (.ireturn, 1) := by decide +kernel
theorem k_lw_law_545 : decode me_lw_law.2.1 545 = .ok (.aload_n 1, 1) := by decide +kernel
theorem k_lw_law_546 : decode me_lw_law.2.1 546 = .ok (.aload_n 0, 1) := by decide +kernel
theorem k_lw_law_547 : decode me_lw_law.2.1 547 = .ok (.iload_n 3, 1) := by decide +kernel
theorem k_lw_law_548 : decode me_lw_law.2.1 548 = .ok (.iconst 1, 1) := by decide +kernel
theorem k_lw_law_549 : decode me_lw_law.2.1 549 = .ok (.iadd, 1) := by decide +kernel
theorem k_lw_law_550 : decode me_lw_law.2.1 550 = .ok (.iaload, 1) := by decide +kernel
theorem k_lw_law_551 : decode me_lw_law.2.1 551 = .ok (.invokevirtual 55, 3) := by decide +kernel
theorem k_lw_law_554 : decode me_lw_law.2.1 554 = .ok (.aload_n 2, 1) := by decide +kernel
theorem k_lw_law_555 : decode me_lw_law.2.1 555 = .ok (.aload_n 0, 1) := by decide +kernel
theorem k_lw_law_556 : decode me_lw_law.2.1 556 = .ok (.iload_n 3, 1) := by decide +kernel
theorem k_lw_law_557 : decode me_lw_law.2.1 557 = .ok (.iconst 1, 1) := by decide +kernel
theorem k_lw_law_558 : decode me_lw_law.2.1 558 = .ok (.iadd, 1) := by decide +kernel
theorem k_lw_law_559 : decode me_lw_law.2.1 559 = .ok (.iaload, 1) := by decide +kernel
theorem k_lw_law_560 : decode me_lw_law.2.1 560 = .ok (.invokevirtual 58, 3) := by decide +kernel
theorem k_lw_law_563 : decode me_lw_law.2.1 563 = .ok (.if_icmp .eq 531, 3) := by decide +kernel
theorem k_lw_law_566 : decode me_lw_law.2.1 566 = .ok (.iconst 0, 1) := by decide +kernel
theorem k_lw_law_567 : decode me_lw_law.2.1 567 = .ok (.ireturn, 1) := by decide +kernel
theorem k_lw_law_568 : decode me_lw_law.2.1 568 = .ok (.aload_n 1, 1) := by decide +kernel
theorem k_lw_law_569 : decode me_lw_law.2.1 569 = .ok (.aload_n 0, 1) := by decide +kernel
theorem k_lw_law_570 : decode me_lw_law.2.1 570 = .ok (.iload_n 3, 1) := by decide +kernel
theorem k_lw_law_571 : decode me_lw_law.2.1 571 = .ok (.iconst 1, 1) := by decide +kernel
theorem k_lw_law_572 : decode me_lw_law.2.1 572 = .ok (.iadd, 1) := by decide +kernel
theorem k_lw_law_573 : decode me_lw_law.2.1 573 = .ok (.iaload, 1) := by decide +kernel
theorem k_lw_law_574 : decode me_lw_law.2.1 574 = .ok (.aload_n 0, 1) := by decide +kernel
theorem k_lw_law_575 : decode me_lw_law.2.1 575 = .ok (.iload_n 3, 1) := by decide +kernel
theorem k_lw_law_576 : decode me_lw_law.2.1 576 = .ok (.iconst 2, 1) := by decide +kernel
theorem k_lw_law_577 : decode me_lw_law.2.1 577 = .ok (.iadd, 1) := by decide +kernel
theorem k_lw_law_578 : decode me_lw_law.2.1 578 = .ok (.iaload, 1) := by decide +kernel
theorem k_lw_law_579 : decode me_lw_law.2.1 579 = .ok (.invokevirtual 59, 3) := by decide +kernel
theorem k_lw_law_582 : decode me_lw_law.2.1 582 = .ok (.aload_n 2, 1) := by decide +kernel
theorem k_lw_law_583 : decode me_lw_law.2.1 583 = .ok (.aload_n 0, 1) := by decide +kernel
theorem k_lw_law_584 : decode me_lw_law.2.1 584 = .ok (.iload_n 3, 1) := by decide +kernel
theorem k_lw_law_585 : decode me_lw_law.2.1 585 = .ok (.iconst 1, 1) := by decide +kernel
theorem k_lw_law_586 : decode me_lw_law.2.1 586 = .ok (.iadd, 1) := by decide +kernel
theorem k_lw_law_587 : decode me_lw_law.2.1 587 = .ok (.iaload, 1) := by decide +kernel
theorem k_lw_law_588 : decode me_lw_law.2.1 588 = .ok (.aload_n 0, 1) := by decide +kernel
theorem k_lw_law_589 : decode me_lw_law.2.1 589 = .ok (.iload_n 3, 1) := by decide +kernel
theorem k_lw_law_590 : decode me_lw_law.2.1 590 = .ok (.iconst 2, 1) := by decide +kernel
theorem k_lw_law_591 : decode me_lw_law.2.1 591 = .ok (.iadd, 1) := by decide +kernel
theorem k_lw_law_592 : decode me_lw_law.2.1 592 = .ok (.iaload, 1) := by decide +kernel
theorem k_lw_law_593 : decode me_lw_law.2.1 593 = .ok (.invokevirtual 62, 3) := by decide +kernel
theorem k_lw_law_596 : decode me_lw_law.2.1 596 = .ok (.if_icmp .eq 498, 3) := by decide +kernel
theorem k_lw_law_599 : decode me_lw_law.2.1 599 = .ok (.iconst 0, 1) := by decide +kernel
theorem k_lw_law_600 : decode me_lw_law.2.1 600 = .ok (.ireturn, 1) := by decide +kernel
theorem k_lw_law_601 : decode me_lw_law.2.1 601 = .ok (.aload_n 1, 1) := by decide +kernel
theorem k_lw_law_602 : decode me_lw_law.2.1 602 = .ok (.aload_n 0, 1) := by decide +kernel
theorem k_lw_law_603 : decode me_lw_law.2.1 603 = .ok (.iload_n 3, 1) := by decide +kernel
theorem k_lw_law_604 : decode me_lw_law.2.1 604 = .ok (.iconst 1, 1) := by decide +kernel
theorem k_lw_law_605 : decode me_lw_law.2.1 605 = .ok (.iadd, 1) := by decide +kernel
theorem k_lw_law_606 : decode me_lw_law.2.1 606 = .ok (.iaload, 1) := by decide +kernel
theorem k_lw_law_607 : decode me_lw_law.2.1 607 = .ok (.invokevirtual 63, 3) := by decide +kernel
theorem k_lw_law_610 : decode me_lw_law.2.1 610 = .ok (.aload_n 2, 1) := by decide +kernel
theorem k_lw_law_611 : decode me_lw_law.2.1 611 = .ok (.aload_n 0, 1) := by decide +kernel
theorem k_lw_law_612 : decode me_lw_law.2.1 612 = .ok (.iload_n 3, 1) := by decide +kernel
theorem k_lw_law_613 : decode me_lw_law.2.1 613 = .ok (.iconst 1, 1) := by decide +kernel
theorem k_lw_law_614 : decode me_lw_law.2.1 614 = .ok (.iadd, 1) := by decide +kernel
theorem k_lw_law_615 : decode me_lw_law.2.1 615 = .ok (.iaload, 1) := by decide +kernel
theorem k_lw_law_616 : decode me_lw_law.2.1 616 = .ok (.invokevirtual 66, 3) := by decide +kernel
theorem k_lw_law_619 : decode me_lw_law.2.1 619 = .ok (.if_icmp .eq 475, 3) := by decide +kernel
theorem k_lw_law_622 : decode me_lw_law.2.1 622 = .ok (.iconst 0, 1) := by decide +kernel
theorem k_lw_law_623 : decode me_lw_law.2.1 623 = .ok (.ireturn, 1) := by decide +kernel
theorem k_lw_law_624 : decode me_lw_law.2.1 624 = .ok (.aload_n 1, 1) := by decide +kernel
theorem k_lw_law_625 : decode me_lw_law.2.1 625 = .ok (.aload_n 0, 1) := by decide +kernel
theorem k_lw_law_626 : decode me_lw_law.2.1 626 = .ok (.iload_n 3, 1) := by decide +kernel
theorem k_lw_law_627 : decode me_lw_law.2.1 627 = .ok (.iconst 1, 1) := by decide +kernel
theorem k_lw_law_628 : decode me_lw_law.2.1 628 = .ok (.iadd, 1) := by decide +kernel
theorem k_lw_law_629 : decode me_lw_law.2.1 629 = .ok (.iaload, 1) := by decide +kernel
theorem k_lw_law_630 : decode me_lw_law.2.1 630 = .ok (.invokevirtual 67, 3) := by decide +kernel
theorem k_lw_law_633 : decode me_lw_law.2.1 633 = .ok (.aload_n 2, 1) := by decide +kernel
theorem k_lw_law_634 : decode me_lw_law.2.1 634 = .ok (.aload_n 0, 1) := by decide +kernel
theorem k_lw_law_635 : decode me_lw_law.2.1 635 = .ok (.iload_n 3, 1) := by decide +kernel
theorem k_lw_law_636 : decode me_lw_law.2.1 636 = .ok (.iconst 1, 1) := by decide +kernel
theorem k_lw_law_637 : decode me_lw_law.2.1 637 = .ok (.iadd, 1) := by decide +kernel
theorem k_lw_law_638 : decode me_lw_law.2.1 638 = .ok (.iaload, 1) := by decide +kernel
theorem k_lw_law_639 : decode me_lw_law.2.1 639 = .ok (.invokevirtual 70, 3) := by decide +kernel
theorem k_lw_law_642 : decode me_lw_law.2.1 642 = .ok (.if_icmp .eq 452, 3) := by decide +kernel
theorem k_lw_law_645 : decode me_lw_law.2.1 645 = .ok (.iconst 0, 1) := by decide +kernel
theorem k_lw_law_646 : decode me_lw_law.2.1 646 = .ok (.ireturn, 1) := by decide +kernel
theorem k_lw_law_647 : decode me_lw_law.2.1 647 = .ok (.aload_n 1, 1) := by decide +kernel
theorem k_lw_law_648 : decode me_lw_law.2.1 648 = .ok (.aload_n 0, 1) := by decide +kernel
theorem k_lw_law_649 : decode me_lw_law.2.1 649 = .ok (.iload_n 3, 1) := by decide +kernel
theorem k_lw_law_650 : decode me_lw_law.2.1 650 = .ok (.iconst 1, 1) := by decide +kernel
theorem k_lw_law_651 : decode me_lw_law.2.1 651 = .ok (.iadd, 1) := by decide +kernel
theorem k_lw_law_652 : decode me_lw_law.2.1 652 = .ok (.iaload, 1) := by decide +kernel
theorem k_lw_law_653 : decode me_lw_law.2.1 653 = .ok (.aload_n 0, 1) := by decide +kernel
theorem k_lw_law_654 : decode me_lw_law.2.1 654 = .ok (.iload_n 3, 1) := by decide +kernel
theorem k_lw_law_655 : decode me_lw_law.2.1 655 = .ok (.iconst 2, 1) := by decide +kernel
theorem k_lw_law_656 : decode me_lw_law.2.1 656 = .ok (.iadd, 1) := by decide +kernel
theorem k_lw_law_657 : decode me_lw_law.2.1 657 = .ok (.iaload, 1) := by decide +kernel
theorem k_lw_law_658 : decode me_lw_law.2.1 658 = .ok (.aload_n 0, 1) := by decide +kernel
theorem k_lw_law_659 : decode me_lw_law.2.1 659 = .ok (.iload_n 3, 1) := by decide +kernel
theorem k_lw_law_660 : decode me_lw_law.2.1 660 = .ok (.iconst 3, 1) := by decide +kernel
theorem k_lw_law_661 : decode me_lw_law.2.1 661 = .ok (.iadd, 1) := by decide +kernel
theorem k_lw_law_662 : decode me_lw_law.2.1 662 = .ok (.iaload, 1) := by decide +kernel
theorem k_lw_law_663 : decode me_lw_law.2.1 663 = .ok (.aload_n 0, 1) := by decide +kernel
theorem k_lw_law_664 : decode me_lw_law.2.1 664 = .ok (.iload_n 3, 1) := by decide +kernel
theorem k_lw_law_665 : decode me_lw_law.2.1 665 = .ok (.iconst 4, 1) := by decide +kernel
theorem k_lw_law_666 : decode me_lw_law.2.1 666 = .ok (.iadd, 1) := by decide +kernel
theorem k_lw_law_667 : decode me_lw_law.2.1 667 = .ok (.iaload, 1) := by decide +kernel
theorem k_lw_law_668 : decode me_lw_law.2.1 668 = .ok (.invokevirtual 71, 3) := by decide +kernel
theorem k_lw_law_671 : decode me_lw_law.2.1 671 = .ok (.aload_n 2, 1) := by decide +kernel
theorem k_lw_law_672 : decode me_lw_law.2.1 672 = .ok (.aload_n 0, 1) := by decide +kernel
theorem k_lw_law_673 : decode me_lw_law.2.1 673 = .ok (.iload_n 3, 1) := by decide +kernel
theorem k_lw_law_674 : decode me_lw_law.2.1 674 = .ok (.iconst 1, 1) := by decide +kernel
theorem k_lw_law_675 : decode me_lw_law.2.1 675 = .ok (.iadd, 1) := by decide +kernel
theorem k_lw_law_676 : decode me_lw_law.2.1 676 = .ok (.iaload, 1) := by decide +kernel
theorem k_lw_law_677 : decode me_lw_law.2.1 677 = .ok (.aload_n 0, 1) := by decide +kernel
theorem k_lw_law_678 : decode me_lw_law.2.1 678 = .ok (.iload_n 3, 1) := by decide +kernel
theorem k_lw_law_679 : decode me_lw_law.2.1 679 = .ok (.iconst 2, 1) := by decide +kernel
theorem k_lw_law_680 : decode me_lw_law.2.1 680 = .ok (.iadd, 1) := by decide +kernel
theorem k_lw_law_681 : decode me_lw_law.2.1 681 = .ok (.iaload, 1) := by decide +kernel
theorem k_lw_law_682 : decode me_lw_law.2.1 682 = .ok (.aload_n 0, 1) := by decide +kernel
theorem k_lw_law_683 : decode me_lw_law.2.1 683 = .ok (.iload_n 3, 1) := by decide +kernel
theorem k_lw_law_684 : decode me_lw_law.2.1 684 = .ok (.iconst 3, 1) := by decide +kernel
theorem k_lw_law_685 : decode me_lw_law.2.1 685 = .ok (.iadd, 1) := by decide +kernel
theorem k_lw_law_686 : decode me_lw_law.2.1 686 = .ok (.iaload, 1) := by decide +kernel
theorem k_lw_law_687 : decode me_lw_law.2.1 687 = .ok (.aload_n 0, 1) := by decide +kernel
theorem k_lw_law_688 : decode me_lw_law.2.1 688 = .ok (.iload_n 3, 1) := by decide +kernel
theorem k_lw_law_689 : decode me_lw_law.2.1 689 = .ok (.iconst 4, 1) := by decide +kernel
theorem k_lw_law_690 : decode me_lw_law.2.1 690 = .ok (.iadd, 1) := by decide +kernel
theorem k_lw_law_691 : decode me_lw_law.2.1 691 = .ok (.iaload, 1) := by decide +kernel
theorem k_lw_law_692 : decode me_lw_law.2.1 692 = .ok (.invokevirtual 74, 3) := by decide +kernel
theorem k_lw_law_695 : decode me_lw_law.2.1 695 = .ok (.if_icmp .eq 399, 3) := by decide +kernel
theorem k_lw_law_698 : decode me_lw_law.2.1 698 = .ok (.iconst 0, 1) := by decide +kernel
theorem k_lw_law_699 : decode me_lw_law.2.1 699 = .ok (.ireturn, 1) := by decide +kernel
theorem k_lw_law_700 : decode me_lw_law.2.1 700 = .ok (.aload_n 1, 1) := by decide +kernel
theorem k_lw_law_701 : decode me_lw_law.2.1 701 = .ok (.invokevirtual 75, 3) := by decide +kernel
theorem k_lw_law_704 : decode me_lw_law.2.1 704 = .ok (.aload_n 2, 1) := by decide +kernel
theorem k_lw_law_705 : decode me_lw_law.2.1 705 = .ok (.invokevirtual 79, 3) := by decide +kernel
theorem k_lw_law_708 : decode me_lw_law.2.1 708 = .ok (.if_icmp .eq 386, 3) := by decide +kernel
theorem k_lw_law_711 : decode me_lw_law.2.1 711 = .ok (.iconst 0, 1) := by decide +kernel
theorem k_lw_law_712 : decode me_lw_law.2.1 712 = .ok (.ireturn, 1) := by decide +kernel
theorem k_lw_law_713 : decode me_lw_law.2.1 713 = .ok (.aload_n 1, 1) := by decide +kernel
theorem k_lw_law_714 : decode me_lw_law.2.1 714 = .ok (.aload_n 0, 1) := by decide +kernel
theorem k_lw_law_715 : decode me_lw_law.2.1 715 = .ok (.iload_n 3, 1) := by decide +kernel
theorem k_lw_law_716 : decode me_lw_law.2.1 716 = .ok (.iconst 1, 1) := by decide +kernel
theorem k_lw_law_717 : decode me_lw_law.2.1 717 = .ok (.iadd, 1) := by decide +kernel
theorem k_lw_law_718 : decode me_lw_law.2.1 718 = .ok (.iaload, 1) := by decide +kernel
theorem k_lw_law_719 : decode me_lw_law.2.1 719 = .ok (.invokevirtual 80, 3) := by decide +kernel
theorem k_lw_law_722 : decode me_lw_law.2.1 722 = .ok (.aload_n 2, 1) := by decide +kernel
theorem k_lw_law_723 : decode me_lw_law.2.1 723 = .ok (.aload_n 0, 1) := by decide +kernel
theorem k_lw_law_724 : decode me_lw_law.2.1 724 = .ok (.iload_n 3, 1) := by decide +kernel
theorem k_lw_law_725 : decode me_lw_law.2.1 725 = .ok (.iconst 1, 1) := by decide +kernel
theorem k_lw_law_726 : decode me_lw_law.2.1 726 = .ok (.iadd, 1) := by decide +kernel
theorem k_lw_law_727 : decode me_lw_law.2.1 727 = .ok (.iaload, 1) := by decide +kernel
theorem k_lw_law_728 : decode me_lw_law.2.1 728 = .ok (.invokevirtual 83, 3) := by decide +kernel
theorem k_lw_law_731 : decode me_lw_law.2.1 731 = .ok (.if_icmp .eq 363, 3) := by decide +kernel
theorem k_lw_law_734 : decode me_lw_law.2.1 734 = .ok (.iconst 0, 1) := by decide +kernel
theorem k_lw_law_735 : decode me_lw_law.2.1 735 = .ok (.ireturn, 1) := by decide +kernel
theorem k_lw_law_736 : decode me_lw_law.2.1 736 = .ok (.aload_n 1, 1) := by decide +kernel
theorem k_lw_law_737 : decode me_lw_law.2.1 737 = .ok (.invokevirtual 84, 3) := by decide +kernel
theorem k_lw_law_740 : decode me_lw_law.2.1 740 = .ok (.aload_n 2, 1) := by decide +kernel
theorem k_lw_law_741 : decode me_lw_law.2.1 741 = .ok (.invokevirtual 87, 3) := by decide +kernel
theorem k_lw_law_744 : decode me_lw_law.2.1 744 = .ok (.if_icmp .eq 350, 3) := by decide +kernel
theorem k_lw_law_747 : decode me_lw_law.2.1 747 = .ok (.iconst 0, 1) := by decide +kernel
theorem k_lw_law_748 : decode me_lw_law.2.1 748 = .ok (.ireturn, 1) := by decide +kernel
theorem k_lw_law_749 : decode me_lw_law.2.1 749 = .ok (.aload_n 1, 1) := by decide +kernel
theorem k_lw_law_750 : decode me_lw_law.2.1 750 = .ok (.aload_n 0, 1) := by decide +kernel
theorem k_lw_law_751 : decode me_lw_law.2.1 751 = .ok (.iload_n 3, 1) := by decide +kernel
theorem k_lw_law_752 : decode me_lw_law.2.1 752 = .ok (.iconst 1, 1) := by decide +kernel
theorem k_lw_law_753 : decode me_lw_law.2.1 753 = .ok (.iadd, 1) := by decide +kernel
theorem k_lw_law_754 : decode me_lw_law.2.1 754 = .ok (.iaload, 1) := by decide +kernel
theorem k_lw_law_755 : decode me_lw_law.2.1 755 = .ok (.invokevirtual 88, 3) := by decide +kernel
theorem k_lw_law_758 : decode me_lw_law.2.1 758 = .ok (.aload_n 2, 1) := by decide +kernel
theorem k_lw_law_759 : decode me_lw_law.2.1 759 = .ok (.aload_n 0, 1) := by decide +kernel
theorem k_lw_law_760 : decode me_lw_law.2.1 760 = .ok (.iload_n 3, 1) := by decide +kernel
theorem k_lw_law_761 : decode me_lw_law.2.1 761 = .ok (.iconst 1, 1) := by decide +kernel
theorem k_lw_law_762 : decode me_lw_law.2.1 762 = .ok (.iadd, 1) := by decide +kernel
theorem k_lw_law_763 : decode me_lw_law.2.1 763 = .ok (.iaload, 1) := by decide +kernel
theorem k_lw_law_764 : decode me_lw_law.2.1 764 = .ok (.invokevirtual 91, 3) := by decide +kernel
theorem k_lw_law_767 : decode me_lw_law.2.1 767 = .ok (.if_icmp .eq 327, 3) := by decide +kernel
theorem k_lw_law_770 : decode me_lw_law.2.1 770 = .ok (.iconst 0, 1) := by decide +kernel
theorem k_lw_law_771 : decode me_lw_law.2.1 771 = .ok (.ireturn, 1) := by decide +kernel
theorem k_lw_law_772 : decode me_lw_law.2.1 772 = .ok (.aload_n 1, 1) := by decide +kernel
theorem k_lw_law_773 : decode me_lw_law.2.1 773 = .ok (.invokevirtual 92, 3) := by decide +kernel
theorem k_lw_law_776 : decode me_lw_law.2.1 776 = .ok (.aload_n 2, 1) := by decide +kernel
theorem k_lw_law_777 : decode me_lw_law.2.1 777 = .ok (.invokevirtual 95, 3) := by decide +kernel
theorem k_lw_law_780 : decode me_lw_law.2.1 780 = .ok (.if_icmp .eq 314, 3) := by decide +kernel
theorem k_lw_law_783 : decode me_lw_law.2.1 783 = .ok (.iconst 0, 1) := by decide +kernel
theorem k_lw_law_784 : decode me_lw_law.2.1 784 = .ok (.ireturn, 1) := by decide +kernel
theorem k_lw_law_785 : decode me_lw_law.2.1 785 = .ok (.aload_n 1, 1) := by decide +kernel
theorem k_lw_law_786 : decode me_lw_law.2.1 786 = .ok (.aload_n 0, 1) := by decide +kernel
theorem k_lw_law_787 : decode me_lw_law.2.1 787 = .ok (.iload_n 3, 1) := by decide +kernel
theorem k_lw_law_788 : decode me_lw_law.2.1 788 = .ok (.iconst 1, 1) := by decide +kernel
theorem k_lw_law_789 : decode me_lw_law.2.1 789 = .ok (.iadd, 1) := by decide +kernel
theorem k_lw_law_790 : decode me_lw_law.2.1 790 = .ok (.iaload, 1) := by decide +kernel
theorem k_lw_law_791 : decode me_lw_law.2.1 791 = .ok (.aload_n 0, 1) := by decide +kernel
theorem k_lw_law_792 : decode me_lw_law.2.1 792 = .ok (.iload_n 3, 1) := by decide +kernel
theorem k_lw_law_793 : decode me_lw_law.2.1 793 = .ok (.iconst 2, 1) := by decide +kernel
theorem k_lw_law_794 : decode me_lw_law.2.1 794 = .ok (.iadd, 1) := by decide +kernel
theorem k_lw_law_795 : decode me_lw_law.2.1 795 = .ok (.iaload, 1) := by decide +kernel
theorem k_lw_law_796 : decode me_lw_law.2.1 796 = .ok (.invokevirtual 96, 3) := by decide +kernel
theorem k_lw_law_799 : decode me_lw_law.2.1 799 = .ok (.aload_n 2, 1) := by decide +kernel
theorem k_lw_law_800 : decode me_lw_law.2.1 800 = .ok (.aload_n 0, 1) := by decide +kernel
theorem k_lw_law_801 : decode me_lw_law.2.1 801 = .ok (.iload_n 3, 1) := by decide +kernel
theorem k_lw_law_802 : decode me_lw_law.2.1 802 = .ok (.iconst 1, 1) := by decide +kernel
theorem k_lw_law_803 : decode me_lw_law.2.1 803 = .ok (.iadd, 1) := by decide +kernel
theorem k_lw_law_804 : decode me_lw_law.2.1 804 = .ok (.iaload, 1) := by decide +kernel
theorem k_lw_law_805 : decode me_lw_law.2.1 805 = .ok (.aload_n 0, 1) := by decide +kernel
theorem k_lw_law_806 : decode me_lw_law.2.1 806 = .ok (.iload_n 3, 1) := by decide +kernel
theorem k_lw_law_807 : decode me_lw_law.2.1 807 = .ok (.iconst 2, 1) := by decide +kernel
theorem k_lw_law_808 : decode me_lw_law.2.1 808 = .ok (.iadd, 1) := by decide +kernel
theorem k_lw_law_809 : decode me_lw_law.2.1 809 = .ok (.iaload, 1) := by decide +kernel
theorem k_lw_law_810 : decode me_lw_law.2.1 810 = .ok (.invokevirtual 99, 3) := by decide +kernel
theorem k_lw_law_813 : decode me_lw_law.2.1 813 = .ok (.if_icmp .eq 281, 3) := by decide +kernel
theorem k_lw_law_816 : decode me_lw_law.2.1 816 = .ok (.iconst 0, 1) := by decide +kernel
theorem k_lw_law_817 : decode me_lw_law.2.1 817 = .ok (.ireturn, 1) := by decide +kernel
theorem k_lw_law_818 : decode me_lw_law.2.1 818 = .ok (.aload_n 1, 1) := by decide +kernel
theorem k_lw_law_819 : decode me_lw_law.2.1 819 = .ok (.invokevirtual 100, 3) := by decide +kernel
theorem k_lw_law_822 : decode me_lw_law.2.1 822 = .ok (.aload_n 2, 1) := by decide +kernel
theorem k_lw_law_823 : decode me_lw_law.2.1 823 = .ok (.invokevirtual 103, 3) := by decide +kernel
theorem k_lw_law_826 : decode me_lw_law.2.1 826 = .ok (.if_icmp .eq 268, 3) := by decide +kernel
theorem k_lw_law_829 : decode me_lw_law.2.1 829 = .ok (.iconst 0, 1) := by decide +kernel
theorem k_lw_law_830 : decode me_lw_law.2.1 830 = .ok (.ireturn, 1) := by decide +kernel
theorem k_lw_law_831 : decode me_lw_law.2.1 831 = .ok (.aload_n 1, 1) := by decide +kernel
theorem k_lw_law_832 : decode me_lw_law.2.1 832 = .ok (.aload_n 0, 1) := by decide +kernel
theorem k_lw_law_833 : decode me_lw_law.2.1 833 = .ok (.iload_n 3, 1) := by decide +kernel
theorem k_lw_law_834 : decode me_lw_law.2.1 834 = .ok (.iconst 1, 1) := by decide +kernel
theorem k_lw_law_835 : decode me_lw_law.2.1 835 = .ok (.iadd, 1) := by decide +kernel
theorem k_lw_law_836 : decode me_lw_law.2.1 836 = .ok (.iaload, 1) := by decide +kernel
theorem k_lw_law_837 : decode me_lw_law.2.1 837 = .ok (.aload_n 0, 1) := by decide +kernel
theorem k_lw_law_838 : decode me_lw_law.2.1 838 = .ok (.iload_n 3, 1) := by decide +kernel
theorem k_lw_law_839 : decode me_lw_law.2.1 839 = .ok (.iconst 2, 1) := by decide +kernel
theorem k_lw_law_840 : decode me_lw_law.2.1 840 = .ok (.iadd, 1) := by decide +kernel
theorem k_lw_law_841 : decode me_lw_law.2.1 841 = .ok (.iaload, 1) := by decide +kernel
theorem k_lw_law_842 : decode me_lw_law.2.1 842 = .ok (.invokevirtual 104, 3) := by decide +kernel
theorem k_lw_law_845 : decode me_lw_law.2.1 845 = .ok (.aload_n 2, 1) := by decide +kernel
theorem k_lw_law_846 : decode me_lw_law.2.1 846 = .ok (.aload_n 0, 1) := by decide +kernel
theorem k_lw_law_847 : decode me_lw_law.2.1 847 = .ok (.iload_n 3, 1) := by decide +kernel
theorem k_lw_law_848 : decode me_lw_law.2.1 848 = .ok (.iconst 1, 1) := by decide +kernel
theorem k_lw_law_849 : decode me_lw_law.2.1 849 = .ok (.iadd, 1) := by decide +kernel
theorem k_lw_law_850 : decode me_lw_law.2.1 850 = .ok (.iaload, 1) := by decide +kernel
theorem k_lw_law_851 : decode me_lw_law.2.1 851 = .ok (.aload_n 0, 1) := by decide +kernel
theorem k_lw_law_852 : decode me_lw_law.2.1 852 = .ok (.iload_n 3, 1) := by decide +kernel
theorem k_lw_law_853 : decode me_lw_law.2.1 853 = .ok (.iconst 2, 1) := by decide +kernel
theorem k_lw_law_854 : decode me_lw_law.2.1 854 = .ok (.iadd, 1) := by decide +kernel
theorem k_lw_law_855 : decode me_lw_law.2.1 855 = .ok (.iaload, 1) := by decide +kernel
theorem k_lw_law_856 : decode me_lw_law.2.1 856 = .ok (.invokevirtual 107, 3) := by decide +kernel
theorem k_lw_law_859 : decode me_lw_law.2.1 859 = .ok (.if_icmp .eq 235, 3) := by decide +kernel
theorem k_lw_law_862 : decode me_lw_law.2.1 862 = .ok (.iconst 0, 1) := by decide +kernel
theorem k_lw_law_863 : decode me_lw_law.2.1 863 = .ok (.ireturn, 1) := by decide +kernel
theorem k_lw_law_864 : decode me_lw_law.2.1 864 = .ok (.aload_n 1, 1) := by decide +kernel
theorem k_lw_law_865 : decode me_lw_law.2.1 865 = .ok (.aload_n 0, 1) := by decide +kernel
theorem k_lw_law_866 : decode me_lw_law.2.1 866 = .ok (.iload_n 3, 1) := by decide +kernel
theorem k_lw_law_867 : decode me_lw_law.2.1 867 = .ok (.iconst 1, 1) := by decide +kernel
theorem k_lw_law_868 : decode me_lw_law.2.1 868 = .ok (.iadd, 1) := by decide +kernel
theorem k_lw_law_869 : decode me_lw_law.2.1 869 = .ok (.iaload, 1) := by decide +kernel
theorem k_lw_law_870 : decode me_lw_law.2.1 870 = .ok (.invokevirtual 108, 3) := by decide +kernel
theorem k_lw_law_873 : decode me_lw_law.2.1 873 = .ok (.aload_n 2, 1) := by decide +kernel
theorem k_lw_law_874 : decode me_lw_law.2.1 874 = .ok (.aload_n 0, 1) := by decide +kernel
theorem k_lw_law_875 : decode me_lw_law.2.1 875 = .ok (.iload_n 3, 1) := by decide +kernel
theorem k_lw_law_876 : decode me_lw_law.2.1 876 = .ok (.iconst 1, 1) := by decide +kernel
theorem k_lw_law_877 : decode me_lw_law.2.1 877 = .ok (.iadd, 1) := by decide +kernel
theorem k_lw_law_878 : decode me_lw_law.2.1 878 = .ok (.iaload, 1) := by decide +kernel
theorem k_lw_law_879 : decode me_lw_law.2.1 879 = .ok (.invokevirtual 111, 3) := by decide +kernel
theorem k_lw_law_882 : decode me_lw_law.2.1 882 = .ok (.if_icmp .eq 212, 3) := by decide +kernel
theorem k_lw_law_885 : decode me_lw_law.2.1 885 = .ok (.iconst 0, 1) := by decide +kernel
theorem k_lw_law_886 : decode me_lw_law.2.1 886 = .ok (.ireturn, 1) := by decide +kernel
theorem k_lw_law_887 : decode me_lw_law.2.1 887 = .ok (.aload_n 1, 1) := by decide +kernel
theorem k_lw_law_888 : decode me_lw_law.2.1 888 = .ok (.invokevirtual 112, 3) := by decide +kernel
theorem k_lw_law_891 : decode me_lw_law.2.1 891 = .ok (.aload_n 2, 1) := by decide +kernel
theorem k_lw_law_892 : decode me_lw_law.2.1 892 = .ok (.invokevirtual 115, 3) := by decide +kernel
theorem k_lw_law_895 : decode me_lw_law.2.1 895 = .ok (.if_icmp .eq 199, 3) := by decide +kernel
theorem k_lw_law_898 : decode me_lw_law.2.1 898 = .ok (.iconst 0, 1) := by decide +kernel
theorem k_lw_law_899 : decode me_lw_law.2.1 899 = .ok (.ireturn, 1) := by decide +kernel
theorem k_lw_law_900 : decode me_lw_law.2.1 900 = .ok (.aload_n 1, 1) := by decide +kernel
theorem k_lw_law_901 : decode me_lw_law.2.1 901 = .ok (.aload_n 0, 1) := by decide +kernel
theorem k_lw_law_902 : decode me_lw_law.2.1 902 = .ok (.iload_n 3, 1) := by decide +kernel
theorem k_lw_law_903 : decode me_lw_law.2.1 903 = .ok (.iconst 1, 1) := by decide +kernel
theorem k_lw_law_904 : decode me_lw_law.2.1 904 = .ok (.iadd, 1) := by decide +kernel
theorem k_lw_law_905 : decode me_lw_law.2.1 905 = .ok (.iaload, 1) := by decide +kernel
theorem k_lw_law_906 : decode me_lw_law.2.1 906 = .ok (.invokevirtual 116, 3) := by decide +kernel
theorem k_lw_law_909 : decode me_lw_law.2.1 909 = .ok (.aload_n 2, 1) := by decide +kernel
theorem k_lw_law_910 : decode me_lw_law.2.1 910 = .ok (.aload_n 0, 1) := by decide +kernel
theorem k_lw_law_911 : decode me_lw_law.2.1 911 = .ok (.iload_n 3, 1) := by decide +kernel
theorem k_lw_law_912 : decode me_lw_law.2.1 912 = .ok (.iconst 1, 1) := by decide +kernel
theorem k_lw_law_913 : decode me_lw_law.2.1 913 = .ok (.iadd, 1) := by decide +kernel
theorem k_lw_law_914 : decode me_lw_law.2.1 914 = .ok (.iaload, 1) := by decide +kernel
theorem k_lw_law_915 : decode me_lw_law.2.1 915 = .ok (.invokevirtual 119, 3) := by decide +kernel
theorem k_lw_law_918 : decode me_lw_law.2.1 918 = .ok (.if_icmp .eq 176, 3) := by decide +kernel
theorem k_lw_law_921 : decode me_lw_law.2.1 921 = .ok (.iconst 0, 1) := by decide +kernel
theorem k_lw_law_922 : decode me_lw_law.2.1 922 = .ok (.ireturn, 1) := by decide +kernel
theorem k_lw_law_923 : decode me_lw_law.2.1 923 = .ok (.aload_n 1, 1) := by decide +kernel
theorem k_lw_law_924 : decode me_lw_law.2.1 924 = .ok (.invokevirtual 120, 3) := by decide +kernel
theorem k_lw_law_927 : decode me_lw_law.2.1 927 = .ok (.aload_n 2, 1) := by decide +kernel
theorem k_lw_law_928 : decode me_lw_law.2.1 928 = .ok (.invokevirtual 123, 3) := by decide +kernel
theorem k_lw_law_931 : decode me_lw_law.2.1 931 = .ok (.if_icmp .eq 163, 3) := by decide +kernel
theorem k_lw_law_934 : decode me_lw_law.2.1 934 = .ok (.iconst 0, 1) := by decide +kernel
theorem k_lw_law_935 : decode me_lw_law.2.1 935 = .ok (.ireturn, 1) := by decide +kernel
theorem k_lw_law_936 : decode me_lw_law.2.1 936 = .ok (.aload_n 1, 1) := by decide +kernel
theorem k_lw_law_937 : decode me_lw_law.2.1 937 = .ok (.aload_n 0, 1) := by decide +kernel
theorem k_lw_law_938 : decode me_lw_law.2.1 938 = .ok (.iload_n 3, 1) := by decide +kernel
theorem k_lw_law_939 : decode me_lw_law.2.1 939 = .ok (.iconst 1, 1) := by decide +kernel
theorem k_lw_law_940 : decode me_lw_law.2.1 940 = .ok (.iadd, 1) := by decide +kernel
theorem k_lw_law_941 : decode me_lw_law.2.1 941 = .ok (.iaload, 1) := by decide +kernel
theorem k_lw_law_942 : decode me_lw_law.2.1 942 = .ok (.invokevirtual 124, 3) := by decide +kernel
theorem k_lw_law_945 : decode me_lw_law.2.1 945 = .ok (.aload_n 2, 1) := by decide +kernel
theorem k_lw_law_946 : decode me_lw_law.2.1 946 = .ok (.aload_n 0, 1) := by decide +kernel
theorem k_lw_law_947 : decode me_lw_law.2.1 947 = .ok (.iload_n 3, 1) := by decide +kernel
theorem k_lw_law_948 : decode me_lw_law.2.1 948 = .ok (.iconst 1, 1) := by decide +kernel
theorem k_lw_law_949 : decode me_lw_law.2.1 949 = .ok (.iadd, 1) := by decide +kernel
theorem k_lw_law_950 : decode me_lw_law.2.1 950 = .ok (.iaload, 1) := by decide +kernel
theorem k_lw_law_951 : decode me_lw_law.2.1 951 = .ok (.invokevirtual 127, 3) := by decide +kernel
theorem k_lw_law_954 : decode me_lw_law.2.1 954 = .ok (.if_icmp .eq 140, 3) := by decide +kernel
theorem k_lw_law_957 : decode me_lw_law.2.1 957 = .ok (.iconst 0, 1) := by decide +kernel
theorem k_lw_law_958 : decode me_lw_law.2.1 958 = .ok (.ireturn, 1) := by decide +kernel
theorem k_lw_law_959 : decode me_lw_law.2.1 959 = .ok (.aload_n 1, 1) := by decide +kernel
theorem k_lw_law_960 : decode me_lw_law.2.1 960 = .ok (.aload_n 0, 1) := by decide +kernel
theorem k_lw_law_961 : decode me_lw_law.2.1 961 = .ok (.iload_n 3, 1) := by decide +kernel
theorem k_lw_law_962 : decode me_lw_law.2.1 962 = .ok (.iconst 1, 1) := by decide +kernel
theorem k_lw_law_963 : decode me_lw_law.2.1 963 = .ok (.iadd, 1) := by decide +kernel
theorem k_lw_law_964 : decode me_lw_law.2.1 964 = .ok (.iaload, 1) := by decide +kernel
theorem k_lw_law_965 : decode me_lw_law.2.1 965 = .ok (.invokevirtual 128, 3) := by decide +kernel
theorem k_lw_law_968 : decode me_lw_law.2.1 968 = .ok (.aload_n 2, 1) := by decide +kernel
theorem k_lw_law_969 : decode me_lw_law.2.1 969 = .ok (.aload_n 0, 1) := by decide +kernel
theorem k_lw_law_970 : decode me_lw_law.2.1 970 = .ok (.iload_n 3, 1) := by decide +kernel
theorem k_lw_law_971 : decode me_lw_law.2.1 971 = .ok (.iconst 1, 1) := by decide +kernel
theorem k_lw_law_972 : decode me_lw_law.2.1 972 = .ok (.iadd, 1) := by decide +kernel
theorem k_lw_law_973 : decode me_lw_law.2.1 973 = .ok (.iaload, 1) := by decide +kernel
theorem k_lw_law_974 : decode me_lw_law.2.1 974 = .ok (.invokevirtual 131, 3) := by decide +kernel
theorem k_lw_law_977 : decode me_lw_law.2.1 977 = .ok (.if_icmp .eq 117, 3) := by decide +kernel
theorem k_lw_law_980 : decode me_lw_law.2.1 980 = .ok (.iconst 0, 1) := by decide +kernel
theorem k_lw_law_981 : decode me_lw_law.2.1 981 = .ok (.ireturn, 1) := by decide +kernel
theorem k_lw_law_982 : decode me_lw_law.2.1 982 = .ok (.aload_n 1, 1) := by decide +kernel
theorem k_lw_law_983 : decode me_lw_law.2.1 983 = .ok (.aload_n 0, 1) := by decide +kernel
theorem k_lw_law_984 : decode me_lw_law.2.1 984 = .ok (.iload_n 3, 1) := by decide +kernel
theorem k_lw_law_985 : decode me_lw_law.2.1 985 = .ok (.iconst 1, 1) := by decide +kernel
theorem k_lw_law_986 : decode me_lw_law.2.1 986 = .ok (.iadd, 1) := by decide +kernel
theorem k_lw_law_987 : decode me_lw_law.2.1 987 = .ok (.iaload, 1) := by decide +kernel
theorem k_lw_law_988 : decode me_lw_law.2.1 988 = .ok (.invokevirtual 132, 3) := by decide +kernel
theorem k_lw_law_991 : decode me_lw_law.2.1 991 = .ok (.aload_n 2, 1) := by decide +kernel
theorem k_lw_law_992 : decode me_lw_law.2.1 992 = .ok (.aload_n 0, 1) := by decide +kernel
theorem k_lw_law_993 : decode me_lw_law.2.1 993 = .ok (.iload_n 3, 1) := by decide +kernel
theorem k_lw_law_994 : decode me_lw_law.2.1 994 = .ok (.iconst 1, 1) := by decide +kernel
theorem k_lw_law_995 : decode me_lw_law.2.1 995 = .ok (.iadd, 1) := by decide +kernel
theorem k_lw_law_996 : decode me_lw_law.2.1 996 = .ok (.iaload, 1) := by decide +kernel
theorem k_lw_law_997 : decode me_lw_law.2.1 997 = .ok (.invokevirtual 135, 3) := by decide +kernel
theorem k_lw_law_1000 : decode me_lw_law.2.1 1000 = .ok (.if_icmp .eq 94, 3) := by decide +kernel
theorem k_lw_law_1003 : decode me_lw_law.2.1 1003 = .ok (.iconst 0, 1) := by decide +kernel
theorem k_lw_law_1004 : decode me_lw_law.2.1 1004 = .ok (.ireturn, 1) := by decide +kernel
theorem k_lw_law_1005 : decode me_lw_law.2.1 1005 = .ok (.aload_n 1, 1) := by decide +kernel
theorem k_lw_law_1006 : decode me_lw_law.2.1 1006 = .ok (.aload_n 0, 1) := by decide +kernel
theorem k_lw_law_1007 : decode me_lw_law.2.1 1007 = .ok (.iload_n 3, 1) := by decide +kernel
theorem k_lw_law_1008 : decode me_lw_law.2.1 1008 = .ok (.iconst 1, 1) := by decide +kernel
theorem k_lw_law_1009 : decode me_lw_law.2.1 1009 = .ok (.iadd, 1) := by decide +kernel
theorem k_lw_law_1010 : decode me_lw_law.2.1 1010 = .ok (.iaload, 1) := by decide +kernel
theorem k_lw_law_1011 : decode me_lw_law.2.1 1011 = .ok (.aload_n 0, 1) := by decide +kernel
theorem k_lw_law_1012 : decode me_lw_law.2.1 1012 = .ok (.iload_n 3, 1) := by decide +kernel
theorem k_lw_law_1013 : decode me_lw_law.2.1 1013 = .ok (.iconst 2, 1) := by decide +kernel
theorem k_lw_law_1014 : decode me_lw_law.2.1 1014 = .ok (.iadd, 1) := by decide +kernel
theorem k_lw_law_1015 : decode me_lw_law.2.1 1015 = .ok (.iaload, 1) := by decide +kernel
theorem k_lw_law_1016 : decode me_lw_law.2.1 1016 = .ok (.invokevirtual 136, 3) := by decide +kernel
theorem k_lw_law_1019 : decode me_lw_law.2.1 1019 = .ok (.aload_n 2, 1) := by decide +kernel
theorem k_lw_law_1020 : decode me_lw_law.2.1 1020 = .ok (.aload_n 0, 1) := by decide +kernel
theorem k_lw_law_1021 : decode me_lw_law.2.1 1021 = .ok (.iload_n 3, 1) := by decide +kernel
theorem k_lw_law_1022 : decode me_lw_law.2.1 1022 = .ok (.iconst 1, 1) := by decide +kernel
theorem k_lw_law_1023 : decode me_lw_law.2.1 1023 = .ok (.iadd, 1) := by decide +kernel
theorem k_lw_law_1024 : decode me_lw_law.2.1 1024 = .ok (.iaload, 1) := by decide +kernel
theorem k_lw_law_1025 : decode me_lw_law.2.1 1025 = .ok (.aload_n 0, 1) := by decide +kernel
theorem k_lw_law_1026 : decode me_lw_law.2.1 1026 = .ok (.iload_n 3, 1) := by decide +kernel
theorem k_lw_law_1027 : decode me_lw_law.2.1 1027 = .ok (.iconst 2, 1) := by decide +kernel
theorem k_lw_law_1028 : decode me_lw_law.2.1 1028 = .ok (.iadd, 1) := by decide +kernel
theorem k_lw_law_1029 : decode me_lw_law.2.1 1029 = .ok (.iaload, 1) := by decide +kernel
theorem k_lw_law_1030 : decode me_lw_law.2.1 1030 = .ok (.invokevirtual 139, 3) := by decide +kernel
theorem k_lw_law_1033 : decode me_lw_law.2.1 1033 = .ok (.if_icmp .eq 61, 3) := by decide +kernel
theorem k_lw_law_1036 : decode me_lw_law.2.1 1036 = .ok (.iconst 0, 1) := by decide +kernel
theorem k_lw_law_1037 : decode me_lw_law.2.1 1037 = .ok (.ireturn, 1) := by decide +kernel
theorem k_lw_law_1038 : decode me_lw_law.2.1 1038 = .ok (.aload_n 1, 1) := by decide +kernel
theorem k_lw_law_1039 : decode me_lw_law.2.1 1039 = .ok (.aload_n 0, 1) := by decide +kernel
theorem k_lw_law_1040 : decode me_lw_law.2.1 1040 = .ok (.iload_n 3, 1) := by decide +kernel
theorem k_lw_law_1041 : decode me_lw_law.2.1 1041 = .ok (.iconst 1, 1) := by decide +kernel
theorem k_lw_law_1042 : decode me_lw_law.2.1 1042 = .ok (.iadd, 1) := by decide +kernel
theorem k_lw_law_1043 : decode me_lw_law.2.1 1043 = .ok (.iaload, 1) := by decide +kernel
theorem k_lw_law_1044 : decode me_lw_law.2.1 1044 = .ok (.aload_n 0, 1) := by decide +kernel
theorem k_lw_law_1045 : decode me_lw_law.2.1 1045 = .ok (.iload_n 3, 1) := by decide +kernel
theorem k_lw_law_1046 : decode me_lw_law.2.1 1046 = .ok (.iconst 2, 1) := by decide +kernel
theorem k_lw_law_1047 : decode me_lw_law.2.1 1047 = .ok (.iadd, 1) := by decide +kernel
theorem k_lw_law_1048 : decode me_lw_law.2.1 1048 = .ok (.iaload, 1) := by decide +kernel
theorem k_lw_law_1049 : decode me_lw_law.2.1 1049 = .ok (.invokevirtual 140, 3) := by decide +kernel
theorem k_lw_law_1052 : decode me_lw_law.2.1 1052 = .ok (.aload_n 2, 1) := by decide +kernel
theorem k_lw_law_1053 : decode me_lw_law.2.1 1053 = .ok (.aload_n 0, 1) := by decide +kernel
theorem k_lw_law_1054 : decode me_lw_law.2.1 1054 = .ok (.iload_n 3, 1) := by decide +kernel
theorem k_lw_law_1055 : decode me_lw_law.2.1 1055 = .ok (.iconst 1, 1) := by decide +kernel
theorem k_lw_law_1056 : decode me_lw_law.2.1 1056 = .ok (.iadd, 1) := by decide +kernel
theorem k_lw_law_1057 : decode me_lw_law.2.1 1057 = .ok (.iaload, 1) := by decide +kernel
theorem k_lw_law_1058 : decode me_lw_law.2.1 1058 = .ok (.aload_n 0, 1) := by decide +kernel
theorem k_lw_law_1059 : decode me_lw_law.2.1 1059 = .ok (.iload_n 3, 1) := by decide +kernel
theorem k_lw_law_1060 : decode me_lw_law.2.1 1060 = .ok (.iconst 2, 1) := by decide +kernel
theorem k_lw_law_1061 : decode me_lw_law.2.1 1061 = .ok (.iadd, 1) := by decide +kernel
theorem k_lw_law_1062 : decode me_lw_law.2.1 1062 = .ok (.iaload, 1) := by decide +kernel
theorem k_lw_law_1063 : decode me_lw_law.2.1 1063 = .ok (.invokevirtual 143, 3) := by decide +kernel
theorem k_lw_law_1066 : decode me_lw_law.2.1 1066 = .ok (.if_icmp .eq 28, 3) := by decide +kernel
theorem k_lw_law_1069 : decode me_lw_law.2.1 1069 = .ok (.iconst 0, 1) := by decide +kernel
theorem k_lw_law_1070 : decode me_lw_law.2.1 1070 = .ok (.ireturn, 1) := by decide +kernel
theorem k_lw_law_1071 : decode me_lw_law.2.1 1071 = .ok (.aload_n 1, 1) := by decide +kernel
theorem k_lw_law_1072 : decode me_lw_law.2.1 1072 = .ok (.aload_n 0, 1) := by decide +kernel
theorem k_lw_law_1073 : decode me_lw_law.2.1 1073 = .ok (.iload_n 3, 1) := by decide +kernel
theorem k_lw_law_1074 : decode me_lw_law.2.1 1074 = .ok (.iconst 1, 1) := by decide +kernel
theorem k_lw_law_1075 : decode me_lw_law.2.1 1075 = .ok (.iadd, 1) := by decide +kernel
theorem k_lw_law_1076 : decode me_lw_law.2.1 1076 = .ok (.iaload, 1) := by decide +kernel
theorem k_lw_law_1077 : decode me_lw_law.2.1 1077 = .ok (.invokevirtual 144, 3) := by decide +kernel
theorem k_lw_law_1080 : decode me_lw_law.2.1 1080 = .ok (.aload_n 2, 1) := by decide +kernel
theorem k_lw_law_1081 : decode me_lw_law.2.1 1081 = .ok (.aload_n 0, 1) := by decide +kernel
theorem k_lw_law_1082 : decode me_lw_law.2.1 1082 = .ok (.iload_n 3, 1) := by decide +kernel
theorem k_lw_law_1083 : decode me_lw_law.2.1 1083 = .ok (.iconst 1, 1) := by decide +kernel
theorem k_lw_law_1084 : decode me_lw_law.2.1 1084 = .ok (.iadd, 1) := by decide +kernel
theorem k_lw_law_1085 : decode me_lw_law.2.1 1085 = .ok (.iaload, 1) := by decide +kernel
theorem k_lw_law_1086 : decode me_lw_law.2.1 1086 = .ok (.invokevirtual 147, 3) := by decide +kernel
theorem k_lw_law_1089 : decode me_lw_law.2.1 1089 = .ok (.if_icmp .eq 5, 3) := by decide +kernel
theorem k_lw_law_1092 : decode me_lw_law.2.1 1092 = .ok (.iconst 0, 1) := by decide +kernel
theorem k_lw_law_1093 : decode me_lw_law.2.1 1093 = .ok (.ireturn, 1) := by decide +kernel
theorem k_lw_law_1094 : decode me_lw_law.2.1 1094 = .ok (.iinc 3 6, 3) := by decide +kernel
theorem k_lw_law_1097 : decode me_lw_law.2.1 1097 = .ok (.goto (-1079), 3) := by decide +kernel
theorem k_lw_law_1100 : decode me_lw_law.2.1 1100 = .ok (.iconst 1, 1) := by decide +kernel
theorem k_lw_law_1101 : decode me_lw_law.2.1 1101 = .ok (.ireturn, 1) := by decide +kernel
