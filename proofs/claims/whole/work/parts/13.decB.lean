theorem dX11_begin_101 : decode cX11_begin 101 = .ok (.getfield 26, 3) := by decide +kernel
theorem dX11_begin_104 : decode cX11_begin 104 = .ok (.iadd, 1) := by decide +kernel
theorem dX11_begin_105 : decode cX11_begin 105 = .ok (.iconst 1, 1) := by decide +kernel
theorem dX11_begin_106 : decode cX11_begin 106 = .ok (.isub, 1) := by decide +kernel
theorem dX11_begin_107 : decode cX11_begin 107 = .ok (.istore 8, 2) := by decide +kernel
theorem dX11_begin_109 : decode cX11_begin 109 = .ok (.iload 7, 2) := by decide +kernel
theorem dX11_begin_111 : decode cX11_begin 111 = .ok (.aload_n 0, 1) := by decide +kernel
theorem dX11_begin_112 : decode cX11_begin 112 = .ok (.getfield 7, 3) := by decide +kernel
theorem dX11_begin_115 : decode cX11_begin 115 = .ok (.iconst 0, 1) := by decide +kernel
theorem dX11_begin_116 : decode cX11_begin 116 = .ok (.iaload, 1) := by decide +kernel
theorem dX11_begin_117 : decode cX11_begin 117 = .ok (.if_icmp .lt 14, 3) := by decide +kernel
theorem dX11_begin_120 : decode cX11_begin 120 = .ok (.aload_n 0, 1) := by decide +kernel
theorem dX11_begin_121 : decode cX11_begin 121 = .ok (.getfield 7, 3) := by decide +kernel
theorem dX11_begin_124 : decode cX11_begin 124 = .ok (.iconst 0, 1) := by decide +kernel
theorem dX11_begin_125 : decode cX11_begin 125 = .ok (.iaload, 1) := by decide +kernel
theorem dX11_begin_126 : decode cX11_begin 126 = .ok (.iconst 1, 1) := by decide +kernel
theorem dX11_begin_127 : decode cX11_begin 127 = .ok (.isub, 1) := by decide +kernel
theorem dX11_begin_128 : decode cX11_begin 128 = .ok (.goto 5, 3) := by decide +kernel
theorem dX11_begin_131 : decode cX11_begin 131 = .ok (.iload 7, 2) := by decide +kernel
theorem dX11_begin_133 : decode cX11_begin 133 = .ok (.iload_n 2, 1) := by decide +kernel
theorem dX11_begin_134 : decode cX11_begin 134 = .ok (.iadd, 1) := by decide +kernel
theorem dX11_begin_135 : decode cX11_begin 135 = .ok (.istore 7, 2) := by decide +kernel
theorem dX11_begin_137 : decode cX11_begin 137 = .ok (.iload 8, 2) := by decide +kernel
theorem dX11_begin_139 : decode cX11_begin 139 = .ok (.aload_n 0, 1) := by decide +kernel
theorem dX11_begin_140 : decode cX11_begin 140 = .ok (.getfield 7, 3) := by decide +kernel
theorem dX11_begin_143 : decode cX11_begin 143 = .ok (.iconst 1, 1) := by decide +kernel
theorem dX11_begin_144 : decode cX11_begin 144 = .ok (.iaload, 1) := by decide +kernel
theorem dX11_begin_145 : decode cX11_begin 145 = .ok (.if_icmp .lt 14, 3) := by decide +kernel
theorem dX11_begin_148 : decode cX11_begin 148 = .ok (.aload_n 0, 1) := by decide +kernel
theorem dX11_begin_149 : decode cX11_begin 149 = .ok (.getfield 7, 3) := by decide +kernel
theorem dX11_begin_152 : decode cX11_begin 152 = .ok (.iconst 1, 1) := by decide +kernel
theorem dX11_begin_153 : decode cX11_begin 153 = .ok (.iaload, 1) := by decide +kernel
theorem dX11_begin_154 : decode cX11_begin 154 = .ok (.iconst 1, 1) := by decide +kernel
theorem dX11_begin_155 : decode cX11_begin 155 = .ok (.isub, 1) := by decide +kernel
theorem dX11_begin_156 : decode cX11_begin 156 = .ok (.goto 5, 3) := by decide +kernel
theorem dX11_begin_159 : decode cX11_begin 159 = .ok (.iload 8, 2) := by decide +kernel
theorem dX11_begin_161 : decode cX11_begin 161 = .ok (.iload_n 2, 1) := by decide +kernel
theorem dX11_begin_162 : decode cX11_begin 162 = .ok (.iadd, 1) := by decide +kernel
theorem dX11_begin_163 : decode cX11_begin 163 = .ok (.istore 8, 2) := by decide +kernel
theorem dX11_begin_165 : decode cX11_begin 165 = .ok (.aload_n 0, 1) := by decide +kernel
theorem dX11_begin_166 : decode cX11_begin 166 = .ok (.getfield 48, 3) := by decide +kernel
theorem dX11_begin_169 : decode cX11_begin 169 = .ok (.iload_n 1, 1) := by decide +kernel
theorem dX11_begin_170 : decode cX11_begin 170 = .ok (.iload 5, 2) := by decide +kernel
theorem dX11_begin_172 : decode cX11_begin 172 = .ok (.ifCond .ge 7, 3) := by decide +kernel
theorem dX11_begin_175 : decode cX11_begin 175 = .ok (.iconst 0, 1) := by decide +kernel
theorem dX11_begin_176 : decode cX11_begin 176 = .ok (.goto 5, 3) := by decide +kernel
theorem dX11_begin_179 : decode cX11_begin 179 = .ok (.iload 5, 2) := by decide +kernel
theorem dX11_begin_181 : decode cX11_begin 181 = .ok (.aload_n 0, 1) := by decide +kernel
theorem dX11_begin_182 : decode cX11_begin 182 = .ok (.getfield 26, 3) := by decide +kernel
theorem dX11_begin_185 : decode cX11_begin 185 = .ok (.idiv, 1) := by decide +kernel
theorem dX11_begin_186 : decode cX11_begin 186 = .ok (.iastore, 1) := by decide +kernel
theorem dX11_begin_187 : decode cX11_begin 187 = .ok (.aload_n 0, 1) := by decide +kernel
theorem dX11_begin_188 : decode cX11_begin 188 = .ok (.getfield 57, 3) := by decide +kernel
theorem dX11_begin_191 : decode cX11_begin 191 = .ok (.iload_n 1, 1) := by decide +kernel
theorem dX11_begin_192 : decode cX11_begin 192 = .ok (.aload_n 0, 1) := by decide +kernel
theorem dX11_begin_193 : decode cX11_begin 193 = .ok (.getfield 48, 3) := by decide +kernel
theorem dX11_begin_196 : decode cX11_begin 196 = .ok (.iload_n 1, 1) := by decide +kernel
theorem dX11_begin_197 : decode cX11_begin 197 = .ok (.iaload, 1) := by decide +kernel
theorem dX11_begin_198 : decode cX11_begin 198 = .ok (.iastore, 1) := by decide +kernel
theorem dX11_begin_199 : decode cX11_begin 199 = .ok (.aload_n 0, 1) := by decide +kernel
theorem dX11_begin_200 : decode cX11_begin 200 = .ok (.getfield 60, 3) := by decide +kernel
theorem dX11_begin_203 : decode cX11_begin 203 = .ok (.iload_n 1, 1) := by decide +kernel
theorem dX11_begin_204 : decode cX11_begin 204 = .ok (.iload 6, 2) := by decide +kernel
theorem dX11_begin_206 : decode cX11_begin 206 = .ok (.ifCond .ge 7, 3) := by decide +kernel
theorem dX11_begin_209 : decode cX11_begin 209 = .ok (.iconst 0, 1) := by decide +kernel
theorem dX11_begin_210 : decode cX11_begin 210 = .ok (.goto 5, 3) := by decide +kernel
theorem dX11_begin_213 : decode cX11_begin 213 = .ok (.iload 6, 2) := by decide +kernel
theorem dX11_begin_215 : decode cX11_begin 215 = .ok (.aload_n 0, 1) := by decide +kernel
theorem dX11_begin_216 : decode cX11_begin 216 = .ok (.getfield 26, 3) := by decide +kernel
theorem dX11_begin_219 : decode cX11_begin 219 = .ok (.idiv, 1) := by decide +kernel
theorem dX11_begin_220 : decode cX11_begin 220 = .ok (.iastore, 1) := by decide +kernel
theorem dX11_begin_221 : decode cX11_begin 221 = .ok (.aload_n 0, 1) := by decide +kernel
theorem dX11_begin_222 : decode cX11_begin 222 = .ok (.getfield 51, 3) := by decide +kernel
theorem dX11_begin_225 : decode cX11_begin 225 = .ok (.iload_n 1, 1) := by decide +kernel
theorem dX11_begin_226 : decode cX11_begin 226 = .ok (.iload 7, 2) := by decide +kernel
theorem dX11_begin_228 : decode cX11_begin 228 = .ok (.aload_n 0, 1) := by decide +kernel
theorem dX11_begin_229 : decode cX11_begin 229 = .ok (.getfield 7, 3) := by decide +kernel
theorem dX11_begin_232 : decode cX11_begin 232 = .ok (.iconst 0, 1) := by decide +kernel
theorem dX11_begin_233 : decode cX11_begin 233 = .ok (.iaload, 1) := by decide +kernel
theorem dX11_begin_234 : decode cX11_begin 234 = .ok (.if_icmp .lt 14, 3) := by decide +kernel
theorem dX11_begin_237 : decode cX11_begin 237 = .ok (.aload_n 0, 1) := by decide +kernel
theorem dX11_begin_238 : decode cX11_begin 238 = .ok (.getfield 7, 3) := by decide +kernel
theorem dX11_begin_241 : decode cX11_begin 241 = .ok (.iconst 0, 1) := by decide +kernel
theorem dX11_begin_242 : decode cX11_begin 242 = .ok (.iaload, 1) := by decide +kernel
theorem dX11_begin_243 : decode cX11_begin 243 = .ok (.iconst 1, 1) := by decide +kernel
theorem dX11_begin_244 : decode cX11_begin 244 = .ok (.isub, 1) := by decide +kernel
theorem dX11_begin_245 : decode cX11_begin 245 = .ok (.goto 5, 3) := by decide +kernel
theorem dX11_begin_248 : decode cX11_begin 248 = .ok (.iload 7, 2) := by decide +kernel
theorem dX11_begin_250 : decode cX11_begin 250 = .ok (.aload_n 0, 1) := by decide +kernel
theorem dX11_begin_251 : decode cX11_begin 251 = .ok (.getfield 26, 3) := by decide +kernel
theorem dX11_begin_254 : decode cX11_begin 254 = .ok (.idiv, 1) := by decide +kernel
theorem dX11_begin_255 : decode cX11_begin 255 = .ok (.iastore, 1) := by decide +kernel
theorem dX11_begin_256 : decode cX11_begin 256 = .ok (.aload_n 0, 1) := by decide +kernel
theorem dX11_begin_257 : decode cX11_begin 257 = .ok (.getfield 54, 3) := by decide +kernel
theorem dX11_begin_260 : decode cX11_begin 260 = .ok (.iload_n 1, 1) := by decide +kernel
theorem dX11_begin_261 : decode cX11_begin 261 = .ok (.iload 8, 2) := by decide +kernel
theorem dX11_begin_263 : decode cX11_begin 263 = .ok (.aload_n 0, 1) := by decide +kernel
theorem dX11_begin_264 : decode cX11_begin 264 = .ok (.getfield 7, 3) := by decide +kernel
theorem dX11_begin_267 : decode cX11_begin 267 = .ok (.iconst 1, 1) := by decide +kernel
theorem dX11_begin_268 : decode cX11_begin 268 = .ok (.iaload, 1) := by decide +kernel
theorem dX11_begin_269 : decode cX11_begin 269 = .ok (.if_icmp .lt 14, 3) := by decide +kernel
theorem dX11_begin_272 : decode cX11_begin 272 = .ok (.aload_n 0, 1) := by decide +kernel
theorem dX11_begin_273 : decode cX11_begin 273 = .ok (.getfield 7, 3) := by decide +kernel
theorem dX11_begin_276 : decode cX11_begin 276 = .ok (.iconst 1, 1) := by decide +kernel
theorem dX11_begin_277 : decode cX11_begin 277 = .ok (.iaload, 1) := by decide +kernel
theorem dX11_begin_278 : decode cX11_begin 278 = .ok (.iconst 1, 1) := by decide +kernel
theorem dX11_begin_279 : decode cX11_begin 279 = .ok (.isub, 1) := by decide +kernel
theorem dX11_begin_280 : decode cX11_begin 280 = .ok (.goto 5, 3) := by decide +kernel
theorem dX11_begin_283 : decode cX11_begin 283 = .ok (.iload 8, 2) := by decide +kernel
theorem dX11_begin_285 : decode cX11_begin 285 = .ok (.aload_n 0, 1) := by decide +kernel
theorem dX11_begin_286 : decode cX11_begin 286 = .ok (.getfield 26, 3) := by decide +kernel
theorem dX11_begin_289 : decode cX11_begin 289 = .ok (.idiv, 1) := by decide +kernel
theorem dX11_begin_290 : decode cX11_begin 290 = .ok (.iastore, 1) := by decide +kernel
theorem dX11_begin_291 : decode cX11_begin 291 = .ok (.return_, 1) := by decide +kernel
theorem dX11_use_0 : decode cX11_use 0 = .ok (.aload_n 0, 1) := by decide +kernel
theorem dX11_use_1 : decode cX11_use 1 = .ok (.dup, 1) := by decide +kernel
theorem dX11_use_2 : decode cX11_use 2 = .ok (.getfield 122, 3) := by decide +kernel
theorem dX11_use_5 : decode cX11_use 5 = .ok (.iconst 1, 1) := by decide +kernel
theorem dX11_use_6 : decode cX11_use 6 = .ok (.iadd, 1) := by decide +kernel
theorem dX11_use_7 : decode cX11_use 7 = .ok (.putfield 122, 3) := by decide +kernel
theorem dX11_use_10 : decode cX11_use 10 = .ok (.aload_n 0, 1) := by decide +kernel
theorem dX11_use_11 : decode cX11_use 11 = .ok (.getfield 33, 3) := by decide +kernel
theorem dX11_use_14 : decode cX11_use 14 = .ok (.bipush 64, 2) := by decide +kernel
theorem dX11_use_16 : decode cX11_use 16 = .ok (.iload_n 1, 1) := by decide +kernel
theorem dX11_use_17 : decode cX11_use 17 = .ok (.imul, 1) := by decide +kernel
theorem dX11_use_18 : decode cX11_use 18 = .ok (.iload_n 2, 1) := by decide +kernel
theorem dX11_use_19 : decode cX11_use 19 = .ok (.iadd, 1) := by decide +kernel
theorem dX11_use_20 : decode cX11_use 20 = .ok (.aload_n 0, 1) := by decide +kernel
theorem dX11_use_21 : decode cX11_use 21 = .ok (.getfield 122, 3) := by decide +kernel
theorem dX11_use_24 : decode cX11_use 24 = .ok (.iastore, 1) := by decide +kernel
theorem dX11_use_25 : decode cX11_use 25 = .ok (.return_, 1) := by decide +kernel
theorem dX11_request_0 : decode cX11_request 0 = .ok (.aload_n 0, 1) := by decide +kernel
theorem dX11_request_1 : decode cX11_request 1 = .ok (.iload_n 1, 1) := by decide +kernel
theorem dX11_request_2 : decode cX11_request 2 = .ok (.invokevirtual 119, 3) := by decide +kernel
theorem dX11_request_5 : decode cX11_request 5 = .ok (.istore_n 3, 1) := by decide +kernel
theorem dX11_request_6 : decode cX11_request 6 = .ok (.aload_n 0, 1) := by decide +kernel
theorem dX11_request_7 : decode cX11_request 7 = .ok (.iconst 0, 1) := by decide +kernel
theorem dX11_request_8 : decode cX11_request 8 = .ok (.putfield 116, 3) := by decide +kernel
theorem dX11_request_11 : decode cX11_request 11 = .ok (.iload_n 3, 1) := by decide +kernel
theorem dX11_request_12 : decode cX11_request 12 = .ok (.ifCond .lt 9, 3) := by decide +kernel
theorem dX11_request_15 : decode cX11_request 15 = .ok (.aload_n 0, 1) := by decide +kernel
theorem dX11_request_16 : decode cX11_request 16 = .ok (.iload_n 3, 1) := by decide +kernel
theorem dX11_request_17 : decode cX11_request 17 = .ok (.iload_n 2, 1) := by decide +kernel
theorem dX11_request_18 : decode cX11_request 18 = .ok (.invokevirtual 125, 3) := by decide +kernel
theorem dX11_request_21 : decode cX11_request 21 = .ok (.aload_n 0, 1) := by decide +kernel
theorem dX11_request_22 : decode cX11_request 22 = .ok (.getfield 116, 3) := by decide +kernel
theorem dX11_request_25 : decode cX11_request 25 = .ok (.ifCond .le 97, 3) := by decide +kernel
theorem dX11_request_28 : decode cX11_request 28 = .ok (.aload_n 0, 1) := by decide +kernel
theorem dX11_request_29 : decode cX11_request 29 = .ok (.getfield 116, 3) := by decide +kernel
theorem dX11_request_32 : decode cX11_request 32 = .ok (.iconst 1, 1) := by decide +kernel
theorem dX11_request_33 : decode cX11_request 33 = .ok (.isub, 1) := by decide +kernel
theorem dX11_request_34 : decode cX11_request 34 = .ok (.istore 4, 2) := by decide +kernel
theorem dX11_request_36 : decode cX11_request 36 = .ok (.aload_n 0, 1) := by decide +kernel
theorem dX11_request_37 : decode cX11_request 37 = .ok (.getfield 63, 3) := by decide +kernel
theorem dX11_request_40 : decode cX11_request 40 = .ok (.iload 4, 2) := by decide +kernel
theorem dX11_request_42 : decode cX11_request 42 = .ok (.baload, 1) := by decide +kernel
theorem dX11_request_43 : decode cX11_request 43 = .ok (.ifCond .ne 70, 3) := by decide +kernel
theorem dX11_request_46 : decode cX11_request 46 = .ok (.aload_n 0, 1) := by decide +kernel
theorem dX11_request_47 : decode cX11_request 47 = .ok (.getfield 33, 3) := by decide +kernel
theorem dX11_request_50 : decode cX11_request 50 = .ok (.bipush 64, 2) := by decide +kernel
theorem dX11_request_52 : decode cX11_request 52 = .ok (.aload_n 0, 1) := by decide +kernel
theorem dX11_request_53 : decode cX11_request 53 = .ok (.getfield 39, 3) := by decide +kernel
theorem dX11_request_56 : decode cX11_request 56 = .ok (.iload 4, 2) := by decide +kernel
theorem dX11_request_58 : decode cX11_request 58 = .ok (.iaload, 1) := by decide +kernel
theorem dX11_request_59 : decode cX11_request 59 = .ok (.imul, 1) := by decide +kernel
theorem dX11_request_60 : decode cX11_request 60 = .ok (.aload_n 0, 1) := by decide +kernel
theorem dX11_request_61 : decode cX11_request 61 = .ok (.getfield 42, 3) := by decide +kernel
theorem dX11_request_64 : decode cX11_request 64 = .ok (.iload 4, 2) := by decide +kernel
theorem dX11_request_66 : decode cX11_request 66 = .ok (.iaload, 1) := by decide +kernel
theorem dX11_request_67 : decode cX11_request 67 = .ok (.iadd, 1) := by decide +kernel
theorem dX11_request_68 : decode cX11_request 68 = .ok (.iaload, 1) := by decide +kernel
theorem dX11_request_69 : decode cX11_request 69 = .ok (.ifCond .le 44, 3) := by decide +kernel
theorem dX11_request_72 : decode cX11_request 72 = .ok (.aload_n 0, 1) := by decide +kernel
theorem dX11_request_73 : decode cX11_request 73 = .ok (.getfield 36, 3) := by decide +kernel
theorem dX11_request_76 : decode cX11_request 76 = .ok (.iconst 1, 1) := by decide +kernel
theorem dX11_request_77 : decode cX11_request 77 = .ok (.dup2, 1) := by decide +kernel
theorem dX11_request_78 : decode cX11_request 78 = .ok (.iaload, 1) := by decide +kernel
theorem dX11_request_79 : decode cX11_request 79 = .ok (.iconst 1, 1) := by decide +kernel
theorem dX11_request_80 : decode cX11_request 80 = .ok (.iadd, 1) := by decide +kernel
theorem dX11_request_81 : decode cX11_request 81 = .ok (.iastore, 1) := by decide +kernel
theorem dX11_request_82 : decode cX11_request 82 = .ok (.aload_n 0, 1) := by decide +kernel
theorem dX11_request_83 : decode cX11_request 83 = .ok (.aload_n 0, 1) := by decide +kernel
theorem dX11_request_84 : decode cX11_request 84 = .ok (.getfield 39, 3) := by decide +kernel
theorem dX11_request_87 : decode cX11_request 87 = .ok (.iload 4, 2) := by decide +kernel
theorem dX11_request_89 : decode cX11_request 89 = .ok (.iaload, 1) := by decide +kernel
theorem dX11_request_90 : decode cX11_request 90 = .ok (.aload_n 0, 1) := by decide +kernel
theorem dX11_request_91 : decode cX11_request 91 = .ok (.getfield 42, 3) := by decide +kernel
theorem dX11_request_94 : decode cX11_request 94 = .ok (.iload 4, 2) := by decide +kernel
theorem dX11_request_96 : decode cX11_request 96 = .ok (.iaload, 1) := by decide +kernel
theorem dX11_request_97 : decode cX11_request 97 = .ok (.invokevirtual 128, 3) := by decide +kernel
theorem dX11_request_100 : decode cX11_request 100 = .ok (.aload_n 0, 1) := by decide +kernel
theorem dX11_request_101 : decode cX11_request 101 = .ok (.dup, 1) := by decide +kernel
theorem dX11_request_102 : decode cX11_request 102 = .ok (.getfield 116, 3) := by decide +kernel
theorem dX11_request_105 : decode cX11_request 105 = .ok (.iconst 1, 1) := by decide +kernel
theorem dX11_request_106 : decode cX11_request 106 = .ok (.isub, 1) := by decide +kernel
theorem dX11_request_107 : decode cX11_request 107 = .ok (.putfield 116, 3) := by decide +kernel
theorem dX11_request_110 : decode cX11_request 110 = .ok (.goto 9, 3) := by decide +kernel
theorem dX11_request_113 : decode cX11_request 113 = .ok (.aload_n 0, 1) := by decide +kernel
theorem dX11_request_114 : decode cX11_request 114 = .ok (.iload 4, 2) := by decide +kernel
theorem dX11_request_116 : decode cX11_request 116 = .ok (.invokevirtual 131, 3) := by decide +kernel
theorem dX11_request_119 : decode cX11_request 119 = .ok (.goto (-98), 3) := by decide +kernel
theorem dX11_request_122 : decode cX11_request 122 = .ok (.return_, 1) := by decide +kernel
theorem dX11_goOn_0 : decode cX11_goOn 0 = .ok (.aload_n 0, 1) := by decide +kernel
theorem dX11_goOn_1 : decode cX11_goOn 1 = .ok (.getfield 63, 3) := by decide +kernel
theorem dX11_goOn_4 : decode cX11_goOn 4 = .ok (.iload_n 1, 1) := by decide +kernel
theorem dX11_goOn_5 : decode cX11_goOn 5 = .ok (.baload, 1) := by decide +kernel
theorem dX11_goOn_6 : decode cX11_goOn 6 = .ok (.ifCond .ne 8, 3) := by decide +kernel
theorem dX11_goOn_9 : decode cX11_goOn 9 = .ok (.aload_n 0, 1) := by decide +kernel
theorem dX11_goOn_10 : decode cX11_goOn 10 = .ok (.iload_n 1, 1) := by decide +kernel
theorem dX11_goOn_11 : decode cX11_goOn 11 = .ok (.invokevirtual 135, 3) := by decide +kernel
theorem dX11_goOn_14 : decode cX11_goOn 14 = .ok (.aload_n 0, 1) := by decide +kernel
theorem dX11_goOn_15 : decode cX11_goOn 15 = .ok (.getfield 45, 3) := by decide +kernel
theorem dX11_goOn_18 : decode cX11_goOn 18 = .ok (.iload_n 1, 1) := by decide +kernel
theorem dX11_goOn_19 : decode cX11_goOn 19 = .ok (.iaload, 1) := by decide +kernel
theorem dX11_goOn_20 : decode cX11_goOn 20 = .ok (.ifCond .lt 18, 3) := by decide +kernel
theorem dX11_goOn_23 : decode cX11_goOn 23 = .ok (.aload_n 0, 1) := by decide +kernel
theorem dX11_goOn_24 : decode cX11_goOn 24 = .ok (.getfield 60, 3) := by decide +kernel
theorem dX11_goOn_27 : decode cX11_goOn 27 = .ok (.iload_n 1, 1) := by decide +kernel
theorem dX11_goOn_28 : decode cX11_goOn 28 = .ok (.iaload, 1) := by decide +kernel
theorem dX11_goOn_29 : decode cX11_goOn 29 = .ok (.aload_n 0, 1) := by decide +kernel
theorem dX11_goOn_30 : decode cX11_goOn 30 = .ok (.getfield 54, 3) := by decide +kernel
theorem dX11_goOn_33 : decode cX11_goOn 33 = .ok (.iload_n 1, 1) := by decide +kernel
theorem dX11_goOn_34 : decode cX11_goOn 34 = .ok (.iaload, 1) := by decide +kernel
theorem dX11_goOn_35 : decode cX11_goOn 35 = .ok (.if_icmp .le 40, 3) := by decide +kernel
theorem dX11_goOn_38 : decode cX11_goOn 38 = .ok (.aload_n 0, 1) := by decide +kernel
theorem dX11_goOn_39 : decode cX11_goOn 39 = .ok (.getfield 36, 3) := by decide +kernel
theorem dX11_goOn_42 : decode cX11_goOn 42 = .ok (.iconst 0, 1) := by decide +kernel
theorem dX11_goOn_43 : decode cX11_goOn 43 = .ok (.dup2, 1) := by decide +kernel
theorem dX11_goOn_44 : decode cX11_goOn 44 = .ok (.iaload, 1) := by decide +kernel
theorem dX11_goOn_45 : decode cX11_goOn 45 = .ok (.iconst 1, 1) := by decide +kernel
theorem dX11_goOn_46 : decode cX11_goOn 46 = .ok (.iadd, 1) := by decide +kernel
theorem dX11_goOn_47 : decode cX11_goOn 47 = .ok (.iastore, 1) := by decide +kernel
theorem dX11_goOn_48 : decode cX11_goOn 48 = .ok (.aload_n 0, 1) := by decide +kernel
theorem dX11_goOn_49 : decode cX11_goOn 49 = .ok (.aload_n 0, 1) := by decide +kernel
theorem dX11_goOn_50 : decode cX11_goOn 50 = .ok (.getfield 39, 3) := by decide +kernel
theorem dX11_goOn_53 : decode cX11_goOn 53 = .ok (.iload_n 1, 1) := by decide +kernel
theorem dX11_goOn_54 : decode cX11_goOn 54 = .ok (.iaload, 1) := by decide +kernel
theorem dX11_goOn_55 : decode cX11_goOn 55 = .ok (.aload_n 0, 1) := by decide +kernel
theorem dX11_goOn_56 : decode cX11_goOn 56 = .ok (.getfield 42, 3) := by decide +kernel
theorem dX11_goOn_59 : decode cX11_goOn 59 = .ok (.iload_n 1, 1) := by decide +kernel
theorem dX11_goOn_60 : decode cX11_goOn 60 = .ok (.iaload, 1) := by decide +kernel
theorem dX11_goOn_61 : decode cX11_goOn 61 = .ok (.invokevirtual 128, 3) := by decide +kernel
theorem dX11_goOn_64 : decode cX11_goOn 64 = .ok (.aload_n 0, 1) := by decide +kernel
theorem dX11_goOn_65 : decode cX11_goOn 65 = .ok (.dup, 1) := by decide +kernel
theorem dX11_goOn_66 : decode cX11_goOn 66 = .ok (.getfield 116, 3) := by decide +kernel
theorem dX11_goOn_69 : decode cX11_goOn 69 = .ok (.iconst 1, 1) := by decide +kernel
theorem dX11_goOn_70 : decode cX11_goOn 70 = .ok (.isub, 1) := by decide +kernel
theorem dX11_goOn_71 : decode cX11_goOn 71 = .ok (.putfield 116, 3) := by decide +kernel
theorem dX11_goOn_74 : decode cX11_goOn 74 = .ok (.return_, 1) := by decide +kernel
theorem dX11_goOn_75 : decode cX11_goOn 75 = .ok (.aload_n 0, 1) := by decide +kernel
theorem dX11_goOn_76 : decode cX11_goOn 76 = .ok (.aload_n 0, 1) := by decide +kernel
theorem dX11_goOn_77 : decode cX11_goOn 77 = .ok (.getfield 45, 3) := by decide +kernel
theorem dX11_goOn_80 : decode cX11_goOn 80 = .ok (.iload_n 1, 1) := by decide +kernel
theorem dX11_goOn_81 : decode cX11_goOn 81 = .ok (.iaload, 1) := by decide +kernel
theorem dX11_goOn_82 : decode cX11_goOn 82 = .ok (.bipush 8, 2) := by decide +kernel
theorem dX11_goOn_84 : decode cX11_goOn 84 = .ok (.aload_n 0, 1) := by decide +kernel
theorem dX11_goOn_85 : decode cX11_goOn 85 = .ok (.getfield 60, 3) := by decide +kernel
theorem dX11_goOn_88 : decode cX11_goOn 88 = .ok (.iload_n 1, 1) := by decide +kernel
theorem dX11_goOn_89 : decode cX11_goOn 89 = .ok (.iaload, 1) := by decide +kernel
theorem dX11_goOn_90 : decode cX11_goOn 90 = .ok (.imul, 1) := by decide +kernel
theorem dX11_goOn_91 : decode cX11_goOn 91 = .ok (.aload_n 0, 1) := by decide +kernel
theorem dX11_goOn_92 : decode cX11_goOn 92 = .ok (.getfield 57, 3) := by decide +kernel
theorem dX11_goOn_95 : decode cX11_goOn 95 = .ok (.iload_n 1, 1) := by decide +kernel
theorem dX11_goOn_96 : decode cX11_goOn 96 = .ok (.iaload, 1) := by decide +kernel
theorem dX11_goOn_97 : decode cX11_goOn 97 = .ok (.iadd, 1) := by decide +kernel
theorem dX11_goOn_98 : decode cX11_goOn 98 = .ok (.invokevirtual 125, 3) := by decide +kernel
theorem dX11_goOn_101 : decode cX11_goOn 101 = .ok (.aload_n 0, 1) := by decide +kernel
theorem dX11_goOn_102 : decode cX11_goOn 102 = .ok (.getfield 57, 3) := by decide +kernel
theorem dX11_goOn_105 : decode cX11_goOn 105 = .ok (.iload_n 1, 1) := by decide +kernel
theorem dX11_goOn_106 : decode cX11_goOn 106 = .ok (.dup2, 1) := by decide +kernel
theorem dX11_goOn_107 : decode cX11_goOn 107 = .ok (.iaload, 1) := by decide +kernel
theorem dX11_goOn_108 : decode cX11_goOn 108 = .ok (.iconst 1, 1) := by decide +kernel
theorem dX11_goOn_109 : decode cX11_goOn 109 = .ok (.iadd, 1) := by decide +kernel
theorem dX11_goOn_110 : decode cX11_goOn 110 = .ok (.iastore, 1) := by decide +kernel
theorem dX11_goOn_111 : decode cX11_goOn 111 = .ok (.aload_n 0, 1) := by decide +kernel
theorem dX11_goOn_112 : decode cX11_goOn 112 = .ok (.getfield 57, 3) := by decide +kernel
theorem dX11_goOn_115 : decode cX11_goOn 115 = .ok (.iload_n 1, 1) := by decide +kernel
theorem dX11_goOn_116 : decode cX11_goOn 116 = .ok (.iaload, 1) := by decide +kernel
theorem dX11_goOn_117 : decode cX11_goOn 117 = .ok (.aload_n 0, 1) := by decide +kernel
theorem dX11_goOn_118 : decode cX11_goOn 118 = .ok (.getfield 51, 3) := by decide +kernel
theorem dX11_goOn_121 : decode cX11_goOn 121 = .ok (.iload_n 1, 1) := by decide +kernel
theorem dX11_goOn_122 : decode cX11_goOn 122 = .ok (.iaload, 1) := by decide +kernel
theorem dX11_goOn_123 : decode cX11_goOn 123 = .ok (.if_icmp .le 25, 3) := by decide +kernel
theorem dX11_goOn_126 : decode cX11_goOn 126 = .ok (.aload_n 0, 1) := by decide +kernel
theorem dX11_goOn_127 : decode cX11_goOn 127 = .ok (.getfield 57, 3) := by decide +kernel
theorem dX11_goOn_130 : decode cX11_goOn 130 = .ok (.iload_n 1, 1) := by decide +kernel
theorem dX11_goOn_131 : decode cX11_goOn 131 = .ok (.aload_n 0, 1) := by decide +kernel
theorem dX11_goOn_132 : decode cX11_goOn 132 = .ok (.getfield 48, 3) := by decide +kernel
theorem dX11_goOn_135 : decode cX11_goOn 135 = .ok (.iload_n 1, 1) := by decide +kernel
theorem dX11_goOn_136 : decode cX11_goOn 136 = .ok (.iaload, 1) := by decide +kernel
theorem dX11_goOn_137 : decode cX11_goOn 137 = .ok (.iastore, 1) := by decide +kernel
theorem dX11_goOn_138 : decode cX11_goOn 138 = .ok (.aload_n 0, 1) := by decide +kernel
theorem dX11_goOn_139 : decode cX11_goOn 139 = .ok (.getfield 60, 3) := by decide +kernel
theorem dX11_goOn_142 : decode cX11_goOn 142 = .ok (.iload_n 1, 1) := by decide +kernel
theorem dX11_goOn_143 : decode cX11_goOn 143 = .ok (.dup2, 1) := by decide +kernel
theorem dX11_goOn_144 : decode cX11_goOn 144 = .ok (.iaload, 1) := by decide +kernel
theorem dX11_goOn_145 : decode cX11_goOn 145 = .ok (.iconst 1, 1) := by decide +kernel
theorem dX11_goOn_146 : decode cX11_goOn 146 = .ok (.iadd, 1) := by decide +kernel
theorem dX11_goOn_147 : decode cX11_goOn 147 = .ok (.iastore, 1) := by decide +kernel
theorem dX11_goOn_148 : decode cX11_goOn 148 = .ok (.return_, 1) := by decide +kernel
theorem dX11_inputAt_0 : decode cX11_inputAt 0 = .ok (.aload_n 0, 1) := by decide +kernel
theorem dX11_inputAt_1 : decode cX11_inputAt 1 = .ok (.getfield 66, 3) := by decide +kernel
theorem dX11_inputAt_4 : decode cX11_inputAt 4 = .ok (.iload_n 1, 1) := by decide +kernel
theorem dX11_inputAt_5 : decode cX11_inputAt 5 = .ok (.iload_n 3, 1) := by decide +kernel
theorem dX11_inputAt_6 : decode cX11_inputAt 6 = .ok (.aload_n 0, 1) := by decide +kernel
theorem dX11_inputAt_7 : decode cX11_inputAt 7 = .ok (.getfield 7, 3) := by decide +kernel
theorem dX11_inputAt_10 : decode cX11_inputAt 10 = .ok (.iconst 0, 1) := by decide +kernel
theorem dX11_inputAt_11 : decode cX11_inputAt 11 = .ok (.iaload, 1) := by decide +kernel
theorem dX11_inputAt_12 : decode cX11_inputAt 12 = .ok (.imul, 1) := by decide +kernel
theorem dX11_inputAt_13 : decode cX11_inputAt 13 = .ok (.iadd, 1) := by decide +kernel
theorem dX11_inputAt_14 : decode cX11_inputAt 14 = .ok (.iload_n 2, 1) := by decide +kernel
theorem dX11_inputAt_15 : decode cX11_inputAt 15 = .ok (.iadd, 1) := by decide +kernel
theorem dX11_inputAt_16 : decode cX11_inputAt 16 = .ok (.iaload, 1) := by decide +kernel
theorem dX11_inputAt_17 : decode cX11_inputAt 17 = .ok (.ireturn, 1) := by decide +kernel
theorem dX11_nearest_0 : decode cX11_nearest 0 = .ok (.iload_n 0, 1) := by decide +kernel
theorem dX11_nearest_1 : decode cX11_nearest 1 = .ok (.ifCond .ge 7, 3) := by decide +kernel
theorem dX11_nearest_4 : decode cX11_nearest 4 = .ok (.iconst 0, 1) := by decide +kernel
theorem dX11_nearest_5 : decode cX11_nearest 5 = .ok (.goto 15, 3) := by decide +kernel
theorem dX11_nearest_8 : decode cX11_nearest 8 = .ok (.iload_n 0, 1) := by decide +kernel
theorem dX11_nearest_9 : decode cX11_nearest 9 = .ok (.iload_n 1, 1) := by decide +kernel
theorem dX11_nearest_10 : decode cX11_nearest 10 = .ok (.if_icmp .lt 9, 3) := by decide +kernel
theorem dX11_nearest_13 : decode cX11_nearest 13 = .ok (.iload_n 1, 1) := by decide +kernel
theorem dX11_nearest_14 : decode cX11_nearest 14 = .ok (.iconst 1, 1) := by decide +kernel
theorem dX11_nearest_15 : decode cX11_nearest 15 = .ok (.isub, 1) := by decide +kernel
theorem dX11_nearest_16 : decode cX11_nearest 16 = .ok (.goto 4, 3) := by decide +kernel
theorem dX11_nearest_19 : decode cX11_nearest 19 = .ok (.iload_n 0, 1) := by decide +kernel
theorem dX11_nearest_20 : decode cX11_nearest 20 = .ok (.ireturn, 1) := by decide +kernel
theorem dX11_gather_0 : decode cX11_gather 0 = .ok (.iconst 0, 1) := by decide +kernel
theorem dX11_gather_1 : decode cX11_gather 1 = .ok (.istore 5, 2) := by decide +kernel
theorem dX11_gather_3 : decode cX11_gather 3 = .ok (.iload_n 3, 1) := by decide +kernel
theorem dX11_gather_4 : decode cX11_gather 4 = .ok (.iload 4, 2) := by decide +kernel
theorem dX11_gather_6 : decode cX11_gather 6 = .ok (.isub, 1) := by decide +kernel
theorem dX11_gather_7 : decode cX11_gather 7 = .ok (.istore 6, 2) := by decide +kernel
theorem dX11_gather_9 : decode cX11_gather 9 = .ok (.iload 6, 2) := by decide +kernel
theorem dX11_gather_11 : decode cX11_gather 11 = .ok (.iload_n 3, 1) := by decide +kernel
theorem dX11_gather_12 : decode cX11_gather 12 = .ok (.iload 4, 2) := by decide +kernel
theorem dX11_gather_14 : decode cX11_gather 14 = .ok (.iadd, 1) := by decide +kernel
theorem dX11_gather_15 : decode cX11_gather 15 = .ok (.if_icmp .gt 109, 3) := by decide +kernel
theorem dX11_gather_18 : decode cX11_gather 18 = .ok (.iload_n 2, 1) := by decide +kernel
theorem dX11_gather_19 : decode cX11_gather 19 = .ok (.iload 4, 2) := by decide +kernel
theorem dX11_gather_21 : decode cX11_gather 21 = .ok (.isub, 1) := by decide +kernel
theorem dX11_gather_22 : decode cX11_gather 22 = .ok (.istore 7, 2) := by decide +kernel
theorem dX11_gather_24 : decode cX11_gather 24 = .ok (.iload 7, 2) := by decide +kernel
theorem dX11_gather_26 : decode cX11_gather 26 = .ok (.iload_n 2, 1) := by decide +kernel
theorem dX11_gather_27 : decode cX11_gather 27 = .ok (.iload 4, 2) := by decide +kernel
theorem dX11_gather_29 : decode cX11_gather 29 = .ok (.iadd, 1) := by decide +kernel
theorem dX11_gather_30 : decode cX11_gather 30 = .ok (.if_icmp .gt 88, 3) := by decide +kernel
theorem dX11_gather_33 : decode cX11_gather 33 = .ok (.aload_n 0, 1) := by decide +kernel
theorem dX11_gather_34 : decode cX11_gather 34 = .ok (.iload 7, 2) := by decide +kernel
theorem dX11_gather_36 : decode cX11_gather 36 = .ok (.iload 6, 2) := by decide +kernel
theorem dX11_gather_38 : decode cX11_gather 38 = .ok (.invokevirtual 138, 3) := by decide +kernel
theorem dX11_gather_41 : decode cX11_gather 41 = .ok (.ifCond .eq 71, 3) := by decide +kernel
theorem dX11_gather_44 : decode cX11_gather 44 = .ok (.aload_n 0, 1) := by decide +kernel
theorem dX11_gather_45 : decode cX11_gather 45 = .ok (.iload_n 1, 1) := by decide +kernel
theorem dX11_gather_46 : decode cX11_gather 46 = .ok (.iload 7, 2) := by decide +kernel
theorem dX11_gather_48 : decode cX11_gather 48 = .ok (.iload 6, 2) := by decide +kernel
theorem dX11_gather_50 : decode cX11_gather 50 = .ok (.invokevirtual 142, 3) := by decide +kernel
theorem dX11_gather_53 : decode cX11_gather 53 = .ok (.istore 8, 2) := by decide +kernel
theorem dX11_gather_55 : decode cX11_gather 55 = .ok (.iload 5, 2) := by decide +kernel
theorem dX11_gather_57 : decode cX11_gather 57 = .ok (.istore 9, 2) := by decide +kernel
theorem dX11_gather_59 : decode cX11_gather 59 = .ok (.iload 9, 2) := by decide +kernel
theorem dX11_gather_61 : decode cX11_gather 61 = .ok (.ifCond .le 39, 3) := by decide +kernel
theorem dX11_gather_64 : decode cX11_gather 64 = .ok (.aload_n 0, 1) := by decide +kernel
theorem dX11_gather_65 : decode cX11_gather 65 = .ok (.getfield 69, 3) := by decide +kernel
theorem dX11_gather_68 : decode cX11_gather 68 = .ok (.iload 9, 2) := by decide +kernel
theorem dX11_gather_70 : decode cX11_gather 70 = .ok (.iconst 1, 1) := by decide +kernel
theorem dX11_gather_71 : decode cX11_gather 71 = .ok (.isub, 1) := by decide +kernel
theorem dX11_gather_72 : decode cX11_gather 72 = .ok (.iaload, 1) := by decide +kernel
theorem dX11_gather_73 : decode cX11_gather 73 = .ok (.iload 8, 2) := by decide +kernel
theorem dX11_gather_75 : decode cX11_gather 75 = .ok (.if_icmp .le 25, 3) := by decide +kernel
theorem dX11_gather_78 : decode cX11_gather 78 = .ok (.aload_n 0, 1) := by decide +kernel
theorem dX11_gather_79 : decode cX11_gather 79 = .ok (.getfield 69, 3) := by decide +kernel
theorem dX11_gather_82 : decode cX11_gather 82 = .ok (.iload 9, 2) := by decide +kernel
theorem dX11_gather_84 : decode cX11_gather 84 = .ok (.aload_n 0, 1) := by decide +kernel
theorem dX11_gather_85 : decode cX11_gather 85 = .ok (.getfield 69, 3) := by decide +kernel
theorem dX11_gather_88 : decode cX11_gather 88 = .ok (.iload 9, 2) := by decide +kernel
theorem dX11_gather_90 : decode cX11_gather 90 = .ok (.iconst 1, 1) := by decide +kernel
theorem dX11_gather_91 : decode cX11_gather 91 = .ok (.isub, 1) := by decide +kernel
theorem dX11_gather_92 : decode cX11_gather 92 = .ok (.iaload, 1) := by decide +kernel
theorem dX11_gather_93 : decode cX11_gather 93 = .ok (.iastore, 1) := by decide +kernel
theorem dX11_gather_94 : decode cX11_gather 94 = .ok (.iinc 9 (-1), 3) := by decide +kernel
theorem dX11_gather_97 : decode cX11_gather 97 = .ok (.goto (-38), 3) := by decide +kernel
theorem dX11_gather_100 : decode cX11_gather 100 = .ok (.aload_n 0, 1) := by decide +kernel
theorem dX11_gather_101 : decode cX11_gather 101 = .ok (.getfield 69, 3) := by decide +kernel
theorem dX11_gather_104 : decode cX11_gather 104 = .ok (.iload 9, 2) := by decide +kernel
theorem dX11_gather_106 : decode cX11_gather 106 = .ok (.iload 8, 2) := by decide +kernel
theorem dX11_gather_108 : decode cX11_gather 108 = .ok (.iastore, 1) := by decide +kernel
theorem dX11_gather_109 : decode cX11_gather 109 = .ok (.iinc 5 1, 3) := by decide +kernel
theorem dX11_gather_112 : decode cX11_gather 112 = .ok (.iinc 7 1, 3) := by decide +kernel
theorem dX11_gather_115 : decode cX11_gather 115 = .ok (.goto (-91), 3) := by decide +kernel
theorem dX11_gather_118 : decode cX11_gather 118 = .ok (.iinc 6 1, 3) := by decide +kernel
theorem dX11_gather_121 : decode cX11_gather 121 = .ok (.goto (-112), 3) := by decide +kernel
theorem dX11_gather_124 : decode cX11_gather 124 = .ok (.iload 5, 2) := by decide +kernel
theorem dX11_gather_126 : decode cX11_gather 126 = .ok (.ireturn, 1) := by decide +kernel
theorem dX11_blur_0 : decode cX11_blur 0 = .ok (.iconst 0, 1) := by decide +kernel
theorem dX11_blur_1 : decode cX11_blur 1 = .ok (.istore 5, 2) := by decide +kernel
theorem dX11_blur_3 : decode cX11_blur 3 = .ok (.iconst 0, 1) := by decide +kernel
theorem dX11_blur_4 : decode cX11_blur 4 = .ok (.istore 6, 2) := by decide +kernel
theorem dX11_blur_6 : decode cX11_blur 6 = .ok (.iload_n 3, 1) := by decide +kernel
theorem dX11_blur_7 : decode cX11_blur 7 = .ok (.iload 4, 2) := by decide +kernel
theorem dX11_blur_9 : decode cX11_blur 9 = .ok (.isub, 1) := by decide +kernel
theorem dX11_blur_10 : decode cX11_blur 10 = .ok (.istore 7, 2) := by decide +kernel
theorem dX11_blur_12 : decode cX11_blur 12 = .ok (.iload 7, 2) := by decide +kernel
theorem dX11_blur_14 : decode cX11_blur 14 = .ok (.iload_n 3, 1) := by decide +kernel
theorem dX11_blur_15 : decode cX11_blur 15 = .ok (.iload 4, 2) := by decide +kernel
theorem dX11_blur_17 : decode cX11_blur 17 = .ok (.iadd, 1) := by decide +kernel
theorem dX11_blur_18 : decode cX11_blur 18 = .ok (.if_icmp .gt 58, 3) := by decide +kernel
theorem dX11_blur_21 : decode cX11_blur 21 = .ok (.iload_n 2, 1) := by decide +kernel
theorem dX11_blur_22 : decode cX11_blur 22 = .ok (.iload 4, 2) := by decide +kernel
theorem dX11_blur_24 : decode cX11_blur 24 = .ok (.isub, 1) := by decide +kernel
theorem dX11_blur_25 : decode cX11_blur 25 = .ok (.istore 8, 2) := by decide +kernel
theorem dX11_blur_27 : decode cX11_blur 27 = .ok (.iload 8, 2) := by decide +kernel
theorem dX11_blur_29 : decode cX11_blur 29 = .ok (.iload_n 2, 1) := by decide +kernel
theorem dX11_blur_30 : decode cX11_blur 30 = .ok (.iload 4, 2) := by decide +kernel
theorem dX11_blur_32 : decode cX11_blur 32 = .ok (.iadd, 1) := by decide +kernel
theorem dX11_blur_33 : decode cX11_blur 33 = .ok (.if_icmp .gt 37, 3) := by decide +kernel
theorem dX11_blur_36 : decode cX11_blur 36 = .ok (.aload_n 0, 1) := by decide +kernel
theorem dX11_blur_37 : decode cX11_blur 37 = .ok (.iload 8, 2) := by decide +kernel
theorem dX11_blur_39 : decode cX11_blur 39 = .ok (.iload 7, 2) := by decide +kernel
theorem dX11_blur_41 : decode cX11_blur 41 = .ok (.invokevirtual 138, 3) := by decide +kernel
theorem dX11_blur_44 : decode cX11_blur 44 = .ok (.ifCond .eq 20, 3) := by decide +kernel
theorem dX11_blur_47 : decode cX11_blur 47 = .ok (.iload 6, 2) := by decide +kernel
theorem dX11_blur_49 : decode cX11_blur 49 = .ok (.aload_n 0, 1) := by decide +kernel
theorem dX11_blur_50 : decode cX11_blur 50 = .ok (.iload_n 1, 1) := by decide +kernel
theorem dX11_blur_51 : decode cX11_blur 51 = .ok (.iload 8, 2) := by decide +kernel
theorem dX11_blur_53 : decode cX11_blur 53 = .ok (.iload 7, 2) := by decide +kernel
theorem dX11_blur_55 : decode cX11_blur 55 = .ok (.invokevirtual 142, 3) := by decide +kernel
theorem dX11_blur_58 : decode cX11_blur 58 = .ok (.iadd, 1) := by decide +kernel
theorem dX11_blur_59 : decode cX11_blur 59 = .ok (.istore 6, 2) := by decide +kernel
theorem dX11_blur_61 : decode cX11_blur 61 = .ok (.iinc 5 1, 3) := by decide +kernel
theorem dX11_blur_64 : decode cX11_blur 64 = .ok (.iinc 8 1, 3) := by decide +kernel
theorem dX11_blur_67 : decode cX11_blur 67 = .ok (.goto (-40), 3) := by decide +kernel
theorem dX11_blur_70 : decode cX11_blur 70 = .ok (.iinc 7 1, 3) := by decide +kernel
theorem dX11_blur_73 : decode cX11_blur 73 = .ok (.goto (-61), 3) := by decide +kernel
theorem dX11_blur_76 : decode cX11_blur 76 = .ok (.iload 6, 2) := by decide +kernel
theorem dX11_blur_78 : decode cX11_blur 78 = .ok (.iload 5, 2) := by decide +kernel
theorem dX11_blur_80 : decode cX11_blur 80 = .ok (.idiv, 1) := by decide +kernel
theorem dX11_blur_81 : decode cX11_blur 81 = .ok (.ireturn, 1) := by decide +kernel
theorem dX11_point_0 : decode cX11_point 0 = .ok (.iload_n 1, 1) := by decide +kernel
theorem dX11_point_1 : decode cX11_point 1 = .ok (.tableswitch 141 0 5 #[39, 74, 82, 103, 120, 127], 39) := by decide +kernel
theorem dX11_point_40 : decode cX11_point 40 = .ok (.iload 4, 2) := by decide +kernel
theorem dX11_point_42 : decode cX11_point 42 = .ok (.iload_n 2, 1) := by decide +kernel
theorem dX11_point_43 : decode cX11_point 43 = .ok (.if_icmp .gt 7, 3) := by decide +kernel
theorem dX11_point_46 : decode cX11_point 46 = .ok (.iconst 0, 1) := by decide +kernel
theorem dX11_point_47 : decode cX11_point 47 = .ok (.goto 27, 3) := by decide +kernel
theorem dX11_point_50 : decode cX11_point 50 = .ok (.iload 4, 2) := by decide +kernel
theorem dX11_point_52 : decode cX11_point 52 = .ok (.iload_n 3, 1) := by decide +kernel
theorem dX11_point_53 : decode cX11_point 53 = .ok (.if_icmp .lt 9, 3) := by decide +kernel
theorem dX11_point_56 : decode cX11_point 56 = .ok (.sipush 255, 3) := by decide +kernel
theorem dX11_point_59 : decode cX11_point 59 = .ok (.goto 15, 3) := by decide +kernel
theorem dX11_point_62 : decode cX11_point 62 = .ok (.iload 4, 2) := by decide +kernel
theorem dX11_point_64 : decode cX11_point 64 = .ok (.iload_n 2, 1) := by decide +kernel
theorem dX11_point_65 : decode cX11_point 65 = .ok (.isub, 1) := by decide +kernel
theorem dX11_point_66 : decode cX11_point 66 = .ok (.sipush 255, 3) := by decide +kernel
theorem dX11_point_69 : decode cX11_point 69 = .ok (.imul, 1) := by decide +kernel
theorem dX11_point_70 : decode cX11_point 70 = .ok (.iload_n 3, 1) := by decide +kernel
theorem dX11_point_71 : decode cX11_point 71 = .ok (.iload_n 2, 1) := by decide +kernel
theorem dX11_point_72 : decode cX11_point 72 = .ok (.isub, 1) := by decide +kernel
theorem dX11_point_73 : decode cX11_point 73 = .ok (.idiv, 1) := by decide +kernel
theorem dX11_point_74 : decode cX11_point 74 = .ok (.ireturn, 1) := by decide +kernel
theorem dX11_point_75 : decode cX11_point 75 = .ok (.iload 4, 2) := by decide +kernel
theorem dX11_point_77 : decode cX11_point 77 = .ok (.iload_n 2, 1) := by decide +kernel
theorem dX11_point_78 : decode cX11_point 78 = .ok (.iadd, 1) := by decide +kernel
theorem dX11_point_79 : decode cX11_point 79 = .ok (.invokestatic 146, 3) := by decide +kernel
theorem dX11_point_82 : decode cX11_point 82 = .ok (.ireturn, 1) := by decide +kernel
theorem dX11_point_83 : decode cX11_point 83 = .ok (.sipush 128, 3) := by decide +kernel
theorem dX11_point_86 : decode cX11_point 86 = .ok (.iload 4, 2) := by decide +kernel
theorem dX11_point_88 : decode cX11_point 88 = .ok (.sipush 128, 3) := by decide +kernel
theorem dX11_point_91 : decode cX11_point 91 = .ok (.isub, 1) := by decide +kernel
theorem dX11_point_92 : decode cX11_point 92 = .ok (.iload_n 2, 1) := by decide +kernel
theorem dX11_point_93 : decode cX11_point 93 = .ok (.imul, 1) := by decide +kernel
theorem dX11_point_94 : decode cX11_point 94 = .ok (.bipush 100, 2) := by decide +kernel
theorem dX11_point_96 : decode cX11_point 96 = .ok (.invokestatic 149, 3) := by decide +kernel
theorem dX11_point_99 : decode cX11_point 99 = .ok (.iadd, 1) := by decide +kernel
theorem dX11_point_100 : decode cX11_point 100 = .ok (.invokestatic 146, 3) := by decide +kernel
theorem dX11_point_103 : decode cX11_point 103 = .ok (.ireturn, 1) := by decide +kernel
theorem dX11_point_104 : decode cX11_point 104 = .ok (.iload 4, 2) := by decide +kernel
theorem dX11_point_106 : decode cX11_point 106 = .ok (.iload_n 2, 1) := by decide +kernel
theorem dX11_point_107 : decode cX11_point 107 = .ok (.imul, 1) := by decide +kernel
theorem dX11_point_108 : decode cX11_point 108 = .ok (.sipush 256, 3) := by decide +kernel
theorem dX11_point_111 : decode cX11_point 111 = .ok (.idiv, 1) := by decide +kernel
theorem dX11_point_112 : decode cX11_point 112 = .ok (.sipush 255, 3) := by decide +kernel
theorem dX11_point_115 : decode cX11_point 115 = .ok (.imul, 1) := by decide +kernel
theorem dX11_point_116 : decode cX11_point 116 = .ok (.iload_n 2, 1) := by decide +kernel
theorem dX11_point_117 : decode cX11_point 117 = .ok (.iconst 1, 1) := by decide +kernel
theorem dX11_point_118 : decode cX11_point 118 = .ok (.isub, 1) := by decide +kernel
theorem dX11_point_119 : decode cX11_point 119 = .ok (.idiv, 1) := by decide +kernel
theorem dX11_point_120 : decode cX11_point 120 = .ok (.ireturn, 1) := by decide +kernel
theorem dX11_point_121 : decode cX11_point 121 = .ok (.sipush 255, 3) := by decide +kernel
theorem dX11_point_124 : decode cX11_point 124 = .ok (.iload 4, 2) := by decide +kernel
theorem dX11_point_126 : decode cX11_point 126 = .ok (.isub, 1) := by decide +kernel
theorem dX11_point_127 : decode cX11_point 127 = .ok (.ireturn, 1) := by decide +kernel
theorem dX11_point_128 : decode cX11_point 128 = .ok (.iload 4, 2) := by decide +kernel
theorem dX11_point_130 : decode cX11_point 130 = .ok (.iload_n 2, 1) := by decide +kernel
theorem dX11_point_131 : decode cX11_point 131 = .ok (.if_icmp .lt 9, 3) := by decide +kernel
theorem dX11_point_134 : decode cX11_point 134 = .ok (.sipush 255, 3) := by decide +kernel
theorem dX11_point_137 : decode cX11_point 137 = .ok (.goto 4, 3) := by decide +kernel
theorem dX11_point_140 : decode cX11_point 140 = .ok (.iconst 0, 1) := by decide +kernel
theorem dX11_point_141 : decode cX11_point 141 = .ok (.ireturn, 1) := by decide +kernel
theorem dX11_point_142 : decode cX11_point 142 = .ok (.iload_n 2, 1) := by decide +kernel
theorem dX11_point_143 : decode cX11_point 143 = .ok (.ireturn, 1) := by decide +kernel
theorem dX11_findRange_0 : decode cX11_findRange 0 = .ok (.aload_n 0, 1) := by decide +kernel
theorem dX11_findRange_1 : decode cX11_findRange 1 = .ok (.sipush 255, 3) := by decide +kernel
theorem dX11_findRange_4 : decode cX11_findRange 4 = .ok (.putfield 153, 3) := by decide +kernel
theorem dX11_findRange_7 : decode cX11_findRange 7 = .ok (.aload_n 0, 1) := by decide +kernel
theorem dX11_findRange_8 : decode cX11_findRange 8 = .ok (.iconst 0, 1) := by decide +kernel
theorem dX11_findRange_9 : decode cX11_findRange 9 = .ok (.putfield 156, 3) := by decide +kernel
theorem dX11_findRange_12 : decode cX11_findRange 12 = .ok (.iconst 0, 1) := by decide +kernel
theorem dX11_findRange_13 : decode cX11_findRange 13 = .ok (.istore_n 2, 1) := by decide +kernel
theorem dX11_findRange_14 : decode cX11_findRange 14 = .ok (.iload_n 2, 1) := by decide +kernel
theorem dX11_findRange_15 : decode cX11_findRange 15 = .ok (.aload_n 0, 1) := by decide +kernel
theorem dX11_findRange_16 : decode cX11_findRange 16 = .ok (.getfield 7, 3) := by decide +kernel
theorem dX11_findRange_19 : decode cX11_findRange 19 = .ok (.iconst 0, 1) := by decide +kernel
theorem dX11_findRange_20 : decode cX11_findRange 20 = .ok (.iaload, 1) := by decide +kernel
theorem dX11_findRange_21 : decode cX11_findRange 21 = .ok (.aload_n 0, 1) := by decide +kernel
theorem dX11_findRange_22 : decode cX11_findRange 22 = .ok (.getfield 7, 3) := by decide +kernel
theorem dX11_findRange_25 : decode cX11_findRange 25 = .ok (.iconst 1, 1) := by decide +kernel
theorem dX11_findRange_26 : decode cX11_findRange 26 = .ok (.iaload, 1) := by decide +kernel
theorem dX11_findRange_27 : decode cX11_findRange 27 = .ok (.imul, 1) := by decide +kernel
theorem dX11_findRange_28 : decode cX11_findRange 28 = .ok (.if_icmp .ge 77, 3) := by decide +kernel
theorem dX11_findRange_31 : decode cX11_findRange 31 = .ok (.aload_n 0, 1) := by decide +kernel
theorem dX11_findRange_32 : decode cX11_findRange 32 = .ok (.aload_n 0, 1) := by decide +kernel
theorem dX11_findRange_33 : decode cX11_findRange 33 = .ok (.getfield 66, 3) := by decide +kernel
theorem dX11_findRange_36 : decode cX11_findRange 36 = .ok (.iload_n 1, 1) := by decide +kernel
theorem dX11_findRange_37 : decode cX11_findRange 37 = .ok (.iload_n 2, 1) := by decide +kernel
theorem dX11_findRange_38 : decode cX11_findRange 38 = .ok (.iadd, 1) := by decide +kernel
theorem dX11_findRange_39 : decode cX11_findRange 39 = .ok (.iaload, 1) := by decide +kernel
theorem dX11_findRange_40 : decode cX11_findRange 40 = .ok (.aload_n 0, 1) := by decide +kernel
theorem dX11_findRange_41 : decode cX11_findRange 41 = .ok (.getfield 153, 3) := by decide +kernel
theorem dX11_findRange_44 : decode cX11_findRange 44 = .ok (.if_icmp .ge 14, 3) := by decide +kernel
theorem dX11_findRange_47 : decode cX11_findRange 47 = .ok (.aload_n 0, 1) := by decide +kernel
theorem dX11_findRange_48 : decode cX11_findRange 48 = .ok (.getfield 66, 3) := by decide +kernel
theorem dX11_findRange_51 : decode cX11_findRange 51 = .ok (.iload_n 1, 1) := by decide +kernel
theorem dX11_findRange_52 : decode cX11_findRange 52 = .ok (.iload_n 2, 1) := by decide +kernel
theorem dX11_findRange_53 : decode cX11_findRange 53 = .ok (.iadd, 1) := by decide +kernel
theorem dX11_findRange_54 : decode cX11_findRange 54 = .ok (.iaload, 1) := by decide +kernel
theorem dX11_findRange_55 : decode cX11_findRange 55 = .ok (.goto 7, 3) := by decide +kernel
theorem dX11_findRange_58 : decode cX11_findRange 58 = .ok (.aload_n 0, 1) := by decide +kernel
theorem dX11_findRange_59 : decode cX11_findRange 59 = .ok (.getfield 153, 3) := by decide +kernel
theorem dX11_findRange_62 : decode cX11_findRange 62 = .ok (.putfield 153, 3) := by decide +kernel
theorem dX11_findRange_65 : decode cX11_findRange 65 = .ok (.aload_n 0, 1) := by decide +kernel
theorem dX11_findRange_66 : decode cX11_findRange 66 = .ok (.aload_n 0, 1) := by decide +kernel
theorem dX11_findRange_67 : decode cX11_findRange 67 = .ok (.getfield 66, 3) := by decide +kernel
theorem dX11_findRange_70 : decode cX11_findRange 70 = .ok (.iload_n 1, 1) := by decide +kernel
theorem dX11_findRange_71 : decode cX11_findRange 71 = .ok (.iload_n 2, 1) := by decide +kernel
theorem dX11_findRange_72 : decode cX11_findRange 72 = .ok (.iadd, 1) := by decide +kernel
theorem dX11_findRange_73 : decode cX11_findRange 73 = .ok (.iaload, 1) := by decide +kernel
theorem dX11_findRange_74 : decode cX11_findRange 74 = .ok (.aload_n 0, 1) := by decide +kernel
theorem dX11_findRange_75 : decode cX11_findRange 75 = .ok (.getfield 156, 3) := by decide +kernel
theorem dX11_findRange_78 : decode cX11_findRange 78 = .ok (.if_icmp .le 14, 3) := by decide +kernel
theorem dX11_findRange_81 : decode cX11_findRange 81 = .ok (.aload_n 0, 1) := by decide +kernel
theorem dX11_findRange_82 : decode cX11_findRange 82 = .ok (.getfield 66, 3) := by decide +kernel
theorem dX11_findRange_85 : decode cX11_findRange 85 = .ok (.iload_n 1, 1) := by decide +kernel
theorem dX11_findRange_86 : decode cX11_findRange 86 = .ok (.iload_n 2, 1) := by decide +kernel
theorem dX11_findRange_87 : decode cX11_findRange 87 = .ok (.iadd, 1) := by decide +kernel
theorem dX11_findRange_88 : decode cX11_findRange 88 = .ok (.iaload, 1) := by decide +kernel
theorem dX11_findRange_89 : decode cX11_findRange 89 = .ok (.goto 7, 3) := by decide +kernel
theorem dX11_findRange_92 : decode cX11_findRange 92 = .ok (.aload_n 0, 1) := by decide +kernel
theorem dX11_findRange_93 : decode cX11_findRange 93 = .ok (.getfield 156, 3) := by decide +kernel
theorem dX11_findRange_96 : decode cX11_findRange 96 = .ok (.putfield 156, 3) := by decide +kernel
theorem dX11_findRange_99 : decode cX11_findRange 99 = .ok (.iinc 2 1, 3) := by decide +kernel
theorem dX11_findRange_102 : decode cX11_findRange 102 = .ok (.goto (-88), 3) := by decide +kernel
theorem dX11_findRange_105 : decode cX11_findRange 105 = .ok (.return_, 1) := by decide +kernel
theorem dX11_adjusted_0 : decode cX11_adjusted 0 = .ok (.aload_n 0, 1) := by decide +kernel
theorem dX11_adjusted_1 : decode cX11_adjusted 1 = .ok (.getfield 7, 3) := by decide +kernel
theorem dX11_adjusted_4 : decode cX11_adjusted 4 = .ok (.iload_n 1, 1) := by decide +kernel
theorem dX11_adjusted_5 : decode cX11_adjusted 5 = .ok (.iconst 0, 1) := by decide +kernel
theorem dX11_adjusted_6 : decode cX11_adjusted 6 = .ok (.iadd, 1) := by decide +kernel
theorem dX11_adjusted_7 : decode cX11_adjusted 7 = .ok (.iaload, 1) := by decide +kernel
theorem dX11_adjusted_8 : decode cX11_adjusted 8 = .ok (.istore 5, 2) := by decide +kernel
theorem dX11_adjusted_10 : decode cX11_adjusted 10 = .ok (.aload_n 0, 1) := by decide +kernel
theorem dX11_adjusted_11 : decode cX11_adjusted 11 = .ok (.getfield 7, 3) := by decide +kernel
theorem dX11_adjusted_14 : decode cX11_adjusted 14 = .ok (.iload_n 1, 1) := by decide +kernel
theorem dX11_adjusted_15 : decode cX11_adjusted 15 = .ok (.iconst 1, 1) := by decide +kernel
theorem dX11_adjusted_16 : decode cX11_adjusted 16 = .ok (.iadd, 1) := by decide +kernel
theorem dX11_adjusted_17 : decode cX11_adjusted 17 = .ok (.iaload, 1) := by decide +kernel
theorem dX11_adjusted_18 : decode cX11_adjusted 18 = .ok (.istore 6, 2) := by decide +kernel
theorem dX11_adjusted_20 : decode cX11_adjusted 20 = .ok (.aload_n 0, 1) := by decide +kernel
theorem dX11_adjusted_21 : decode cX11_adjusted 21 = .ok (.getfield 7, 3) := by decide +kernel
theorem dX11_adjusted_24 : decode cX11_adjusted 24 = .ok (.iload_n 1, 1) := by decide +kernel
theorem dX11_adjusted_25 : decode cX11_adjusted 25 = .ok (.iconst 2, 1) := by decide +kernel
theorem dX11_adjusted_26 : decode cX11_adjusted 26 = .ok (.iadd, 1) := by decide +kernel
theorem dX11_adjusted_27 : decode cX11_adjusted 27 = .ok (.iaload, 1) := by decide +kernel
theorem dX11_adjusted_28 : decode cX11_adjusted 28 = .ok (.istore 7, 2) := by decide +kernel
theorem dX11_adjusted_30 : decode cX11_adjusted 30 = .ok (.aload_n 0, 1) := by decide +kernel
theorem dX11_adjusted_31 : decode cX11_adjusted 31 = .ok (.iload_n 2, 1) := by decide +kernel
theorem dX11_adjusted_32 : decode cX11_adjusted 32 = .ok (.iload_n 3, 1) := by decide +kernel
theorem dX11_adjusted_33 : decode cX11_adjusted 33 = .ok (.iload 4, 2) := by decide +kernel
theorem dX11_adjusted_35 : decode cX11_adjusted 35 = .ok (.invokevirtual 142, 3) := by decide +kernel
theorem dX11_adjusted_38 : decode cX11_adjusted 38 = .ok (.istore 8, 2) := by decide +kernel
theorem dX11_adjusted_40 : decode cX11_adjusted 40 = .ok (.iload 5, 2) := by decide +kernel
theorem dX11_adjusted_42 : decode cX11_adjusted 42 = .ok (.tableswitch 218 6 13 #[46, 57, 77, 95, 119, 147, 218, 180], 46) := by decide +kernel
theorem dX11_adjusted_88 : decode cX11_adjusted 88 = .ok (.aload_n 0, 1) := by decide +kernel
theorem dX11_adjusted_89 : decode cX11_adjusted 89 = .ok (.iload_n 2, 1) := by decide +kernel
theorem dX11_adjusted_90 : decode cX11_adjusted 90 = .ok (.iload_n 3, 1) := by decide +kernel
theorem dX11_adjusted_91 : decode cX11_adjusted 91 = .ok (.iload 4, 2) := by decide +kernel
theorem dX11_adjusted_93 : decode cX11_adjusted 93 = .ok (.iload 6, 2) := by decide +kernel
theorem dX11_adjusted_95 : decode cX11_adjusted 95 = .ok (.invokevirtual 159, 3) := by decide +kernel
theorem dX11_adjusted_98 : decode cX11_adjusted 98 = .ok (.ireturn, 1) := by decide +kernel
theorem dX11_adjusted_99 : decode cX11_adjusted 99 = .ok (.aload_n 0, 1) := by decide +kernel
theorem dX11_adjusted_100 : decode cX11_adjusted 100 = .ok (.getfield 69, 3) := by decide +kernel
theorem dX11_adjusted_103 : decode cX11_adjusted 103 = .ok (.aload_n 0, 1) := by decide +kernel
theorem dX11_adjusted_104 : decode cX11_adjusted 104 = .ok (.iload_n 2, 1) := by decide +kernel
theorem dX11_adjusted_105 : decode cX11_adjusted 105 = .ok (.iload_n 3, 1) := by decide +kernel
theorem dX11_adjusted_106 : decode cX11_adjusted 106 = .ok (.iload 4, 2) := by decide +kernel
theorem dX11_adjusted_108 : decode cX11_adjusted 108 = .ok (.iload 6, 2) := by decide +kernel
theorem dX11_adjusted_110 : decode cX11_adjusted 110 = .ok (.invokevirtual 163, 3) := by decide +kernel
theorem dX11_adjusted_113 : decode cX11_adjusted 113 = .ok (.iconst 1, 1) := by decide +kernel
theorem dX11_adjusted_114 : decode cX11_adjusted 114 = .ok (.isub, 1) := by decide +kernel
theorem dX11_adjusted_115 : decode cX11_adjusted 115 = .ok (.iconst 2, 1) := by decide +kernel
theorem dX11_adjusted_116 : decode cX11_adjusted 116 = .ok (.idiv, 1) := by decide +kernel
theorem dX11_adjusted_117 : decode cX11_adjusted 117 = .ok (.iaload, 1) := by decide +kernel
theorem dX11_adjusted_118 : decode cX11_adjusted 118 = .ok (.ireturn, 1) := by decide +kernel
theorem dX11_adjusted_119 : decode cX11_adjusted 119 = .ok (.aload_n 0, 1) := by decide +kernel
theorem dX11_adjusted_120 : decode cX11_adjusted 120 = .ok (.getfield 69, 3) := by decide +kernel
theorem dX11_adjusted_123 : decode cX11_adjusted 123 = .ok (.aload_n 0, 1) := by decide +kernel
theorem dX11_adjusted_124 : decode cX11_adjusted 124 = .ok (.iload_n 2, 1) := by decide +kernel
theorem dX11_adjusted_125 : decode cX11_adjusted 125 = .ok (.iload_n 3, 1) := by decide +kernel
theorem dX11_adjusted_126 : decode cX11_adjusted 126 = .ok (.iload 4, 2) := by decide +kernel
theorem dX11_adjusted_128 : decode cX11_adjusted 128 = .ok (.iload 6, 2) := by decide +kernel
theorem dX11_adjusted_130 : decode cX11_adjusted 130 = .ok (.invokevirtual 163, 3) := by decide +kernel
theorem dX11_adjusted_133 : decode cX11_adjusted 133 = .ok (.iconst 1, 1) := by decide +kernel
theorem dX11_adjusted_134 : decode cX11_adjusted 134 = .ok (.isub, 1) := by decide +kernel
theorem dX11_adjusted_135 : decode cX11_adjusted 135 = .ok (.iaload, 1) := by decide +kernel
theorem dX11_adjusted_136 : decode cX11_adjusted 136 = .ok (.ireturn, 1) := by decide +kernel
theorem dX11_adjusted_137 : decode cX11_adjusted 137 = .ok (.aload_n 0, 1) := by decide +kernel
theorem dX11_adjusted_138 : decode cX11_adjusted 138 = .ok (.iload_n 2, 1) := by decide +kernel
theorem dX11_adjusted_139 : decode cX11_adjusted 139 = .ok (.iload_n 3, 1) := by decide +kernel
theorem dX11_adjusted_140 : decode cX11_adjusted 140 = .ok (.iload 4, 2) := by decide +kernel
theorem dX11_adjusted_142 : decode cX11_adjusted 142 = .ok (.iload 6, 2) := by decide +kernel
theorem dX11_adjusted_144 : decode cX11_adjusted 144 = .ok (.invokevirtual 163, 3) := by decide +kernel
theorem dX11_adjusted_147 : decode cX11_adjusted 147 = .ok (.ifCond .le 12, 3) := by decide +kernel
theorem dX11_adjusted_150 : decode cX11_adjusted 150 = .ok (.aload_n 0, 1) := by decide +kernel
theorem dX11_adjusted_151 : decode cX11_adjusted 151 = .ok (.getfield 69, 3) := by decide +kernel
theorem dX11_adjusted_154 : decode cX11_adjusted 154 = .ok (.iconst 0, 1) := by decide +kernel
theorem dX11_adjusted_155 : decode cX11_adjusted 155 = .ok (.iaload, 1) := by decide +kernel
theorem dX11_adjusted_156 : decode cX11_adjusted 156 = .ok (.goto 4, 3) := by decide +kernel
theorem dX11_adjusted_159 : decode cX11_adjusted 159 = .ok (.iconst 0, 1) := by decide +kernel
theorem dX11_adjusted_160 : decode cX11_adjusted 160 = .ok (.ireturn, 1) := by decide +kernel
theorem dX11_adjusted_161 : decode cX11_adjusted 161 = .ok (.iload 8, 2) := by decide +kernel
theorem dX11_adjusted_163 : decode cX11_adjusted 163 = .ok (.iload 8, 2) := by decide +kernel
theorem dX11_adjusted_165 : decode cX11_adjusted 165 = .ok (.aload_n 0, 1) := by decide +kernel
theorem dX11_adjusted_166 : decode cX11_adjusted 166 = .ok (.iload_n 2, 1) := by decide +kernel
theorem dX11_adjusted_167 : decode cX11_adjusted 167 = .ok (.iload_n 3, 1) := by decide +kernel
theorem dX11_adjusted_168 : decode cX11_adjusted 168 = .ok (.iload 4, 2) := by decide +kernel
theorem dX11_adjusted_170 : decode cX11_adjusted 170 = .ok (.iload 6, 2) := by decide +kernel
theorem dX11_adjusted_172 : decode cX11_adjusted 172 = .ok (.invokevirtual 159, 3) := by decide +kernel
theorem dX11_adjusted_175 : decode cX11_adjusted 175 = .ok (.isub, 1) := by decide +kernel
theorem dX11_adjusted_176 : decode cX11_adjusted 176 = .ok (.iload 7, 2) := by decide +kernel
theorem dX11_adjusted_178 : decode cX11_adjusted 178 = .ok (.imul, 1) := by decide +kernel
theorem dX11_adjusted_179 : decode cX11_adjusted 179 = .ok (.bipush 100, 2) := by decide +kernel
theorem dX11_adjusted_181 : decode cX11_adjusted 181 = .ok (.invokestatic 149, 3) := by decide +kernel
theorem dX11_adjusted_184 : decode cX11_adjusted 184 = .ok (.iadd, 1) := by decide +kernel
theorem dX11_adjusted_185 : decode cX11_adjusted 185 = .ok (.invokestatic 146, 3) := by decide +kernel
theorem dX11_adjusted_188 : decode cX11_adjusted 188 = .ok (.ireturn, 1) := by decide +kernel
theorem dX11_adjusted_189 : decode cX11_adjusted 189 = .ok (.aload_n 0, 1) := by decide +kernel
theorem dX11_adjusted_190 : decode cX11_adjusted 190 = .ok (.iload_n 2, 1) := by decide +kernel
theorem dX11_adjusted_191 : decode cX11_adjusted 191 = .ok (.iload_n 3, 1) := by decide +kernel
theorem dX11_adjusted_192 : decode cX11_adjusted 192 = .ok (.iload 6, 2) := by decide +kernel
theorem dX11_adjusted_194 : decode cX11_adjusted 194 = .ok (.isub, 1) := by decide +kernel
theorem dX11_adjusted_195 : decode cX11_adjusted 195 = .ok (.aload_n 0, 1) := by decide +kernel
theorem dX11_adjusted_196 : decode cX11_adjusted 196 = .ok (.getfield 7, 3) := by decide +kernel
theorem dX11_adjusted_199 : decode cX11_adjusted 199 = .ok (.iconst 0, 1) := by decide +kernel
theorem dX11_adjusted_200 : decode cX11_adjusted 200 = .ok (.iaload, 1) := by decide +kernel
theorem dX11_adjusted_201 : decode cX11_adjusted 201 = .ok (.invokestatic 166, 3) := by decide +kernel
theorem dX11_adjusted_204 : decode cX11_adjusted 204 = .ok (.iload 4, 2) := by decide +kernel
theorem dX11_adjusted_206 : decode cX11_adjusted 206 = .ok (.iload 7, 2) := by decide +kernel
theorem dX11_adjusted_208 : decode cX11_adjusted 208 = .ok (.isub, 1) := by decide +kernel
theorem dX11_adjusted_209 : decode cX11_adjusted 209 = .ok (.aload_n 0, 1) := by decide +kernel
theorem dX11_adjusted_210 : decode cX11_adjusted 210 = .ok (.getfield 7, 3) := by decide +kernel
theorem dX11_adjusted_213 : decode cX11_adjusted 213 = .ok (.iconst 1, 1) := by decide +kernel
theorem dX11_adjusted_214 : decode cX11_adjusted 214 = .ok (.iaload, 1) := by decide +kernel
theorem dX11_adjusted_215 : decode cX11_adjusted 215 = .ok (.invokestatic 166, 3) := by decide +kernel
theorem dX11_adjusted_218 : decode cX11_adjusted 218 = .ok (.invokevirtual 142, 3) := by decide +kernel
theorem dX11_adjusted_221 : decode cX11_adjusted 221 = .ok (.ireturn, 1) := by decide +kernel
theorem dX11_adjusted_222 : decode cX11_adjusted 222 = .ok (.aload_n 0, 1) := by decide +kernel
theorem dX11_adjusted_223 : decode cX11_adjusted 223 = .ok (.getfield 156, 3) := by decide +kernel
theorem dX11_adjusted_226 : decode cX11_adjusted 226 = .ok (.aload_n 0, 1) := by decide +kernel
theorem dX11_adjusted_227 : decode cX11_adjusted 227 = .ok (.getfield 153, 3) := by decide +kernel
theorem dX11_adjusted_230 : decode cX11_adjusted 230 = .ok (.if_icmp .ne 8, 3) := by decide +kernel
theorem dX11_adjusted_233 : decode cX11_adjusted 233 = .ok (.iload 8, 2) := by decide +kernel
theorem dX11_adjusted_235 : decode cX11_adjusted 235 = .ok (.goto 24, 3) := by decide +kernel
theorem dX11_adjusted_238 : decode cX11_adjusted 238 = .ok (.iload 8, 2) := by decide +kernel
theorem dX11_adjusted_240 : decode cX11_adjusted 240 = .ok (.aload_n 0, 1) := by decide +kernel
theorem dX11_adjusted_241 : decode cX11_adjusted 241 = .ok (.getfield 153, 3) := by decide +kernel
theorem dX11_adjusted_244 : decode cX11_adjusted 244 = .ok (.isub, 1) := by decide +kernel
theorem dX11_adjusted_245 : decode cX11_adjusted 245 = .ok (.sipush 255, 3) := by decide +kernel
theorem dX11_adjusted_248 : decode cX11_adjusted 248 = .ok (.imul, 1) := by decide +kernel
theorem dX11_adjusted_249 : decode cX11_adjusted 249 = .ok (.aload_n 0, 1) := by decide +kernel
theorem dX11_adjusted_250 : decode cX11_adjusted 250 = .ok (.getfield 156, 3) := by decide +kernel
theorem dX11_adjusted_253 : decode cX11_adjusted 253 = .ok (.aload_n 0, 1) := by decide +kernel
theorem dX11_adjusted_254 : decode cX11_adjusted 254 = .ok (.getfield 153, 3) := by decide +kernel
theorem dX11_adjusted_257 : decode cX11_adjusted 257 = .ok (.isub, 1) := by decide +kernel
theorem dX11_adjusted_258 : decode cX11_adjusted 258 = .ok (.idiv, 1) := by decide +kernel
theorem dX11_adjusted_259 : decode cX11_adjusted 259 = .ok (.ireturn, 1) := by decide +kernel
theorem dX11_adjusted_260 : decode cX11_adjusted 260 = .ok (.aload_n 0, 1) := by decide +kernel
theorem dX11_adjusted_261 : decode cX11_adjusted 261 = .ok (.iload 5, 2) := by decide +kernel
theorem dX11_adjusted_263 : decode cX11_adjusted 263 = .ok (.iload 6, 2) := by decide +kernel
theorem dX11_adjusted_265 : decode cX11_adjusted 265 = .ok (.iload 7, 2) := by decide +kernel
theorem dX11_adjusted_267 : decode cX11_adjusted 267 = .ok (.iload 8, 2) := by decide +kernel
theorem dX11_adjusted_269 : decode cX11_adjusted 269 = .ok (.invokevirtual 169, 3) := by decide +kernel
theorem dX11_adjusted_272 : decode cX11_adjusted 272 = .ok (.ireturn, 1) := by decide +kernel
theorem dX11_blend_0 : decode cX11_blend 0 = .ok (.iload_n 0, 1) := by decide +kernel
theorem dX11_blend_1 : decode cX11_blend 1 = .ok (.tableswitch 109 0 6 #[43, 45, 53, 73, 84, 95, 102], 43) := by decide +kernel
theorem dX11_blend_44 : decode cX11_blend 44 = .ok (.iload_n 2, 1) := by decide +kernel
theorem dX11_blend_45 : decode cX11_blend 45 = .ok (.ireturn, 1) := by decide +kernel
theorem dX11_blend_46 : decode cX11_blend 46 = .ok (.iload_n 1, 1) := by decide +kernel
theorem dX11_blend_47 : decode cX11_blend 47 = .ok (.iload_n 2, 1) := by decide +kernel
theorem dX11_blend_48 : decode cX11_blend 48 = .ok (.imul, 1) := by decide +kernel
theorem dX11_blend_49 : decode cX11_blend 49 = .ok (.sipush 255, 3) := by decide +kernel
theorem dX11_blend_52 : decode cX11_blend 52 = .ok (.idiv, 1) := by decide +kernel
theorem dX11_blend_53 : decode cX11_blend 53 = .ok (.ireturn, 1) := by decide +kernel
theorem dX11_blend_54 : decode cX11_blend 54 = .ok (.sipush 255, 3) := by decide +kernel
theorem dX11_blend_57 : decode cX11_blend 57 = .ok (.sipush 255, 3) := by decide +kernel
theorem dX11_blend_60 : decode cX11_blend 60 = .ok (.iload_n 1, 1) := by decide +kernel
theorem dX11_blend_61 : decode cX11_blend 61 = .ok (.isub, 1) := by decide +kernel
theorem dX11_blend_62 : decode cX11_blend 62 = .ok (.sipush 255, 3) := by decide +kernel
theorem dX11_blend_65 : decode cX11_blend 65 = .ok (.iload_n 2, 1) := by decide +kernel
theorem dX11_blend_66 : decode cX11_blend 66 = .ok (.isub, 1) := by decide +kernel
theorem dX11_blend_67 : decode cX11_blend 67 = .ok (.imul, 1) := by decide +kernel
theorem dX11_blend_68 : decode cX11_blend 68 = .ok (.sipush 255, 3) := by decide +kernel
theorem dX11_blend_71 : decode cX11_blend 71 = .ok (.idiv, 1) := by decide +kernel
theorem dX11_blend_72 : decode cX11_blend 72 = .ok (.isub, 1) := by decide +kernel
theorem dX11_blend_73 : decode cX11_blend 73 = .ok (.ireturn, 1) := by decide +kernel
theorem dX11_blend_74 : decode cX11_blend 74 = .ok (.iload_n 1, 1) := by decide +kernel
theorem dX11_blend_75 : decode cX11_blend 75 = .ok (.iload_n 2, 1) := by decide +kernel
theorem dX11_blend_76 : decode cX11_blend 76 = .ok (.if_icmp .le 7, 3) := by decide +kernel
theorem dX11_blend_79 : decode cX11_blend 79 = .ok (.iload_n 1, 1) := by decide +kernel
theorem dX11_blend_80 : decode cX11_blend 80 = .ok (.goto 4, 3) := by decide +kernel
theorem dX11_blend_83 : decode cX11_blend 83 = .ok (.iload_n 2, 1) := by decide +kernel
theorem dX11_blend_84 : decode cX11_blend 84 = .ok (.ireturn, 1) := by decide +kernel
theorem dX11_blend_85 : decode cX11_blend 85 = .ok (.iload_n 1, 1) := by decide +kernel
theorem dX11_blend_86 : decode cX11_blend 86 = .ok (.iload_n 2, 1) := by decide +kernel
theorem dX11_blend_87 : decode cX11_blend 87 = .ok (.if_icmp .ge 7, 3) := by decide +kernel
theorem dX11_blend_90 : decode cX11_blend 90 = .ok (.iload_n 1, 1) := by decide +kernel
theorem dX11_blend_91 : decode cX11_blend 91 = .ok (.goto 4, 3) := by decide +kernel
theorem dX11_blend_94 : decode cX11_blend 94 = .ok (.iload_n 2, 1) := by decide +kernel
theorem dX11_blend_95 : decode cX11_blend 95 = .ok (.ireturn, 1) := by decide +kernel
theorem dX11_blend_96 : decode cX11_blend 96 = .ok (.iload_n 1, 1) := by decide +kernel
theorem dX11_blend_97 : decode cX11_blend 97 = .ok (.iload_n 2, 1) := by decide +kernel
theorem dX11_blend_98 : decode cX11_blend 98 = .ok (.isub, 1) := by decide +kernel
theorem dX11_blend_99 : decode cX11_blend 99 = .ok (.invokestatic 99, 3) := by decide +kernel
theorem dX11_blend_102 : decode cX11_blend 102 = .ok (.ireturn, 1) := by decide +kernel
theorem dX11_blend_103 : decode cX11_blend 103 = .ok (.iload_n 1, 1) := by decide +kernel
theorem dX11_blend_104 : decode cX11_blend 104 = .ok (.iload_n 2, 1) := by decide +kernel
theorem dX11_blend_105 : decode cX11_blend 105 = .ok (.iadd, 1) := by decide +kernel
theorem dX11_blend_106 : decode cX11_blend 106 = .ok (.invokestatic 146, 3) := by decide +kernel
theorem dX11_blend_109 : decode cX11_blend 109 = .ok (.ireturn, 1) := by decide +kernel
theorem dX11_blend_110 : decode cX11_blend 110 = .ok (.iload_n 1, 1) := by decide +kernel
theorem dX11_blend_111 : decode cX11_blend 111 = .ok (.iload_n 2, 1) := by decide +kernel
theorem dX11_blend_112 : decode cX11_blend 112 = .ok (.isub, 1) := by decide +kernel
theorem dX11_blend_113 : decode cX11_blend 113 = .ok (.invokestatic 146, 3) := by decide +kernel
theorem dX11_blend_116 : decode cX11_blend 116 = .ok (.ireturn, 1) := by decide +kernel
theorem dX11_beyond_0 : decode cX11_beyond 0 = .ok (.iload_n 0, 1) := by decide +kernel
theorem dX11_beyond_1 : decode cX11_beyond 1 = .ok (.iload_n 1, 1) := by decide +kernel
theorem dX11_beyond_2 : decode cX11_beyond 2 = .ok (.if_icmp .ge 9, 3) := by decide +kernel
theorem dX11_beyond_5 : decode cX11_beyond 5 = .ok (.iload_n 1, 1) := by decide +kernel
theorem dX11_beyond_6 : decode cX11_beyond 6 = .ok (.iload_n 0, 1) := by decide +kernel
theorem dX11_beyond_7 : decode cX11_beyond 7 = .ok (.isub, 1) := by decide +kernel
theorem dX11_beyond_8 : decode cX11_beyond 8 = .ok (.goto 15, 3) := by decide +kernel
theorem dX11_beyond_11 : decode cX11_beyond 11 = .ok (.iload_n 0, 1) := by decide +kernel
theorem dX11_beyond_12 : decode cX11_beyond 12 = .ok (.iload_n 2, 1) := by decide +kernel
theorem dX11_beyond_13 : decode cX11_beyond 13 = .ok (.if_icmp .le 9, 3) := by decide +kernel
theorem dX11_beyond_16 : decode cX11_beyond 16 = .ok (.iload_n 0, 1) := by decide +kernel
theorem dX11_beyond_17 : decode cX11_beyond 17 = .ok (.iload_n 2, 1) := by decide +kernel
theorem dX11_beyond_18 : decode cX11_beyond 18 = .ok (.isub, 1) := by decide +kernel
theorem dX11_beyond_19 : decode cX11_beyond 19 = .ok (.goto 4, 3) := by decide +kernel
theorem dX11_beyond_22 : decode cX11_beyond 22 = .ok (.iconst 0, 1) := by decide +kernel
theorem dX11_beyond_23 : decode cX11_beyond 23 = .ok (.ireturn, 1) := by decide +kernel
theorem dX11_isDabbed_0 : decode cX11_isDabbed 0 = .ok (.iconst 0, 1) := by decide +kernel
theorem dX11_isDabbed_1 : decode cX11_isDabbed 1 = .ok (.istore 4, 2) := by decide +kernel
theorem dX11_isDabbed_3 : decode cX11_isDabbed 3 = .ok (.iconst 0, 1) := by decide +kernel
theorem dX11_isDabbed_4 : decode cX11_isDabbed 4 = .ok (.istore 5, 2) := by decide +kernel
theorem dX11_isDabbed_6 : decode cX11_isDabbed 6 = .ok (.iload 5, 2) := by decide +kernel
theorem dX11_isDabbed_8 : decode cX11_isDabbed 8 = .ok (.aload_n 0, 1) := by decide +kernel
theorem dX11_isDabbed_9 : decode cX11_isDabbed 9 = .ok (.getfield 7, 3) := by decide +kernel
theorem dX11_isDabbed_12 : decode cX11_isDabbed 12 = .ok (.iload_n 1, 1) := by decide +kernel
theorem dX11_isDabbed_13 : decode cX11_isDabbed 13 = .ok (.bipush 13, 2) := by decide +kernel
theorem dX11_isDabbed_15 : decode cX11_isDabbed 15 = .ok (.iadd, 1) := by decide +kernel
theorem dX11_isDabbed_16 : decode cX11_isDabbed 16 = .ok (.iaload, 1) := by decide +kernel
theorem dX11_isDabbed_17 : decode cX11_isDabbed 17 = .ok (.if_icmp .ge 96, 3) := by decide +kernel
theorem dX11_isDabbed_20 : decode cX11_isDabbed 20 = .ok (.iload_n 2, 1) := by decide +kernel
theorem dX11_isDabbed_21 : decode cX11_isDabbed 21 = .ok (.aload_n 0, 1) := by decide +kernel
theorem dX11_isDabbed_22 : decode cX11_isDabbed 22 = .ok (.getfield 7, 3) := by decide +kernel
theorem dX11_isDabbed_25 : decode cX11_isDabbed 25 = .ok (.iload_n 1, 1) := by decide +kernel
theorem dX11_isDabbed_26 : decode cX11_isDabbed 26 = .ok (.bipush 14, 2) := by decide +kernel
theorem dX11_isDabbed_28 : decode cX11_isDabbed 28 = .ok (.iadd, 1) := by decide +kernel
theorem dX11_isDabbed_29 : decode cX11_isDabbed 29 = .ok (.iconst 3, 1) := by decide +kernel
theorem dX11_isDabbed_30 : decode cX11_isDabbed 30 = .ok (.iload 5, 2) := by decide +kernel
theorem dX11_isDabbed_32 : decode cX11_isDabbed 32 = .ok (.imul, 1) := by decide +kernel
theorem dX11_isDabbed_33 : decode cX11_isDabbed 33 = .ok (.iadd, 1) := by decide +kernel
theorem dX11_isDabbed_34 : decode cX11_isDabbed 34 = .ok (.iaload, 1) := by decide +kernel
theorem dX11_isDabbed_35 : decode cX11_isDabbed 35 = .ok (.isub, 1) := by decide +kernel
theorem dX11_isDabbed_36 : decode cX11_isDabbed 36 = .ok (.istore 6, 2) := by decide +kernel
theorem dX11_isDabbed_38 : decode cX11_isDabbed 38 = .ok (.iload_n 3, 1) := by decide +kernel
theorem dX11_isDabbed_39 : decode cX11_isDabbed 39 = .ok (.aload_n 0, 1) := by decide +kernel
theorem dX11_isDabbed_40 : decode cX11_isDabbed 40 = .ok (.getfield 7, 3) := by decide +kernel
theorem dX11_isDabbed_43 : decode cX11_isDabbed 43 = .ok (.iload_n 1, 1) := by decide +kernel
theorem dX11_isDabbed_44 : decode cX11_isDabbed 44 = .ok (.bipush 14, 2) := by decide +kernel
theorem dX11_isDabbed_46 : decode cX11_isDabbed 46 = .ok (.iadd, 1) := by decide +kernel
theorem dX11_isDabbed_47 : decode cX11_isDabbed 47 = .ok (.iconst 3, 1) := by decide +kernel
theorem dX11_isDabbed_48 : decode cX11_isDabbed 48 = .ok (.iload 5, 2) := by decide +kernel
theorem dX11_isDabbed_50 : decode cX11_isDabbed 50 = .ok (.imul, 1) := by decide +kernel
theorem dX11_isDabbed_51 : decode cX11_isDabbed 51 = .ok (.iadd, 1) := by decide +kernel
theorem dX11_isDabbed_52 : decode cX11_isDabbed 52 = .ok (.iconst 1, 1) := by decide +kernel
theorem dX11_isDabbed_53 : decode cX11_isDabbed 53 = .ok (.iadd, 1) := by decide +kernel
theorem dX11_isDabbed_54 : decode cX11_isDabbed 54 = .ok (.iaload, 1) := by decide +kernel
theorem dX11_isDabbed_55 : decode cX11_isDabbed 55 = .ok (.isub, 1) := by decide +kernel
theorem dX11_isDabbed_56 : decode cX11_isDabbed 56 = .ok (.istore 7, 2) := by decide +kernel
theorem dX11_isDabbed_58 : decode cX11_isDabbed 58 = .ok (.aload_n 0, 1) := by decide +kernel
theorem dX11_isDabbed_59 : decode cX11_isDabbed 59 = .ok (.getfield 7, 3) := by decide +kernel
theorem dX11_isDabbed_62 : decode cX11_isDabbed 62 = .ok (.iload_n 1, 1) := by decide +kernel
theorem dX11_isDabbed_63 : decode cX11_isDabbed 63 = .ok (.bipush 14, 2) := by decide +kernel
theorem dX11_isDabbed_65 : decode cX11_isDabbed 65 = .ok (.iadd, 1) := by decide +kernel
theorem dX11_isDabbed_66 : decode cX11_isDabbed 66 = .ok (.iconst 3, 1) := by decide +kernel
theorem dX11_isDabbed_67 : decode cX11_isDabbed 67 = .ok (.iload 5, 2) := by decide +kernel
theorem dX11_isDabbed_69 : decode cX11_isDabbed 69 = .ok (.imul, 1) := by decide +kernel
theorem dX11_isDabbed_70 : decode cX11_isDabbed 70 = .ok (.iadd, 1) := by decide +kernel
theorem dX11_isDabbed_71 : decode cX11_isDabbed 71 = .ok (.iconst 2, 1) := by decide +kernel
theorem dX11_isDabbed_72 : decode cX11_isDabbed 72 = .ok (.iadd, 1) := by decide +kernel
theorem dX11_isDabbed_73 : decode cX11_isDabbed 73 = .ok (.iaload, 1) := by decide +kernel
theorem dX11_isDabbed_74 : decode cX11_isDabbed 74 = .ok (.istore 8, 2) := by decide +kernel
theorem dX11_isDabbed_76 : decode cX11_isDabbed 76 = .ok (.iload 4, 2) := by decide +kernel
theorem dX11_isDabbed_78 : decode cX11_isDabbed 78 = .ok (.ifCond .ne 22, 3) := by decide +kernel
theorem dX11_isDabbed_81 : decode cX11_isDabbed 81 = .ok (.iload 6, 2) := by decide +kernel
theorem dX11_isDabbed_83 : decode cX11_isDabbed 83 = .ok (.iload 6, 2) := by decide +kernel
theorem dX11_isDabbed_85 : decode cX11_isDabbed 85 = .ok (.imul, 1) := by decide +kernel
theorem dX11_isDabbed_86 : decode cX11_isDabbed 86 = .ok (.iload 7, 2) := by decide +kernel
theorem dX11_isDabbed_88 : decode cX11_isDabbed 88 = .ok (.iload 7, 2) := by decide +kernel
theorem dX11_isDabbed_90 : decode cX11_isDabbed 90 = .ok (.imul, 1) := by decide +kernel
theorem dX11_isDabbed_91 : decode cX11_isDabbed 91 = .ok (.iadd, 1) := by decide +kernel
theorem dX11_isDabbed_92 : decode cX11_isDabbed 92 = .ok (.iload 8, 2) := by decide +kernel
theorem dX11_isDabbed_94 : decode cX11_isDabbed 94 = .ok (.iload 8, 2) := by decide +kernel
theorem dX11_isDabbed_96 : decode cX11_isDabbed 96 = .ok (.imul, 1) := by decide +kernel
theorem dX11_isDabbed_97 : decode cX11_isDabbed 97 = .ok (.if_icmp .gt 7, 3) := by decide +kernel
theorem dX11_isDabbed_100 : decode cX11_isDabbed 100 = .ok (.iconst 1, 1) := by decide +kernel
theorem dX11_isDabbed_101 : decode cX11_isDabbed 101 = .ok (.goto 4, 3) := by decide +kernel
theorem dX11_isDabbed_104 : decode cX11_isDabbed 104 = .ok (.iconst 0, 1) := by decide +kernel
theorem dX11_isDabbed_105 : decode cX11_isDabbed 105 = .ok (.istore 4, 2) := by decide +kernel
theorem dX11_isDabbed_107 : decode cX11_isDabbed 107 = .ok (.iinc 5 1, 3) := by decide +kernel
theorem dX11_isDabbed_110 : decode cX11_isDabbed 110 = .ok (.goto (-104), 3) := by decide +kernel
theorem dX11_isDabbed_113 : decode cX11_isDabbed 113 = .ok (.iload 4, 2) := by decide +kernel
theorem dX11_isDabbed_115 : decode cX11_isDabbed 115 = .ok (.ireturn, 1) := by decide +kernel
theorem dX11_plainMask_0 : decode cX11_plainMask 0 = .ok (.aload_n 0, 1) := by decide +kernel
theorem dX11_plainMask_1 : decode cX11_plainMask 1 = .ok (.getfield 7, 3) := by decide +kernel
theorem dX11_plainMask_4 : decode cX11_plainMask 4 = .ok (.iload_n 1, 1) := by decide +kernel
theorem dX11_plainMask_5 : decode cX11_plainMask 5 = .ok (.bipush 7, 2) := by decide +kernel
theorem dX11_plainMask_7 : decode cX11_plainMask 7 = .ok (.iadd, 1) := by decide +kernel
theorem dX11_plainMask_8 : decode cX11_plainMask 8 = .ok (.iaload, 1) := by decide +kernel
theorem dX11_plainMask_9 : decode cX11_plainMask 9 = .ok (.istore 5, 2) := by decide +kernel
theorem dX11_plainMask_11 : decode cX11_plainMask 11 = .ok (.aload_n 0, 1) := by decide +kernel
theorem dX11_plainMask_12 : decode cX11_plainMask 12 = .ok (.getfield 7, 3) := by decide +kernel
theorem dX11_plainMask_15 : decode cX11_plainMask 15 = .ok (.iload_n 1, 1) := by decide +kernel
theorem dX11_plainMask_16 : decode cX11_plainMask 16 = .ok (.bipush 7, 2) := by decide +kernel
theorem dX11_plainMask_18 : decode cX11_plainMask 18 = .ok (.iadd, 1) := by decide +kernel
theorem dX11_plainMask_19 : decode cX11_plainMask 19 = .ok (.iconst 1, 1) := by decide +kernel
theorem dX11_plainMask_20 : decode cX11_plainMask 20 = .ok (.iadd, 1) := by decide +kernel
theorem dX11_plainMask_21 : decode cX11_plainMask 21 = .ok (.iaload, 1) := by decide +kernel
theorem dX11_plainMask_22 : decode cX11_plainMask 22 = .ok (.istore 6, 2) := by decide +kernel
theorem dX11_plainMask_24 : decode cX11_plainMask 24 = .ok (.aload_n 0, 1) := by decide +kernel
theorem dX11_plainMask_25 : decode cX11_plainMask 25 = .ok (.getfield 7, 3) := by decide +kernel
theorem dX11_plainMask_28 : decode cX11_plainMask 28 = .ok (.iload_n 1, 1) := by decide +kernel
theorem dX11_plainMask_29 : decode cX11_plainMask 29 = .ok (.bipush 7, 2) := by decide +kernel
theorem dX11_plainMask_31 : decode cX11_plainMask 31 = .ok (.iadd, 1) := by decide +kernel
theorem dX11_plainMask_32 : decode cX11_plainMask 32 = .ok (.iconst 2, 1) := by decide +kernel
theorem dX11_plainMask_33 : decode cX11_plainMask 33 = .ok (.iadd, 1) := by decide +kernel
theorem dX11_plainMask_34 : decode cX11_plainMask 34 = .ok (.iaload, 1) := by decide +kernel
theorem dX11_plainMask_35 : decode cX11_plainMask 35 = .ok (.istore 7, 2) := by decide +kernel
theorem dX11_plainMask_37 : decode cX11_plainMask 37 = .ok (.aload_n 0, 1) := by decide +kernel
theorem dX11_plainMask_38 : decode cX11_plainMask 38 = .ok (.getfield 7, 3) := by decide +kernel
theorem dX11_plainMask_41 : decode cX11_plainMask 41 = .ok (.iload_n 1, 1) := by decide +kernel
theorem dX11_plainMask_42 : decode cX11_plainMask 42 = .ok (.bipush 7, 2) := by decide +kernel
theorem dX11_plainMask_44 : decode cX11_plainMask 44 = .ok (.iadd, 1) := by decide +kernel
theorem dX11_plainMask_45 : decode cX11_plainMask 45 = .ok (.iconst 3, 1) := by decide +kernel
theorem dX11_plainMask_46 : decode cX11_plainMask 46 = .ok (.iadd, 1) := by decide +kernel
theorem dX11_plainMask_47 : decode cX11_plainMask 47 = .ok (.iaload, 1) := by decide +kernel
theorem dX11_plainMask_48 : decode cX11_plainMask 48 = .ok (.istore 8, 2) := by decide +kernel
theorem dX11_plainMask_50 : decode cX11_plainMask 50 = .ok (.aload_n 0, 1) := by decide +kernel
theorem dX11_plainMask_51 : decode cX11_plainMask 51 = .ok (.getfield 7, 3) := by decide +kernel
theorem dX11_plainMask_54 : decode cX11_plainMask 54 = .ok (.iload_n 1, 1) := by decide +kernel
theorem dX11_plainMask_55 : decode cX11_plainMask 55 = .ok (.bipush 6, 2) := by decide +kernel
theorem dX11_plainMask_57 : decode cX11_plainMask 57 = .ok (.iadd, 1) := by decide +kernel
theorem dX11_plainMask_58 : decode cX11_plainMask 58 = .ok (.iaload, 1) := by decide +kernel
theorem dX11_plainMask_59 : decode cX11_plainMask 59 = .ok (.tableswitch 159 0 3 #[29, 33, 119, 156], 29) := by decide +kernel
theorem dX11_plainMask_88 : decode cX11_plainMask 88 = .ok (.sipush 255, 3) := by decide +kernel
theorem dX11_plainMask_91 : decode cX11_plainMask 91 = .ok (.ireturn, 1) := by decide +kernel
theorem dX11_plainMask_92 : decode cX11_plainMask 92 = .ok (.iload_n 2, 1) := by decide +kernel
theorem dX11_plainMask_93 : decode cX11_plainMask 93 = .ok (.iload 5, 2) := by decide +kernel
theorem dX11_plainMask_95 : decode cX11_plainMask 95 = .ok (.iload 7, 2) := by decide +kernel
theorem dX11_plainMask_97 : decode cX11_plainMask 97 = .ok (.invokestatic 172, 3) := by decide +kernel
theorem dX11_plainMask_100 : decode cX11_plainMask 100 = .ok (.istore 9, 2) := by decide +kernel
theorem dX11_plainMask_102 : decode cX11_plainMask 102 = .ok (.iload_n 3, 1) := by decide +kernel
theorem dX11_plainMask_103 : decode cX11_plainMask 103 = .ok (.iload 6, 2) := by decide +kernel
theorem dX11_plainMask_105 : decode cX11_plainMask 105 = .ok (.iload 8, 2) := by decide +kernel
theorem dX11_plainMask_107 : decode cX11_plainMask 107 = .ok (.invokestatic 172, 3) := by decide +kernel
theorem dX11_plainMask_110 : decode cX11_plainMask 110 = .ok (.istore 10, 2) := by decide +kernel
theorem dX11_plainMask_112 : decode cX11_plainMask 112 = .ok (.iload 9, 2) := by decide +kernel
theorem dX11_plainMask_114 : decode cX11_plainMask 114 = .ok (.iload 10, 2) := by decide +kernel
theorem dX11_plainMask_116 : decode cX11_plainMask 116 = .ok (.if_icmp .le 8, 3) := by decide +kernel
theorem dX11_plainMask_119 : decode cX11_plainMask 119 = .ok (.iload 9, 2) := by decide +kernel
theorem dX11_plainMask_121 : decode cX11_plainMask 121 = .ok (.goto 5, 3) := by decide +kernel
theorem dX11_plainMask_124 : decode cX11_plainMask 124 = .ok (.iload 10, 2) := by decide +kernel
theorem dX11_plainMask_126 : decode cX11_plainMask 126 = .ok (.istore 11, 2) := by decide +kernel
theorem dX11_plainMask_128 : decode cX11_plainMask 128 = .ok (.aload_n 0, 1) := by decide +kernel
theorem dX11_plainMask_129 : decode cX11_plainMask 129 = .ok (.getfield 7, 3) := by decide +kernel
theorem dX11_plainMask_132 : decode cX11_plainMask 132 = .ok (.iload_n 1, 1) := by decide +kernel
theorem dX11_plainMask_133 : decode cX11_plainMask 133 = .ok (.bipush 11, 2) := by decide +kernel
theorem dX11_plainMask_135 : decode cX11_plainMask 135 = .ok (.iadd, 1) := by decide +kernel
theorem dX11_plainMask_136 : decode cX11_plainMask 136 = .ok (.iaload, 1) := by decide +kernel
theorem dX11_plainMask_137 : decode cX11_plainMask 137 = .ok (.istore 12, 2) := by decide +kernel
theorem dX11_plainMask_139 : decode cX11_plainMask 139 = .ok (.iload 11, 2) := by decide +kernel
theorem dX11_plainMask_141 : decode cX11_plainMask 141 = .ok (.ifCond .ne 9, 3) := by decide +kernel
theorem dX11_plainMask_144 : decode cX11_plainMask 144 = .ok (.sipush 255, 3) := by decide +kernel
theorem dX11_plainMask_147 : decode cX11_plainMask 147 = .ok (.goto 30, 3) := by decide +kernel
theorem dX11_plainMask_150 : decode cX11_plainMask 150 = .ok (.iload 11, 2) := by decide +kernel
theorem dX11_plainMask_152 : decode cX11_plainMask 152 = .ok (.iload 12, 2) := by decide +kernel
theorem dX11_plainMask_154 : decode cX11_plainMask 154 = .ok (.if_icmp .gt 22, 3) := by decide +kernel
theorem dX11_plainMask_157 : decode cX11_plainMask 157 = .ok (.sipush 255, 3) := by decide +kernel
theorem dX11_plainMask_160 : decode cX11_plainMask 160 = .ok (.iload 12, 2) := by decide +kernel
theorem dX11_plainMask_162 : decode cX11_plainMask 162 = .ok (.iconst 1, 1) := by decide +kernel
theorem dX11_plainMask_163 : decode cX11_plainMask 163 = .ok (.iadd, 1) := by decide +kernel
theorem dX11_plainMask_164 : decode cX11_plainMask 164 = .ok (.iload 11, 2) := by decide +kernel
theorem dX11_plainMask_166 : decode cX11_plainMask 166 = .ok (.isub, 1) := by decide +kernel
theorem dX11_plainMask_167 : decode cX11_plainMask 167 = .ok (.imul, 1) := by decide +kernel
theorem dX11_plainMask_168 : decode cX11_plainMask 168 = .ok (.iload 12, 2) := by decide +kernel
theorem dX11_plainMask_170 : decode cX11_plainMask 170 = .ok (.iconst 1, 1) := by decide +kernel
theorem dX11_plainMask_171 : decode cX11_plainMask 171 = .ok (.iadd, 1) := by decide +kernel
theorem dX11_plainMask_172 : decode cX11_plainMask 172 = .ok (.idiv, 1) := by decide +kernel
theorem dX11_plainMask_173 : decode cX11_plainMask 173 = .ok (.goto 4, 3) := by decide +kernel
theorem dX11_plainMask_176 : decode cX11_plainMask 176 = .ok (.iconst 0, 1) := by decide +kernel
theorem dX11_plainMask_177 : decode cX11_plainMask 177 = .ok (.ireturn, 1) := by decide +kernel
theorem dX11_plainMask_178 : decode cX11_plainMask 178 = .ok (.iload_n 2, 1) := by decide +kernel
theorem dX11_plainMask_179 : decode cX11_plainMask 179 = .ok (.iload 5, 2) := by decide +kernel
theorem dX11_plainMask_181 : decode cX11_plainMask 181 = .ok (.if_icmp .gt 7, 3) := by decide +kernel
theorem dX11_plainMask_184 : decode cX11_plainMask 184 = .ok (.iconst 0, 1) := by decide +kernel
theorem dX11_plainMask_185 : decode cX11_plainMask 185 = .ok (.goto 29, 3) := by decide +kernel
theorem dX11_plainMask_188 : decode cX11_plainMask 188 = .ok (.iload_n 2, 1) := by decide +kernel
theorem dX11_plainMask_189 : decode cX11_plainMask 189 = .ok (.iload 7, 2) := by decide +kernel
theorem dX11_plainMask_191 : decode cX11_plainMask 191 = .ok (.if_icmp .lt 9, 3) := by decide +kernel
theorem dX11_plainMask_194 : decode cX11_plainMask 194 = .ok (.sipush 255, 3) := by decide +kernel
theorem dX11_plainMask_197 : decode cX11_plainMask 197 = .ok (.goto 17, 3) := by decide +kernel
theorem dX11_plainMask_200 : decode cX11_plainMask 200 = .ok (.sipush 255, 3) := by decide +kernel
theorem dX11_plainMask_203 : decode cX11_plainMask 203 = .ok (.iload_n 2, 1) := by decide +kernel
theorem dX11_plainMask_204 : decode cX11_plainMask 204 = .ok (.iload 5, 2) := by decide +kernel
theorem dX11_plainMask_206 : decode cX11_plainMask 206 = .ok (.isub, 1) := by decide +kernel
theorem dX11_plainMask_207 : decode cX11_plainMask 207 = .ok (.imul, 1) := by decide +kernel
theorem dX11_plainMask_208 : decode cX11_plainMask 208 = .ok (.iload 7, 2) := by decide +kernel
theorem dX11_plainMask_210 : decode cX11_plainMask 210 = .ok (.iload 5, 2) := by decide +kernel
theorem dX11_plainMask_212 : decode cX11_plainMask 212 = .ok (.isub, 1) := by decide +kernel
theorem dX11_plainMask_213 : decode cX11_plainMask 213 = .ok (.idiv, 1) := by decide +kernel
theorem dX11_plainMask_214 : decode cX11_plainMask 214 = .ok (.ireturn, 1) := by decide +kernel
theorem dX11_plainMask_215 : decode cX11_plainMask 215 = .ok (.iload 4, 2) := by decide +kernel
theorem dX11_plainMask_217 : decode cX11_plainMask 217 = .ok (.ireturn, 1) := by decide +kernel
theorem dX11_plainMask_218 : decode cX11_plainMask 218 = .ok (.aload_n 0, 1) := by decide +kernel
theorem dX11_plainMask_219 : decode cX11_plainMask 219 = .ok (.iload_n 1, 1) := by decide +kernel
theorem dX11_plainMask_220 : decode cX11_plainMask 220 = .ok (.iload_n 2, 1) := by decide +kernel
theorem dX11_plainMask_221 : decode cX11_plainMask 221 = .ok (.iload_n 3, 1) := by decide +kernel
theorem dX11_plainMask_222 : decode cX11_plainMask 222 = .ok (.invokevirtual 175, 3) := by decide +kernel
theorem dX11_plainMask_225 : decode cX11_plainMask 225 = .ok (.ifCond .eq 9, 3) := by decide +kernel
theorem dX11_plainMask_228 : decode cX11_plainMask 228 = .ok (.sipush 255, 3) := by decide +kernel
theorem dX11_plainMask_231 : decode cX11_plainMask 231 = .ok (.goto 4, 3) := by decide +kernel
theorem dX11_plainMask_234 : decode cX11_plainMask 234 = .ok (.iconst 0, 1) := by decide +kernel
theorem dX11_plainMask_235 : decode cX11_plainMask 235 = .ok (.ireturn, 1) := by decide +kernel
theorem dX11_maskAt_0 : decode cX11_maskAt 0 = .ok (.aload_n 0, 1) := by decide +kernel
theorem dX11_maskAt_1 : decode cX11_maskAt 1 = .ok (.iload_n 1, 1) := by decide +kernel
theorem dX11_maskAt_2 : decode cX11_maskAt 2 = .ok (.iload_n 2, 1) := by decide +kernel
theorem dX11_maskAt_3 : decode cX11_maskAt 3 = .ok (.iload_n 3, 1) := by decide +kernel
theorem dX11_maskAt_4 : decode cX11_maskAt 4 = .ok (.iload 4, 2) := by decide +kernel
theorem dX11_maskAt_6 : decode cX11_maskAt 6 = .ok (.invokevirtual 178, 3) := by decide +kernel
theorem dX11_maskAt_9 : decode cX11_maskAt 9 = .ok (.istore 5, 2) := by decide +kernel
theorem dX11_maskAt_11 : decode cX11_maskAt 11 = .ok (.aload_n 0, 1) := by decide +kernel
theorem dX11_maskAt_12 : decode cX11_maskAt 12 = .ok (.getfield 7, 3) := by decide +kernel
theorem dX11_maskAt_15 : decode cX11_maskAt 15 = .ok (.iload_n 1, 1) := by decide +kernel
theorem dX11_maskAt_16 : decode cX11_maskAt 16 = .ok (.bipush 12, 2) := by decide +kernel
theorem dX11_maskAt_18 : decode cX11_maskAt 18 = .ok (.iadd, 1) := by decide +kernel
theorem dX11_maskAt_19 : decode cX11_maskAt 19 = .ok (.iaload, 1) := by decide +kernel
theorem dX11_maskAt_20 : decode cX11_maskAt 20 = .ok (.iconst 1, 1) := by decide +kernel
theorem dX11_maskAt_21 : decode cX11_maskAt 21 = .ok (.if_icmp .ne 12, 3) := by decide +kernel
theorem dX11_maskAt_24 : decode cX11_maskAt 24 = .ok (.sipush 255, 3) := by decide +kernel
theorem dX11_maskAt_27 : decode cX11_maskAt 27 = .ok (.iload 5, 2) := by decide +kernel
theorem dX11_maskAt_29 : decode cX11_maskAt 29 = .ok (.isub, 1) := by decide +kernel
theorem dX11_maskAt_30 : decode cX11_maskAt 30 = .ok (.goto 5, 3) := by decide +kernel
theorem dX11_maskAt_33 : decode cX11_maskAt 33 = .ok (.iload 5, 2) := by decide +kernel
theorem dX11_maskAt_35 : decode cX11_maskAt 35 = .ok (.ireturn, 1) := by decide +kernel
theorem dX11_computeLayer_0 : decode cX11_computeLayer 0 = .ok (.iload_n 1, 1) := by decide +kernel
theorem dX11_computeLayer_1 : decode cX11_computeLayer 1 = .ok (.invokestatic 95, 3) := by decide +kernel
theorem dX11_computeLayer_4 : decode cX11_computeLayer 4 = .ok (.istore_n 2, 1) := by decide +kernel
theorem dX11_computeLayer_5 : decode cX11_computeLayer 5 = .ok (.sipush 256, 3) := by decide +kernel
theorem dX11_computeLayer_8 : decode cX11_computeLayer 8 = .ok (.iload_n 1, 1) := by decide +kernel
theorem dX11_computeLayer_9 : decode cX11_computeLayer 9 = .ok (.imul, 1) := by decide +kernel
theorem dX11_computeLayer_10 : decode cX11_computeLayer 10 = .ok (.istore_n 3, 1) := by decide +kernel
theorem dX11_computeLayer_11 : decode cX11_computeLayer 11 = .ok (.aload_n 0, 1) := by decide +kernel
theorem dX11_computeLayer_12 : decode cX11_computeLayer 12 = .ok (.iload_n 3, 1) := by decide +kernel
theorem dX11_computeLayer_13 : decode cX11_computeLayer 13 = .ok (.invokevirtual 181, 3) := by decide +kernel
theorem dX11_computeLayer_16 : decode cX11_computeLayer 16 = .ok (.iconst 0, 1) := by decide +kernel
theorem dX11_computeLayer_17 : decode cX11_computeLayer 17 = .ok (.istore 4, 2) := by decide +kernel
theorem dX11_computeLayer_19 : decode cX11_computeLayer 19 = .ok (.iload 4, 2) := by decide +kernel
theorem dX11_computeLayer_21 : decode cX11_computeLayer 21 = .ok (.aload_n 0, 1) := by decide +kernel
theorem dX11_computeLayer_22 : decode cX11_computeLayer 22 = .ok (.getfield 7, 3) := by decide +kernel
theorem dX11_computeLayer_25 : decode cX11_computeLayer 25 = .ok (.iconst 1, 1) := by decide +kernel
theorem dX11_computeLayer_26 : decode cX11_computeLayer 26 = .ok (.iaload, 1) := by decide +kernel
theorem dX11_computeLayer_27 : decode cX11_computeLayer 27 = .ok (.if_icmp .ge 140, 3) := by decide +kernel
theorem dX11_computeLayer_30 : decode cX11_computeLayer 30 = .ok (.iconst 0, 1) := by decide +kernel
theorem dX11_computeLayer_31 : decode cX11_computeLayer 31 = .ok (.istore 5, 2) := by decide +kernel
theorem dX11_computeLayer_33 : decode cX11_computeLayer 33 = .ok (.iload 5, 2) := by decide +kernel
theorem dX11_computeLayer_35 : decode cX11_computeLayer 35 = .ok (.aload_n 0, 1) := by decide +kernel
theorem dX11_computeLayer_36 : decode cX11_computeLayer 36 = .ok (.getfield 7, 3) := by decide +kernel
theorem dX11_computeLayer_39 : decode cX11_computeLayer 39 = .ok (.iconst 0, 1) := by decide +kernel
theorem dX11_computeLayer_40 : decode cX11_computeLayer 40 = .ok (.iaload, 1) := by decide +kernel
theorem dX11_computeLayer_41 : decode cX11_computeLayer 41 = .ok (.if_icmp .ge 120, 3) := by decide +kernel
theorem dX11_computeLayer_44 : decode cX11_computeLayer 44 = .ok (.aload_n 0, 1) := by decide +kernel
theorem dX11_computeLayer_45 : decode cX11_computeLayer 45 = .ok (.iload_n 3, 1) := by decide +kernel
theorem dX11_computeLayer_46 : decode cX11_computeLayer 46 = .ok (.iload 5, 2) := by decide +kernel
theorem dX11_computeLayer_48 : decode cX11_computeLayer 48 = .ok (.iload 4, 2) := by decide +kernel
theorem dX11_computeLayer_50 : decode cX11_computeLayer 50 = .ok (.invokevirtual 142, 3) := by decide +kernel
theorem dX11_computeLayer_53 : decode cX11_computeLayer 53 = .ok (.istore 6, 2) := by decide +kernel
theorem dX11_computeLayer_55 : decode cX11_computeLayer 55 = .ok (.aload_n 0, 1) := by decide +kernel
theorem dX11_computeLayer_56 : decode cX11_computeLayer 56 = .ok (.getfield 7, 3) := by decide +kernel
theorem dX11_computeLayer_59 : decode cX11_computeLayer 59 = .ok (.iload_n 2, 1) := by decide +kernel
theorem dX11_computeLayer_60 : decode cX11_computeLayer 60 = .ok (.iconst 3, 1) := by decide +kernel
theorem dX11_computeLayer_61 : decode cX11_computeLayer 61 = .ok (.iadd, 1) := by decide +kernel
theorem dX11_computeLayer_62 : decode cX11_computeLayer 62 = .ok (.iaload, 1) := by decide +kernel
theorem dX11_computeLayer_63 : decode cX11_computeLayer 63 = .ok (.iload 6, 2) := by decide +kernel
theorem dX11_computeLayer_65 : decode cX11_computeLayer 65 = .ok (.aload_n 0, 1) := by decide +kernel
theorem dX11_computeLayer_66 : decode cX11_computeLayer 66 = .ok (.iload_n 2, 1) := by decide +kernel
theorem dX11_computeLayer_67 : decode cX11_computeLayer 67 = .ok (.iload_n 3, 1) := by decide +kernel
theorem dX11_computeLayer_68 : decode cX11_computeLayer 68 = .ok (.iload 5, 2) := by decide +kernel
theorem dX11_computeLayer_70 : decode cX11_computeLayer 70 = .ok (.iload 4, 2) := by decide +kernel
theorem dX11_computeLayer_72 : decode cX11_computeLayer 72 = .ok (.invokevirtual 184, 3) := by decide +kernel
theorem dX11_computeLayer_75 : decode cX11_computeLayer 75 = .ok (.invokestatic 187, 3) := by decide +kernel
theorem dX11_computeLayer_78 : decode cX11_computeLayer 78 = .ok (.istore 7, 2) := by decide +kernel
theorem dX11_computeLayer_80 : decode cX11_computeLayer 80 = .ok (.iload 6, 2) := by decide +kernel
theorem dX11_computeLayer_82 : decode cX11_computeLayer 82 = .ok (.iload 7, 2) := by decide +kernel
theorem dX11_computeLayer_84 : decode cX11_computeLayer 84 = .ok (.iload 6, 2) := by decide +kernel
theorem dX11_computeLayer_86 : decode cX11_computeLayer 86 = .ok (.isub, 1) := by decide +kernel
theorem dX11_computeLayer_87 : decode cX11_computeLayer 87 = .ok (.aload_n 0, 1) := by decide +kernel
theorem dX11_computeLayer_88 : decode cX11_computeLayer 88 = .ok (.getfield 7, 3) := by decide +kernel
theorem dX11_computeLayer_91 : decode cX11_computeLayer 91 = .ok (.iload_n 2, 1) := by decide +kernel
theorem dX11_computeLayer_92 : decode cX11_computeLayer 92 = .ok (.iconst 4, 1) := by decide +kernel
theorem dX11_computeLayer_93 : decode cX11_computeLayer 93 = .ok (.iadd, 1) := by decide +kernel
theorem dX11_computeLayer_94 : decode cX11_computeLayer 94 = .ok (.iaload, 1) := by decide +kernel
theorem dX11_computeLayer_95 : decode cX11_computeLayer 95 = .ok (.imul, 1) := by decide +kernel
theorem dX11_computeLayer_96 : decode cX11_computeLayer 96 = .ok (.aload_n 0, 1) := by decide +kernel
theorem dX11_computeLayer_97 : decode cX11_computeLayer 97 = .ok (.iload_n 2, 1) := by decide +kernel
theorem dX11_computeLayer_98 : decode cX11_computeLayer 98 = .ok (.iload 5, 2) := by decide +kernel
theorem dX11_computeLayer_100 : decode cX11_computeLayer 100 = .ok (.iload 4, 2) := by decide +kernel
theorem dX11_computeLayer_102 : decode cX11_computeLayer 102 = .ok (.iload 6, 2) := by decide +kernel
theorem dX11_computeLayer_104 : decode cX11_computeLayer 104 = .ok (.invokevirtual 190, 3) := by decide +kernel
theorem dX11_computeLayer_107 : decode cX11_computeLayer 107 = .ok (.imul, 1) := by decide +kernel
theorem dX11_computeLayer_108 : decode cX11_computeLayer 108 = .ok (.sipush 25500, 3) := by decide +kernel
theorem dX11_computeLayer_111 : decode cX11_computeLayer 111 = .ok (.invokestatic 149, 3) := by decide +kernel
theorem dX11_computeLayer_114 : decode cX11_computeLayer 114 = .ok (.iadd, 1) := by decide +kernel
theorem dX11_computeLayer_115 : decode cX11_computeLayer 115 = .ok (.istore 8, 2) := by decide +kernel
theorem dX11_computeLayer_117 : decode cX11_computeLayer 117 = .ok (.aload_n 0, 1) := by decide +kernel
theorem dX11_computeLayer_118 : decode cX11_computeLayer 118 = .ok (.getfield 66, 3) := by decide +kernel
theorem dX11_computeLayer_121 : decode cX11_computeLayer 121 = .ok (.iload_n 3, 1) := by decide +kernel
theorem dX11_computeLayer_122 : decode cX11_computeLayer 122 = .ok (.sipush 256, 3) := by decide +kernel
theorem dX11_computeLayer_125 : decode cX11_computeLayer 125 = .ok (.iadd, 1) := by decide +kernel
theorem dX11_computeLayer_126 : decode cX11_computeLayer 126 = .ok (.iload 4, 2) := by decide +kernel
theorem dX11_computeLayer_128 : decode cX11_computeLayer 128 = .ok (.aload_n 0, 1) := by decide +kernel
theorem dX11_computeLayer_129 : decode cX11_computeLayer 129 = .ok (.getfield 7, 3) := by decide +kernel
theorem dX11_computeLayer_132 : decode cX11_computeLayer 132 = .ok (.iconst 0, 1) := by decide +kernel
theorem dX11_computeLayer_133 : decode cX11_computeLayer 133 = .ok (.iaload, 1) := by decide +kernel
theorem dX11_computeLayer_134 : decode cX11_computeLayer 134 = .ok (.imul, 1) := by decide +kernel
theorem dX11_computeLayer_135 : decode cX11_computeLayer 135 = .ok (.iadd, 1) := by decide +kernel
theorem dX11_computeLayer_136 : decode cX11_computeLayer 136 = .ok (.iload 5, 2) := by decide +kernel
theorem dX11_computeLayer_138 : decode cX11_computeLayer 138 = .ok (.iadd, 1) := by decide +kernel
theorem dX11_computeLayer_139 : decode cX11_computeLayer 139 = .ok (.aload_n 0, 1) := by decide +kernel
theorem dX11_computeLayer_140 : decode cX11_computeLayer 140 = .ok (.iload_n 1, 1) := by decide +kernel
theorem dX11_computeLayer_141 : decode cX11_computeLayer 141 = .ok (.invokevirtual 102, 3) := by decide +kernel
theorem dX11_computeLayer_144 : decode cX11_computeLayer 144 = .ok (.ifCond .eq 8, 3) := by decide +kernel
theorem dX11_computeLayer_147 : decode cX11_computeLayer 147 = .ok (.iload 8, 2) := by decide +kernel
theorem dX11_computeLayer_149 : decode cX11_computeLayer 149 = .ok (.goto 5, 3) := by decide +kernel
theorem dX11_computeLayer_152 : decode cX11_computeLayer 152 = .ok (.iload 6, 2) := by decide +kernel
theorem dX11_computeLayer_154 : decode cX11_computeLayer 154 = .ok (.iastore, 1) := by decide +kernel
theorem dX11_computeLayer_155 : decode cX11_computeLayer 155 = .ok (.iinc 5 1, 3) := by decide +kernel
theorem dX11_computeLayer_158 : decode cX11_computeLayer 158 = .ok (.goto (-125), 3) := by decide +kernel
theorem dX11_computeLayer_161 : decode cX11_computeLayer 161 = .ok (.iinc 4 1, 3) := by decide +kernel
theorem dX11_computeLayer_164 : decode cX11_computeLayer 164 = .ok (.goto (-145), 3) := by decide +kernel
theorem dX11_computeLayer_167 : decode cX11_computeLayer 167 = .ok (.return_, 1) := by decide +kernel
theorem dX11_compute_0 : decode cX11_compute 0 = .ok (.iconst 0, 1) := by decide +kernel
theorem dX11_compute_1 : decode cX11_compute 1 = .ok (.istore_n 2, 1) := by decide +kernel
theorem dX11_compute_2 : decode cX11_compute 2 = .ok (.iload_n 2, 1) := by decide +kernel
theorem dX11_compute_3 : decode cX11_compute 3 = .ok (.sipush 256, 3) := by decide +kernel
theorem dX11_compute_6 : decode cX11_compute 6 = .ok (.if_icmp .ge 23, 3) := by decide +kernel
theorem dX11_compute_9 : decode cX11_compute 9 = .ok (.aload_n 0, 1) := by decide +kernel
theorem dX11_compute_10 : decode cX11_compute 10 = .ok (.getfield 66, 3) := by decide +kernel
theorem dX11_compute_13 : decode cX11_compute 13 = .ok (.iload_n 2, 1) := by decide +kernel
theorem dX11_compute_14 : decode cX11_compute 14 = .ok (.aload_n 0, 1) := by decide +kernel
theorem dX11_compute_15 : decode cX11_compute 15 = .ok (.getfield 7, 3) := by decide +kernel
theorem dX11_compute_18 : decode cX11_compute 18 = .ok (.iconst 2, 1) := by decide +kernel
theorem dX11_compute_19 : decode cX11_compute 19 = .ok (.iload_n 2, 1) := by decide +kernel
theorem dX11_compute_20 : decode cX11_compute 20 = .ok (.iadd, 1) := by decide +kernel
theorem dX11_compute_21 : decode cX11_compute 21 = .ok (.iaload, 1) := by decide +kernel
theorem dX11_compute_22 : decode cX11_compute 22 = .ok (.iastore, 1) := by decide +kernel
theorem dX11_compute_23 : decode cX11_compute 23 = .ok (.iinc 2 1, 3) := by decide +kernel
theorem dX11_compute_26 : decode cX11_compute 26 = .ok (.goto (-24), 3) := by decide +kernel
theorem dX11_compute_29 : decode cX11_compute 29 = .ok (.iconst 0, 1) := by decide +kernel
theorem dX11_compute_30 : decode cX11_compute 30 = .ok (.istore_n 2, 1) := by decide +kernel
theorem dX11_compute_31 : decode cX11_compute 31 = .ok (.iload_n 2, 1) := by decide +kernel
theorem dX11_compute_32 : decode cX11_compute 32 = .ok (.iload_n 1, 1) := by decide +kernel
theorem dX11_compute_33 : decode cX11_compute 33 = .ok (.if_icmp .gt 14, 3) := by decide +kernel
theorem dX11_compute_36 : decode cX11_compute 36 = .ok (.aload_n 0, 1) := by decide +kernel
theorem dX11_compute_37 : decode cX11_compute 37 = .ok (.iload_n 2, 1) := by decide +kernel
theorem dX11_compute_38 : decode cX11_compute 38 = .ok (.invokevirtual 193, 3) := by decide +kernel
theorem dX11_compute_41 : decode cX11_compute 41 = .ok (.iinc 2 1, 3) := by decide +kernel
theorem dX11_compute_44 : decode cX11_compute 44 = .ok (.goto (-13), 3) := by decide +kernel
theorem dX11_compute_47 : decode cX11_compute 47 = .ok (.sipush 256, 3) := by decide +kernel
theorem dX11_compute_50 : decode cX11_compute 50 = .ok (.iload_n 1, 1) := by decide +kernel
theorem dX11_compute_51 : decode cX11_compute 51 = .ok (.iconst 1, 1) := by decide +kernel
theorem dX11_compute_52 : decode cX11_compute 52 = .ok (.iadd, 1) := by decide +kernel
theorem dX11_compute_53 : decode cX11_compute 53 = .ok (.imul, 1) := by decide +kernel
theorem dX11_compute_54 : decode cX11_compute 54 = .ok (.ireturn, 1) := by decide +kernel
theorem dX11_top_0 : decode cX11_top 0 = .ok (.aload_n 0, 1) := by decide +kernel
theorem dX11_top_1 : decode cX11_top 1 = .ok (.getfield 7, 3) := by decide +kernel
theorem dX11_top_4 : decode cX11_top 4 = .ok (.sipush 258, 3) := by decide +kernel
theorem dX11_top_7 : decode cX11_top 7 = .ok (.iaload, 1) := by decide +kernel
theorem dX11_top_8 : decode cX11_top 8 = .ok (.iconst 1, 1) := by decide +kernel
theorem dX11_top_9 : decode cX11_top 9 = .ok (.isub, 1) := by decide +kernel
theorem dX11_top_10 : decode cX11_top 10 = .ok (.ireturn, 1) := by decide +kernel
theorem dX11_pixels_0 : decode cX11_pixels 0 = .ok (.aload_n 0, 1) := by decide +kernel
theorem dX11_pixels_1 : decode cX11_pixels 1 = .ok (.getfield 7, 3) := by decide +kernel
theorem dX11_pixels_4 : decode cX11_pixels 4 = .ok (.iconst 0, 1) := by decide +kernel
theorem dX11_pixels_5 : decode cX11_pixels 5 = .ok (.iaload, 1) := by decide +kernel
theorem dX11_pixels_6 : decode cX11_pixels 6 = .ok (.aload_n 0, 1) := by decide +kernel
theorem dX11_pixels_7 : decode cX11_pixels 7 = .ok (.getfield 7, 3) := by decide +kernel
theorem dX11_pixels_10 : decode cX11_pixels 10 = .ok (.iconst 1, 1) := by decide +kernel
theorem dX11_pixels_11 : decode cX11_pixels 11 = .ok (.iaload, 1) := by decide +kernel
theorem dX11_pixels_12 : decode cX11_pixels 12 = .ok (.imul, 1) := by decide +kernel
theorem dX11_pixels_13 : decode cX11_pixels 13 = .ok (.ireturn, 1) := by decide +kernel
theorem dX11_removeAll_0 : decode cX11_removeAll 0 = .ok (.aload_n 0, 1) := by decide +kernel
theorem dX11_removeAll_1 : decode cX11_removeAll 1 = .ok (.iconst 0, 1) := by decide +kernel
theorem dX11_removeAll_2 : decode cX11_removeAll 2 = .ok (.bipush 7, 2) := by decide +kernel
theorem dX11_removeAll_4 : decode cX11_removeAll 4 = .ok (.invokevirtual 196, 3) := by decide +kernel
theorem dX11_removeAll_7 : decode cX11_removeAll 7 = .ok (.ireturn, 1) := by decide +kernel
theorem dX11_newImage_0 : decode cX11_newImage 0 = .ok (.aload_n 0, 1) := by decide +kernel
theorem dX11_newImage_1 : decode cX11_newImage 1 = .ok (.iconst 0, 1) := by decide +kernel
theorem dX11_newImage_2 : decode cX11_newImage 2 = .ok (.putfield 81, 3) := by decide +kernel
theorem dX11_newImage_5 : decode cX11_newImage 5 = .ok (.iload_n 1, 1) := by decide +kernel
theorem dX11_newImage_6 : decode cX11_newImage 6 = .ok (.iconst 4, 1) := by decide +kernel
theorem dX11_newImage_7 : decode cX11_newImage 7 = .ok (.bipush 16, 2) := by decide +kernel
theorem dX11_newImage_9 : decode cX11_newImage 9 = .ok (.invokestatic 88, 3) := by decide +kernel
theorem dX11_newImage_12 : decode cX11_newImage 12 = .ok (.ifCond .eq 13, 3) := by decide +kernel
theorem dX11_newImage_15 : decode cX11_newImage 15 = .ok (.iload_n 2, 1) := by decide +kernel
theorem dX11_newImage_16 : decode cX11_newImage 16 = .ok (.iconst 4, 1) := by decide +kernel
theorem dX11_newImage_17 : decode cX11_newImage 17 = .ok (.bipush 16, 2) := by decide +kernel
theorem dX11_newImage_19 : decode cX11_newImage 19 = .ok (.invokestatic 88, 3) := by decide +kernel
theorem dX11_newImage_22 : decode cX11_newImage 22 = .ok (.ifCond .ne 7, 3) := by decide +kernel
theorem dX11_newImage_25 : decode cX11_newImage 25 = .ok (.sipush (-1001), 3) := by decide +kernel
theorem dX11_newImage_28 : decode cX11_newImage 28 = .ok (.ireturn, 1) := by decide +kernel
theorem dX11_newImage_29 : decode cX11_newImage 29 = .ok (.aload_n 0, 1) := by decide +kernel
theorem dX11_newImage_30 : decode cX11_newImage 30 = .ok (.invokevirtual 199, 3) := by decide +kernel
theorem dX11_newImage_33 : decode cX11_newImage 33 = .ok (.aload_n 0, 1) := by decide +kernel
theorem dX11_newImage_34 : decode cX11_newImage 34 = .ok (.iload_n 1, 1) := by decide +kernel
theorem dX11_newImage_35 : decode cX11_newImage 35 = .ok (.iload_n 2, 1) := by decide +kernel
theorem dX11_newImage_36 : decode cX11_newImage 36 = .ok (.invokevirtual 84, 3) := by decide +kernel
theorem dX11_newImage_39 : decode cX11_newImage 39 = .ok (.aload_n 0, 1) := by decide +kernel
theorem dX11_newImage_40 : decode cX11_newImage 40 = .ok (.invokevirtual 202, 3) := by decide +kernel
theorem dX11_newImage_43 : decode cX11_newImage 43 = .ok (.pop, 1) := by decide +kernel
theorem dX11_newImage_44 : decode cX11_newImage 44 = .ok (.iload_n 1, 1) := by decide +kernel
theorem dX11_newImage_45 : decode cX11_newImage 45 = .ok (.iload_n 2, 1) := by decide +kernel
theorem dX11_newImage_46 : decode cX11_newImage 46 = .ok (.imul, 1) := by decide +kernel
theorem dX11_newImage_47 : decode cX11_newImage 47 = .ok (.ireturn, 1) := by decide +kernel
theorem dX11_setPixel_0 : decode cX11_setPixel 0 = .ok (.aload_n 0, 1) := by decide +kernel
theorem dX11_setPixel_1 : decode cX11_setPixel 1 = .ok (.iconst 0, 1) := by decide +kernel
theorem dX11_setPixel_2 : decode cX11_setPixel 2 = .ok (.putfield 81, 3) := by decide +kernel
theorem dX11_setPixel_5 : decode cX11_setPixel 5 = .ok (.aload_n 0, 1) := by decide +kernel
theorem dX11_setPixel_6 : decode cX11_setPixel 6 = .ok (.iload_n 1, 1) := by decide +kernel
theorem dX11_setPixel_7 : decode cX11_setPixel 7 = .ok (.iload_n 2, 1) := by decide +kernel
theorem dX11_setPixel_8 : decode cX11_setPixel 8 = .ok (.invokevirtual 138, 3) := by decide +kernel
theorem dX11_setPixel_11 : decode cX11_setPixel 11 = .ok (.ifCond .eq 14, 3) := by decide +kernel
theorem dX11_setPixel_14 : decode cX11_setPixel 14 = .ok (.iload_n 3, 1) := by decide +kernel
theorem dX11_setPixel_15 : decode cX11_setPixel 15 = .ok (.iconst 0, 1) := by decide +kernel
theorem dX11_setPixel_16 : decode cX11_setPixel 16 = .ok (.sipush 255, 3) := by decide +kernel
theorem dX11_setPixel_19 : decode cX11_setPixel 19 = .ok (.invokestatic 88, 3) := by decide +kernel
theorem dX11_setPixel_22 : decode cX11_setPixel 22 = .ok (.ifCond .ne 7, 3) := by decide +kernel
theorem dX11_setPixel_25 : decode cX11_setPixel 25 = .ok (.sipush (-1001), 3) := by decide +kernel
theorem dX11_setPixel_28 : decode cX11_setPixel 28 = .ok (.ireturn, 1) := by decide +kernel
theorem dX11_setPixel_29 : decode cX11_setPixel 29 = .ok (.aload_n 0, 1) := by decide +kernel
theorem dX11_setPixel_30 : decode cX11_setPixel 30 = .ok (.invokevirtual 199, 3) := by decide +kernel
theorem dX11_setPixel_33 : decode cX11_setPixel 33 = .ok (.aload_n 0, 1) := by decide +kernel
theorem dX11_setPixel_34 : decode cX11_setPixel 34 = .ok (.getfield 7, 3) := by decide +kernel
theorem dX11_setPixel_37 : decode cX11_setPixel 37 = .ok (.iconst 2, 1) := by decide +kernel
theorem dX11_setPixel_38 : decode cX11_setPixel 38 = .ok (.iload_n 2, 1) := by decide +kernel
theorem dX11_setPixel_39 : decode cX11_setPixel 39 = .ok (.aload_n 0, 1) := by decide +kernel
theorem dX11_setPixel_40 : decode cX11_setPixel 40 = .ok (.getfield 7, 3) := by decide +kernel
theorem dX11_setPixel_43 : decode cX11_setPixel 43 = .ok (.iconst 0, 1) := by decide +kernel
theorem dX11_setPixel_44 : decode cX11_setPixel 44 = .ok (.iaload, 1) := by decide +kernel
theorem dX11_setPixel_45 : decode cX11_setPixel 45 = .ok (.imul, 1) := by decide +kernel
theorem dX11_setPixel_46 : decode cX11_setPixel 46 = .ok (.iadd, 1) := by decide +kernel
theorem dX11_setPixel_47 : decode cX11_setPixel 47 = .ok (.iload_n 1, 1) := by decide +kernel
theorem dX11_setPixel_48 : decode cX11_setPixel 48 = .ok (.iadd, 1) := by decide +kernel
theorem dX11_setPixel_49 : decode cX11_setPixel 49 = .ok (.iload_n 3, 1) := by decide +kernel
theorem dX11_setPixel_50 : decode cX11_setPixel 50 = .ok (.iastore, 1) := by decide +kernel
theorem dX11_setPixel_51 : decode cX11_setPixel 51 = .ok (.aload_n 0, 1) := by decide +kernel
theorem dX11_setPixel_52 : decode cX11_setPixel 52 = .ok (.iload_n 1, 1) := by decide +kernel
theorem dX11_setPixel_53 : decode cX11_setPixel 53 = .ok (.iload_n 2, 1) := by decide +kernel
theorem dX11_setPixel_54 : decode cX11_setPixel 54 = .ok (.iconst 1, 1) := by decide +kernel
theorem dX11_setPixel_55 : decode cX11_setPixel 55 = .ok (.iconst 1, 1) := by decide +kernel
theorem dX11_setPixel_56 : decode cX11_setPixel 56 = .ok (.invokevirtual 205, 3) := by decide +kernel
theorem dX11_setPixel_59 : decode cX11_setPixel 59 = .ok (.ireturn, 1) := by decide +kernel
theorem dX11_fillRectangle_0 : decode cX11_fillRectangle 0 = .ok (.aload_n 0, 1) := by decide +kernel
theorem dX11_fillRectangle_1 : decode cX11_fillRectangle 1 = .ok (.iconst 0, 1) := by decide +kernel
theorem dX11_fillRectangle_2 : decode cX11_fillRectangle 2 = .ok (.putfield 81, 3) := by decide +kernel
theorem dX11_fillRectangle_5 : decode cX11_fillRectangle 5 = .ok (.aload_n 0, 1) := by decide +kernel
theorem dX11_fillRectangle_6 : decode cX11_fillRectangle 6 = .ok (.iload_n 1, 1) := by decide +kernel
theorem dX11_fillRectangle_7 : decode cX11_fillRectangle 7 = .ok (.iload_n 2, 1) := by decide +kernel
theorem dX11_fillRectangle_8 : decode cX11_fillRectangle 8 = .ok (.invokevirtual 138, 3) := by decide +kernel
theorem dX11_fillRectangle_11 : decode cX11_fillRectangle 11 = .ok (.ifCond .eq 40, 3) := by decide +kernel
theorem dX11_fillRectangle_14 : decode cX11_fillRectangle 14 = .ok (.iload_n 3, 1) := by decide +kernel
theorem dX11_fillRectangle_15 : decode cX11_fillRectangle 15 = .ok (.iconst 1, 1) := by decide +kernel
theorem dX11_fillRectangle_16 : decode cX11_fillRectangle 16 = .ok (.bipush 16, 2) := by decide +kernel
theorem dX11_fillRectangle_18 : decode cX11_fillRectangle 18 = .ok (.invokestatic 88, 3) := by decide +kernel
theorem dX11_fillRectangle_21 : decode cX11_fillRectangle 21 = .ok (.ifCond .eq 30, 3) := by decide +kernel
theorem dX11_fillRectangle_24 : decode cX11_fillRectangle 24 = .ok (.iload 4, 2) := by decide +kernel
theorem dX11_fillRectangle_26 : decode cX11_fillRectangle 26 = .ok (.iconst 1, 1) := by decide +kernel
theorem dX11_fillRectangle_27 : decode cX11_fillRectangle 27 = .ok (.bipush 16, 2) := by decide +kernel
theorem dX11_fillRectangle_29 : decode cX11_fillRectangle 29 = .ok (.invokestatic 88, 3) := by decide +kernel
theorem dX11_fillRectangle_32 : decode cX11_fillRectangle 32 = .ok (.ifCond .eq 19, 3) := by decide +kernel
theorem dX11_fillRectangle_35 : decode cX11_fillRectangle 35 = .ok (.iload 5, 2) := by decide +kernel
theorem dX11_fillRectangle_37 : decode cX11_fillRectangle 37 = .ok (.iconst 0, 1) := by decide +kernel
theorem dX11_fillRectangle_38 : decode cX11_fillRectangle 38 = .ok (.sipush 255, 3) := by decide +kernel
theorem dX11_fillRectangle_41 : decode cX11_fillRectangle 41 = .ok (.invokestatic 88, 3) := by decide +kernel
theorem dX11_fillRectangle_44 : decode cX11_fillRectangle 44 = .ok (.ifCond .eq 7, 3) := by decide +kernel
theorem dX11_fillRectangle_47 : decode cX11_fillRectangle 47 = .ok (.iconst 1, 1) := by decide +kernel
theorem dX11_fillRectangle_48 : decode cX11_fillRectangle 48 = .ok (.goto 4, 3) := by decide +kernel
theorem dX11_fillRectangle_51 : decode cX11_fillRectangle 51 = .ok (.iconst 0, 1) := by decide +kernel
theorem dX11_fillRectangle_52 : decode cX11_fillRectangle 52 = .ok (.istore 6, 2) := by decide +kernel
theorem dX11_fillRectangle_54 : decode cX11_fillRectangle 54 = .ok (.iload 6, 2) := by decide +kernel
theorem dX11_fillRectangle_56 : decode cX11_fillRectangle 56 = .ok (.ifCond .eq 21, 3) := by decide +kernel
theorem dX11_fillRectangle_59 : decode cX11_fillRectangle 59 = .ok (.aload_n 0, 1) := by decide +kernel
theorem dX11_fillRectangle_60 : decode cX11_fillRectangle 60 = .ok (.iload_n 1, 1) := by decide +kernel
theorem dX11_fillRectangle_61 : decode cX11_fillRectangle 61 = .ok (.iload_n 3, 1) := by decide +kernel
theorem dX11_fillRectangle_62 : decode cX11_fillRectangle 62 = .ok (.iadd, 1) := by decide +kernel
theorem dX11_fillRectangle_63 : decode cX11_fillRectangle 63 = .ok (.iconst 1, 1) := by decide +kernel
theorem dX11_fillRectangle_64 : decode cX11_fillRectangle 64 = .ok (.isub, 1) := by decide +kernel
theorem dX11_fillRectangle_65 : decode cX11_fillRectangle 65 = .ok (.iload_n 2, 1) := by decide +kernel
theorem dX11_fillRectangle_66 : decode cX11_fillRectangle 66 = .ok (.iload 4, 2) := by decide +kernel
theorem dX11_fillRectangle_68 : decode cX11_fillRectangle 68 = .ok (.iadd, 1) := by decide +kernel
theorem dX11_fillRectangle_69 : decode cX11_fillRectangle 69 = .ok (.iconst 1, 1) := by decide +kernel
theorem dX11_fillRectangle_70 : decode cX11_fillRectangle 70 = .ok (.isub, 1) := by decide +kernel
theorem dX11_fillRectangle_71 : decode cX11_fillRectangle 71 = .ok (.invokevirtual 138, 3) := by decide +kernel
theorem dX11_fillRectangle_74 : decode cX11_fillRectangle 74 = .ok (.ifCond .ne 7, 3) := by decide +kernel
theorem dX11_fillRectangle_77 : decode cX11_fillRectangle 77 = .ok (.sipush (-1001), 3) := by decide +kernel
theorem dX11_fillRectangle_80 : decode cX11_fillRectangle 80 = .ok (.ireturn, 1) := by decide +kernel
theorem dX11_fillRectangle_81 : decode cX11_fillRectangle 81 = .ok (.aload_n 0, 1) := by decide +kernel
theorem dX11_fillRectangle_82 : decode cX11_fillRectangle 82 = .ok (.invokevirtual 199, 3) := by decide +kernel
theorem dX11_fillRectangle_85 : decode cX11_fillRectangle 85 = .ok (.iload_n 2, 1) := by decide +kernel
theorem dX11_fillRectangle_86 : decode cX11_fillRectangle 86 = .ok (.istore 7, 2) := by decide +kernel
theorem dX11_fillRectangle_88 : decode cX11_fillRectangle 88 = .ok (.iload 7, 2) := by decide +kernel
theorem dX11_fillRectangle_90 : decode cX11_fillRectangle 90 = .ok (.iload_n 2, 1) := by decide +kernel
theorem dX11_fillRectangle_91 : decode cX11_fillRectangle 91 = .ok (.iload 4, 2) := by decide +kernel
theorem dX11_fillRectangle_93 : decode cX11_fillRectangle 93 = .ok (.iadd, 1) := by decide +kernel
theorem dX11_fillRectangle_94 : decode cX11_fillRectangle 94 = .ok (.if_icmp .ge 47, 3) := by decide +kernel
theorem dX11_fillRectangle_97 : decode cX11_fillRectangle 97 = .ok (.iload_n 1, 1) := by decide +kernel
theorem dX11_fillRectangle_98 : decode cX11_fillRectangle 98 = .ok (.istore 8, 2) := by decide +kernel
theorem dX11_fillRectangle_100 : decode cX11_fillRectangle 100 = .ok (.iload 8, 2) := by decide +kernel
theorem dX11_fillRectangle_102 : decode cX11_fillRectangle 102 = .ok (.iload_n 1, 1) := by decide +kernel
theorem dX11_fillRectangle_103 : decode cX11_fillRectangle 103 = .ok (.iload_n 3, 1) := by decide +kernel
theorem dX11_fillRectangle_104 : decode cX11_fillRectangle 104 = .ok (.iadd, 1) := by decide +kernel
theorem dX11_fillRectangle_105 : decode cX11_fillRectangle 105 = .ok (.if_icmp .ge 30, 3) := by decide +kernel
theorem dX11_fillRectangle_108 : decode cX11_fillRectangle 108 = .ok (.aload_n 0, 1) := by decide +kernel
theorem dX11_fillRectangle_109 : decode cX11_fillRectangle 109 = .ok (.getfield 7, 3) := by decide +kernel
theorem dX11_fillRectangle_112 : decode cX11_fillRectangle 112 = .ok (.iconst 2, 1) := by decide +kernel
theorem dX11_fillRectangle_113 : decode cX11_fillRectangle 113 = .ok (.iload 7, 2) := by decide +kernel
theorem dX11_fillRectangle_115 : decode cX11_fillRectangle 115 = .ok (.aload_n 0, 1) := by decide +kernel
theorem dX11_fillRectangle_116 : decode cX11_fillRectangle 116 = .ok (.getfield 7, 3) := by decide +kernel
theorem dX11_fillRectangle_119 : decode cX11_fillRectangle 119 = .ok (.iconst 0, 1) := by decide +kernel
theorem dX11_fillRectangle_120 : decode cX11_fillRectangle 120 = .ok (.iaload, 1) := by decide +kernel
theorem dX11_fillRectangle_121 : decode cX11_fillRectangle 121 = .ok (.imul, 1) := by decide +kernel
theorem dX11_fillRectangle_122 : decode cX11_fillRectangle 122 = .ok (.iadd, 1) := by decide +kernel
theorem dX11_fillRectangle_123 : decode cX11_fillRectangle 123 = .ok (.iload 8, 2) := by decide +kernel
theorem dX11_fillRectangle_125 : decode cX11_fillRectangle 125 = .ok (.iadd, 1) := by decide +kernel
theorem dX11_fillRectangle_126 : decode cX11_fillRectangle 126 = .ok (.iload 5, 2) := by decide +kernel
theorem dX11_fillRectangle_128 : decode cX11_fillRectangle 128 = .ok (.iastore, 1) := by decide +kernel
theorem dX11_fillRectangle_129 : decode cX11_fillRectangle 129 = .ok (.iinc 8 1, 3) := by decide +kernel
theorem dX11_fillRectangle_132 : decode cX11_fillRectangle 132 = .ok (.goto (-32), 3) := by decide +kernel
theorem dX11_fillRectangle_135 : decode cX11_fillRectangle 135 = .ok (.iinc 7 1, 3) := by decide +kernel
theorem dX11_fillRectangle_138 : decode cX11_fillRectangle 138 = .ok (.goto (-50), 3) := by decide +kernel
theorem dX11_fillRectangle_141 : decode cX11_fillRectangle 141 = .ok (.aload_n 0, 1) := by decide +kernel
theorem dX11_fillRectangle_142 : decode cX11_fillRectangle 142 = .ok (.iload_n 1, 1) := by decide +kernel
theorem dX11_fillRectangle_143 : decode cX11_fillRectangle 143 = .ok (.iload_n 2, 1) := by decide +kernel
theorem dX11_fillRectangle_144 : decode cX11_fillRectangle 144 = .ok (.iload_n 3, 1) := by decide +kernel
theorem dX11_fillRectangle_145 : decode cX11_fillRectangle 145 = .ok (.iload 4, 2) := by decide +kernel
theorem dX11_fillRectangle_147 : decode cX11_fillRectangle 147 = .ok (.invokevirtual 205, 3) := by decide +kernel
theorem dX11_fillRectangle_150 : decode cX11_fillRectangle 150 = .ok (.ireturn, 1) := by decide +kernel
theorem dX11_size_0 : decode cX11_size 0 = .ok (.aload_n 0, 1) := by decide +kernel
theorem dX11_size_1 : decode cX11_size 1 = .ok (.iconst 0, 1) := by decide +kernel
theorem dX11_size_2 : decode cX11_size 2 = .ok (.putfield 81, 3) := by decide +kernel
theorem dX11_size_5 : decode cX11_size 5 = .ok (.iload_n 1, 1) := by decide +kernel
theorem dX11_size_6 : decode cX11_size 6 = .ok (.tableswitch 81 0 5 #[38, 45, 52, 61, 66, 76], 38) := by decide +kernel
theorem dX11_size_44 : decode cX11_size 44 = .ok (.aload_n 0, 1) := by decide +kernel
theorem dX11_size_45 : decode cX11_size 45 = .ok (.getfield 7, 3) := by decide +kernel
theorem dX11_size_48 : decode cX11_size 48 = .ok (.iconst 0, 1) := by decide +kernel
theorem dX11_size_49 : decode cX11_size 49 = .ok (.iaload, 1) := by decide +kernel
theorem dX11_size_50 : decode cX11_size 50 = .ok (.ireturn, 1) := by decide +kernel
theorem dX11_size_51 : decode cX11_size 51 = .ok (.aload_n 0, 1) := by decide +kernel
theorem dX11_size_52 : decode cX11_size 52 = .ok (.getfield 7, 3) := by decide +kernel
theorem dX11_size_55 : decode cX11_size 55 = .ok (.iconst 1, 1) := by decide +kernel
theorem dX11_size_56 : decode cX11_size 56 = .ok (.iaload, 1) := by decide +kernel
theorem dX11_size_57 : decode cX11_size 57 = .ok (.ireturn, 1) := by decide +kernel
theorem dX11_size_58 : decode cX11_size 58 = .ok (.aload_n 0, 1) := by decide +kernel
theorem dX11_size_59 : decode cX11_size 59 = .ok (.getfield 7, 3) := by decide +kernel
theorem dX11_size_62 : decode cX11_size 62 = .ok (.sipush 258, 3) := by decide +kernel
theorem dX11_size_65 : decode cX11_size 65 = .ok (.iaload, 1) := by decide +kernel
theorem dX11_size_66 : decode cX11_size 66 = .ok (.ireturn, 1) := by decide +kernel
theorem dX11_size_67 : decode cX11_size 67 = .ok (.aload_n 0, 1) := by decide +kernel
theorem dX11_size_68 : decode cX11_size 68 = .ok (.getfield 26, 3) := by decide +kernel
theorem dX11_size_71 : decode cX11_size 71 = .ok (.ireturn, 1) := by decide +kernel
theorem dX11_size_72 : decode cX11_size 72 = .ok (.aload_n 0, 1) := by decide +kernel
theorem dX11_size_73 : decode cX11_size 73 = .ok (.invokevirtual 208, 3) := by decide +kernel
theorem dX11_size_76 : decode cX11_size 76 = .ok (.aload_n 0, 1) := by decide +kernel
theorem dX11_size_77 : decode cX11_size 77 = .ok (.invokevirtual 211, 3) := by decide +kernel
theorem dX11_size_80 : decode cX11_size 80 = .ok (.imul, 1) := by decide +kernel
theorem dX11_size_81 : decode cX11_size 81 = .ok (.ireturn, 1) := by decide +kernel
theorem dX11_size_82 : decode cX11_size 82 = .ok (.aload_n 0, 1) := by decide +kernel
theorem dX11_size_83 : decode cX11_size 83 = .ok (.getfield 30, 3) := by decide +kernel
theorem dX11_size_86 : decode cX11_size 86 = .ok (.ireturn, 1) := by decide +kernel
theorem dX11_size_87 : decode cX11_size 87 = .ok (.sipush (-1001), 3) := by decide +kernel
theorem dX11_size_90 : decode cX11_size 90 = .ok (.ireturn, 1) := by decide +kernel
theorem dX11_leastA_0 : decode cX11_leastA 0 = .ok (.iload_n 0, 1) := by decide +kernel
theorem dX11_leastA_1 : decode cX11_leastA 1 = .ok (.iconst 1, 1) := by decide +kernel
theorem dX11_leastA_2 : decode cX11_leastA 2 = .ok (.if_icmp .ne 9, 3) := by decide +kernel
theorem dX11_leastA_5 : decode cX11_leastA 5 = .ok (.sipush (-255), 3) := by decide +kernel
theorem dX11_leastA_8 : decode cX11_leastA 8 = .ok (.goto 39, 3) := by decide +kernel
theorem dX11_leastA_11 : decode cX11_leastA 11 = .ok (.iload_n 0, 1) := by decide +kernel
theorem dX11_leastA_12 : decode cX11_leastA 12 = .ok (.iconst 3, 1) := by decide +kernel
theorem dX11_leastA_13 : decode cX11_leastA 13 = .ok (.if_icmp .ne 7, 3) := by decide +kernel
theorem dX11_leastA_16 : decode cX11_leastA 16 = .ok (.iconst 2, 1) := by decide +kernel
theorem dX11_leastA_17 : decode cX11_leastA 17 = .ok (.goto 30, 3) := by decide +kernel
theorem dX11_leastA_20 : decode cX11_leastA 20 = .ok (.iload_n 0, 1) := by decide +kernel
theorem dX11_leastA_21 : decode cX11_leastA 21 = .ok (.bipush 11, 2) := by decide +kernel
theorem dX11_leastA_23 : decode cX11_leastA 23 = .ok (.if_icmp .ne 8, 3) := by decide +kernel
theorem dX11_leastA_26 : decode cX11_leastA 26 = .ok (.bipush (-3), 2) := by decide +kernel
theorem dX11_leastA_28 : decode cX11_leastA 28 = .ok (.goto 19, 3) := by decide +kernel
theorem dX11_leastA_31 : decode cX11_leastA 31 = .ok (.iload_n 0, 1) := by decide +kernel
theorem dX11_leastA_32 : decode cX11_leastA 32 = .ok (.bipush 6, 2) := by decide +kernel
theorem dX11_leastA_34 : decode cX11_leastA 34 = .ok (.bipush 10, 2) := by decide +kernel
theorem dX11_leastA_36 : decode cX11_leastA 36 = .ok (.invokestatic 88, 3) := by decide +kernel
theorem dX11_leastA_39 : decode cX11_leastA 39 = .ok (.ifCond .eq 7, 3) := by decide +kernel
theorem dX11_leastA_42 : decode cX11_leastA 42 = .ok (.iconst 1, 1) := by decide +kernel
theorem dX11_leastA_43 : decode cX11_leastA 43 = .ok (.goto 4, 3) := by decide +kernel
theorem dX11_leastA_46 : decode cX11_leastA 46 = .ok (.iconst 0, 1) := by decide +kernel
theorem dX11_leastA_47 : decode cX11_leastA 47 = .ok (.ireturn, 1) := by decide +kernel
theorem dX11_mostA_0 : decode cX11_mostA 0 = .ok (.iload_n 0, 1) := by decide +kernel
theorem dX11_mostA_1 : decode cX11_mostA 1 = .ok (.tableswitch 94 0 13 #[71, 75, 79, 83, 92, 86, 94, 90, 94, 94, 94, 94, 75, 92], 71) := by decide +kernel
theorem dX11_mostA_72 : decode cX11_mostA 72 = .ok (.sipush 254, 3) := by decide +kernel
theorem dX11_mostA_75 : decode cX11_mostA 75 = .ok (.ireturn, 1) := by decide +kernel
theorem dX11_mostA_76 : decode cX11_mostA 76 = .ok (.sipush 255, 3) := by decide +kernel
theorem dX11_mostA_79 : decode cX11_mostA 79 = .ok (.ireturn, 1) := by decide +kernel
theorem dX11_mostA_80 : decode cX11_mostA 80 = .ok (.sipush 400, 3) := by decide +kernel
theorem dX11_mostA_83 : decode cX11_mostA 83 = .ok (.ireturn, 1) := by decide +kernel
theorem dX11_mostA_84 : decode cX11_mostA 84 = .ok (.bipush 16, 2) := by decide +kernel
theorem dX11_mostA_86 : decode cX11_mostA 86 = .ok (.ireturn, 1) := by decide +kernel
theorem dX11_mostA_87 : decode cX11_mostA 87 = .ok (.sipush 256, 3) := by decide +kernel
theorem dX11_mostA_90 : decode cX11_mostA 90 = .ok (.ireturn, 1) := by decide +kernel
theorem dX11_mostA_91 : decode cX11_mostA 91 = .ok (.iconst 2, 1) := by decide +kernel
theorem dX11_mostA_92 : decode cX11_mostA 92 = .ok (.ireturn, 1) := by decide +kernel
theorem dX11_mostA_93 : decode cX11_mostA 93 = .ok (.iconst 0, 1) := by decide +kernel
theorem dX11_mostA_94 : decode cX11_mostA 94 = .ok (.ireturn, 1) := by decide +kernel
theorem dX11_mostA_95 : decode cX11_mostA 95 = .ok (.iconst 3, 1) := by decide +kernel
theorem dX11_mostA_96 : decode cX11_mostA 96 = .ok (.ireturn, 1) := by decide +kernel
theorem dX11_leastB_0 : decode cX11_leastB 0 = .ok (.iload_n 0, 1) := by decide +kernel
theorem dX11_leastB_1 : decode cX11_leastB 1 = .ok (.ifCond .ne 9, 3) := by decide +kernel
theorem dX11_leastB_4 : decode cX11_leastB 4 = .ok (.iload_n 1, 1) := by decide +kernel
theorem dX11_leastB_5 : decode cX11_leastB 5 = .ok (.iconst 1, 1) := by decide +kernel
theorem dX11_leastB_6 : decode cX11_leastB 6 = .ok (.iadd, 1) := by decide +kernel
theorem dX11_leastB_7 : decode cX11_leastB 7 = .ok (.goto 15, 3) := by decide +kernel
theorem dX11_leastB_10 : decode cX11_leastB 10 = .ok (.iload_n 0, 1) := by decide +kernel
theorem dX11_leastB_11 : decode cX11_leastB 11 = .ok (.bipush 11, 2) := by decide +kernel
theorem dX11_leastB_13 : decode cX11_leastB 13 = .ok (.if_icmp .ne 8, 3) := by decide +kernel
theorem dX11_leastB_16 : decode cX11_leastB 16 = .ok (.bipush (-3), 2) := by decide +kernel
theorem dX11_leastB_18 : decode cX11_leastB 18 = .ok (.goto 4, 3) := by decide +kernel
theorem dX11_leastB_21 : decode cX11_leastB 21 = .ok (.iconst 0, 1) := by decide +kernel
theorem dX11_leastB_22 : decode cX11_leastB 22 = .ok (.ireturn, 1) := by decide +kernel
theorem dX11_mostB_0 : decode cX11_mostB 0 = .ok (.iload_n 0, 1) := by decide +kernel
theorem dX11_mostB_1 : decode cX11_mostB 1 = .ok (.ifCond .ne 9, 3) := by decide +kernel
theorem dX11_mostB_4 : decode cX11_mostB 4 = .ok (.sipush 255, 3) := by decide +kernel
theorem dX11_mostB_7 : decode cX11_mostB 7 = .ok (.goto 26, 3) := by decide +kernel
theorem dX11_mostB_10 : decode cX11_mostB 10 = .ok (.iload_n 0, 1) := by decide +kernel
theorem dX11_mostB_11 : decode cX11_mostB 11 = .ok (.bipush 10, 2) := by decide +kernel
theorem dX11_mostB_13 : decode cX11_mostB 13 = .ok (.if_icmp .ne 9, 3) := by decide +kernel
theorem dX11_mostB_16 : decode cX11_mostB 16 = .ok (.sipush 300, 3) := by decide +kernel
theorem dX11_mostB_19 : decode cX11_mostB 19 = .ok (.goto 14, 3) := by decide +kernel
theorem dX11_mostB_22 : decode cX11_mostB 22 = .ok (.iload_n 0, 1) := by decide +kernel
theorem dX11_mostB_23 : decode cX11_mostB 23 = .ok (.bipush 11, 2) := by decide +kernel
theorem dX11_mostB_25 : decode cX11_mostB 25 = .ok (.if_icmp .ne 7, 3) := by decide +kernel
theorem dX11_mostB_28 : decode cX11_mostB 28 = .ok (.iconst 3, 1) := by decide +kernel
theorem dX11_mostB_29 : decode cX11_mostB 29 = .ok (.goto 4, 3) := by decide +kernel
theorem dX11_mostB_32 : decode cX11_mostB 32 = .ok (.iconst 0, 1) := by decide +kernel
theorem dX11_mostB_33 : decode cX11_mostB 33 = .ok (.ireturn, 1) := by decide +kernel
theorem dX11_isPossible_0 : decode cX11_isPossible 0 = .ok (.iload_n 1, 1) := by decide +kernel
theorem dX11_isPossible_1 : decode cX11_isPossible 1 = .ok (.iload_n 0, 1) := by decide +kernel
theorem dX11_isPossible_2 : decode cX11_isPossible 2 = .ok (.invokestatic 214, 3) := by decide +kernel
theorem dX11_isPossible_5 : decode cX11_isPossible 5 = .ok (.iload_n 0, 1) := by decide +kernel
theorem dX11_isPossible_6 : decode cX11_isPossible 6 = .ok (.invokestatic 217, 3) := by decide +kernel
theorem dX11_isPossible_9 : decode cX11_isPossible 9 = .ok (.invokestatic 88, 3) := by decide +kernel
theorem dX11_isPossible_12 : decode cX11_isPossible 12 = .ok (.ifCond .eq 23, 3) := by decide +kernel
theorem dX11_isPossible_15 : decode cX11_isPossible 15 = .ok (.iload_n 2, 1) := by decide +kernel
theorem dX11_isPossible_16 : decode cX11_isPossible 16 = .ok (.iload_n 0, 1) := by decide +kernel
theorem dX11_isPossible_17 : decode cX11_isPossible 17 = .ok (.iload_n 1, 1) := by decide +kernel
theorem dX11_isPossible_18 : decode cX11_isPossible 18 = .ok (.invokestatic 220, 3) := by decide +kernel
theorem dX11_isPossible_21 : decode cX11_isPossible 21 = .ok (.iload_n 0, 1) := by decide +kernel
theorem dX11_isPossible_22 : decode cX11_isPossible 22 = .ok (.invokestatic 223, 3) := by decide +kernel
theorem dX11_isPossible_25 : decode cX11_isPossible 25 = .ok (.invokestatic 88, 3) := by decide +kernel
theorem dX11_isPossible_28 : decode cX11_isPossible 28 = .ok (.ifCond .eq 7, 3) := by decide +kernel
theorem dX11_isPossible_31 : decode cX11_isPossible 31 = .ok (.iconst 1, 1) := by decide +kernel
theorem dX11_isPossible_32 : decode cX11_isPossible 32 = .ok (.goto 4, 3) := by decide +kernel
theorem dX11_isPossible_35 : decode cX11_isPossible 35 = .ok (.iconst 0, 1) := by decide +kernel
theorem dX11_isPossible_36 : decode cX11_isPossible 36 = .ok (.ireturn, 1) := by decide +kernel
theorem dX11_layLayer_0 : decode cX11_layLayer 0 = .ok (.iconst 0, 1) := by decide +kernel
theorem dX11_layLayer_1 : decode cX11_layLayer 1 = .ok (.istore 6, 2) := by decide +kernel
theorem dX11_layLayer_3 : decode cX11_layLayer 3 = .ok (.iload 6, 2) := by decide +kernel
theorem dX11_layLayer_5 : decode cX11_layLayer 5 = .ok (.bipush 32, 2) := by decide +kernel
theorem dX11_layLayer_7 : decode cX11_layLayer 7 = .ok (.if_icmp .ge 16, 3) := by decide +kernel
theorem dX11_layLayer_10 : decode cX11_layLayer 10 = .ok (.aload_n 1, 1) := by decide +kernel
theorem dX11_layLayer_11 : decode cX11_layLayer 11 = .ok (.iload_n 2, 1) := by decide +kernel
theorem dX11_layLayer_12 : decode cX11_layLayer 12 = .ok (.iload 6, 2) := by decide +kernel
theorem dX11_layLayer_14 : decode cX11_layLayer 14 = .ok (.iadd, 1) := by decide +kernel
theorem dX11_layLayer_15 : decode cX11_layLayer 15 = .ok (.iconst 0, 1) := by decide +kernel
theorem dX11_layLayer_16 : decode cX11_layLayer 16 = .ok (.iastore, 1) := by decide +kernel
theorem dX11_layLayer_17 : decode cX11_layLayer 17 = .ok (.iinc 6 1, 3) := by decide +kernel
theorem dX11_layLayer_20 : decode cX11_layLayer 20 = .ok (.goto (-17), 3) := by decide +kernel
theorem dX11_layLayer_23 : decode cX11_layLayer 23 = .ok (.aload_n 1, 1) := by decide +kernel
theorem dX11_layLayer_24 : decode cX11_layLayer 24 = .ok (.iload_n 2, 1) := by decide +kernel
theorem dX11_layLayer_25 : decode cX11_layLayer 25 = .ok (.iconst 0, 1) := by decide +kernel
theorem dX11_layLayer_26 : decode cX11_layLayer 26 = .ok (.iadd, 1) := by decide +kernel
theorem dX11_layLayer_27 : decode cX11_layLayer 27 = .ok (.iload_n 3, 1) := by decide +kernel
theorem dX11_layLayer_28 : decode cX11_layLayer 28 = .ok (.iastore, 1) := by decide +kernel
theorem dX11_layLayer_29 : decode cX11_layLayer 29 = .ok (.aload_n 1, 1) := by decide +kernel
theorem dX11_layLayer_30 : decode cX11_layLayer 30 = .ok (.iload_n 2, 1) := by decide +kernel
theorem dX11_layLayer_31 : decode cX11_layLayer 31 = .ok (.iconst 1, 1) := by decide +kernel
theorem dX11_layLayer_32 : decode cX11_layLayer 32 = .ok (.iadd, 1) := by decide +kernel
theorem dX11_layLayer_33 : decode cX11_layLayer 33 = .ok (.iload 4, 2) := by decide +kernel
theorem dX11_layLayer_35 : decode cX11_layLayer 35 = .ok (.iastore, 1) := by decide +kernel
theorem dX11_layLayer_36 : decode cX11_layLayer 36 = .ok (.aload_n 1, 1) := by decide +kernel
theorem dX11_layLayer_37 : decode cX11_layLayer 37 = .ok (.iload_n 2, 1) := by decide +kernel
theorem dX11_layLayer_38 : decode cX11_layLayer 38 = .ok (.iconst 2, 1) := by decide +kernel
theorem dX11_layLayer_39 : decode cX11_layLayer 39 = .ok (.iadd, 1) := by decide +kernel
theorem dX11_layLayer_40 : decode cX11_layLayer 40 = .ok (.iload 5, 2) := by decide +kernel
theorem dX11_layLayer_42 : decode cX11_layLayer 42 = .ok (.iastore, 1) := by decide +kernel
theorem dX11_layLayer_43 : decode cX11_layLayer 43 = .ok (.aload_n 1, 1) := by decide +kernel
theorem dX11_layLayer_44 : decode cX11_layLayer 44 = .ok (.iload_n 2, 1) := by decide +kernel
theorem dX11_layLayer_45 : decode cX11_layLayer 45 = .ok (.iconst 4, 1) := by decide +kernel
theorem dX11_layLayer_46 : decode cX11_layLayer 46 = .ok (.iadd, 1) := by decide +kernel
theorem dX11_layLayer_47 : decode cX11_layLayer 47 = .ok (.bipush 100, 2) := by decide +kernel
theorem dX11_layLayer_49 : decode cX11_layLayer 49 = .ok (.iastore, 1) := by decide +kernel
theorem dX11_layLayer_50 : decode cX11_layLayer 50 = .ok (.aload_n 1, 1) := by decide +kernel
theorem dX11_layLayer_51 : decode cX11_layLayer 51 = .ok (.iload_n 2, 1) := by decide +kernel
theorem dX11_layLayer_52 : decode cX11_layLayer 52 = .ok (.iconst 5, 1) := by decide +kernel
theorem dX11_layLayer_53 : decode cX11_layLayer 53 = .ok (.iadd, 1) := by decide +kernel
theorem dX11_layLayer_54 : decode cX11_layLayer 54 = .ok (.iconst 1, 1) := by decide +kernel
theorem dX11_layLayer_55 : decode cX11_layLayer 55 = .ok (.iastore, 1) := by decide +kernel
theorem dX11_layLayer_56 : decode cX11_layLayer 56 = .ok (.return_, 1) := by decide +kernel
theorem dX11_addLayer_0 : decode cX11_addLayer 0 = .ok (.aload_n 0, 1) := by decide +kernel
theorem dX11_addLayer_1 : decode cX11_addLayer 1 = .ok (.iconst 0, 1) := by decide +kernel
theorem dX11_addLayer_2 : decode cX11_addLayer 2 = .ok (.putfield 81, 3) := by decide +kernel
theorem dX11_addLayer_5 : decode cX11_addLayer 5 = .ok (.iload_n 1, 1) := by decide +kernel
theorem dX11_addLayer_6 : decode cX11_addLayer 6 = .ok (.iconst 0, 1) := by decide +kernel
theorem dX11_addLayer_7 : decode cX11_addLayer 7 = .ok (.bipush 13, 2) := by decide +kernel
theorem dX11_addLayer_9 : decode cX11_addLayer 9 = .ok (.invokestatic 88, 3) := by decide +kernel
theorem dX11_addLayer_12 : decode cX11_addLayer 12 = .ok (.ifCond .eq 12, 3) := by decide +kernel
theorem dX11_addLayer_15 : decode cX11_addLayer 15 = .ok (.iload_n 1, 1) := by decide +kernel
theorem dX11_addLayer_16 : decode cX11_addLayer 16 = .ok (.iload_n 2, 1) := by decide +kernel
theorem dX11_addLayer_17 : decode cX11_addLayer 17 = .ok (.iload_n 3, 1) := by decide +kernel
theorem dX11_addLayer_18 : decode cX11_addLayer 18 = .ok (.invokestatic 226, 3) := by decide +kernel
theorem dX11_addLayer_21 : decode cX11_addLayer 21 = .ok (.ifCond .ne 7, 3) := by decide +kernel
theorem dX11_addLayer_24 : decode cX11_addLayer 24 = .ok (.sipush (-1001), 3) := by decide +kernel
theorem dX11_addLayer_27 : decode cX11_addLayer 27 = .ok (.ireturn, 1) := by decide +kernel
theorem dX11_addLayer_28 : decode cX11_addLayer 28 = .ok (.aload_n 0, 1) := by decide +kernel
theorem dX11_addLayer_29 : decode cX11_addLayer 29 = .ok (.getfield 7, 3) := by decide +kernel
theorem dX11_addLayer_32 : decode cX11_addLayer 32 = .ok (.sipush 258, 3) := by decide +kernel
theorem dX11_addLayer_35 : decode cX11_addLayer 35 = .ok (.iaload, 1) := by decide +kernel
theorem dX11_addLayer_36 : decode cX11_addLayer 36 = .ok (.bipush 8, 2) := by decide +kernel
theorem dX11_addLayer_38 : decode cX11_addLayer 38 = .ok (.if_icmp .ne 7, 3) := by decide +kernel
theorem dX11_addLayer_41 : decode cX11_addLayer 41 = .ok (.sipush (-1003), 3) := by decide +kernel
theorem dX11_addLayer_44 : decode cX11_addLayer 44 = .ok (.ireturn, 1) := by decide +kernel
theorem dX11_addLayer_45 : decode cX11_addLayer 45 = .ok (.aload_n 0, 1) := by decide +kernel
theorem dX11_addLayer_46 : decode cX11_addLayer 46 = .ok (.invokevirtual 199, 3) := by decide +kernel
theorem dX11_addLayer_49 : decode cX11_addLayer 49 = .ok (.aload_n 0, 1) := by decide +kernel
theorem dX11_addLayer_50 : decode cX11_addLayer 50 = .ok (.aload_n 0, 1) := by decide +kernel
theorem dX11_addLayer_51 : decode cX11_addLayer 51 = .ok (.getfield 7, 3) := by decide +kernel
theorem dX11_addLayer_54 : decode cX11_addLayer 54 = .ok (.aload_n 0, 1) := by decide +kernel
theorem dX11_addLayer_55 : decode cX11_addLayer 55 = .ok (.getfield 7, 3) := by decide +kernel
theorem dX11_addLayer_58 : decode cX11_addLayer 58 = .ok (.sipush 258, 3) := by decide +kernel
theorem dX11_addLayer_61 : decode cX11_addLayer 61 = .ok (.iaload, 1) := by decide +kernel
theorem dX11_addLayer_62 : decode cX11_addLayer 62 = .ok (.invokestatic 95, 3) := by decide +kernel
theorem dX11_addLayer_65 : decode cX11_addLayer 65 = .ok (.iload_n 1, 1) := by decide +kernel
theorem dX11_addLayer_66 : decode cX11_addLayer 66 = .ok (.iload_n 2, 1) := by decide +kernel
theorem dX11_addLayer_67 : decode cX11_addLayer 67 = .ok (.iload_n 3, 1) := by decide +kernel
theorem dX11_addLayer_68 : decode cX11_addLayer 68 = .ok (.invokevirtual 229, 3) := by decide +kernel
theorem dX11_addLayer_71 : decode cX11_addLayer 71 = .ok (.aload_n 0, 1) := by decide +kernel
theorem dX11_addLayer_72 : decode cX11_addLayer 72 = .ok (.getfield 7, 3) := by decide +kernel
theorem dX11_addLayer_75 : decode cX11_addLayer 75 = .ok (.sipush 258, 3) := by decide +kernel
theorem dX11_addLayer_78 : decode cX11_addLayer 78 = .ok (.dup2, 1) := by decide +kernel
theorem dX11_addLayer_79 : decode cX11_addLayer 79 = .ok (.iaload, 1) := by decide +kernel
theorem dX11_addLayer_80 : decode cX11_addLayer 80 = .ok (.iconst 1, 1) := by decide +kernel
theorem dX11_addLayer_81 : decode cX11_addLayer 81 = .ok (.iadd, 1) := by decide +kernel
theorem dX11_addLayer_82 : decode cX11_addLayer 82 = .ok (.iastore, 1) := by decide +kernel
theorem dX11_addLayer_83 : decode cX11_addLayer 83 = .ok (.aload_n 0, 1) := by decide +kernel
theorem dX11_addLayer_84 : decode cX11_addLayer 84 = .ok (.getfield 7, 3) := by decide +kernel
theorem dX11_addLayer_87 : decode cX11_addLayer 87 = .ok (.sipush 258, 3) := by decide +kernel
theorem dX11_addLayer_90 : decode cX11_addLayer 90 = .ok (.iaload, 1) := by decide +kernel
theorem dX11_addLayer_91 : decode cX11_addLayer 91 = .ok (.iconst 1, 1) := by decide +kernel
theorem dX11_addLayer_92 : decode cX11_addLayer 92 = .ok (.isub, 1) := by decide +kernel
theorem dX11_addLayer_93 : decode cX11_addLayer 93 = .ok (.ireturn, 1) := by decide +kernel
theorem dX11_setParameters_0 : decode cX11_setParameters 0 = .ok (.aload_n 0, 1) := by decide +kernel
theorem dX11_setParameters_1 : decode cX11_setParameters 1 = .ok (.iconst 0, 1) := by decide +kernel
theorem dX11_setParameters_2 : decode cX11_setParameters 2 = .ok (.putfield 81, 3) := by decide +kernel
theorem dX11_setParameters_5 : decode cX11_setParameters 5 = .ok (.aload_n 0, 1) := by decide +kernel
theorem dX11_setParameters_6 : decode cX11_setParameters 6 = .ok (.iload_n 1, 1) := by decide +kernel
theorem dX11_setParameters_7 : decode cX11_setParameters 7 = .ok (.invokevirtual 233, 3) := by decide +kernel
theorem dX11_setParameters_10 : decode cX11_setParameters 10 = .ok (.ifCond .eq 22, 3) := by decide +kernel
theorem dX11_setParameters_13 : decode cX11_setParameters 13 = .ok (.aload_n 0, 1) := by decide +kernel
theorem dX11_setParameters_14 : decode cX11_setParameters 14 = .ok (.getfield 7, 3) := by decide +kernel
theorem dX11_setParameters_17 : decode cX11_setParameters 17 = .ok (.iload_n 1, 1) := by decide +kernel
theorem dX11_setParameters_18 : decode cX11_setParameters 18 = .ok (.invokestatic 95, 3) := by decide +kernel
theorem dX11_setParameters_21 : decode cX11_setParameters 21 = .ok (.iconst 0, 1) := by decide +kernel
theorem dX11_setParameters_22 : decode cX11_setParameters 22 = .ok (.iadd, 1) := by decide +kernel
theorem dX11_setParameters_23 : decode cX11_setParameters 23 = .ok (.iaload, 1) := by decide +kernel
theorem dX11_setParameters_24 : decode cX11_setParameters 24 = .ok (.iload_n 2, 1) := by decide +kernel
theorem dX11_setParameters_25 : decode cX11_setParameters 25 = .ok (.iload_n 3, 1) := by decide +kernel
theorem dX11_setParameters_26 : decode cX11_setParameters 26 = .ok (.invokestatic 226, 3) := by decide +kernel
theorem dX11_setParameters_29 : decode cX11_setParameters 29 = .ok (.ifCond .ne 7, 3) := by decide +kernel
theorem dX11_setParameters_32 : decode cX11_setParameters 32 = .ok (.sipush (-1001), 3) := by decide +kernel
theorem dX11_setParameters_35 : decode cX11_setParameters 35 = .ok (.ireturn, 1) := by decide +kernel
theorem dX11_setParameters_36 : decode cX11_setParameters 36 = .ok (.aload_n 0, 1) := by decide +kernel
theorem dX11_setParameters_37 : decode cX11_setParameters 37 = .ok (.invokevirtual 199, 3) := by decide +kernel
theorem dX11_setParameters_40 : decode cX11_setParameters 40 = .ok (.aload_n 0, 1) := by decide +kernel
theorem dX11_setParameters_41 : decode cX11_setParameters 41 = .ok (.getfield 7, 3) := by decide +kernel
theorem dX11_setParameters_44 : decode cX11_setParameters 44 = .ok (.iload_n 1, 1) := by decide +kernel
theorem dX11_setParameters_45 : decode cX11_setParameters 45 = .ok (.invokestatic 95, 3) := by decide +kernel
theorem dX11_setParameters_48 : decode cX11_setParameters 48 = .ok (.iconst 1, 1) := by decide +kernel
theorem dX11_setParameters_49 : decode cX11_setParameters 49 = .ok (.iadd, 1) := by decide +kernel
theorem dX11_setParameters_50 : decode cX11_setParameters 50 = .ok (.iaload, 1) := by decide +kernel
theorem dX11_setParameters_51 : decode cX11_setParameters 51 = .ok (.istore 4, 2) := by decide +kernel
theorem dX11_setParameters_53 : decode cX11_setParameters 53 = .ok (.aload_n 0, 1) := by decide +kernel
theorem dX11_setParameters_54 : decode cX11_setParameters 54 = .ok (.getfield 7, 3) := by decide +kernel
theorem dX11_setParameters_57 : decode cX11_setParameters 57 = .ok (.iload_n 1, 1) := by decide +kernel
theorem dX11_setParameters_58 : decode cX11_setParameters 58 = .ok (.invokestatic 95, 3) := by decide +kernel
theorem dX11_setParameters_61 : decode cX11_setParameters 61 = .ok (.iconst 1, 1) := by decide +kernel
theorem dX11_setParameters_62 : decode cX11_setParameters 62 = .ok (.iadd, 1) := by decide +kernel
theorem dX11_setParameters_63 : decode cX11_setParameters 63 = .ok (.iload_n 2, 1) := by decide +kernel
theorem dX11_setParameters_64 : decode cX11_setParameters 64 = .ok (.iastore, 1) := by decide +kernel
theorem dX11_setParameters_65 : decode cX11_setParameters 65 = .ok (.aload_n 0, 1) := by decide +kernel
theorem dX11_setParameters_66 : decode cX11_setParameters 66 = .ok (.getfield 7, 3) := by decide +kernel
theorem dX11_setParameters_69 : decode cX11_setParameters 69 = .ok (.iload_n 1, 1) := by decide +kernel
theorem dX11_setParameters_70 : decode cX11_setParameters 70 = .ok (.invokestatic 95, 3) := by decide +kernel
theorem dX11_setParameters_73 : decode cX11_setParameters 73 = .ok (.iconst 2, 1) := by decide +kernel
theorem dX11_setParameters_74 : decode cX11_setParameters 74 = .ok (.iadd, 1) := by decide +kernel
theorem dX11_setParameters_75 : decode cX11_setParameters 75 = .ok (.iload_n 3, 1) := by decide +kernel
theorem dX11_setParameters_76 : decode cX11_setParameters 76 = .ok (.iastore, 1) := by decide +kernel
theorem dX11_setParameters_77 : decode cX11_setParameters 77 = .ok (.aload_n 0, 1) := by decide +kernel
theorem dX11_setParameters_78 : decode cX11_setParameters 78 = .ok (.iload_n 1, 1) := by decide +kernel
theorem dX11_setParameters_79 : decode cX11_setParameters 79 = .ok (.bipush 7, 2) := by decide +kernel
theorem dX11_setParameters_81 : decode cX11_setParameters 81 = .ok (.invokevirtual 196, 3) := by decide +kernel
theorem dX11_setParameters_84 : decode cX11_setParameters 84 = .ok (.pop, 1) := by decide +kernel
theorem dX11_setParameters_85 : decode cX11_setParameters 85 = .ok (.iload 4, 2) := by decide +kernel
theorem dX11_setParameters_87 : decode cX11_setParameters 87 = .ok (.sipush 1000, 3) := by decide +kernel
theorem dX11_setParameters_90 : decode cX11_setParameters 90 = .ok (.iadd, 1) := by decide +kernel
theorem dX11_setParameters_91 : decode cX11_setParameters 91 = .ok (.ireturn, 1) := by decide +kernel
theorem dX11_setBlend_0 : decode cX11_setBlend 0 = .ok (.aload_n 0, 1) := by decide +kernel
theorem dX11_setBlend_1 : decode cX11_setBlend 1 = .ok (.iconst 0, 1) := by decide +kernel
theorem dX11_setBlend_2 : decode cX11_setBlend 2 = .ok (.putfield 81, 3) := by decide +kernel
theorem dX11_setBlend_5 : decode cX11_setBlend 5 = .ok (.aload_n 0, 1) := by decide +kernel
theorem dX11_setBlend_6 : decode cX11_setBlend 6 = .ok (.iload_n 1, 1) := by decide +kernel
theorem dX11_setBlend_7 : decode cX11_setBlend 7 = .ok (.invokevirtual 233, 3) := by decide +kernel
theorem dX11_setBlend_10 : decode cX11_setBlend 10 = .ok (.ifCond .eq 23, 3) := by decide +kernel
theorem dX11_setBlend_13 : decode cX11_setBlend 13 = .ok (.iload_n 2, 1) := by decide +kernel
theorem dX11_setBlend_14 : decode cX11_setBlend 14 = .ok (.iconst 0, 1) := by decide +kernel
theorem dX11_setBlend_15 : decode cX11_setBlend 15 = .ok (.bipush 7, 2) := by decide +kernel
theorem dX11_setBlend_17 : decode cX11_setBlend 17 = .ok (.invokestatic 88, 3) := by decide +kernel
theorem dX11_setBlend_20 : decode cX11_setBlend 20 = .ok (.ifCond .eq 13, 3) := by decide +kernel
theorem dX11_setBlend_23 : decode cX11_setBlend 23 = .ok (.iload_n 3, 1) := by decide +kernel
theorem dX11_setBlend_24 : decode cX11_setBlend 24 = .ok (.iconst 0, 1) := by decide +kernel
theorem dX11_setBlend_25 : decode cX11_setBlend 25 = .ok (.bipush 100, 2) := by decide +kernel
theorem dX11_setBlend_27 : decode cX11_setBlend 27 = .ok (.invokestatic 88, 3) := by decide +kernel
theorem dX11_setBlend_30 : decode cX11_setBlend 30 = .ok (.ifCond .ne 7, 3) := by decide +kernel
theorem dX11_setBlend_33 : decode cX11_setBlend 33 = .ok (.sipush (-1001), 3) := by decide +kernel
theorem dX11_setBlend_36 : decode cX11_setBlend 36 = .ok (.ireturn, 1) := by decide +kernel
theorem dX11_setBlend_37 : decode cX11_setBlend 37 = .ok (.aload_n 0, 1) := by decide +kernel
theorem dX11_setBlend_38 : decode cX11_setBlend 38 = .ok (.invokevirtual 199, 3) := by decide +kernel
theorem dX11_setBlend_41 : decode cX11_setBlend 41 = .ok (.aload_n 0, 1) := by decide +kernel
theorem dX11_setBlend_42 : decode cX11_setBlend 42 = .ok (.getfield 7, 3) := by decide +kernel
theorem dX11_setBlend_45 : decode cX11_setBlend 45 = .ok (.iload_n 1, 1) := by decide +kernel
theorem dX11_setBlend_46 : decode cX11_setBlend 46 = .ok (.invokestatic 95, 3) := by decide +kernel
theorem dX11_setBlend_49 : decode cX11_setBlend 49 = .ok (.iconst 4, 1) := by decide +kernel
theorem dX11_setBlend_50 : decode cX11_setBlend 50 = .ok (.iadd, 1) := by decide +kernel
theorem dX11_setBlend_51 : decode cX11_setBlend 51 = .ok (.iaload, 1) := by decide +kernel
theorem dX11_setBlend_52 : decode cX11_setBlend 52 = .ok (.istore 4, 2) := by decide +kernel
theorem dX11_setBlend_54 : decode cX11_setBlend 54 = .ok (.aload_n 0, 1) := by decide +kernel
theorem dX11_setBlend_55 : decode cX11_setBlend 55 = .ok (.getfield 7, 3) := by decide +kernel
theorem dX11_setBlend_58 : decode cX11_setBlend 58 = .ok (.iload_n 1, 1) := by decide +kernel
theorem dX11_setBlend_59 : decode cX11_setBlend 59 = .ok (.invokestatic 95, 3) := by decide +kernel
theorem dX11_setBlend_62 : decode cX11_setBlend 62 = .ok (.iconst 3, 1) := by decide +kernel
theorem dX11_setBlend_63 : decode cX11_setBlend 63 = .ok (.iadd, 1) := by decide +kernel
theorem dX11_setBlend_64 : decode cX11_setBlend 64 = .ok (.iload_n 2, 1) := by decide +kernel
theorem dX11_setBlend_65 : decode cX11_setBlend 65 = .ok (.iastore, 1) := by decide +kernel
theorem dX11_setBlend_66 : decode cX11_setBlend 66 = .ok (.aload_n 0, 1) := by decide +kernel
theorem dX11_setBlend_67 : decode cX11_setBlend 67 = .ok (.getfield 7, 3) := by decide +kernel
theorem dX11_setBlend_70 : decode cX11_setBlend 70 = .ok (.iload_n 1, 1) := by decide +kernel
theorem dX11_setBlend_71 : decode cX11_setBlend 71 = .ok (.invokestatic 95, 3) := by decide +kernel
theorem dX11_setBlend_74 : decode cX11_setBlend 74 = .ok (.iconst 4, 1) := by decide +kernel
theorem dX11_setBlend_75 : decode cX11_setBlend 75 = .ok (.iadd, 1) := by decide +kernel
theorem dX11_setBlend_76 : decode cX11_setBlend 76 = .ok (.iload_n 3, 1) := by decide +kernel
theorem dX11_setBlend_77 : decode cX11_setBlend 77 = .ok (.iastore, 1) := by decide +kernel
theorem dX11_setBlend_78 : decode cX11_setBlend 78 = .ok (.aload_n 0, 1) := by decide +kernel
theorem dX11_setBlend_79 : decode cX11_setBlend 79 = .ok (.iload_n 1, 1) := by decide +kernel
theorem dX11_setBlend_80 : decode cX11_setBlend 80 = .ok (.bipush 7, 2) := by decide +kernel
theorem dX11_setBlend_82 : decode cX11_setBlend 82 = .ok (.invokevirtual 196, 3) := by decide +kernel
theorem dX11_setBlend_85 : decode cX11_setBlend 85 = .ok (.pop, 1) := by decide +kernel
theorem dX11_setBlend_86 : decode cX11_setBlend 86 = .ok (.iload 4, 2) := by decide +kernel
theorem dX11_setBlend_88 : decode cX11_setBlend 88 = .ok (.ireturn, 1) := by decide +kernel
theorem dX11_setEnabled_0 : decode cX11_setEnabled 0 = .ok (.aload_n 0, 1) := by decide +kernel
theorem dX11_setEnabled_1 : decode cX11_setEnabled 1 = .ok (.iconst 0, 1) := by decide +kernel
theorem dX11_setEnabled_2 : decode cX11_setEnabled 2 = .ok (.putfield 81, 3) := by decide +kernel
theorem dX11_setEnabled_5 : decode cX11_setEnabled 5 = .ok (.aload_n 0, 1) := by decide +kernel
theorem dX11_setEnabled_6 : decode cX11_setEnabled 6 = .ok (.iload_n 1, 1) := by decide +kernel
theorem dX11_setEnabled_7 : decode cX11_setEnabled 7 = .ok (.invokevirtual 233, 3) := by decide +kernel
theorem dX11_setEnabled_10 : decode cX11_setEnabled 10 = .ok (.ifCond .eq 12, 3) := by decide +kernel
theorem dX11_setEnabled_13 : decode cX11_setEnabled 13 = .ok (.iload_n 2, 1) := by decide +kernel
theorem dX11_setEnabled_14 : decode cX11_setEnabled 14 = .ok (.iconst 0, 1) := by decide +kernel
theorem dX11_setEnabled_15 : decode cX11_setEnabled 15 = .ok (.iconst 1, 1) := by decide +kernel
theorem dX11_setEnabled_16 : decode cX11_setEnabled 16 = .ok (.invokestatic 88, 3) := by decide +kernel
theorem dX11_setEnabled_19 : decode cX11_setEnabled 19 = .ok (.ifCond .ne 7, 3) := by decide +kernel
theorem dX11_setEnabled_22 : decode cX11_setEnabled 22 = .ok (.sipush (-1001), 3) := by decide +kernel
theorem dX11_setEnabled_25 : decode cX11_setEnabled 25 = .ok (.ireturn, 1) := by decide +kernel
theorem dX11_setEnabled_26 : decode cX11_setEnabled 26 = .ok (.aload_n 0, 1) := by decide +kernel
theorem dX11_setEnabled_27 : decode cX11_setEnabled 27 = .ok (.getfield 7, 3) := by decide +kernel
theorem dX11_setEnabled_30 : decode cX11_setEnabled 30 = .ok (.iload_n 1, 1) := by decide +kernel
theorem dX11_setEnabled_31 : decode cX11_setEnabled 31 = .ok (.invokestatic 95, 3) := by decide +kernel
theorem dX11_setEnabled_34 : decode cX11_setEnabled 34 = .ok (.iconst 5, 1) := by decide +kernel
theorem dX11_setEnabled_35 : decode cX11_setEnabled 35 = .ok (.iadd, 1) := by decide +kernel
theorem dX11_setEnabled_36 : decode cX11_setEnabled 36 = .ok (.iaload, 1) := by decide +kernel
theorem dX11_setEnabled_37 : decode cX11_setEnabled 37 = .ok (.iload_n 2, 1) := by decide +kernel
theorem dX11_setEnabled_38 : decode cX11_setEnabled 38 = .ok (.if_icmp .ne 7, 3) := by decide +kernel
theorem dX11_setEnabled_41 : decode cX11_setEnabled 41 = .ok (.sipush (-1002), 3) := by decide +kernel
theorem dX11_setEnabled_44 : decode cX11_setEnabled 44 = .ok (.ireturn, 1) := by decide +kernel
theorem dX11_setEnabled_45 : decode cX11_setEnabled 45 = .ok (.aload_n 0, 1) := by decide +kernel
theorem dX11_setEnabled_46 : decode cX11_setEnabled 46 = .ok (.invokevirtual 199, 3) := by decide +kernel
theorem dX11_setEnabled_49 : decode cX11_setEnabled 49 = .ok (.aload_n 0, 1) := by decide +kernel
theorem dX11_setEnabled_50 : decode cX11_setEnabled 50 = .ok (.getfield 7, 3) := by decide +kernel
theorem dX11_setEnabled_53 : decode cX11_setEnabled 53 = .ok (.iload_n 1, 1) := by decide +kernel
theorem dX11_setEnabled_54 : decode cX11_setEnabled 54 = .ok (.invokestatic 95, 3) := by decide +kernel
theorem dX11_setEnabled_57 : decode cX11_setEnabled 57 = .ok (.iconst 5, 1) := by decide +kernel
theorem dX11_setEnabled_58 : decode cX11_setEnabled 58 = .ok (.iadd, 1) := by decide +kernel
theorem dX11_setEnabled_59 : decode cX11_setEnabled 59 = .ok (.iload_n 2, 1) := by decide +kernel
theorem dX11_setEnabled_60 : decode cX11_setEnabled 60 = .ok (.iastore, 1) := by decide +kernel
theorem dX11_setEnabled_61 : decode cX11_setEnabled 61 = .ok (.aload_n 0, 1) := by decide +kernel
theorem dX11_setEnabled_62 : decode cX11_setEnabled 62 = .ok (.iload_n 1, 1) := by decide +kernel
theorem dX11_setEnabled_63 : decode cX11_setEnabled 63 = .ok (.bipush 7, 2) := by decide +kernel
theorem dX11_setEnabled_65 : decode cX11_setEnabled 65 = .ok (.invokevirtual 196, 3) := by decide +kernel
theorem dX11_setEnabled_68 : decode cX11_setEnabled 68 = .ok (.pop, 1) := by decide +kernel
theorem dX11_setEnabled_69 : decode cX11_setEnabled 69 = .ok (.iconst 0, 1) := by decide +kernel
theorem dX11_setEnabled_70 : decode cX11_setEnabled 70 = .ok (.istore_n 3, 1) := by decide +kernel
theorem dX11_setEnabled_71 : decode cX11_setEnabled 71 = .ok (.iconst 0, 1) := by decide +kernel
theorem dX11_setEnabled_72 : decode cX11_setEnabled 72 = .ok (.istore 4, 2) := by decide +kernel
theorem dX11_setEnabled_74 : decode cX11_setEnabled 74 = .ok (.iload 4, 2) := by decide +kernel
theorem dX11_setEnabled_76 : decode cX11_setEnabled 76 = .ok (.aload_n 0, 1) := by decide +kernel
theorem dX11_setEnabled_77 : decode cX11_setEnabled 77 = .ok (.getfield 7, 3) := by decide +kernel
theorem dX11_setEnabled_80 : decode cX11_setEnabled 80 = .ok (.sipush 258, 3) := by decide +kernel
theorem dX11_setEnabled_83 : decode cX11_setEnabled 83 = .ok (.iaload, 1) := by decide +kernel
theorem dX11_setEnabled_84 : decode cX11_setEnabled 84 = .ok (.if_icmp .ge 26, 3) := by decide +kernel
theorem dX11_setEnabled_87 : decode cX11_setEnabled 87 = .ok (.iload_n 3, 1) := by decide +kernel
theorem dX11_setEnabled_88 : decode cX11_setEnabled 88 = .ok (.aload_n 0, 1) := by decide +kernel
theorem dX11_setEnabled_89 : decode cX11_setEnabled 89 = .ok (.iload 4, 2) := by decide +kernel
theorem dX11_setEnabled_91 : decode cX11_setEnabled 91 = .ok (.invokevirtual 102, 3) := by decide +kernel
theorem dX11_setEnabled_94 : decode cX11_setEnabled 94 = .ok (.ifCond .eq 7, 3) := by decide +kernel
theorem dX11_setEnabled_97 : decode cX11_setEnabled 97 = .ok (.iconst 1, 1) := by decide +kernel
theorem dX11_setEnabled_98 : decode cX11_setEnabled 98 = .ok (.goto 4, 3) := by decide +kernel
theorem dX11_setEnabled_101 : decode cX11_setEnabled 101 = .ok (.iconst 0, 1) := by decide +kernel
theorem dX11_setEnabled_102 : decode cX11_setEnabled 102 = .ok (.iadd, 1) := by decide +kernel
theorem dX11_setEnabled_103 : decode cX11_setEnabled 103 = .ok (.istore_n 3, 1) := by decide +kernel
theorem dX11_setEnabled_104 : decode cX11_setEnabled 104 = .ok (.iinc 4 1, 3) := by decide +kernel
theorem dX11_setEnabled_107 : decode cX11_setEnabled 107 = .ok (.goto (-33), 3) := by decide +kernel
theorem dX11_setEnabled_110 : decode cX11_setEnabled 110 = .ok (.iload_n 3, 1) := by decide +kernel
theorem dX11_setEnabled_111 : decode cX11_setEnabled 111 = .ok (.ireturn, 1) := by decide +kernel
theorem dX11_exchange_0 : decode cX11_exchange 0 = .ok (.iconst 0, 1) := by decide +kernel
theorem dX11_exchange_1 : decode cX11_exchange 1 = .ok (.istore_n 3, 1) := by decide +kernel
theorem dX11_exchange_2 : decode cX11_exchange 2 = .ok (.iload_n 3, 1) := by decide +kernel
theorem dX11_exchange_3 : decode cX11_exchange 3 = .ok (.bipush 32, 2) := by decide +kernel
theorem dX11_exchange_5 : decode cX11_exchange 5 = .ok (.if_icmp .ge 57, 3) := by decide +kernel
theorem dX11_exchange_8 : decode cX11_exchange 8 = .ok (.aload_n 0, 1) := by decide +kernel
theorem dX11_exchange_9 : decode cX11_exchange 9 = .ok (.getfield 7, 3) := by decide +kernel
theorem dX11_exchange_12 : decode cX11_exchange 12 = .ok (.iload_n 1, 1) := by decide +kernel
theorem dX11_exchange_13 : decode cX11_exchange 13 = .ok (.invokestatic 95, 3) := by decide +kernel
theorem dX11_exchange_16 : decode cX11_exchange 16 = .ok (.iload_n 3, 1) := by decide +kernel
theorem dX11_exchange_17 : decode cX11_exchange 17 = .ok (.iadd, 1) := by decide +kernel
theorem dX11_exchange_18 : decode cX11_exchange 18 = .ok (.iaload, 1) := by decide +kernel
theorem dX11_exchange_19 : decode cX11_exchange 19 = .ok (.istore 4, 2) := by decide +kernel
theorem dX11_exchange_21 : decode cX11_exchange 21 = .ok (.aload_n 0, 1) := by decide +kernel
theorem dX11_exchange_22 : decode cX11_exchange 22 = .ok (.getfield 7, 3) := by decide +kernel
theorem dX11_exchange_25 : decode cX11_exchange 25 = .ok (.iload_n 1, 1) := by decide +kernel
theorem dX11_exchange_26 : decode cX11_exchange 26 = .ok (.invokestatic 95, 3) := by decide +kernel
theorem dX11_exchange_29 : decode cX11_exchange 29 = .ok (.iload_n 3, 1) := by decide +kernel
theorem dX11_exchange_30 : decode cX11_exchange 30 = .ok (.iadd, 1) := by decide +kernel
theorem dX11_exchange_31 : decode cX11_exchange 31 = .ok (.aload_n 0, 1) := by decide +kernel
theorem dX11_exchange_32 : decode cX11_exchange 32 = .ok (.getfield 7, 3) := by decide +kernel
theorem dX11_exchange_35 : decode cX11_exchange 35 = .ok (.iload_n 2, 1) := by decide +kernel
theorem dX11_exchange_36 : decode cX11_exchange 36 = .ok (.invokestatic 95, 3) := by decide +kernel
theorem dX11_exchange_39 : decode cX11_exchange 39 = .ok (.iload_n 3, 1) := by decide +kernel
theorem dX11_exchange_40 : decode cX11_exchange 40 = .ok (.iadd, 1) := by decide +kernel
theorem dX11_exchange_41 : decode cX11_exchange 41 = .ok (.iaload, 1) := by decide +kernel
theorem dX11_exchange_42 : decode cX11_exchange 42 = .ok (.iastore, 1) := by decide +kernel
theorem dX11_exchange_43 : decode cX11_exchange 43 = .ok (.aload_n 0, 1) := by decide +kernel
theorem dX11_exchange_44 : decode cX11_exchange 44 = .ok (.getfield 7, 3) := by decide +kernel
theorem dX11_exchange_47 : decode cX11_exchange 47 = .ok (.iload_n 2, 1) := by decide +kernel
theorem dX11_exchange_48 : decode cX11_exchange 48 = .ok (.invokestatic 95, 3) := by decide +kernel
theorem dX11_exchange_51 : decode cX11_exchange 51 = .ok (.iload_n 3, 1) := by decide +kernel
theorem dX11_exchange_52 : decode cX11_exchange 52 = .ok (.iadd, 1) := by decide +kernel
theorem dX11_exchange_53 : decode cX11_exchange 53 = .ok (.iload 4, 2) := by decide +kernel
theorem dX11_exchange_55 : decode cX11_exchange 55 = .ok (.iastore, 1) := by decide +kernel
theorem dX11_exchange_56 : decode cX11_exchange 56 = .ok (.iinc 3 1, 3) := by decide +kernel
theorem dX11_exchange_59 : decode cX11_exchange 59 = .ok (.goto (-57), 3) := by decide +kernel
theorem dX11_exchange_62 : decode cX11_exchange 62 = .ok (.return_, 1) := by decide +kernel
theorem dX11_moveLayer_0 : decode cX11_moveLayer 0 = .ok (.aload_n 0, 1) := by decide +kernel
theorem dX11_moveLayer_1 : decode cX11_moveLayer 1 = .ok (.iconst 0, 1) := by decide +kernel
theorem dX11_moveLayer_2 : decode cX11_moveLayer 2 = .ok (.putfield 81, 3) := by decide +kernel
theorem dX11_moveLayer_5 : decode cX11_moveLayer 5 = .ok (.aload_n 0, 1) := by decide +kernel
theorem dX11_moveLayer_6 : decode cX11_moveLayer 6 = .ok (.iload_n 1, 1) := by decide +kernel
theorem dX11_moveLayer_7 : decode cX11_moveLayer 7 = .ok (.invokevirtual 233, 3) := by decide +kernel
theorem dX11_moveLayer_10 : decode cX11_moveLayer 10 = .ok (.ifCond .eq 16, 3) := by decide +kernel
theorem dX11_moveLayer_13 : decode cX11_moveLayer 13 = .ok (.aload_n 0, 1) := by decide +kernel
theorem dX11_moveLayer_14 : decode cX11_moveLayer 14 = .ok (.iload_n 2, 1) := by decide +kernel
theorem dX11_moveLayer_15 : decode cX11_moveLayer 15 = .ok (.invokevirtual 233, 3) := by decide +kernel
theorem dX11_moveLayer_18 : decode cX11_moveLayer 18 = .ok (.ifCond .eq 8, 3) := by decide +kernel
theorem dX11_moveLayer_21 : decode cX11_moveLayer 21 = .ok (.iload_n 1, 1) := by decide +kernel
theorem dX11_moveLayer_22 : decode cX11_moveLayer 22 = .ok (.iload_n 2, 1) := by decide +kernel
theorem dX11_moveLayer_23 : decode cX11_moveLayer 23 = .ok (.if_icmp .ne 7, 3) := by decide +kernel
theorem dX11_moveLayer_26 : decode cX11_moveLayer 26 = .ok (.sipush (-1001), 3) := by decide +kernel
theorem dX11_moveLayer_29 : decode cX11_moveLayer 29 = .ok (.ireturn, 1) := by decide +kernel
theorem dX11_moveLayer_30 : decode cX11_moveLayer 30 = .ok (.aload_n 0, 1) := by decide +kernel
theorem dX11_moveLayer_31 : decode cX11_moveLayer 31 = .ok (.invokevirtual 199, 3) := by decide +kernel
theorem dX11_moveLayer_34 : decode cX11_moveLayer 34 = .ok (.aload_n 0, 1) := by decide +kernel
theorem dX11_moveLayer_35 : decode cX11_moveLayer 35 = .ok (.getfield 7, 3) := by decide +kernel
theorem dX11_moveLayer_38 : decode cX11_moveLayer 38 = .ok (.iload_n 1, 1) := by decide +kernel
theorem dX11_moveLayer_39 : decode cX11_moveLayer 39 = .ok (.invokestatic 95, 3) := by decide +kernel
theorem dX11_moveLayer_42 : decode cX11_moveLayer 42 = .ok (.iconst 0, 1) := by decide +kernel
theorem dX11_moveLayer_43 : decode cX11_moveLayer 43 = .ok (.iadd, 1) := by decide +kernel
theorem dX11_moveLayer_44 : decode cX11_moveLayer 44 = .ok (.iaload, 1) := by decide +kernel
theorem dX11_moveLayer_45 : decode cX11_moveLayer 45 = .ok (.istore_n 3, 1) := by decide +kernel
theorem dX11_moveLayer_46 : decode cX11_moveLayer 46 = .ok (.iload_n 1, 1) := by decide +kernel
theorem dX11_moveLayer_47 : decode cX11_moveLayer 47 = .ok (.istore 4, 2) := by decide +kernel
theorem dX11_moveLayer_49 : decode cX11_moveLayer 49 = .ok (.iload 4, 2) := by decide +kernel
theorem dX11_moveLayer_51 : decode cX11_moveLayer 51 = .ok (.iload_n 2, 1) := by decide +kernel
theorem dX11_moveLayer_52 : decode cX11_moveLayer 52 = .ok (.if_icmp .ge 19, 3) := by decide +kernel
theorem dX11_moveLayer_55 : decode cX11_moveLayer 55 = .ok (.aload_n 0, 1) := by decide +kernel
theorem dX11_moveLayer_56 : decode cX11_moveLayer 56 = .ok (.iload 4, 2) := by decide +kernel
theorem dX11_moveLayer_58 : decode cX11_moveLayer 58 = .ok (.iload 4, 2) := by decide +kernel
theorem dX11_moveLayer_60 : decode cX11_moveLayer 60 = .ok (.iconst 1, 1) := by decide +kernel
theorem dX11_moveLayer_61 : decode cX11_moveLayer 61 = .ok (.iadd, 1) := by decide +kernel
theorem dX11_moveLayer_62 : decode cX11_moveLayer 62 = .ok (.invokevirtual 236, 3) := by decide +kernel
theorem dX11_moveLayer_65 : decode cX11_moveLayer 65 = .ok (.iinc 4 1, 3) := by decide +kernel
theorem dX11_moveLayer_68 : decode cX11_moveLayer 68 = .ok (.goto (-19), 3) := by decide +kernel
theorem dX11_moveLayer_71 : decode cX11_moveLayer 71 = .ok (.iload_n 1, 1) := by decide +kernel
theorem dX11_moveLayer_72 : decode cX11_moveLayer 72 = .ok (.istore 4, 2) := by decide +kernel
theorem dX11_moveLayer_74 : decode cX11_moveLayer 74 = .ok (.iload 4, 2) := by decide +kernel
theorem dX11_moveLayer_76 : decode cX11_moveLayer 76 = .ok (.iload_n 2, 1) := by decide +kernel
theorem dX11_moveLayer_77 : decode cX11_moveLayer 77 = .ok (.if_icmp .le 19, 3) := by decide +kernel
theorem dX11_moveLayer_80 : decode cX11_moveLayer 80 = .ok (.aload_n 0, 1) := by decide +kernel
theorem dX11_moveLayer_81 : decode cX11_moveLayer 81 = .ok (.iload 4, 2) := by decide +kernel
theorem dX11_moveLayer_83 : decode cX11_moveLayer 83 = .ok (.iload 4, 2) := by decide +kernel
theorem dX11_moveLayer_85 : decode cX11_moveLayer 85 = .ok (.iconst 1, 1) := by decide +kernel
theorem dX11_moveLayer_86 : decode cX11_moveLayer 86 = .ok (.isub, 1) := by decide +kernel
theorem dX11_moveLayer_87 : decode cX11_moveLayer 87 = .ok (.invokevirtual 236, 3) := by decide +kernel
theorem dX11_moveLayer_90 : decode cX11_moveLayer 90 = .ok (.iinc 4 (-1), 3) := by decide +kernel
theorem dX11_moveLayer_93 : decode cX11_moveLayer 93 = .ok (.goto (-19), 3) := by decide +kernel
theorem dX11_moveLayer_96 : decode cX11_moveLayer 96 = .ok (.aload_n 0, 1) := by decide +kernel
theorem dX11_moveLayer_97 : decode cX11_moveLayer 97 = .ok (.iload_n 1, 1) := by decide +kernel
theorem dX11_moveLayer_98 : decode cX11_moveLayer 98 = .ok (.iload_n 2, 1) := by decide +kernel
theorem dX11_moveLayer_99 : decode cX11_moveLayer 99 = .ok (.if_icmp .ge 7, 3) := by decide +kernel
theorem dX11_moveLayer_102 : decode cX11_moveLayer 102 = .ok (.iload_n 1, 1) := by decide +kernel
theorem dX11_moveLayer_103 : decode cX11_moveLayer 103 = .ok (.goto 4, 3) := by decide +kernel
theorem dX11_moveLayer_106 : decode cX11_moveLayer 106 = .ok (.iload_n 2, 1) := by decide +kernel
theorem dX11_moveLayer_107 : decode cX11_moveLayer 107 = .ok (.bipush 7, 2) := by decide +kernel
theorem dX11_moveLayer_109 : decode cX11_moveLayer 109 = .ok (.invokevirtual 196, 3) := by decide +kernel
theorem dX11_moveLayer_112 : decode cX11_moveLayer 112 = .ok (.pop, 1) := by decide +kernel
theorem dX11_moveLayer_113 : decode cX11_moveLayer 113 = .ok (.iload_n 3, 1) := by decide +kernel
theorem dX11_moveLayer_114 : decode cX11_moveLayer 114 = .ok (.ireturn, 1) := by decide +kernel
theorem dX11_duplicateLayer_0 : decode cX11_duplicateLayer 0 = .ok (.aload_n 0, 1) := by decide +kernel
theorem dX11_duplicateLayer_1 : decode cX11_duplicateLayer 1 = .ok (.iconst 0, 1) := by decide +kernel
theorem dX11_duplicateLayer_2 : decode cX11_duplicateLayer 2 = .ok (.putfield 81, 3) := by decide +kernel
theorem dX11_duplicateLayer_5 : decode cX11_duplicateLayer 5 = .ok (.aload_n 0, 1) := by decide +kernel
theorem dX11_duplicateLayer_6 : decode cX11_duplicateLayer 6 = .ok (.iload_n 1, 1) := by decide +kernel
theorem dX11_duplicateLayer_7 : decode cX11_duplicateLayer 7 = .ok (.invokevirtual 233, 3) := by decide +kernel
theorem dX11_duplicateLayer_10 : decode cX11_duplicateLayer 10 = .ok (.ifCond .ne 7, 3) := by decide +kernel
theorem dX11_duplicateLayer_13 : decode cX11_duplicateLayer 13 = .ok (.sipush (-1001), 3) := by decide +kernel
theorem dX11_duplicateLayer_16 : decode cX11_duplicateLayer 16 = .ok (.ireturn, 1) := by decide +kernel
theorem dX11_duplicateLayer_17 : decode cX11_duplicateLayer 17 = .ok (.aload_n 0, 1) := by decide +kernel
theorem dX11_duplicateLayer_18 : decode cX11_duplicateLayer 18 = .ok (.getfield 7, 3) := by decide +kernel
theorem dX11_duplicateLayer_21 : decode cX11_duplicateLayer 21 = .ok (.sipush 258, 3) := by decide +kernel
theorem dX11_duplicateLayer_24 : decode cX11_duplicateLayer 24 = .ok (.iaload, 1) := by decide +kernel
theorem dX11_duplicateLayer_25 : decode cX11_duplicateLayer 25 = .ok (.bipush 8, 2) := by decide +kernel
theorem dX11_duplicateLayer_27 : decode cX11_duplicateLayer 27 = .ok (.if_icmp .ne 7, 3) := by decide +kernel
theorem dX11_duplicateLayer_30 : decode cX11_duplicateLayer 30 = .ok (.sipush (-1003), 3) := by decide +kernel
theorem dX11_duplicateLayer_33 : decode cX11_duplicateLayer 33 = .ok (.ireturn, 1) := by decide +kernel
theorem dX11_duplicateLayer_34 : decode cX11_duplicateLayer 34 = .ok (.aload_n 0, 1) := by decide +kernel
theorem dX11_duplicateLayer_35 : decode cX11_duplicateLayer 35 = .ok (.invokevirtual 199, 3) := by decide +kernel
theorem dX11_duplicateLayer_38 : decode cX11_duplicateLayer 38 = .ok (.aload_n 0, 1) := by decide +kernel
theorem dX11_duplicateLayer_39 : decode cX11_duplicateLayer 39 = .ok (.getfield 7, 3) := by decide +kernel
theorem dX11_duplicateLayer_42 : decode cX11_duplicateLayer 42 = .ok (.sipush 258, 3) := by decide +kernel
theorem dX11_duplicateLayer_45 : decode cX11_duplicateLayer 45 = .ok (.iaload, 1) := by decide +kernel
theorem dX11_duplicateLayer_46 : decode cX11_duplicateLayer 46 = .ok (.invokestatic 95, 3) := by decide +kernel
theorem dX11_duplicateLayer_49 : decode cX11_duplicateLayer 49 = .ok (.iconst 1, 1) := by decide +kernel
theorem dX11_duplicateLayer_50 : decode cX11_duplicateLayer 50 = .ok (.isub, 1) := by decide +kernel
theorem dX11_duplicateLayer_51 : decode cX11_duplicateLayer 51 = .ok (.istore_n 2, 1) := by decide +kernel
theorem dX11_duplicateLayer_52 : decode cX11_duplicateLayer 52 = .ok (.iload_n 2, 1) := by decide +kernel
theorem dX11_duplicateLayer_53 : decode cX11_duplicateLayer 53 = .ok (.iload_n 1, 1) := by decide +kernel
theorem dX11_duplicateLayer_54 : decode cX11_duplicateLayer 54 = .ok (.invokestatic 95, 3) := by decide +kernel
theorem dX11_duplicateLayer_57 : decode cX11_duplicateLayer 57 = .ok (.if_icmp .lt 24, 3) := by decide +kernel
theorem dX11_duplicateLayer_60 : decode cX11_duplicateLayer 60 = .ok (.aload_n 0, 1) := by decide +kernel
theorem dX11_duplicateLayer_61 : decode cX11_duplicateLayer 61 = .ok (.getfield 7, 3) := by decide +kernel
theorem dX11_duplicateLayer_64 : decode cX11_duplicateLayer 64 = .ok (.iload_n 2, 1) := by decide +kernel
theorem dX11_duplicateLayer_65 : decode cX11_duplicateLayer 65 = .ok (.bipush 32, 2) := by decide +kernel
theorem dX11_duplicateLayer_67 : decode cX11_duplicateLayer 67 = .ok (.iadd, 1) := by decide +kernel
theorem dX11_duplicateLayer_68 : decode cX11_duplicateLayer 68 = .ok (.aload_n 0, 1) := by decide +kernel
theorem dX11_duplicateLayer_69 : decode cX11_duplicateLayer 69 = .ok (.getfield 7, 3) := by decide +kernel
theorem dX11_duplicateLayer_72 : decode cX11_duplicateLayer 72 = .ok (.iload_n 2, 1) := by decide +kernel
theorem dX11_duplicateLayer_73 : decode cX11_duplicateLayer 73 = .ok (.iaload, 1) := by decide +kernel
theorem dX11_duplicateLayer_74 : decode cX11_duplicateLayer 74 = .ok (.iastore, 1) := by decide +kernel
theorem dX11_duplicateLayer_75 : decode cX11_duplicateLayer 75 = .ok (.iinc 2 (-1), 3) := by decide +kernel
theorem dX11_duplicateLayer_78 : decode cX11_duplicateLayer 78 = .ok (.goto (-26), 3) := by decide +kernel
theorem dX11_duplicateLayer_81 : decode cX11_duplicateLayer 81 = .ok (.aload_n 0, 1) := by decide +kernel
theorem dX11_duplicateLayer_82 : decode cX11_duplicateLayer 82 = .ok (.getfield 7, 3) := by decide +kernel
theorem dX11_duplicateLayer_85 : decode cX11_duplicateLayer 85 = .ok (.sipush 258, 3) := by decide +kernel
theorem dX11_duplicateLayer_88 : decode cX11_duplicateLayer 88 = .ok (.dup2, 1) := by decide +kernel
theorem dX11_duplicateLayer_89 : decode cX11_duplicateLayer 89 = .ok (.iaload, 1) := by decide +kernel
theorem dX11_duplicateLayer_90 : decode cX11_duplicateLayer 90 = .ok (.iconst 1, 1) := by decide +kernel
theorem dX11_duplicateLayer_91 : decode cX11_duplicateLayer 91 = .ok (.iadd, 1) := by decide +kernel
theorem dX11_duplicateLayer_92 : decode cX11_duplicateLayer 92 = .ok (.iastore, 1) := by decide +kernel
theorem dX11_duplicateLayer_93 : decode cX11_duplicateLayer 93 = .ok (.aload_n 0, 1) := by decide +kernel
theorem dX11_duplicateLayer_94 : decode cX11_duplicateLayer 94 = .ok (.iload_n 1, 1) := by decide +kernel
theorem dX11_duplicateLayer_95 : decode cX11_duplicateLayer 95 = .ok (.iconst 1, 1) := by decide +kernel
theorem dX11_duplicateLayer_96 : decode cX11_duplicateLayer 96 = .ok (.iadd, 1) := by decide +kernel
theorem dX11_duplicateLayer_97 : decode cX11_duplicateLayer 97 = .ok (.bipush 7, 2) := by decide +kernel
theorem dX11_duplicateLayer_99 : decode cX11_duplicateLayer 99 = .ok (.invokevirtual 196, 3) := by decide +kernel
theorem dX11_duplicateLayer_102 : decode cX11_duplicateLayer 102 = .ok (.pop, 1) := by decide +kernel
theorem dX11_duplicateLayer_103 : decode cX11_duplicateLayer 103 = .ok (.iload_n 1, 1) := by decide +kernel
theorem dX11_duplicateLayer_104 : decode cX11_duplicateLayer 104 = .ok (.iconst 1, 1) := by decide +kernel
theorem dX11_duplicateLayer_105 : decode cX11_duplicateLayer 105 = .ok (.iadd, 1) := by decide +kernel
theorem dX11_duplicateLayer_106 : decode cX11_duplicateLayer 106 = .ok (.ireturn, 1) := by decide +kernel
theorem dX11_cutLayers_0 : decode cX11_cutLayers 0 = .ok (.iload_n 1, 1) := by decide +kernel
theorem dX11_cutLayers_1 : decode cX11_cutLayers 1 = .ok (.iload_n 2, 1) := by decide +kernel
theorem dX11_cutLayers_2 : decode cX11_cutLayers 2 = .ok (.iadd, 1) := by decide +kernel
theorem dX11_cutLayers_3 : decode cX11_cutLayers 3 = .ok (.invokestatic 95, 3) := by decide +kernel
theorem dX11_cutLayers_6 : decode cX11_cutLayers 6 = .ok (.istore_n 3, 1) := by decide +kernel
theorem dX11_cutLayers_7 : decode cX11_cutLayers 7 = .ok (.iload_n 3, 1) := by decide +kernel
theorem dX11_cutLayers_8 : decode cX11_cutLayers 8 = .ok (.aload_n 0, 1) := by decide +kernel
theorem dX11_cutLayers_9 : decode cX11_cutLayers 9 = .ok (.getfield 7, 3) := by decide +kernel
theorem dX11_cutLayers_12 : decode cX11_cutLayers 12 = .ok (.sipush 258, 3) := by decide +kernel
theorem dX11_cutLayers_15 : decode cX11_cutLayers 15 = .ok (.iaload, 1) := by decide +kernel
theorem dX11_cutLayers_16 : decode cX11_cutLayers 16 = .ok (.invokestatic 95, 3) := by decide +kernel
theorem dX11_cutLayers_19 : decode cX11_cutLayers 19 = .ok (.if_icmp .ge 26, 3) := by decide +kernel
theorem dX11_cutLayers_22 : decode cX11_cutLayers 22 = .ok (.aload_n 0, 1) := by decide +kernel
theorem dX11_cutLayers_23 : decode cX11_cutLayers 23 = .ok (.getfield 7, 3) := by decide +kernel
theorem dX11_cutLayers_26 : decode cX11_cutLayers 26 = .ok (.iload_n 3, 1) := by decide +kernel
theorem dX11_cutLayers_27 : decode cX11_cutLayers 27 = .ok (.bipush 32, 2) := by decide +kernel
theorem dX11_cutLayers_29 : decode cX11_cutLayers 29 = .ok (.iload_n 2, 1) := by decide +kernel
theorem dX11_cutLayers_30 : decode cX11_cutLayers 30 = .ok (.imul, 1) := by decide +kernel
theorem dX11_cutLayers_31 : decode cX11_cutLayers 31 = .ok (.isub, 1) := by decide +kernel
theorem dX11_cutLayers_32 : decode cX11_cutLayers 32 = .ok (.aload_n 0, 1) := by decide +kernel
theorem dX11_cutLayers_33 : decode cX11_cutLayers 33 = .ok (.getfield 7, 3) := by decide +kernel
theorem dX11_cutLayers_36 : decode cX11_cutLayers 36 = .ok (.iload_n 3, 1) := by decide +kernel
theorem dX11_cutLayers_37 : decode cX11_cutLayers 37 = .ok (.iaload, 1) := by decide +kernel
theorem dX11_cutLayers_38 : decode cX11_cutLayers 38 = .ok (.iastore, 1) := by decide +kernel
theorem dX11_cutLayers_39 : decode cX11_cutLayers 39 = .ok (.iinc 3 1, 3) := by decide +kernel
theorem dX11_cutLayers_42 : decode cX11_cutLayers 42 = .ok (.goto (-35), 3) := by decide +kernel
theorem dX11_cutLayers_45 : decode cX11_cutLayers 45 = .ok (.aload_n 0, 1) := by decide +kernel
theorem dX11_cutLayers_46 : decode cX11_cutLayers 46 = .ok (.getfield 7, 3) := by decide +kernel
theorem dX11_cutLayers_49 : decode cX11_cutLayers 49 = .ok (.sipush 258, 3) := by decide +kernel
theorem dX11_cutLayers_52 : decode cX11_cutLayers 52 = .ok (.dup2, 1) := by decide +kernel
theorem dX11_cutLayers_53 : decode cX11_cutLayers 53 = .ok (.iaload, 1) := by decide +kernel
theorem dX11_cutLayers_54 : decode cX11_cutLayers 54 = .ok (.iload_n 2, 1) := by decide +kernel
theorem dX11_cutLayers_55 : decode cX11_cutLayers 55 = .ok (.isub, 1) := by decide +kernel
theorem dX11_cutLayers_56 : decode cX11_cutLayers 56 = .ok (.iastore, 1) := by decide +kernel
theorem dX11_cutLayers_57 : decode cX11_cutLayers 57 = .ok (.aload_n 0, 1) := by decide +kernel
theorem dX11_cutLayers_58 : decode cX11_cutLayers 58 = .ok (.getfield 7, 3) := by decide +kernel
theorem dX11_cutLayers_61 : decode cX11_cutLayers 61 = .ok (.sipush 258, 3) := by decide +kernel
theorem dX11_cutLayers_64 : decode cX11_cutLayers 64 = .ok (.iaload, 1) := by decide +kernel
theorem dX11_cutLayers_65 : decode cX11_cutLayers 65 = .ok (.invokestatic 95, 3) := by decide +kernel
theorem dX11_cutLayers_68 : decode cX11_cutLayers 68 = .ok (.istore_n 3, 1) := by decide +kernel
theorem dX11_cutLayers_69 : decode cX11_cutLayers 69 = .ok (.iload_n 3, 1) := by decide +kernel
theorem dX11_cutLayers_70 : decode cX11_cutLayers 70 = .ok (.sipush 515, 3) := by decide +kernel
theorem dX11_cutLayers_73 : decode cX11_cutLayers 73 = .ok (.if_icmp .ge 16, 3) := by decide +kernel
theorem dX11_cutLayers_76 : decode cX11_cutLayers 76 = .ok (.aload_n 0, 1) := by decide +kernel
theorem dX11_cutLayers_77 : decode cX11_cutLayers 77 = .ok (.getfield 7, 3) := by decide +kernel
theorem dX11_cutLayers_80 : decode cX11_cutLayers 80 = .ok (.iload_n 3, 1) := by decide +kernel
theorem dX11_cutLayers_81 : decode cX11_cutLayers 81 = .ok (.iconst 0, 1) := by decide +kernel
theorem dX11_cutLayers_82 : decode cX11_cutLayers 82 = .ok (.iastore, 1) := by decide +kernel
theorem dX11_cutLayers_83 : decode cX11_cutLayers 83 = .ok (.iinc 3 1, 3) := by decide +kernel
theorem dX11_cutLayers_86 : decode cX11_cutLayers 86 = .ok (.goto (-17), 3) := by decide +kernel
theorem dX11_cutLayers_89 : decode cX11_cutLayers 89 = .ok (.return_, 1) := by decide +kernel
theorem dX11_removeLayer_0 : decode cX11_removeLayer 0 = .ok (.aload_n 0, 1) := by decide +kernel
theorem dX11_removeLayer_1 : decode cX11_removeLayer 1 = .ok (.iconst 0, 1) := by decide +kernel
theorem dX11_removeLayer_2 : decode cX11_removeLayer 2 = .ok (.putfield 81, 3) := by decide +kernel
theorem dX11_removeLayer_5 : decode cX11_removeLayer 5 = .ok (.aload_n 0, 1) := by decide +kernel
theorem dX11_removeLayer_6 : decode cX11_removeLayer 6 = .ok (.iload_n 1, 1) := by decide +kernel
theorem dX11_removeLayer_7 : decode cX11_removeLayer 7 = .ok (.invokevirtual 233, 3) := by decide +kernel
theorem dX11_removeLayer_10 : decode cX11_removeLayer 10 = .ok (.ifCond .ne 7, 3) := by decide +kernel
theorem dX11_removeLayer_13 : decode cX11_removeLayer 13 = .ok (.sipush (-1001), 3) := by decide +kernel
theorem dX11_removeLayer_16 : decode cX11_removeLayer 16 = .ok (.ireturn, 1) := by decide +kernel
theorem dX11_removeLayer_17 : decode cX11_removeLayer 17 = .ok (.aload_n 0, 1) := by decide +kernel
theorem dX11_removeLayer_18 : decode cX11_removeLayer 18 = .ok (.invokevirtual 199, 3) := by decide +kernel
theorem dX11_removeLayer_21 : decode cX11_removeLayer 21 = .ok (.aload_n 0, 1) := by decide +kernel
theorem dX11_removeLayer_22 : decode cX11_removeLayer 22 = .ok (.iload_n 1, 1) := by decide +kernel
theorem dX11_removeLayer_23 : decode cX11_removeLayer 23 = .ok (.iconst 1, 1) := by decide +kernel
theorem dX11_removeLayer_24 : decode cX11_removeLayer 24 = .ok (.invokevirtual 239, 3) := by decide +kernel
theorem dX11_removeLayer_27 : decode cX11_removeLayer 27 = .ok (.aload_n 0, 1) := by decide +kernel
theorem dX11_removeLayer_28 : decode cX11_removeLayer 28 = .ok (.iload_n 1, 1) := by decide +kernel
theorem dX11_removeLayer_29 : decode cX11_removeLayer 29 = .ok (.bipush 7, 2) := by decide +kernel
theorem dX11_removeLayer_31 : decode cX11_removeLayer 31 = .ok (.invokevirtual 196, 3) := by decide +kernel
theorem dX11_removeLayer_34 : decode cX11_removeLayer 34 = .ok (.pop, 1) := by decide +kernel
theorem dX11_removeLayer_35 : decode cX11_removeLayer 35 = .ok (.aload_n 0, 1) := by decide +kernel
theorem dX11_removeLayer_36 : decode cX11_removeLayer 36 = .ok (.getfield 7, 3) := by decide +kernel
theorem dX11_removeLayer_39 : decode cX11_removeLayer 39 = .ok (.sipush 258, 3) := by decide +kernel
theorem dX11_removeLayer_42 : decode cX11_removeLayer 42 = .ok (.iaload, 1) := by decide +kernel
theorem dX11_removeLayer_43 : decode cX11_removeLayer 43 = .ok (.ireturn, 1) := by decide +kernel
theorem dX11_flatten_0 : decode cX11_flatten 0 = .ok (.aload_n 0, 1) := by decide +kernel
theorem dX11_flatten_1 : decode cX11_flatten 1 = .ok (.iconst 0, 1) := by decide +kernel
theorem dX11_flatten_2 : decode cX11_flatten 2 = .ok (.putfield 81, 3) := by decide +kernel
theorem dX11_flatten_5 : decode cX11_flatten 5 = .ok (.aload_n 0, 1) := by decide +kernel
theorem dX11_flatten_6 : decode cX11_flatten 6 = .ok (.iload_n 1, 1) := by decide +kernel
theorem dX11_flatten_7 : decode cX11_flatten 7 = .ok (.invokevirtual 233, 3) := by decide +kernel
theorem dX11_flatten_10 : decode cX11_flatten 10 = .ok (.ifCond .ne 7, 3) := by decide +kernel
theorem dX11_flatten_13 : decode cX11_flatten 13 = .ok (.sipush (-1001), 3) := by decide +kernel
theorem dX11_flatten_16 : decode cX11_flatten 16 = .ok (.ireturn, 1) := by decide +kernel
theorem dX11_flatten_17 : decode cX11_flatten 17 = .ok (.aload_n 0, 1) := by decide +kernel
theorem dX11_flatten_18 : decode cX11_flatten 18 = .ok (.invokevirtual 199, 3) := by decide +kernel
theorem dX11_flatten_21 : decode cX11_flatten 21 = .ok (.aload_n 0, 1) := by decide +kernel
theorem dX11_flatten_22 : decode cX11_flatten 22 = .ok (.iload_n 1, 1) := by decide +kernel
theorem dX11_flatten_23 : decode cX11_flatten 23 = .ok (.invokevirtual 242, 3) := by decide +kernel
theorem dX11_flatten_26 : decode cX11_flatten 26 = .ok (.istore_n 2, 1) := by decide +kernel
theorem dX11_flatten_27 : decode cX11_flatten 27 = .ok (.iconst 0, 1) := by decide +kernel
theorem dX11_flatten_28 : decode cX11_flatten 28 = .ok (.istore_n 3, 1) := by decide +kernel
theorem dX11_flatten_29 : decode cX11_flatten 29 = .ok (.iload_n 3, 1) := by decide +kernel
theorem dX11_flatten_30 : decode cX11_flatten 30 = .ok (.aload_n 0, 1) := by decide +kernel
theorem dX11_flatten_31 : decode cX11_flatten 31 = .ok (.invokevirtual 245, 3) := by decide +kernel
theorem dX11_flatten_34 : decode cX11_flatten 34 = .ok (.if_icmp .ge 25, 3) := by decide +kernel
theorem dX11_flatten_37 : decode cX11_flatten 37 = .ok (.aload_n 0, 1) := by decide +kernel
theorem dX11_flatten_38 : decode cX11_flatten 38 = .ok (.getfield 7, 3) := by decide +kernel
theorem dX11_flatten_41 : decode cX11_flatten 41 = .ok (.iconst 2, 1) := by decide +kernel
theorem dX11_flatten_42 : decode cX11_flatten 42 = .ok (.iload_n 3, 1) := by decide +kernel
theorem dX11_flatten_43 : decode cX11_flatten 43 = .ok (.iadd, 1) := by decide +kernel
theorem dX11_flatten_44 : decode cX11_flatten 44 = .ok (.aload_n 0, 1) := by decide +kernel
theorem dX11_flatten_45 : decode cX11_flatten 45 = .ok (.getfield 66, 3) := by decide +kernel
theorem dX11_flatten_48 : decode cX11_flatten 48 = .ok (.iload_n 2, 1) := by decide +kernel
theorem dX11_flatten_49 : decode cX11_flatten 49 = .ok (.iload_n 3, 1) := by decide +kernel
theorem dX11_flatten_50 : decode cX11_flatten 50 = .ok (.iadd, 1) := by decide +kernel
theorem dX11_flatten_51 : decode cX11_flatten 51 = .ok (.iaload, 1) := by decide +kernel
theorem dX11_flatten_52 : decode cX11_flatten 52 = .ok (.iastore, 1) := by decide +kernel
theorem dX11_flatten_53 : decode cX11_flatten 53 = .ok (.iinc 3 1, 3) := by decide +kernel
theorem dX11_flatten_56 : decode cX11_flatten 56 = .ok (.goto (-27), 3) := by decide +kernel
theorem dX11_flatten_59 : decode cX11_flatten 59 = .ok (.aload_n 0, 1) := by decide +kernel
theorem dX11_flatten_60 : decode cX11_flatten 60 = .ok (.iconst 0, 1) := by decide +kernel
theorem dX11_flatten_61 : decode cX11_flatten 61 = .ok (.iload_n 1, 1) := by decide +kernel
theorem dX11_flatten_62 : decode cX11_flatten 62 = .ok (.iconst 1, 1) := by decide +kernel
theorem dX11_flatten_63 : decode cX11_flatten 63 = .ok (.iadd, 1) := by decide +kernel
theorem dX11_flatten_64 : decode cX11_flatten 64 = .ok (.invokevirtual 239, 3) := by decide +kernel
theorem dX11_flatten_67 : decode cX11_flatten 67 = .ok (.iconst 0, 1) := by decide +kernel
theorem dX11_flatten_68 : decode cX11_flatten 68 = .ok (.istore_n 3, 1) := by decide +kernel
theorem dX11_flatten_69 : decode cX11_flatten 69 = .ok (.iload_n 3, 1) := by decide +kernel
theorem dX11_flatten_70 : decode cX11_flatten 70 = .ok (.sipush 512, 3) := by decide +kernel
theorem dX11_flatten_73 : decode cX11_flatten 73 = .ok (.if_icmp .ge 44, 3) := by decide +kernel
theorem dX11_flatten_76 : decode cX11_flatten 76 = .ok (.iload_n 3, 1) := by decide +kernel
theorem dX11_flatten_77 : decode cX11_flatten 77 = .ok (.bipush 64, 2) := by decide +kernel
theorem dX11_flatten_79 : decode cX11_flatten 79 = .ok (.iload_n 1, 1) := by decide +kernel
theorem dX11_flatten_80 : decode cX11_flatten 80 = .ok (.iconst 1, 1) := by decide +kernel
theorem dX11_flatten_81 : decode cX11_flatten 81 = .ok (.iadd, 1) := by decide +kernel
theorem dX11_flatten_82 : decode cX11_flatten 82 = .ok (.imul, 1) := by decide +kernel
theorem dX11_flatten_83 : decode cX11_flatten 83 = .ok (.iadd, 1) := by decide +kernel
theorem dX11_flatten_84 : decode cX11_flatten 84 = .ok (.istore 4, 2) := by decide +kernel
theorem dX11_flatten_86 : decode cX11_flatten 86 = .ok (.aload_n 0, 1) := by decide +kernel
theorem dX11_flatten_87 : decode cX11_flatten 87 = .ok (.getfield 33, 3) := by decide +kernel
theorem dX11_flatten_90 : decode cX11_flatten 90 = .ok (.iload_n 3, 1) := by decide +kernel
theorem dX11_flatten_91 : decode cX11_flatten 91 = .ok (.iload 4, 2) := by decide +kernel
theorem dX11_flatten_93 : decode cX11_flatten 93 = .ok (.sipush 512, 3) := by decide +kernel
theorem dX11_flatten_96 : decode cX11_flatten 96 = .ok (.if_icmp .ge 13, 3) := by decide +kernel
theorem dX11_flatten_99 : decode cX11_flatten 99 = .ok (.aload_n 0, 1) := by decide +kernel
theorem dX11_flatten_100 : decode cX11_flatten 100 = .ok (.getfield 33, 3) := by decide +kernel
theorem dX11_flatten_103 : decode cX11_flatten 103 = .ok (.iload 4, 2) := by decide +kernel
theorem dX11_flatten_105 : decode cX11_flatten 105 = .ok (.iaload, 1) := by decide +kernel
theorem dX11_flatten_106 : decode cX11_flatten 106 = .ok (.goto 4, 3) := by decide +kernel
theorem dX11_flatten_109 : decode cX11_flatten 109 = .ok (.iconst 0, 1) := by decide +kernel
theorem dX11_flatten_110 : decode cX11_flatten 110 = .ok (.iastore, 1) := by decide +kernel
theorem dX11_flatten_111 : decode cX11_flatten 111 = .ok (.iinc 3 1, 3) := by decide +kernel
theorem dX11_flatten_114 : decode cX11_flatten 114 = .ok (.goto (-45), 3) := by decide +kernel
theorem dX11_flatten_117 : decode cX11_flatten 117 = .ok (.aload_n 0, 1) := by decide +kernel
theorem dX11_flatten_118 : decode cX11_flatten 118 = .ok (.getfield 7, 3) := by decide +kernel
theorem dX11_flatten_121 : decode cX11_flatten 121 = .ok (.sipush 258, 3) := by decide +kernel
theorem dX11_flatten_124 : decode cX11_flatten 124 = .ok (.iaload, 1) := by decide +kernel
theorem dX11_flatten_125 : decode cX11_flatten 125 = .ok (.ireturn, 1) := by decide +kernel
theorem dX11_layer_0 : decode cX11_layer 0 = .ok (.aload_n 0, 1) := by decide +kernel
theorem dX11_layer_1 : decode cX11_layer 1 = .ok (.iconst 0, 1) := by decide +kernel
theorem dX11_layer_2 : decode cX11_layer 2 = .ok (.putfield 81, 3) := by decide +kernel
theorem dX11_layer_5 : decode cX11_layer 5 = .ok (.aload_n 0, 1) := by decide +kernel
theorem dX11_layer_6 : decode cX11_layer 6 = .ok (.iload_n 1, 1) := by decide +kernel
theorem dX11_layer_7 : decode cX11_layer 7 = .ok (.invokevirtual 233, 3) := by decide +kernel
theorem dX11_layer_10 : decode cX11_layer 10 = .ok (.ifCond .eq 13, 3) := by decide +kernel
theorem dX11_layer_13 : decode cX11_layer 13 = .ok (.iload_n 2, 1) := by decide +kernel
theorem dX11_layer_14 : decode cX11_layer 14 = .ok (.iconst 0, 1) := by decide +kernel
theorem dX11_layer_15 : decode cX11_layer 15 = .ok (.bipush 8, 2) := by decide +kernel
theorem dX11_layer_17 : decode cX11_layer 17 = .ok (.invokestatic 88, 3) := by decide +kernel
theorem dX11_layer_20 : decode cX11_layer 20 = .ok (.ifCond .ne 7, 3) := by decide +kernel
theorem dX11_layer_23 : decode cX11_layer 23 = .ok (.sipush (-1001), 3) := by decide +kernel
theorem dX11_layer_26 : decode cX11_layer 26 = .ok (.ireturn, 1) := by decide +kernel
theorem dX11_layer_27 : decode cX11_layer 27 = .ok (.iload_n 1, 1) := by decide +kernel
theorem dX11_layer_28 : decode cX11_layer 28 = .ok (.invokestatic 95, 3) := by decide +kernel
theorem dX11_layer_31 : decode cX11_layer 31 = .ok (.istore_n 3, 1) := by decide +kernel
theorem dX11_layer_32 : decode cX11_layer 32 = .ok (.iload_n 2, 1) := by decide +kernel
theorem dX11_layer_33 : decode cX11_layer 33 = .ok (.tableswitch 99 1 8 #[47, 60, 99, 99, 99, 73, 79, 89], 47) := by decide +kernel
theorem dX11_layer_80 : decode cX11_layer 80 = .ok (.aload_n 0, 1) := by decide +kernel
theorem dX11_layer_81 : decode cX11_layer 81 = .ok (.getfield 7, 3) := by decide +kernel
theorem dX11_layer_84 : decode cX11_layer 84 = .ok (.iload_n 3, 1) := by decide +kernel
theorem dX11_layer_85 : decode cX11_layer 85 = .ok (.iconst 1, 1) := by decide +kernel
theorem dX11_layer_86 : decode cX11_layer 86 = .ok (.iadd, 1) := by decide +kernel
theorem dX11_layer_87 : decode cX11_layer 87 = .ok (.iaload, 1) := by decide +kernel
theorem dX11_layer_88 : decode cX11_layer 88 = .ok (.sipush 1000, 3) := by decide +kernel
theorem dX11_layer_91 : decode cX11_layer 91 = .ok (.iadd, 1) := by decide +kernel
theorem dX11_layer_92 : decode cX11_layer 92 = .ok (.ireturn, 1) := by decide +kernel
theorem dX11_layer_93 : decode cX11_layer 93 = .ok (.aload_n 0, 1) := by decide +kernel
theorem dX11_layer_94 : decode cX11_layer 94 = .ok (.getfield 7, 3) := by decide +kernel
theorem dX11_layer_97 : decode cX11_layer 97 = .ok (.iload_n 3, 1) := by decide +kernel
theorem dX11_layer_98 : decode cX11_layer 98 = .ok (.iconst 2, 1) := by decide +kernel
theorem dX11_layer_99 : decode cX11_layer 99 = .ok (.iadd, 1) := by decide +kernel
theorem dX11_layer_100 : decode cX11_layer 100 = .ok (.iaload, 1) := by decide +kernel
theorem dX11_layer_101 : decode cX11_layer 101 = .ok (.sipush 1000, 3) := by decide +kernel
theorem dX11_layer_104 : decode cX11_layer 104 = .ok (.iadd, 1) := by decide +kernel
theorem dX11_layer_105 : decode cX11_layer 105 = .ok (.ireturn, 1) := by decide +kernel
theorem dX11_layer_106 : decode cX11_layer 106 = .ok (.aload_n 0, 1) := by decide +kernel
theorem dX11_layer_107 : decode cX11_layer 107 = .ok (.iload_n 1, 1) := by decide +kernel
theorem dX11_layer_108 : decode cX11_layer 108 = .ok (.invokevirtual 106, 3) := by decide +kernel
theorem dX11_layer_111 : decode cX11_layer 111 = .ok (.ireturn, 1) := by decide +kernel
theorem dX11_layer_112 : decode cX11_layer 112 = .ok (.aload_n 0, 1) := by decide +kernel
theorem dX11_layer_113 : decode cX11_layer 113 = .ok (.getfield 7, 3) := by decide +kernel
theorem dX11_layer_116 : decode cX11_layer 116 = .ok (.iload_n 3, 1) := by decide +kernel
theorem dX11_layer_117 : decode cX11_layer 117 = .ok (.bipush 6, 2) := by decide +kernel
theorem dX11_layer_119 : decode cX11_layer 119 = .ok (.iadd, 1) := by decide +kernel
theorem dX11_layer_120 : decode cX11_layer 120 = .ok (.iaload, 1) := by decide +kernel
theorem dX11_layer_121 : decode cX11_layer 121 = .ok (.ireturn, 1) := by decide +kernel
theorem dX11_layer_122 : decode cX11_layer 122 = .ok (.aload_n 0, 1) := by decide +kernel
theorem dX11_layer_123 : decode cX11_layer 123 = .ok (.getfield 7, 3) := by decide +kernel
theorem dX11_layer_126 : decode cX11_layer 126 = .ok (.iload_n 3, 1) := by decide +kernel
theorem dX11_layer_127 : decode cX11_layer 127 = .ok (.bipush 13, 2) := by decide +kernel
theorem dX11_layer_129 : decode cX11_layer 129 = .ok (.iadd, 1) := by decide +kernel
theorem dX11_layer_130 : decode cX11_layer 130 = .ok (.iaload, 1) := by decide +kernel
theorem dX11_layer_131 : decode cX11_layer 131 = .ok (.ireturn, 1) := by decide +kernel
theorem dX11_layer_132 : decode cX11_layer 132 = .ok (.aload_n 0, 1) := by decide +kernel
theorem dX11_layer_133 : decode cX11_layer 133 = .ok (.getfield 7, 3) := by decide +kernel
theorem dX11_layer_136 : decode cX11_layer 136 = .ok (.iload_n 3, 1) := by decide +kernel
theorem dX11_layer_137 : decode cX11_layer 137 = .ok (.iload_n 2, 1) := by decide +kernel
theorem dX11_layer_138 : decode cX11_layer 138 = .ok (.iadd, 1) := by decide +kernel
theorem dX11_layer_139 : decode cX11_layer 139 = .ok (.iaload, 1) := by decide +kernel
theorem dX11_layer_140 : decode cX11_layer 140 = .ok (.ireturn, 1) := by decide +kernel
theorem dX11_isNothing_0 : decode cX11_isNothing 0 = .ok (.iload_n 0, 1) := by decide +kernel
theorem dX11_isNothing_1 : decode cX11_isNothing 1 = .ok (.ifCond .ne 19, 3) := by decide +kernel
theorem dX11_isNothing_4 : decode cX11_isNothing 4 = .ok (.iload_n 1, 1) := by decide +kernel
theorem dX11_isNothing_5 : decode cX11_isNothing 5 = .ok (.ifCond .ne 15, 3) := by decide +kernel
theorem dX11_isNothing_8 : decode cX11_isNothing 8 = .ok (.iload_n 2, 1) := by decide +kernel
theorem dX11_isNothing_9 : decode cX11_isNothing 9 = .ok (.ifCond .ne 11, 3) := by decide +kernel
theorem dX11_isNothing_12 : decode cX11_isNothing 12 = .ok (.iload_n 3, 1) := by decide +kernel
theorem dX11_isNothing_13 : decode cX11_isNothing 13 = .ok (.ifCond .ne 7, 3) := by decide +kernel
theorem dX11_isNothing_16 : decode cX11_isNothing 16 = .ok (.iconst 1, 1) := by decide +kernel
theorem dX11_isNothing_17 : decode cX11_isNothing 17 = .ok (.goto 4, 3) := by decide +kernel
theorem dX11_isNothing_20 : decode cX11_isNothing 20 = .ok (.iconst 0, 1) := by decide +kernel
theorem dX11_isNothing_21 : decode cX11_isNothing 21 = .ok (.ireturn, 1) := by decide +kernel
theorem dX11_isMask_0 : decode cX11_isMask 0 = .ok (.iload_n 0, 1) := by decide +kernel
theorem dX11_isMask_1 : decode cX11_isMask 1 = .ok (.iconst 1, 1) := by decide +kernel
theorem dX11_isMask_2 : decode cX11_isMask 2 = .ok (.if_icmp .ne 50, 3) := by decide +kernel
theorem dX11_isMask_5 : decode cX11_isMask 5 = .ok (.iload_n 1, 1) := by decide +kernel
theorem dX11_isMask_6 : decode cX11_isMask 6 = .ok (.iconst 0, 1) := by decide +kernel
theorem dX11_isMask_7 : decode cX11_isMask 7 = .ok (.bipush 15, 2) := by decide +kernel
theorem dX11_isMask_9 : decode cX11_isMask 9 = .ok (.invokestatic 88, 3) := by decide +kernel
theorem dX11_isMask_12 : decode cX11_isMask 12 = .ok (.ifCond .eq 38, 3) := by decide +kernel
theorem dX11_isMask_15 : decode cX11_isMask 15 = .ok (.iload_n 3, 1) := by decide +kernel
theorem dX11_isMask_16 : decode cX11_isMask 16 = .ok (.iload_n 1, 1) := by decide +kernel
theorem dX11_isMask_17 : decode cX11_isMask 17 = .ok (.bipush 15, 2) := by decide +kernel
theorem dX11_isMask_19 : decode cX11_isMask 19 = .ok (.invokestatic 88, 3) := by decide +kernel
theorem dX11_isMask_22 : decode cX11_isMask 22 = .ok (.ifCond .eq 28, 3) := by decide +kernel
theorem dX11_isMask_25 : decode cX11_isMask 25 = .ok (.iload_n 2, 1) := by decide +kernel
theorem dX11_isMask_26 : decode cX11_isMask 26 = .ok (.iconst 0, 1) := by decide +kernel
theorem dX11_isMask_27 : decode cX11_isMask 27 = .ok (.bipush 15, 2) := by decide +kernel
theorem dX11_isMask_29 : decode cX11_isMask 29 = .ok (.invokestatic 88, 3) := by decide +kernel
theorem dX11_isMask_32 : decode cX11_isMask 32 = .ok (.ifCond .eq 18, 3) := by decide +kernel
theorem dX11_isMask_35 : decode cX11_isMask 35 = .ok (.iload 4, 2) := by decide +kernel
theorem dX11_isMask_37 : decode cX11_isMask 37 = .ok (.iload_n 2, 1) := by decide +kernel
theorem dX11_isMask_38 : decode cX11_isMask 38 = .ok (.bipush 15, 2) := by decide +kernel
theorem dX11_isMask_40 : decode cX11_isMask 40 = .ok (.invokestatic 88, 3) := by decide +kernel
theorem dX11_isMask_43 : decode cX11_isMask 43 = .ok (.ifCond .eq 7, 3) := by decide +kernel
theorem dX11_isMask_46 : decode cX11_isMask 46 = .ok (.iconst 1, 1) := by decide +kernel
theorem dX11_isMask_47 : decode cX11_isMask 47 = .ok (.goto 4, 3) := by decide +kernel
theorem dX11_isMask_50 : decode cX11_isMask 50 = .ok (.iconst 0, 1) := by decide +kernel
theorem dX11_isMask_51 : decode cX11_isMask 51 = .ok (.ireturn, 1) := by decide +kernel
theorem dX11_isMask_52 : decode cX11_isMask 52 = .ok (.iload_n 0, 1) := by decide +kernel
theorem dX11_isMask_53 : decode cX11_isMask 53 = .ok (.iconst 2, 1) := by decide +kernel
theorem dX11_isMask_54 : decode cX11_isMask 54 = .ok (.if_icmp .ne 42, 3) := by decide +kernel
theorem dX11_isMask_57 : decode cX11_isMask 57 = .ok (.iload_n 1, 1) := by decide +kernel
theorem dX11_isMask_58 : decode cX11_isMask 58 = .ok (.iconst 0, 1) := by decide +kernel
theorem dX11_isMask_59 : decode cX11_isMask 59 = .ok (.bipush 14, 2) := by decide +kernel
theorem dX11_isMask_61 : decode cX11_isMask 61 = .ok (.invokestatic 88, 3) := by decide +kernel
theorem dX11_isMask_64 : decode cX11_isMask 64 = .ok (.ifCond .eq 28, 3) := by decide +kernel
theorem dX11_isMask_67 : decode cX11_isMask 67 = .ok (.iload_n 3, 1) := by decide +kernel
theorem dX11_isMask_68 : decode cX11_isMask 68 = .ok (.iload_n 1, 1) := by decide +kernel
theorem dX11_isMask_69 : decode cX11_isMask 69 = .ok (.iconst 1, 1) := by decide +kernel
theorem dX11_isMask_70 : decode cX11_isMask 70 = .ok (.iadd, 1) := by decide +kernel
theorem dX11_isMask_71 : decode cX11_isMask 71 = .ok (.bipush 15, 2) := by decide +kernel
theorem dX11_isMask_73 : decode cX11_isMask 73 = .ok (.invokestatic 88, 3) := by decide +kernel
theorem dX11_isMask_76 : decode cX11_isMask 76 = .ok (.ifCond .eq 16, 3) := by decide +kernel
theorem dX11_isMask_79 : decode cX11_isMask 79 = .ok (.iload_n 2, 1) := by decide +kernel
theorem dX11_isMask_80 : decode cX11_isMask 80 = .ok (.ifCond .ne 12, 3) := by decide +kernel
theorem dX11_isMask_83 : decode cX11_isMask 83 = .ok (.iload 4, 2) := by decide +kernel
theorem dX11_isMask_85 : decode cX11_isMask 85 = .ok (.ifCond .ne 7, 3) := by decide +kernel
theorem dX11_isMask_88 : decode cX11_isMask 88 = .ok (.iconst 1, 1) := by decide +kernel
theorem dX11_isMask_89 : decode cX11_isMask 89 = .ok (.goto 15, 3) := by decide +kernel
theorem dX11_isMask_92 : decode cX11_isMask 92 = .ok (.iconst 0, 1) := by decide +kernel
theorem dX11_isMask_93 : decode cX11_isMask 93 = .ok (.goto 11, 3) := by decide +kernel
theorem dX11_isMask_96 : decode cX11_isMask 96 = .ok (.iload_n 1, 1) := by decide +kernel
theorem dX11_isMask_97 : decode cX11_isMask 97 = .ok (.iload_n 2, 1) := by decide +kernel
theorem dX11_isMask_98 : decode cX11_isMask 98 = .ok (.iload_n 3, 1) := by decide +kernel
theorem dX11_isMask_99 : decode cX11_isMask 99 = .ok (.iload 4, 2) := by decide +kernel
theorem dX11_isMask_101 : decode cX11_isMask 101 = .ok (.invokestatic 248, 3) := by decide +kernel
theorem dX11_isMask_104 : decode cX11_isMask 104 = .ok (.ireturn, 1) := by decide +kernel
theorem dX11_setMaskOf_0 : decode cX11_setMaskOf 0 = .ok (.aload_n 0, 1) := by decide +kernel
theorem dX11_setMaskOf_1 : decode cX11_setMaskOf 1 = .ok (.getfield 7, 3) := by decide +kernel
theorem dX11_setMaskOf_4 : decode cX11_setMaskOf 4 = .ok (.iload_n 1, 1) := by decide +kernel
theorem dX11_setMaskOf_5 : decode cX11_setMaskOf 5 = .ok (.bipush 6, 2) := by decide +kernel
theorem dX11_setMaskOf_7 : decode cX11_setMaskOf 7 = .ok (.iadd, 1) := by decide +kernel
theorem dX11_setMaskOf_8 : decode cX11_setMaskOf 8 = .ok (.iload_n 2, 1) := by decide +kernel
theorem dX11_setMaskOf_9 : decode cX11_setMaskOf 9 = .ok (.iastore, 1) := by decide +kernel
theorem dX11_setMaskOf_10 : decode cX11_setMaskOf 10 = .ok (.aload_n 0, 1) := by decide +kernel
theorem dX11_setMaskOf_11 : decode cX11_setMaskOf 11 = .ok (.getfield 7, 3) := by decide +kernel
theorem dX11_setMaskOf_14 : decode cX11_setMaskOf 14 = .ok (.iload_n 1, 1) := by decide +kernel
theorem dX11_setMaskOf_15 : decode cX11_setMaskOf 15 = .ok (.bipush 7, 2) := by decide +kernel
theorem dX11_setMaskOf_17 : decode cX11_setMaskOf 17 = .ok (.iadd, 1) := by decide +kernel
theorem dX11_setMaskOf_18 : decode cX11_setMaskOf 18 = .ok (.iload_n 3, 1) := by decide +kernel
theorem dX11_setMaskOf_19 : decode cX11_setMaskOf 19 = .ok (.iastore, 1) := by decide +kernel
theorem dX11_setMaskOf_20 : decode cX11_setMaskOf 20 = .ok (.aload_n 0, 1) := by decide +kernel
theorem dX11_setMaskOf_21 : decode cX11_setMaskOf 21 = .ok (.getfield 7, 3) := by decide +kernel
theorem dX11_setMaskOf_24 : decode cX11_setMaskOf 24 = .ok (.iload_n 1, 1) := by decide +kernel
theorem dX11_setMaskOf_25 : decode cX11_setMaskOf 25 = .ok (.bipush 7, 2) := by decide +kernel
theorem dX11_setMaskOf_27 : decode cX11_setMaskOf 27 = .ok (.iadd, 1) := by decide +kernel
theorem dX11_setMaskOf_28 : decode cX11_setMaskOf 28 = .ok (.iconst 1, 1) := by decide +kernel
theorem dX11_setMaskOf_29 : decode cX11_setMaskOf 29 = .ok (.iadd, 1) := by decide +kernel
theorem dX11_setMaskOf_30 : decode cX11_setMaskOf 30 = .ok (.iload 4, 2) := by decide +kernel
theorem dX11_setMaskOf_32 : decode cX11_setMaskOf 32 = .ok (.iastore, 1) := by decide +kernel
theorem dX11_setMaskOf_33 : decode cX11_setMaskOf 33 = .ok (.aload_n 0, 1) := by decide +kernel
theorem dX11_setMaskOf_34 : decode cX11_setMaskOf 34 = .ok (.getfield 7, 3) := by decide +kernel
theorem dX11_setMaskOf_37 : decode cX11_setMaskOf 37 = .ok (.iload_n 1, 1) := by decide +kernel
theorem dX11_setMaskOf_38 : decode cX11_setMaskOf 38 = .ok (.bipush 7, 2) := by decide +kernel
theorem dX11_setMaskOf_40 : decode cX11_setMaskOf 40 = .ok (.iadd, 1) := by decide +kernel
theorem dX11_setMaskOf_41 : decode cX11_setMaskOf 41 = .ok (.iconst 2, 1) := by decide +kernel
theorem dX11_setMaskOf_42 : decode cX11_setMaskOf 42 = .ok (.iadd, 1) := by decide +kernel
theorem dX11_setMaskOf_43 : decode cX11_setMaskOf 43 = .ok (.iload 5, 2) := by decide +kernel
theorem dX11_setMaskOf_45 : decode cX11_setMaskOf 45 = .ok (.iastore, 1) := by decide +kernel
theorem dX11_setMaskOf_46 : decode cX11_setMaskOf 46 = .ok (.aload_n 0, 1) := by decide +kernel
theorem dX11_setMaskOf_47 : decode cX11_setMaskOf 47 = .ok (.getfield 7, 3) := by decide +kernel
theorem dX11_setMaskOf_50 : decode cX11_setMaskOf 50 = .ok (.iload_n 1, 1) := by decide +kernel
theorem dX11_setMaskOf_51 : decode cX11_setMaskOf 51 = .ok (.bipush 7, 2) := by decide +kernel
theorem dX11_setMaskOf_53 : decode cX11_setMaskOf 53 = .ok (.iadd, 1) := by decide +kernel
theorem dX11_setMaskOf_54 : decode cX11_setMaskOf 54 = .ok (.iconst 3, 1) := by decide +kernel
theorem dX11_setMaskOf_55 : decode cX11_setMaskOf 55 = .ok (.iadd, 1) := by decide +kernel
theorem dX11_setMaskOf_56 : decode cX11_setMaskOf 56 = .ok (.iload 6, 2) := by decide +kernel
theorem dX11_setMaskOf_58 : decode cX11_setMaskOf 58 = .ok (.iastore, 1) := by decide +kernel
theorem dX11_setMaskOf_59 : decode cX11_setMaskOf 59 = .ok (.return_, 1) := by decide +kernel
theorem dX11_setMask_0 : decode cX11_setMask 0 = .ok (.aload_n 0, 1) := by decide +kernel
theorem dX11_setMask_1 : decode cX11_setMask 1 = .ok (.iconst 0, 1) := by decide +kernel
theorem dX11_setMask_2 : decode cX11_setMask 2 = .ok (.putfield 81, 3) := by decide +kernel
theorem dX11_setMask_5 : decode cX11_setMask 5 = .ok (.aload_n 0, 1) := by decide +kernel
theorem dX11_setMask_6 : decode cX11_setMask 6 = .ok (.iload_n 1, 1) := by decide +kernel
theorem dX11_setMask_7 : decode cX11_setMask 7 = .ok (.invokevirtual 233, 3) := by decide +kernel
theorem dX11_setMask_10 : decode cX11_setMask 10 = .ok (.ifCond .eq 26, 3) := by decide +kernel
theorem dX11_setMask_13 : decode cX11_setMask 13 = .ok (.iload_n 2, 1) := by decide +kernel
theorem dX11_setMask_14 : decode cX11_setMask 14 = .ok (.iconst 0, 1) := by decide +kernel
theorem dX11_setMask_15 : decode cX11_setMask 15 = .ok (.iconst 4, 1) := by decide +kernel
theorem dX11_setMask_16 : decode cX11_setMask 16 = .ok (.invokestatic 88, 3) := by decide +kernel
theorem dX11_setMask_19 : decode cX11_setMask 19 = .ok (.ifCond .eq 17, 3) := by decide +kernel
theorem dX11_setMask_22 : decode cX11_setMask 22 = .ok (.iload_n 2, 1) := by decide +kernel
theorem dX11_setMask_23 : decode cX11_setMask 23 = .ok (.iload_n 3, 1) := by decide +kernel
theorem dX11_setMask_24 : decode cX11_setMask 24 = .ok (.iload 4, 2) := by decide +kernel
theorem dX11_setMask_26 : decode cX11_setMask 26 = .ok (.iload 5, 2) := by decide +kernel
theorem dX11_setMask_28 : decode cX11_setMask 28 = .ok (.iload 6, 2) := by decide +kernel
theorem dX11_setMask_30 : decode cX11_setMask 30 = .ok (.invokestatic 252, 3) := by decide +kernel
theorem dX11_setMask_33 : decode cX11_setMask 33 = .ok (.ifCond .ne 7, 3) := by decide +kernel
theorem dX11_setMask_36 : decode cX11_setMask 36 = .ok (.sipush (-1001), 3) := by decide +kernel
theorem dX11_setMask_39 : decode cX11_setMask 39 = .ok (.ireturn, 1) := by decide +kernel
theorem dX11_setMask_40 : decode cX11_setMask 40 = .ok (.aload_n 0, 1) := by decide +kernel
theorem dX11_setMask_41 : decode cX11_setMask 41 = .ok (.invokevirtual 199, 3) := by decide +kernel
theorem dX11_setMask_44 : decode cX11_setMask 44 = .ok (.aload_n 0, 1) := by decide +kernel
theorem dX11_setMask_45 : decode cX11_setMask 45 = .ok (.getfield 7, 3) := by decide +kernel
theorem dX11_setMask_48 : decode cX11_setMask 48 = .ok (.iload_n 1, 1) := by decide +kernel
theorem dX11_setMask_49 : decode cX11_setMask 49 = .ok (.invokestatic 95, 3) := by decide +kernel
theorem dX11_setMask_52 : decode cX11_setMask 52 = .ok (.bipush 6, 2) := by decide +kernel
theorem dX11_setMask_54 : decode cX11_setMask 54 = .ok (.iadd, 1) := by decide +kernel
theorem dX11_setMask_55 : decode cX11_setMask 55 = .ok (.iaload, 1) := by decide +kernel
theorem dX11_setMask_56 : decode cX11_setMask 56 = .ok (.istore 7, 2) := by decide +kernel
theorem dX11_setMask_58 : decode cX11_setMask 58 = .ok (.aload_n 0, 1) := by decide +kernel
theorem dX11_setMask_59 : decode cX11_setMask 59 = .ok (.iload_n 1, 1) := by decide +kernel
theorem dX11_setMask_60 : decode cX11_setMask 60 = .ok (.invokestatic 95, 3) := by decide +kernel
theorem dX11_setMask_63 : decode cX11_setMask 63 = .ok (.iload_n 2, 1) := by decide +kernel
theorem dX11_setMask_64 : decode cX11_setMask 64 = .ok (.iload_n 3, 1) := by decide +kernel
theorem dX11_setMask_65 : decode cX11_setMask 65 = .ok (.iload 4, 2) := by decide +kernel
theorem dX11_setMask_67 : decode cX11_setMask 67 = .ok (.iload 5, 2) := by decide +kernel
theorem dX11_setMask_69 : decode cX11_setMask 69 = .ok (.iload 6, 2) := by decide +kernel
theorem dX11_setMask_71 : decode cX11_setMask 71 = .ok (.invokevirtual 256, 3) := by decide +kernel
theorem dX11_setMask_74 : decode cX11_setMask 74 = .ok (.aload_n 0, 1) := by decide +kernel
theorem dX11_setMask_75 : decode cX11_setMask 75 = .ok (.iload_n 1, 1) := by decide +kernel
theorem dX11_setMask_76 : decode cX11_setMask 76 = .ok (.bipush 7, 2) := by decide +kernel
theorem dX11_setMask_78 : decode cX11_setMask 78 = .ok (.invokevirtual 196, 3) := by decide +kernel
theorem dX11_setMask_81 : decode cX11_setMask 81 = .ok (.pop, 1) := by decide +kernel
theorem dX11_setMask_82 : decode cX11_setMask 82 = .ok (.iload 7, 2) := by decide +kernel
theorem dX11_setMask_84 : decode cX11_setMask 84 = .ok (.ireturn, 1) := by decide +kernel
theorem dX11_setFeather_0 : decode cX11_setFeather 0 = .ok (.aload_n 0, 1) := by decide +kernel
theorem dX11_setFeather_1 : decode cX11_setFeather 1 = .ok (.iconst 0, 1) := by decide +kernel
theorem dX11_setFeather_2 : decode cX11_setFeather 2 = .ok (.putfield 81, 3) := by decide +kernel
theorem dX11_setFeather_5 : decode cX11_setFeather 5 = .ok (.aload_n 0, 1) := by decide +kernel
theorem dX11_setFeather_6 : decode cX11_setFeather 6 = .ok (.iload_n 1, 1) := by decide +kernel
theorem dX11_setFeather_7 : decode cX11_setFeather 7 = .ok (.invokevirtual 233, 3) := by decide +kernel
theorem dX11_setFeather_10 : decode cX11_setFeather 10 = .ok (.ifCond .eq 12, 3) := by decide +kernel
theorem dX11_setFeather_13 : decode cX11_setFeather 13 = .ok (.iload_n 2, 1) := by decide +kernel
theorem dX11_setFeather_14 : decode cX11_setFeather 14 = .ok (.iconst 0, 1) := by decide +kernel
theorem dX11_setFeather_15 : decode cX11_setFeather 15 = .ok (.iconst 5, 1) := by decide +kernel
theorem dX11_setFeather_16 : decode cX11_setFeather 16 = .ok (.invokestatic 88, 3) := by decide +kernel
theorem dX11_setFeather_19 : decode cX11_setFeather 19 = .ok (.ifCond .ne 7, 3) := by decide +kernel
theorem dX11_setFeather_22 : decode cX11_setFeather 22 = .ok (.sipush (-1001), 3) := by decide +kernel
theorem dX11_setFeather_25 : decode cX11_setFeather 25 = .ok (.ireturn, 1) := by decide +kernel
theorem dX11_setFeather_26 : decode cX11_setFeather 26 = .ok (.aload_n 0, 1) := by decide +kernel
theorem dX11_setFeather_27 : decode cX11_setFeather 27 = .ok (.invokevirtual 199, 3) := by decide +kernel
theorem dX11_setFeather_30 : decode cX11_setFeather 30 = .ok (.aload_n 0, 1) := by decide +kernel
theorem dX11_setFeather_31 : decode cX11_setFeather 31 = .ok (.getfield 7, 3) := by decide +kernel
theorem dX11_setFeather_34 : decode cX11_setFeather 34 = .ok (.iload_n 1, 1) := by decide +kernel
theorem dX11_setFeather_35 : decode cX11_setFeather 35 = .ok (.invokestatic 95, 3) := by decide +kernel
theorem dX11_setFeather_38 : decode cX11_setFeather 38 = .ok (.bipush 11, 2) := by decide +kernel
theorem dX11_setFeather_40 : decode cX11_setFeather 40 = .ok (.iadd, 1) := by decide +kernel
theorem dX11_setFeather_41 : decode cX11_setFeather 41 = .ok (.iaload, 1) := by decide +kernel
theorem dX11_setFeather_42 : decode cX11_setFeather 42 = .ok (.istore_n 3, 1) := by decide +kernel
theorem dX11_setFeather_43 : decode cX11_setFeather 43 = .ok (.aload_n 0, 1) := by decide +kernel
theorem dX11_setFeather_44 : decode cX11_setFeather 44 = .ok (.getfield 7, 3) := by decide +kernel
theorem dX11_setFeather_47 : decode cX11_setFeather 47 = .ok (.iload_n 1, 1) := by decide +kernel
theorem dX11_setFeather_48 : decode cX11_setFeather 48 = .ok (.invokestatic 95, 3) := by decide +kernel
theorem dX11_setFeather_51 : decode cX11_setFeather 51 = .ok (.bipush 11, 2) := by decide +kernel
theorem dX11_setFeather_53 : decode cX11_setFeather 53 = .ok (.iadd, 1) := by decide +kernel
theorem dX11_setFeather_54 : decode cX11_setFeather 54 = .ok (.iload_n 2, 1) := by decide +kernel
theorem dX11_setFeather_55 : decode cX11_setFeather 55 = .ok (.iastore, 1) := by decide +kernel
theorem dX11_setFeather_56 : decode cX11_setFeather 56 = .ok (.aload_n 0, 1) := by decide +kernel
theorem dX11_setFeather_57 : decode cX11_setFeather 57 = .ok (.iload_n 1, 1) := by decide +kernel
theorem dX11_setFeather_58 : decode cX11_setFeather 58 = .ok (.bipush 7, 2) := by decide +kernel
theorem dX11_setFeather_60 : decode cX11_setFeather 60 = .ok (.invokevirtual 196, 3) := by decide +kernel
theorem dX11_setFeather_63 : decode cX11_setFeather 63 = .ok (.pop, 1) := by decide +kernel
theorem dX11_setFeather_64 : decode cX11_setFeather 64 = .ok (.iload_n 3, 1) := by decide +kernel
theorem dX11_setFeather_65 : decode cX11_setFeather 65 = .ok (.ireturn, 1) := by decide +kernel
theorem dX11_invertMask_0 : decode cX11_invertMask 0 = .ok (.aload_n 0, 1) := by decide +kernel
theorem dX11_invertMask_1 : decode cX11_invertMask 1 = .ok (.iconst 0, 1) := by decide +kernel
theorem dX11_invertMask_2 : decode cX11_invertMask 2 = .ok (.putfield 81, 3) := by decide +kernel
theorem dX11_invertMask_5 : decode cX11_invertMask 5 = .ok (.aload_n 0, 1) := by decide +kernel
theorem dX11_invertMask_6 : decode cX11_invertMask 6 = .ok (.iload_n 1, 1) := by decide +kernel
theorem dX11_invertMask_7 : decode cX11_invertMask 7 = .ok (.invokevirtual 233, 3) := by decide +kernel
theorem dX11_invertMask_10 : decode cX11_invertMask 10 = .ok (.ifCond .ne 7, 3) := by decide +kernel
theorem dX11_invertMask_13 : decode cX11_invertMask 13 = .ok (.sipush (-1001), 3) := by decide +kernel
theorem dX11_invertMask_16 : decode cX11_invertMask 16 = .ok (.ireturn, 1) := by decide +kernel
theorem dX11_invertMask_17 : decode cX11_invertMask 17 = .ok (.aload_n 0, 1) := by decide +kernel
theorem dX11_invertMask_18 : decode cX11_invertMask 18 = .ok (.invokevirtual 199, 3) := by decide +kernel
theorem dX11_invertMask_21 : decode cX11_invertMask 21 = .ok (.aload_n 0, 1) := by decide +kernel
theorem dX11_invertMask_22 : decode cX11_invertMask 22 = .ok (.getfield 7, 3) := by decide +kernel
theorem dX11_invertMask_25 : decode cX11_invertMask 25 = .ok (.iload_n 1, 1) := by decide +kernel
theorem dX11_invertMask_26 : decode cX11_invertMask 26 = .ok (.invokestatic 95, 3) := by decide +kernel
theorem dX11_invertMask_29 : decode cX11_invertMask 29 = .ok (.bipush 12, 2) := by decide +kernel
theorem dX11_invertMask_31 : decode cX11_invertMask 31 = .ok (.iadd, 1) := by decide +kernel
theorem dX11_invertMask_32 : decode cX11_invertMask 32 = .ok (.iconst 1, 1) := by decide +kernel
theorem dX11_invertMask_33 : decode cX11_invertMask 33 = .ok (.aload_n 0, 1) := by decide +kernel
theorem dX11_invertMask_34 : decode cX11_invertMask 34 = .ok (.getfield 7, 3) := by decide +kernel
theorem dX11_invertMask_37 : decode cX11_invertMask 37 = .ok (.iload_n 1, 1) := by decide +kernel
theorem dX11_invertMask_38 : decode cX11_invertMask 38 = .ok (.invokestatic 95, 3) := by decide +kernel
theorem dX11_invertMask_41 : decode cX11_invertMask 41 = .ok (.bipush 12, 2) := by decide +kernel
theorem dX11_invertMask_43 : decode cX11_invertMask 43 = .ok (.iadd, 1) := by decide +kernel
theorem dX11_invertMask_44 : decode cX11_invertMask 44 = .ok (.iaload, 1) := by decide +kernel
theorem dX11_invertMask_45 : decode cX11_invertMask 45 = .ok (.isub, 1) := by decide +kernel
theorem dX11_invertMask_46 : decode cX11_invertMask 46 = .ok (.iastore, 1) := by decide +kernel
theorem dX11_invertMask_47 : decode cX11_invertMask 47 = .ok (.aload_n 0, 1) := by decide +kernel
theorem dX11_invertMask_48 : decode cX11_invertMask 48 = .ok (.iload_n 1, 1) := by decide +kernel
theorem dX11_invertMask_49 : decode cX11_invertMask 49 = .ok (.bipush 7, 2) := by decide +kernel
theorem dX11_invertMask_51 : decode cX11_invertMask 51 = .ok (.invokevirtual 196, 3) := by decide +kernel
theorem dX11_invertMask_54 : decode cX11_invertMask 54 = .ok (.pop, 1) := by decide +kernel
theorem dX11_invertMask_55 : decode cX11_invertMask 55 = .ok (.aload_n 0, 1) := by decide +kernel
theorem dX11_invertMask_56 : decode cX11_invertMask 56 = .ok (.getfield 7, 3) := by decide +kernel
theorem dX11_invertMask_59 : decode cX11_invertMask 59 = .ok (.iload_n 1, 1) := by decide +kernel
theorem dX11_invertMask_60 : decode cX11_invertMask 60 = .ok (.invokestatic 95, 3) := by decide +kernel
theorem dX11_invertMask_63 : decode cX11_invertMask 63 = .ok (.bipush 12, 2) := by decide +kernel
theorem dX11_invertMask_65 : decode cX11_invertMask 65 = .ok (.iadd, 1) := by decide +kernel
theorem dX11_invertMask_66 : decode cX11_invertMask 66 = .ok (.iaload, 1) := by decide +kernel
theorem dX11_invertMask_67 : decode cX11_invertMask 67 = .ok (.ireturn, 1) := by decide +kernel
theorem dX11_dab_0 : decode cX11_dab 0 = .ok (.aload_n 0, 1) := by decide +kernel
theorem dX11_dab_1 : decode cX11_dab 1 = .ok (.iconst 0, 1) := by decide +kernel
theorem dX11_dab_2 : decode cX11_dab 2 = .ok (.putfield 81, 3) := by decide +kernel
theorem dX11_dab_5 : decode cX11_dab 5 = .ok (.aload_n 0, 1) := by decide +kernel
theorem dX11_dab_6 : decode cX11_dab 6 = .ok (.iload_n 1, 1) := by decide +kernel
theorem dX11_dab_7 : decode cX11_dab 7 = .ok (.invokevirtual 233, 3) := by decide +kernel
theorem dX11_dab_10 : decode cX11_dab 10 = .ok (.ifCond .eq 34, 3) := by decide +kernel
theorem dX11_dab_13 : decode cX11_dab 13 = .ok (.iload_n 2, 1) := by decide +kernel
theorem dX11_dab_14 : decode cX11_dab 14 = .ok (.iconst 0, 1) := by decide +kernel
theorem dX11_dab_15 : decode cX11_dab 15 = .ok (.bipush 15, 2) := by decide +kernel
theorem dX11_dab_17 : decode cX11_dab 17 = .ok (.invokestatic 88, 3) := by decide +kernel
theorem dX11_dab_20 : decode cX11_dab 20 = .ok (.ifCond .eq 24, 3) := by decide +kernel
theorem dX11_dab_23 : decode cX11_dab 23 = .ok (.iload_n 3, 1) := by decide +kernel
theorem dX11_dab_24 : decode cX11_dab 24 = .ok (.iconst 0, 1) := by decide +kernel
theorem dX11_dab_25 : decode cX11_dab 25 = .ok (.bipush 15, 2) := by decide +kernel
theorem dX11_dab_27 : decode cX11_dab 27 = .ok (.invokestatic 88, 3) := by decide +kernel
theorem dX11_dab_30 : decode cX11_dab 30 = .ok (.ifCond .eq 14, 3) := by decide +kernel
theorem dX11_dab_33 : decode cX11_dab 33 = .ok (.iload 4, 2) := by decide +kernel
theorem dX11_dab_35 : decode cX11_dab 35 = .ok (.iconst 0, 1) := by decide +kernel
theorem dX11_dab_36 : decode cX11_dab 36 = .ok (.bipush 8, 2) := by decide +kernel
theorem dX11_dab_38 : decode cX11_dab 38 = .ok (.invokestatic 88, 3) := by decide +kernel
theorem dX11_dab_41 : decode cX11_dab 41 = .ok (.ifCond .ne 7, 3) := by decide +kernel
theorem dX11_dab_44 : decode cX11_dab 44 = .ok (.sipush (-1001), 3) := by decide +kernel
theorem dX11_dab_47 : decode cX11_dab 47 = .ok (.ireturn, 1) := by decide +kernel
theorem dX11_dab_48 : decode cX11_dab 48 = .ok (.iload_n 1, 1) := by decide +kernel
theorem dX11_dab_49 : decode cX11_dab 49 = .ok (.invokestatic 95, 3) := by decide +kernel
theorem dX11_dab_52 : decode cX11_dab 52 = .ok (.istore 5, 2) := by decide +kernel
theorem dX11_dab_54 : decode cX11_dab 54 = .ok (.aload_n 0, 1) := by decide +kernel
theorem dX11_dab_55 : decode cX11_dab 55 = .ok (.getfield 7, 3) := by decide +kernel
theorem dX11_dab_58 : decode cX11_dab 58 = .ok (.iload 5, 2) := by decide +kernel
theorem dX11_dab_60 : decode cX11_dab 60 = .ok (.bipush 13, 2) := by decide +kernel
theorem dX11_dab_62 : decode cX11_dab 62 = .ok (.iadd, 1) := by decide +kernel
theorem dX11_dab_63 : decode cX11_dab 63 = .ok (.iaload, 1) := by decide +kernel
theorem dX11_dab_64 : decode cX11_dab 64 = .ok (.bipush 6, 2) := by decide +kernel
theorem dX11_dab_66 : decode cX11_dab 66 = .ok (.if_icmp .ne 7, 3) := by decide +kernel
theorem dX11_dab_69 : decode cX11_dab 69 = .ok (.sipush (-1003), 3) := by decide +kernel
theorem dX11_dab_72 : decode cX11_dab 72 = .ok (.ireturn, 1) := by decide +kernel
theorem dX11_dab_73 : decode cX11_dab 73 = .ok (.aload_n 0, 1) := by decide +kernel
theorem dX11_dab_74 : decode cX11_dab 74 = .ok (.invokevirtual 199, 3) := by decide +kernel
theorem dX11_dab_77 : decode cX11_dab 77 = .ok (.iload 5, 2) := by decide +kernel
theorem dX11_dab_79 : decode cX11_dab 79 = .ok (.bipush 14, 2) := by decide +kernel
theorem dX11_dab_81 : decode cX11_dab 81 = .ok (.iadd, 1) := by decide +kernel
theorem dX11_dab_82 : decode cX11_dab 82 = .ok (.iconst 3, 1) := by decide +kernel
theorem dX11_dab_83 : decode cX11_dab 83 = .ok (.aload_n 0, 1) := by decide +kernel
theorem dX11_dab_84 : decode cX11_dab 84 = .ok (.getfield 7, 3) := by decide +kernel
theorem dX11_dab_87 : decode cX11_dab 87 = .ok (.iload 5, 2) := by decide +kernel
theorem dX11_dab_89 : decode cX11_dab 89 = .ok (.bipush 13, 2) := by decide +kernel
theorem dX11_dab_91 : decode cX11_dab 91 = .ok (.iadd, 1) := by decide +kernel
theorem dX11_dab_92 : decode cX11_dab 92 = .ok (.iaload, 1) := by decide +kernel
theorem dX11_dab_93 : decode cX11_dab 93 = .ok (.imul, 1) := by decide +kernel
theorem dX11_dab_94 : decode cX11_dab 94 = .ok (.iadd, 1) := by decide +kernel
theorem dX11_dab_95 : decode cX11_dab 95 = .ok (.istore 6, 2) := by decide +kernel
theorem dX11_dab_97 : decode cX11_dab 97 = .ok (.aload_n 0, 1) := by decide +kernel
theorem dX11_dab_98 : decode cX11_dab 98 = .ok (.getfield 7, 3) := by decide +kernel
theorem dX11_dab_101 : decode cX11_dab 101 = .ok (.iload 6, 2) := by decide +kernel
theorem dX11_dab_103 : decode cX11_dab 103 = .ok (.iload_n 2, 1) := by decide +kernel
theorem dX11_dab_104 : decode cX11_dab 104 = .ok (.iastore, 1) := by decide +kernel
theorem dX11_dab_105 : decode cX11_dab 105 = .ok (.aload_n 0, 1) := by decide +kernel
theorem dX11_dab_106 : decode cX11_dab 106 = .ok (.getfield 7, 3) := by decide +kernel
theorem dX11_dab_109 : decode cX11_dab 109 = .ok (.iload 6, 2) := by decide +kernel
theorem dX11_dab_111 : decode cX11_dab 111 = .ok (.iconst 1, 1) := by decide +kernel
theorem dX11_dab_112 : decode cX11_dab 112 = .ok (.iadd, 1) := by decide +kernel
theorem dX11_dab_113 : decode cX11_dab 113 = .ok (.iload_n 3, 1) := by decide +kernel
theorem dX11_dab_114 : decode cX11_dab 114 = .ok (.iastore, 1) := by decide +kernel
theorem dX11_dab_115 : decode cX11_dab 115 = .ok (.aload_n 0, 1) := by decide +kernel
theorem dX11_dab_116 : decode cX11_dab 116 = .ok (.getfield 7, 3) := by decide +kernel
theorem dX11_dab_119 : decode cX11_dab 119 = .ok (.iload 6, 2) := by decide +kernel
theorem dX11_dab_121 : decode cX11_dab 121 = .ok (.iconst 2, 1) := by decide +kernel
theorem dX11_dab_122 : decode cX11_dab 122 = .ok (.iadd, 1) := by decide +kernel
theorem dX11_dab_123 : decode cX11_dab 123 = .ok (.iload 4, 2) := by decide +kernel
theorem dX11_dab_125 : decode cX11_dab 125 = .ok (.iastore, 1) := by decide +kernel
theorem dX11_dab_126 : decode cX11_dab 126 = .ok (.aload_n 0, 1) := by decide +kernel
theorem dX11_dab_127 : decode cX11_dab 127 = .ok (.getfield 7, 3) := by decide +kernel
theorem dX11_dab_130 : decode cX11_dab 130 = .ok (.iload 5, 2) := by decide +kernel
theorem dX11_dab_132 : decode cX11_dab 132 = .ok (.bipush 13, 2) := by decide +kernel
theorem dX11_dab_134 : decode cX11_dab 134 = .ok (.iadd, 1) := by decide +kernel
theorem dX11_dab_135 : decode cX11_dab 135 = .ok (.dup2, 1) := by decide +kernel
theorem dX11_dab_136 : decode cX11_dab 136 = .ok (.iaload, 1) := by decide +kernel
theorem dX11_dab_137 : decode cX11_dab 137 = .ok (.iconst 1, 1) := by decide +kernel
theorem dX11_dab_138 : decode cX11_dab 138 = .ok (.iadd, 1) := by decide +kernel
theorem dX11_dab_139 : decode cX11_dab 139 = .ok (.iastore, 1) := by decide +kernel
theorem dX11_dab_140 : decode cX11_dab 140 = .ok (.aload_n 0, 1) := by decide +kernel
theorem dX11_dab_141 : decode cX11_dab 141 = .ok (.iload 5, 2) := by decide +kernel
theorem dX11_dab_143 : decode cX11_dab 143 = .ok (.iconst 4, 1) := by decide +kernel
theorem dX11_dab_144 : decode cX11_dab 144 = .ok (.iconst 0, 1) := by decide +kernel
theorem dX11_dab_145 : decode cX11_dab 145 = .ok (.iconst 0, 1) := by decide +kernel
theorem dX11_dab_146 : decode cX11_dab 146 = .ok (.iconst 0, 1) := by decide +kernel
theorem dX11_dab_147 : decode cX11_dab 147 = .ok (.iconst 0, 1) := by decide +kernel
theorem dX11_dab_148 : decode cX11_dab 148 = .ok (.invokevirtual 256, 3) := by decide +kernel
theorem dX11_dab_151 : decode cX11_dab 151 = .ok (.aload_n 0, 1) := by decide +kernel
theorem dX11_dab_152 : decode cX11_dab 152 = .ok (.iload_n 1, 1) := by decide +kernel
theorem dX11_dab_153 : decode cX11_dab 153 = .ok (.bipush 7, 2) := by decide +kernel
theorem dX11_dab_155 : decode cX11_dab 155 = .ok (.invokevirtual 196, 3) := by decide +kernel
theorem dX11_dab_158 : decode cX11_dab 158 = .ok (.pop, 1) := by decide +kernel
theorem dX11_dab_159 : decode cX11_dab 159 = .ok (.aload_n 0, 1) := by decide +kernel
theorem dX11_dab_160 : decode cX11_dab 160 = .ok (.getfield 7, 3) := by decide +kernel
theorem dX11_dab_163 : decode cX11_dab 163 = .ok (.iload 5, 2) := by decide +kernel
theorem dX11_dab_165 : decode cX11_dab 165 = .ok (.bipush 13, 2) := by decide +kernel
theorem dX11_dab_167 : decode cX11_dab 167 = .ok (.iadd, 1) := by decide +kernel
theorem dX11_dab_168 : decode cX11_dab 168 = .ok (.iaload, 1) := by decide +kernel
theorem dX11_dab_169 : decode cX11_dab 169 = .ok (.ireturn, 1) := by decide +kernel
theorem dX11_maskValue_0 : decode cX11_maskValue 0 = .ok (.aload_n 0, 1) := by decide +kernel
theorem dX11_maskValue_1 : decode cX11_maskValue 1 = .ok (.iconst 0, 1) := by decide +kernel
theorem dX11_maskValue_2 : decode cX11_maskValue 2 = .ok (.putfield 81, 3) := by decide +kernel
theorem dX11_maskValue_5 : decode cX11_maskValue 5 = .ok (.aload_n 0, 1) := by decide +kernel
theorem dX11_maskValue_6 : decode cX11_maskValue 6 = .ok (.iload_n 1, 1) := by decide +kernel
theorem dX11_maskValue_7 : decode cX11_maskValue 7 = .ok (.invokevirtual 233, 3) := by decide +kernel
theorem dX11_maskValue_10 : decode cX11_maskValue 10 = .ok (.ifCond .eq 12, 3) := by decide +kernel
theorem dX11_maskValue_13 : decode cX11_maskValue 13 = .ok (.aload_n 0, 1) := by decide +kernel
theorem dX11_maskValue_14 : decode cX11_maskValue 14 = .ok (.iload_n 2, 1) := by decide +kernel
theorem dX11_maskValue_15 : decode cX11_maskValue 15 = .ok (.iload_n 3, 1) := by decide +kernel
theorem dX11_maskValue_16 : decode cX11_maskValue 16 = .ok (.invokevirtual 138, 3) := by decide +kernel
theorem dX11_maskValue_19 : decode cX11_maskValue 19 = .ok (.ifCond .ne 7, 3) := by decide +kernel
theorem dX11_maskValue_22 : decode cX11_maskValue 22 = .ok (.sipush (-1001), 3) := by decide +kernel
theorem dX11_maskValue_25 : decode cX11_maskValue 25 = .ok (.ireturn, 1) := by decide +kernel
theorem dX11_maskValue_26 : decode cX11_maskValue 26 = .ok (.aload_n 0, 1) := by decide +kernel
theorem dX11_maskValue_27 : decode cX11_maskValue 27 = .ok (.iload_n 1, 1) := by decide +kernel
theorem dX11_maskValue_28 : decode cX11_maskValue 28 = .ok (.iconst 1, 1) := by decide +kernel
theorem dX11_maskValue_29 : decode cX11_maskValue 29 = .ok (.isub, 1) := by decide +kernel
theorem dX11_maskValue_30 : decode cX11_maskValue 30 = .ok (.invokevirtual 242, 3) := by decide +kernel
theorem dX11_maskValue_33 : decode cX11_maskValue 33 = .ok (.istore 4, 2) := by decide +kernel
theorem dX11_maskValue_35 : decode cX11_maskValue 35 = .ok (.aload_n 0, 1) := by decide +kernel
theorem dX11_maskValue_36 : decode cX11_maskValue 36 = .ok (.iload_n 1, 1) := by decide +kernel
theorem dX11_maskValue_37 : decode cX11_maskValue 37 = .ok (.invokestatic 95, 3) := by decide +kernel
theorem dX11_maskValue_40 : decode cX11_maskValue 40 = .ok (.iload_n 2, 1) := by decide +kernel
theorem dX11_maskValue_41 : decode cX11_maskValue 41 = .ok (.iload_n 3, 1) := by decide +kernel
theorem dX11_maskValue_42 : decode cX11_maskValue 42 = .ok (.aload_n 0, 1) := by decide +kernel
theorem dX11_maskValue_43 : decode cX11_maskValue 43 = .ok (.iload 4, 2) := by decide +kernel
theorem dX11_maskValue_45 : decode cX11_maskValue 45 = .ok (.iload_n 2, 1) := by decide +kernel
theorem dX11_maskValue_46 : decode cX11_maskValue 46 = .ok (.iload_n 3, 1) := by decide +kernel
theorem dX11_maskValue_47 : decode cX11_maskValue 47 = .ok (.invokevirtual 142, 3) := by decide +kernel
theorem dX11_maskValue_50 : decode cX11_maskValue 50 = .ok (.invokevirtual 190, 3) := by decide +kernel
theorem dX11_maskValue_53 : decode cX11_maskValue 53 = .ok (.ireturn, 1) := by decide +kernel
theorem dX11_append_0 : decode cX11_append 0 = .ok (.aload_n 0, 1) := by decide +kernel
theorem dX11_append_1 : decode cX11_append 1 = .ok (.iconst 0, 1) := by decide +kernel
theorem dX11_append_2 : decode cX11_append 2 = .ok (.putfield 81, 3) := by decide +kernel
theorem dX11_append_5 : decode cX11_append 5 = .ok (.iload_n 1, 1) := by decide +kernel
theorem dX11_append_6 : decode cX11_append 6 = .ok (.iconst 1, 1) := by decide +kernel
theorem dX11_append_7 : decode cX11_append 7 = .ok (.sipush 255, 3) := by decide +kernel
theorem dX11_append_10 : decode cX11_append 10 = .ok (.invokestatic 88, 3) := by decide +kernel
theorem dX11_append_13 : decode cX11_append 13 = .ok (.ifCond .ne 7, 3) := by decide +kernel
theorem dX11_append_16 : decode cX11_append 16 = .ok (.sipush (-1001), 3) := by decide +kernel
theorem dX11_append_19 : decode cX11_append 19 = .ok (.ireturn, 1) := by decide +kernel
theorem dX11_append_20 : decode cX11_append 20 = .ok (.aload_n 0, 1) := by decide +kernel
theorem dX11_append_21 : decode cX11_append 21 = .ok (.getfield 260, 3) := by decide +kernel
theorem dX11_append_24 : decode cX11_append 24 = .ok (.sipush 160, 3) := by decide +kernel
theorem dX11_append_27 : decode cX11_append 27 = .ok (.if_icmp .ne 7, 3) := by decide +kernel
theorem dX11_append_30 : decode cX11_append 30 = .ok (.sipush (-1003), 3) := by decide +kernel
theorem dX11_append_33 : decode cX11_append 33 = .ok (.ireturn, 1) := by decide +kernel
theorem dX11_append_34 : decode cX11_append 34 = .ok (.aload_n 0, 1) := by decide +kernel
theorem dX11_append_35 : decode cX11_append 35 = .ok (.getfield 23, 3) := by decide +kernel
theorem dX11_append_38 : decode cX11_append 38 = .ok (.aload_n 0, 1) := by decide +kernel
theorem dX11_append_39 : decode cX11_append 39 = .ok (.getfield 260, 3) := by decide +kernel
theorem dX11_append_42 : decode cX11_append 42 = .ok (.iload_n 1, 1) := by decide +kernel
theorem dX11_append_43 : decode cX11_append 43 = .ok (.iastore, 1) := by decide +kernel
theorem dX11_append_44 : decode cX11_append 44 = .ok (.aload_n 0, 1) := by decide +kernel
theorem dX11_append_45 : decode cX11_append 45 = .ok (.dup, 1) := by decide +kernel
theorem dX11_append_46 : decode cX11_append 46 = .ok (.getfield 260, 3) := by decide +kernel
theorem dX11_append_49 : decode cX11_append 49 = .ok (.iconst 1, 1) := by decide +kernel
theorem dX11_append_50 : decode cX11_append 50 = .ok (.iadd, 1) := by decide +kernel
theorem dX11_append_51 : decode cX11_append 51 = .ok (.putfield 260, 3) := by decide +kernel
theorem dX11_append_54 : decode cX11_append 54 = .ok (.aload_n 0, 1) := by decide +kernel
theorem dX11_append_55 : decode cX11_append 55 = .ok (.getfield 260, 3) := by decide +kernel
theorem dX11_append_58 : decode cX11_append 58 = .ok (.ireturn, 1) := by decide +kernel
theorem dX11_clearText_0 : decode cX11_clearText 0 = .ok (.aload_n 0, 1) := by decide +kernel
theorem dX11_clearText_1 : decode cX11_clearText 1 = .ok (.iconst 0, 1) := by decide +kernel
theorem dX11_clearText_2 : decode cX11_clearText 2 = .ok (.putfield 81, 3) := by decide +kernel
theorem dX11_clearText_5 : decode cX11_clearText 5 = .ok (.aload_n 0, 1) := by decide +kernel
theorem dX11_clearText_6 : decode cX11_clearText 6 = .ok (.getfield 260, 3) := by decide +kernel
theorem dX11_clearText_9 : decode cX11_clearText 9 = .ok (.istore_n 1, 1) := by decide +kernel
theorem dX11_clearText_10 : decode cX11_clearText 10 = .ok (.aload_n 0, 1) := by decide +kernel
theorem dX11_clearText_11 : decode cX11_clearText 11 = .ok (.iconst 0, 1) := by decide +kernel
theorem dX11_clearText_12 : decode cX11_clearText 12 = .ok (.putfield 260, 3) := by decide +kernel
theorem dX11_clearText_15 : decode cX11_clearText 15 = .ok (.iload_n 1, 1) := by decide +kernel
theorem dX11_clearText_16 : decode cX11_clearText 16 = .ok (.ireturn, 1) := by decide +kernel
theorem dX11_here_0 : decode cX11_here 0 = .ok (.aload_n 0, 1) := by decide +kernel
theorem dX11_here_1 : decode cX11_here 1 = .ok (.getfield 263, 3) := by decide +kernel
theorem dX11_here_4 : decode cX11_here 4 = .ok (.aload_n 0, 1) := by decide +kernel
theorem dX11_here_5 : decode cX11_here 5 = .ok (.getfield 260, 3) := by decide +kernel
theorem dX11_here_8 : decode cX11_here 8 = .ok (.if_icmp .ge 15, 3) := by decide +kernel
theorem dX11_here_11 : decode cX11_here 11 = .ok (.aload_n 0, 1) := by decide +kernel
theorem dX11_here_12 : decode cX11_here 12 = .ok (.getfield 23, 3) := by decide +kernel
theorem dX11_here_15 : decode cX11_here 15 = .ok (.aload_n 0, 1) := by decide +kernel
theorem dX11_here_16 : decode cX11_here 16 = .ok (.getfield 263, 3) := by decide +kernel
theorem dX11_here_19 : decode cX11_here 19 = .ok (.iaload, 1) := by decide +kernel
theorem dX11_here_20 : decode cX11_here 20 = .ok (.goto 4, 3) := by decide +kernel
theorem dX11_here_23 : decode cX11_here 23 = .ok (.iconst (-1), 1) := by decide +kernel
theorem dX11_here_24 : decode cX11_here 24 = .ok (.ireturn, 1) := by decide +kernel
theorem dX11_readWord_0 : decode cX11_readWord 0 = .ok (.aload_n 0, 1) := by decide +kernel
theorem dX11_readWord_1 : decode cX11_readWord 1 = .ok (.iconst 1, 1) := by decide +kernel
theorem dX11_readWord_2 : decode cX11_readWord 2 = .ok (.putfield 266, 3) := by decide +kernel
theorem dX11_readWord_5 : decode cX11_readWord 5 = .ok (.aload_n 0, 1) := by decide +kernel
theorem dX11_readWord_6 : decode cX11_readWord 6 = .ok (.lconst 0, 1) := by decide +kernel
theorem dX11_readWord_7 : decode cX11_readWord 7 = .ok (.putfield 269, 3) := by decide +kernel
theorem dX11_readWord_10 : decode cX11_readWord 10 = .ok (.aload_n 0, 1) := by decide +kernel
theorem dX11_readWord_11 : decode cX11_readWord 11 = .ok (.invokevirtual 273, 3) := by decide +kernel
theorem dX11_readWord_14 : decode cX11_readWord 14 = .ok (.bipush 97, 2) := by decide +kernel
theorem dX11_readWord_16 : decode cX11_readWord 16 = .ok (.bipush 122, 2) := by decide +kernel
theorem dX11_readWord_18 : decode cX11_readWord 18 = .ok (.invokestatic 88, 3) := by decide +kernel
theorem dX11_readWord_21 : decode cX11_readWord 21 = .ok (.ifCond .eq 60, 3) := by decide +kernel
theorem dX11_readWord_24 : decode cX11_readWord 24 = .ok (.aload_n 0, 1) := by decide +kernel
theorem dX11_readWord_25 : decode cX11_readWord 25 = .ok (.aload_n 0, 1) := by decide +kernel
theorem dX11_readWord_26 : decode cX11_readWord 26 = .ok (.getfield 263, 3) := by decide +kernel
theorem dX11_readWord_29 : decode cX11_readWord 29 = .ok (.aload_n 0, 1) := by decide +kernel
theorem dX11_readWord_30 : decode cX11_readWord 30 = .ok (.getfield 276, 3) := by decide +kernel
theorem dX11_readWord_33 : decode cX11_readWord 33 = .ok (.isub, 1) := by decide +kernel
theorem dX11_readWord_34 : decode cX11_readWord 34 = .ok (.bipush 11, 2) := by decide +kernel
theorem dX11_readWord_36 : decode cX11_readWord 36 = .ok (.if_icmp .le 9, 3) := by decide +kernel
theorem dX11_readWord_39 : decode cX11_readWord 39 = .ok (.ldc2_w 278, 3) := by decide +kernel
theorem dX11_readWord_42 : decode cX11_readWord 42 = .ok (.goto 23, 3) := by decide +kernel
theorem dX11_readWord_45 : decode cX11_readWord 45 = .ok (.ldc2_w 280, 3) := by decide +kernel
theorem dX11_readWord_48 : decode cX11_readWord 48 = .ok (.aload_n 0, 1) := by decide +kernel
theorem dX11_readWord_49 : decode cX11_readWord 49 = .ok (.getfield 269, 3) := by decide +kernel
theorem dX11_readWord_52 : decode cX11_readWord 52 = .ok (.lmul, 1) := by decide +kernel
theorem dX11_readWord_53 : decode cX11_readWord 53 = .ok (.aload_n 0, 1) := by decide +kernel
theorem dX11_readWord_54 : decode cX11_readWord 54 = .ok (.invokevirtual 273, 3) := by decide +kernel
theorem dX11_readWord_57 : decode cX11_readWord 57 = .ok (.i2l, 1) := by decide +kernel
theorem dX11_readWord_58 : decode cX11_readWord 58 = .ok (.ladd, 1) := by decide +kernel
theorem dX11_readWord_59 : decode cX11_readWord 59 = .ok (.ldc2_w 282, 3) := by decide +kernel
theorem dX11_readWord_62 : decode cX11_readWord 62 = .ok (.lsub, 1) := by decide +kernel
theorem dX11_readWord_63 : decode cX11_readWord 63 = .ok (.lconst 1, 1) := by decide +kernel
theorem dX11_readWord_64 : decode cX11_readWord 64 = .ok (.ladd, 1) := by decide +kernel
theorem dX11_readWord_65 : decode cX11_readWord 65 = .ok (.putfield 269, 3) := by decide +kernel
theorem dX11_readWord_68 : decode cX11_readWord 68 = .ok (.aload_n 0, 1) := by decide +kernel
theorem dX11_readWord_69 : decode cX11_readWord 69 = .ok (.dup, 1) := by decide +kernel
theorem dX11_readWord_70 : decode cX11_readWord 70 = .ok (.getfield 263, 3) := by decide +kernel
theorem dX11_readWord_73 : decode cX11_readWord 73 = .ok (.iconst 1, 1) := by decide +kernel
theorem dX11_readWord_74 : decode cX11_readWord 74 = .ok (.iadd, 1) := by decide +kernel
theorem dX11_readWord_75 : decode cX11_readWord 75 = .ok (.putfield 263, 3) := by decide +kernel
theorem dX11_readWord_78 : decode cX11_readWord 78 = .ok (.goto (-68), 3) := by decide +kernel
theorem dX11_readWord_81 : decode cX11_readWord 81 = .ok (.return_, 1) := by decide +kernel
theorem dX11_readDigits_0 : decode cX11_readDigits 0 = .ok (.aload_n 0, 1) := by decide +kernel
theorem dX11_readDigits_1 : decode cX11_readDigits 1 = .ok (.iconst 0, 1) := by decide +kernel
theorem dX11_readDigits_2 : decode cX11_readDigits 2 = .ok (.putfield 284, 3) := by decide +kernel
theorem dX11_readDigits_5 : decode cX11_readDigits 5 = .ok (.aload_n 0, 1) := by decide +kernel
theorem dX11_readDigits_6 : decode cX11_readDigits 6 = .ok (.invokevirtual 273, 3) := by decide +kernel
theorem dX11_readDigits_9 : decode cX11_readDigits 9 = .ok (.bipush 48, 2) := by decide +kernel
theorem dX11_readDigits_11 : decode cX11_readDigits 11 = .ok (.bipush 57, 2) := by decide +kernel
theorem dX11_readDigits_13 : decode cX11_readDigits 13 = .ok (.invokestatic 88, 3) := by decide +kernel
theorem dX11_readDigits_16 : decode cX11_readDigits 16 = .ok (.ifCond .eq 52, 3) := by decide +kernel
theorem dX11_readDigits_19 : decode cX11_readDigits 19 = .ok (.aload_n 0, 1) := by decide +kernel
theorem dX11_readDigits_20 : decode cX11_readDigits 20 = .ok (.aload_n 0, 1) := by decide +kernel
theorem dX11_readDigits_21 : decode cX11_readDigits 21 = .ok (.getfield 284, 3) := by decide +kernel
theorem dX11_readDigits_24 : decode cX11_readDigits 24 = .ok (.sipush 999, 3) := by decide +kernel
theorem dX11_readDigits_27 : decode cX11_readDigits 27 = .ok (.if_icmp .le 10, 3) := by decide +kernel
theorem dX11_readDigits_30 : decode cX11_readDigits 30 = .ok (.aload_n 0, 1) := by decide +kernel
theorem dX11_readDigits_31 : decode cX11_readDigits 31 = .ok (.getfield 284, 3) := by decide +kernel
theorem dX11_readDigits_34 : decode cX11_readDigits 34 = .ok (.goto 18, 3) := by decide +kernel
theorem dX11_readDigits_37 : decode cX11_readDigits 37 = .ok (.bipush 10, 2) := by decide +kernel
theorem dX11_readDigits_39 : decode cX11_readDigits 39 = .ok (.aload_n 0, 1) := by decide +kernel
theorem dX11_readDigits_40 : decode cX11_readDigits 40 = .ok (.getfield 284, 3) := by decide +kernel
theorem dX11_readDigits_43 : decode cX11_readDigits 43 = .ok (.imul, 1) := by decide +kernel
theorem dX11_readDigits_44 : decode cX11_readDigits 44 = .ok (.aload_n 0, 1) := by decide +kernel
theorem dX11_readDigits_45 : decode cX11_readDigits 45 = .ok (.invokevirtual 273, 3) := by decide +kernel
theorem dX11_readDigits_48 : decode cX11_readDigits 48 = .ok (.iadd, 1) := by decide +kernel
theorem dX11_readDigits_49 : decode cX11_readDigits 49 = .ok (.bipush 48, 2) := by decide +kernel
theorem dX11_readDigits_51 : decode cX11_readDigits 51 = .ok (.isub, 1) := by decide +kernel
theorem dX11_readDigits_52 : decode cX11_readDigits 52 = .ok (.putfield 284, 3) := by decide +kernel
theorem dX11_readDigits_55 : decode cX11_readDigits 55 = .ok (.aload_n 0, 1) := by decide +kernel
theorem dX11_readDigits_56 : decode cX11_readDigits 56 = .ok (.dup, 1) := by decide +kernel
theorem dX11_readDigits_57 : decode cX11_readDigits 57 = .ok (.getfield 263, 3) := by decide +kernel
theorem dX11_readDigits_60 : decode cX11_readDigits 60 = .ok (.iconst 1, 1) := by decide +kernel
theorem dX11_readDigits_61 : decode cX11_readDigits 61 = .ok (.iadd, 1) := by decide +kernel
theorem dX11_readDigits_62 : decode cX11_readDigits 62 = .ok (.putfield 263, 3) := by decide +kernel
theorem dX11_readDigits_65 : decode cX11_readDigits 65 = .ok (.goto (-60), 3) := by decide +kernel
theorem dX11_readDigits_68 : decode cX11_readDigits 68 = .ok (.aload_n 0, 1) := by decide +kernel
theorem dX11_readDigits_69 : decode cX11_readDigits 69 = .ok (.getfield 263, 3) := by decide +kernel
theorem dX11_readDigits_72 : decode cX11_readDigits 72 = .ok (.aload_n 0, 1) := by decide +kernel
theorem dX11_readDigits_73 : decode cX11_readDigits 73 = .ok (.getfield 276, 3) := by decide +kernel
theorem dX11_readDigits_76 : decode cX11_readDigits 76 = .ok (.isub, 1) := by decide +kernel
theorem dX11_readDigits_77 : decode cX11_readDigits 77 = .ok (.istore_n 1, 1) := by decide +kernel
theorem dX11_readDigits_78 : decode cX11_readDigits 78 = .ok (.aload_n 0, 1) := by decide +kernel
theorem dX11_readDigits_79 : decode cX11_readDigits 79 = .ok (.iload_n 1, 1) := by decide +kernel
theorem dX11_readDigits_80 : decode cX11_readDigits 80 = .ok (.iconst 1, 1) := by decide +kernel
theorem dX11_readDigits_81 : decode cX11_readDigits 81 = .ok (.if_icmp .eq 22, 3) := by decide +kernel
theorem dX11_readDigits_84 : decode cX11_readDigits 84 = .ok (.iload_n 1, 1) := by decide +kernel
theorem dX11_readDigits_85 : decode cX11_readDigits 85 = .ok (.iconst 4, 1) := by decide +kernel
theorem dX11_readDigits_86 : decode cX11_readDigits 86 = .ok (.if_icmp .ge 21, 3) := by decide +kernel
theorem dX11_readDigits_89 : decode cX11_readDigits 89 = .ok (.aload_n 0, 1) := by decide +kernel
theorem dX11_readDigits_90 : decode cX11_readDigits 90 = .ok (.getfield 23, 3) := by decide +kernel
theorem dX11_readDigits_93 : decode cX11_readDigits 93 = .ok (.aload_n 0, 1) := by decide +kernel
theorem dX11_readDigits_94 : decode cX11_readDigits 94 = .ok (.getfield 276, 3) := by decide +kernel
theorem dX11_readDigits_97 : decode cX11_readDigits 97 = .ok (.iaload, 1) := by decide +kernel
theorem dX11_readDigits_98 : decode cX11_readDigits 98 = .ok (.bipush 48, 2) := by decide +kernel
theorem dX11_readDigits_100 : decode cX11_readDigits 100 = .ok (.if_icmp .eq 7, 3) := by decide +kernel
theorem dX11_readDigits_103 : decode cX11_readDigits 103 = .ok (.iconst 2, 1) := by decide +kernel
theorem dX11_readDigits_104 : decode cX11_readDigits 104 = .ok (.goto 4, 3) := by decide +kernel
theorem dX11_readDigits_107 : decode cX11_readDigits 107 = .ok (.iconst 5, 1) := by decide +kernel
theorem dX11_readDigits_108 : decode cX11_readDigits 108 = .ok (.putfield 266, 3) := by decide +kernel
theorem dX11_readDigits_111 : decode cX11_readDigits 111 = .ok (.return_, 1) := by decide +kernel
theorem dX11_advance_0 : decode cX11_advance 0 = .ok (.aload_n 0, 1) := by decide +kernel
theorem dX11_advance_1 : decode cX11_advance 1 = .ok (.invokevirtual 273, 3) := by decide +kernel
theorem dX11_advance_4 : decode cX11_advance 4 = .ok (.bipush 32, 2) := by decide +kernel
theorem dX11_advance_6 : decode cX11_advance 6 = .ok (.if_icmp .ne 16, 3) := by decide +kernel
theorem dX11_advance_9 : decode cX11_advance 9 = .ok (.aload_n 0, 1) := by decide +kernel
theorem dX11_advance_10 : decode cX11_advance 10 = .ok (.dup, 1) := by decide +kernel
theorem dX11_advance_11 : decode cX11_advance 11 = .ok (.getfield 263, 3) := by decide +kernel
theorem dX11_advance_14 : decode cX11_advance 14 = .ok (.iconst 1, 1) := by decide +kernel
theorem dX11_advance_15 : decode cX11_advance 15 = .ok (.iadd, 1) := by decide +kernel
theorem dX11_advance_16 : decode cX11_advance 16 = .ok (.putfield 263, 3) := by decide +kernel
theorem dX11_advance_19 : decode cX11_advance 19 = .ok (.goto (-19), 3) := by decide +kernel
theorem dX11_advance_22 : decode cX11_advance 22 = .ok (.aload_n 0, 1) := by decide +kernel
theorem dX11_advance_23 : decode cX11_advance 23 = .ok (.aload_n 0, 1) := by decide +kernel
theorem dX11_advance_24 : decode cX11_advance 24 = .ok (.getfield 263, 3) := by decide +kernel
theorem dX11_advance_27 : decode cX11_advance 27 = .ok (.putfield 276, 3) := by decide +kernel
theorem dX11_advance_30 : decode cX11_advance 30 = .ok (.aload_n 0, 1) := by decide +kernel
theorem dX11_advance_31 : decode cX11_advance 31 = .ok (.invokevirtual 273, 3) := by decide +kernel
theorem dX11_advance_34 : decode cX11_advance 34 = .ok (.istore_n 1, 1) := by decide +kernel
theorem dX11_advance_35 : decode cX11_advance 35 = .ok (.iload_n 1, 1) := by decide +kernel
theorem dX11_advance_36 : decode cX11_advance 36 = .ok (.ifCond .ge 11, 3) := by decide +kernel
theorem dX11_advance_39 : decode cX11_advance 39 = .ok (.aload_n 0, 1) := by decide +kernel
theorem dX11_advance_40 : decode cX11_advance 40 = .ok (.iconst 0, 1) := by decide +kernel
theorem dX11_advance_41 : decode cX11_advance 41 = .ok (.putfield 266, 3) := by decide +kernel
theorem dX11_advance_44 : decode cX11_advance 44 = .ok (.goto 74, 3) := by decide +kernel
theorem dX11_advance_47 : decode cX11_advance 47 = .ok (.iload_n 1, 1) := by decide +kernel
theorem dX11_advance_48 : decode cX11_advance 48 = .ok (.bipush 97, 2) := by decide +kernel
theorem dX11_advance_50 : decode cX11_advance 50 = .ok (.bipush 122, 2) := by decide +kernel
theorem dX11_advance_52 : decode cX11_advance 52 = .ok (.invokestatic 88, 3) := by decide +kernel
theorem dX11_advance_55 : decode cX11_advance 55 = .ok (.ifCond .eq 10, 3) := by decide +kernel
theorem dX11_advance_58 : decode cX11_advance 58 = .ok (.aload_n 0, 1) := by decide +kernel
theorem dX11_advance_59 : decode cX11_advance 59 = .ok (.invokevirtual 287, 3) := by decide +kernel
theorem dX11_advance_62 : decode cX11_advance 62 = .ok (.goto 56, 3) := by decide +kernel
theorem dX11_advance_65 : decode cX11_advance 65 = .ok (.iload_n 1, 1) := by decide +kernel
theorem dX11_advance_66 : decode cX11_advance 66 = .ok (.bipush 48, 2) := by decide +kernel
theorem dX11_advance_68 : decode cX11_advance 68 = .ok (.bipush 57, 2) := by decide +kernel
theorem dX11_advance_70 : decode cX11_advance 70 = .ok (.invokestatic 88, 3) := by decide +kernel
theorem dX11_advance_73 : decode cX11_advance 73 = .ok (.ifCond .eq 10, 3) := by decide +kernel
theorem dX11_advance_76 : decode cX11_advance 76 = .ok (.aload_n 0, 1) := by decide +kernel
theorem dX11_advance_77 : decode cX11_advance 77 = .ok (.invokevirtual 290, 3) := by decide +kernel
theorem dX11_advance_80 : decode cX11_advance 80 = .ok (.goto 38, 3) := by decide +kernel
theorem dX11_advance_83 : decode cX11_advance 83 = .ok (.aload_n 0, 1) := by decide +kernel
theorem dX11_advance_84 : decode cX11_advance 84 = .ok (.iload_n 1, 1) := by decide +kernel
theorem dX11_advance_85 : decode cX11_advance 85 = .ok (.bipush 45, 2) := by decide +kernel
theorem dX11_advance_87 : decode cX11_advance 87 = .ok (.if_icmp .ne 7, 3) := by decide +kernel
theorem dX11_advance_90 : decode cX11_advance 90 = .ok (.iconst 3, 1) := by decide +kernel
theorem dX11_advance_91 : decode cX11_advance 91 = .ok (.goto 14, 3) := by decide +kernel
theorem dX11_advance_94 : decode cX11_advance 94 = .ok (.iload_n 1, 1) := by decide +kernel
theorem dX11_advance_95 : decode cX11_advance 95 = .ok (.bipush 59, 2) := by decide +kernel
theorem dX11_advance_97 : decode cX11_advance 97 = .ok (.if_icmp .ne 7, 3) := by decide +kernel
theorem dX11_advance_100 : decode cX11_advance 100 = .ok (.iconst 4, 1) := by decide +kernel
theorem dX11_advance_101 : decode cX11_advance 101 = .ok (.goto 4, 3) := by decide +kernel
theorem dX11_advance_104 : decode cX11_advance 104 = .ok (.iconst 5, 1) := by decide +kernel
theorem dX11_advance_105 : decode cX11_advance 105 = .ok (.putfield 266, 3) := by decide +kernel
theorem dX11_advance_108 : decode cX11_advance 108 = .ok (.aload_n 0, 1) := by decide +kernel
theorem dX11_advance_109 : decode cX11_advance 109 = .ok (.dup, 1) := by decide +kernel
theorem dX11_advance_110 : decode cX11_advance 110 = .ok (.getfield 263, 3) := by decide +kernel
theorem dX11_advance_113 : decode cX11_advance 113 = .ok (.iconst 1, 1) := by decide +kernel
theorem dX11_advance_114 : decode cX11_advance 114 = .ok (.iadd, 1) := by decide +kernel
theorem dX11_advance_115 : decode cX11_advance 115 = .ok (.putfield 263, 3) := by decide +kernel
theorem dX11_advance_118 : decode cX11_advance 118 = .ok (.return_, 1) := by decide +kernel
theorem dX11_isFine_0 : decode cX11_isFine 0 = .ok (.aload_n 0, 1) := by decide +kernel
theorem dX11_isFine_1 : decode cX11_isFine 1 = .ok (.getfield 293, 3) := by decide +kernel
theorem dX11_isFine_4 : decode cX11_isFine 4 = .ok (.sipush (-1009), 3) := by decide +kernel
theorem dX11_isFine_7 : decode cX11_isFine 7 = .ok (.if_icmp .ne 7, 3) := by decide +kernel
theorem dX11_isFine_10 : decode cX11_isFine 10 = .ok (.iconst 1, 1) := by decide +kernel
theorem dX11_isFine_11 : decode cX11_isFine 11 = .ok (.goto 4, 3) := by decide +kernel
theorem dX11_isFine_14 : decode cX11_isFine 14 = .ok (.iconst 0, 1) := by decide +kernel
theorem dX11_isFine_15 : decode cX11_isFine 15 = .ok (.ireturn, 1) := by decide +kernel
theorem dX11_take_0 : decode cX11_take 0 = .ok (.aload_n 0, 1) := by decide +kernel
theorem dX11_take_1 : decode cX11_take 1 = .ok (.invokevirtual 296, 3) := by decide +kernel
theorem dX11_take_4 : decode cX11_take 4 = .ok (.ifCond .eq 15, 3) := by decide +kernel
theorem dX11_take_7 : decode cX11_take 7 = .ok (.iload_n 1, 1) := by decide +kernel
theorem dX11_take_8 : decode cX11_take 8 = .ok (.ifCond .ne 11, 3) := by decide +kernel
theorem dX11_take_11 : decode cX11_take 11 = .ok (.aload_n 0, 1) := by decide +kernel
theorem dX11_take_12 : decode cX11_take 12 = .ok (.aload_n 0, 1) := by decide +kernel
theorem dX11_take_13 : decode cX11_take 13 = .ok (.getfield 276, 3) := by decide +kernel
theorem dX11_take_16 : decode cX11_take 16 = .ok (.putfield 293, 3) := by decide +kernel
theorem dX11_take_19 : decode cX11_take 19 = .ok (.aload_n 0, 1) := by decide +kernel
theorem dX11_take_20 : decode cX11_take 20 = .ok (.invokevirtual 296, 3) := by decide +kernel
theorem dX11_take_23 : decode cX11_take 23 = .ok (.ifCond .eq 7, 3) := by decide +kernel
theorem dX11_take_26 : decode cX11_take 26 = .ok (.aload_n 0, 1) := by decide +kernel
theorem dX11_take_27 : decode cX11_take 27 = .ok (.invokevirtual 300, 3) := by decide +kernel
theorem dX11_take_30 : decode cX11_take 30 = .ok (.return_, 1) := by decide +kernel
theorem dX11_kindOf_0 : decode cX11_kindOf 0 = .ok (.aload_n 0, 1) := by decide +kernel
theorem dX11_kindOf_1 : decode cX11_kindOf 1 = .ok (.getfield 269, 3) := by decide +kernel
theorem dX11_kindOf_4 : decode cX11_kindOf 4 = .ok (.ldc2_w 303, 3) := by decide +kernel
theorem dX11_kindOf_7 : decode cX11_kindOf 7 = .ok (.lcmp, 1) := by decide +kernel
theorem dX11_kindOf_8 : decode cX11_kindOf 8 = .ok (.ifCond .ne 5, 3) := by decide +kernel
theorem dX11_kindOf_11 : decode cX11_kindOf 11 = .ok (.iconst 0, 1) := by decide +kernel
theorem dX11_kindOf_12 : decode cX11_kindOf 12 = .ok (.ireturn, 1) := by decide +kernel
theorem dX11_kindOf_13 : decode cX11_kindOf 13 = .ok (.aload_n 0, 1) := by decide +kernel
theorem dX11_kindOf_14 : decode cX11_kindOf 14 = .ok (.getfield 269, 3) := by decide +kernel
theorem dX11_kindOf_17 : decode cX11_kindOf 17 = .ok (.ldc2_w 305, 3) := by decide +kernel
theorem dX11_kindOf_20 : decode cX11_kindOf 20 = .ok (.lcmp, 1) := by decide +kernel
theorem dX11_kindOf_21 : decode cX11_kindOf 21 = .ok (.ifCond .ne 5, 3) := by decide +kernel
theorem dX11_kindOf_24 : decode cX11_kindOf 24 = .ok (.iconst 1, 1) := by decide +kernel
theorem dX11_kindOf_25 : decode cX11_kindOf 25 = .ok (.ireturn, 1) := by decide +kernel
theorem dX11_kindOf_26 : decode cX11_kindOf 26 = .ok (.aload_n 0, 1) := by decide +kernel
theorem dX11_kindOf_27 : decode cX11_kindOf 27 = .ok (.getfield 269, 3) := by decide +kernel
theorem dX11_kindOf_30 : decode cX11_kindOf 30 = .ok (.ldc2_w 307, 3) := by decide +kernel
theorem dX11_kindOf_33 : decode cX11_kindOf 33 = .ok (.lcmp, 1) := by decide +kernel
theorem dX11_kindOf_34 : decode cX11_kindOf 34 = .ok (.ifCond .ne 5, 3) := by decide +kernel
theorem dX11_kindOf_37 : decode cX11_kindOf 37 = .ok (.iconst 2, 1) := by decide +kernel
theorem dX11_kindOf_38 : decode cX11_kindOf 38 = .ok (.ireturn, 1) := by decide +kernel
theorem dX11_kindOf_39 : decode cX11_kindOf 39 = .ok (.aload_n 0, 1) := by decide +kernel
theorem dX11_kindOf_40 : decode cX11_kindOf 40 = .ok (.getfield 269, 3) := by decide +kernel
theorem dX11_kindOf_43 : decode cX11_kindOf 43 = .ok (.ldc2_w 309, 3) := by decide +kernel
theorem dX11_kindOf_46 : decode cX11_kindOf 46 = .ok (.lcmp, 1) := by decide +kernel
theorem dX11_kindOf_47 : decode cX11_kindOf 47 = .ok (.ifCond .ne 5, 3) := by decide +kernel
theorem dX11_kindOf_50 : decode cX11_kindOf 50 = .ok (.iconst 3, 1) := by decide +kernel
theorem dX11_kindOf_51 : decode cX11_kindOf 51 = .ok (.ireturn, 1) := by decide +kernel
theorem dX11_kindOf_52 : decode cX11_kindOf 52 = .ok (.aload_n 0, 1) := by decide +kernel
theorem dX11_kindOf_53 : decode cX11_kindOf 53 = .ok (.getfield 269, 3) := by decide +kernel
theorem dX11_kindOf_56 : decode cX11_kindOf 56 = .ok (.ldc2_w 311, 3) := by decide +kernel
theorem dX11_kindOf_59 : decode cX11_kindOf 59 = .ok (.lcmp, 1) := by decide +kernel
theorem dX11_kindOf_60 : decode cX11_kindOf 60 = .ok (.ifCond .ne 5, 3) := by decide +kernel
theorem dX11_kindOf_63 : decode cX11_kindOf 63 = .ok (.iconst 4, 1) := by decide +kernel
theorem dX11_kindOf_64 : decode cX11_kindOf 64 = .ok (.ireturn, 1) := by decide +kernel
theorem dX11_kindOf_65 : decode cX11_kindOf 65 = .ok (.aload_n 0, 1) := by decide +kernel
theorem dX11_kindOf_66 : decode cX11_kindOf 66 = .ok (.getfield 269, 3) := by decide +kernel
theorem dX11_kindOf_69 : decode cX11_kindOf 69 = .ok (.ldc2_w 313, 3) := by decide +kernel
theorem dX11_kindOf_72 : decode cX11_kindOf 72 = .ok (.lcmp, 1) := by decide +kernel
theorem dX11_kindOf_73 : decode cX11_kindOf 73 = .ok (.ifCond .ne 5, 3) := by decide +kernel
theorem dX11_kindOf_76 : decode cX11_kindOf 76 = .ok (.iconst 5, 1) := by decide +kernel
theorem dX11_kindOf_77 : decode cX11_kindOf 77 = .ok (.ireturn, 1) := by decide +kernel
theorem dX11_kindOf_78 : decode cX11_kindOf 78 = .ok (.aload_n 0, 1) := by decide +kernel
theorem dX11_kindOf_79 : decode cX11_kindOf 79 = .ok (.getfield 269, 3) := by decide +kernel
theorem dX11_kindOf_82 : decode cX11_kindOf 82 = .ok (.ldc2_w 315, 3) := by decide +kernel
theorem dX11_kindOf_85 : decode cX11_kindOf 85 = .ok (.lcmp, 1) := by decide +kernel
theorem dX11_kindOf_86 : decode cX11_kindOf 86 = .ok (.ifCond .ne 6, 3) := by decide +kernel
theorem dX11_kindOf_89 : decode cX11_kindOf 89 = .ok (.bipush 6, 2) := by decide +kernel
theorem dX11_kindOf_91 : decode cX11_kindOf 91 = .ok (.ireturn, 1) := by decide +kernel
theorem dX11_kindOf_92 : decode cX11_kindOf 92 = .ok (.aload_n 0, 1) := by decide +kernel
theorem dX11_kindOf_93 : decode cX11_kindOf 93 = .ok (.getfield 269, 3) := by decide +kernel
theorem dX11_kindOf_96 : decode cX11_kindOf 96 = .ok (.ldc2_w 317, 3) := by decide +kernel
theorem dX11_kindOf_99 : decode cX11_kindOf 99 = .ok (.lcmp, 1) := by decide +kernel
theorem dX11_kindOf_100 : decode cX11_kindOf 100 = .ok (.ifCond .ne 6, 3) := by decide +kernel
theorem dX11_kindOf_103 : decode cX11_kindOf 103 = .ok (.bipush 7, 2) := by decide +kernel
theorem dX11_kindOf_105 : decode cX11_kindOf 105 = .ok (.ireturn, 1) := by decide +kernel
theorem dX11_kindOf_106 : decode cX11_kindOf 106 = .ok (.aload_n 0, 1) := by decide +kernel
theorem dX11_kindOf_107 : decode cX11_kindOf 107 = .ok (.getfield 269, 3) := by decide +kernel
theorem dX11_kindOf_110 : decode cX11_kindOf 110 = .ok (.ldc2_w 319, 3) := by decide +kernel
theorem dX11_kindOf_113 : decode cX11_kindOf 113 = .ok (.lcmp, 1) := by decide +kernel
theorem dX11_kindOf_114 : decode cX11_kindOf 114 = .ok (.ifCond .ne 6, 3) := by decide +kernel
theorem dX11_kindOf_117 : decode cX11_kindOf 117 = .ok (.bipush 8, 2) := by decide +kernel
theorem dX11_kindOf_119 : decode cX11_kindOf 119 = .ok (.ireturn, 1) := by decide +kernel
theorem dX11_kindOf_120 : decode cX11_kindOf 120 = .ok (.aload_n 0, 1) := by decide +kernel
theorem dX11_kindOf_121 : decode cX11_kindOf 121 = .ok (.getfield 269, 3) := by decide +kernel
theorem dX11_kindOf_124 : decode cX11_kindOf 124 = .ok (.ldc2_w 321, 3) := by decide +kernel
theorem dX11_kindOf_127 : decode cX11_kindOf 127 = .ok (.lcmp, 1) := by decide +kernel
theorem dX11_kindOf_128 : decode cX11_kindOf 128 = .ok (.ifCond .ne 6, 3) := by decide +kernel
theorem dX11_kindOf_131 : decode cX11_kindOf 131 = .ok (.bipush 9, 2) := by decide +kernel
theorem dX11_kindOf_133 : decode cX11_kindOf 133 = .ok (.ireturn, 1) := by decide +kernel
theorem dX11_kindOf_134 : decode cX11_kindOf 134 = .ok (.aload_n 0, 1) := by decide +kernel
theorem dX11_kindOf_135 : decode cX11_kindOf 135 = .ok (.getfield 269, 3) := by decide +kernel
theorem dX11_kindOf_138 : decode cX11_kindOf 138 = .ok (.ldc2_w 323, 3) := by decide +kernel
theorem dX11_kindOf_141 : decode cX11_kindOf 141 = .ok (.lcmp, 1) := by decide +kernel
theorem dX11_kindOf_142 : decode cX11_kindOf 142 = .ok (.ifCond .ne 6, 3) := by decide +kernel
theorem dX11_kindOf_145 : decode cX11_kindOf 145 = .ok (.bipush 10, 2) := by decide +kernel
theorem dX11_kindOf_147 : decode cX11_kindOf 147 = .ok (.ireturn, 1) := by decide +kernel
theorem dX11_kindOf_148 : decode cX11_kindOf 148 = .ok (.aload_n 0, 1) := by decide +kernel
theorem dX11_kindOf_149 : decode cX11_kindOf 149 = .ok (.getfield 269, 3) := by decide +kernel
theorem dX11_kindOf_152 : decode cX11_kindOf 152 = .ok (.ldc2_w 325, 3) := by decide +kernel
theorem dX11_kindOf_155 : decode cX11_kindOf 155 = .ok (.lcmp, 1) := by decide +kernel
theorem dX11_kindOf_156 : decode cX11_kindOf 156 = .ok (.ifCond .ne 6, 3) := by decide +kernel
theorem dX11_kindOf_159 : decode cX11_kindOf 159 = .ok (.bipush 11, 2) := by decide +kernel
theorem dX11_kindOf_161 : decode cX11_kindOf 161 = .ok (.ireturn, 1) := by decide +kernel
theorem dX11_kindOf_162 : decode cX11_kindOf 162 = .ok (.aload_n 0, 1) := by decide +kernel
theorem dX11_kindOf_163 : decode cX11_kindOf 163 = .ok (.getfield 269, 3) := by decide +kernel
theorem dX11_kindOf_166 : decode cX11_kindOf 166 = .ok (.ldc2_w 327, 3) := by decide +kernel
theorem dX11_kindOf_169 : decode cX11_kindOf 169 = .ok (.lcmp, 1) := by decide +kernel
theorem dX11_kindOf_170 : decode cX11_kindOf 170 = .ok (.ifCond .ne 6, 3) := by decide +kernel
theorem dX11_kindOf_173 : decode cX11_kindOf 173 = .ok (.bipush 12, 2) := by decide +kernel
theorem dX11_kindOf_175 : decode cX11_kindOf 175 = .ok (.ireturn, 1) := by decide +kernel
theorem dX11_kindOf_176 : decode cX11_kindOf 176 = .ok (.aload_n 0, 1) := by decide +kernel
theorem dX11_kindOf_177 : decode cX11_kindOf 177 = .ok (.getfield 269, 3) := by decide +kernel
theorem dX11_kindOf_180 : decode cX11_kindOf 180 = .ok (.ldc2_w 329, 3) := by decide +kernel
theorem dX11_kindOf_183 : decode cX11_kindOf 183 = .ok (.lcmp, 1) := by decide +kernel
theorem dX11_kindOf_184 : decode cX11_kindOf 184 = .ok (.ifCond .ne 6, 3) := by decide +kernel
theorem dX11_kindOf_187 : decode cX11_kindOf 187 = .ok (.bipush 13, 2) := by decide +kernel
theorem dX11_kindOf_189 : decode cX11_kindOf 189 = .ok (.ireturn, 1) := by decide +kernel
theorem dX11_kindOf_190 : decode cX11_kindOf 190 = .ok (.sipush (-1009), 3) := by decide +kernel
theorem dX11_kindOf_193 : decode cX11_kindOf 193 = .ok (.ireturn, 1) := by decide +kernel
theorem dX11_modeOf_0 : decode cX11_modeOf 0 = .ok (.aload_n 0, 1) := by decide +kernel
theorem dX11_modeOf_1 : decode cX11_modeOf 1 = .ok (.getfield 269, 3) := by decide +kernel
theorem dX11_modeOf_4 : decode cX11_modeOf 4 = .ok (.ldc2_w 331, 3) := by decide +kernel
theorem dX11_modeOf_7 : decode cX11_modeOf 7 = .ok (.lcmp, 1) := by decide +kernel
theorem dX11_modeOf_8 : decode cX11_modeOf 8 = .ok (.ifCond .ne 5, 3) := by decide +kernel
theorem dX11_modeOf_11 : decode cX11_modeOf 11 = .ok (.iconst 0, 1) := by decide +kernel
theorem dX11_modeOf_12 : decode cX11_modeOf 12 = .ok (.ireturn, 1) := by decide +kernel
theorem dX11_modeOf_13 : decode cX11_modeOf 13 = .ok (.aload_n 0, 1) := by decide +kernel
theorem dX11_modeOf_14 : decode cX11_modeOf 14 = .ok (.getfield 269, 3) := by decide +kernel
theorem dX11_modeOf_17 : decode cX11_modeOf 17 = .ok (.ldc2_w 333, 3) := by decide +kernel
theorem dX11_modeOf_20 : decode cX11_modeOf 20 = .ok (.lcmp, 1) := by decide +kernel
theorem dX11_modeOf_21 : decode cX11_modeOf 21 = .ok (.ifCond .ne 5, 3) := by decide +kernel
theorem dX11_modeOf_24 : decode cX11_modeOf 24 = .ok (.iconst 1, 1) := by decide +kernel
theorem dX11_modeOf_25 : decode cX11_modeOf 25 = .ok (.ireturn, 1) := by decide +kernel
theorem dX11_modeOf_26 : decode cX11_modeOf 26 = .ok (.aload_n 0, 1) := by decide +kernel
theorem dX11_modeOf_27 : decode cX11_modeOf 27 = .ok (.getfield 269, 3) := by decide +kernel
theorem dX11_modeOf_30 : decode cX11_modeOf 30 = .ok (.ldc2_w 335, 3) := by decide +kernel
theorem dX11_modeOf_33 : decode cX11_modeOf 33 = .ok (.lcmp, 1) := by decide +kernel
theorem dX11_modeOf_34 : decode cX11_modeOf 34 = .ok (.ifCond .ne 5, 3) := by decide +kernel
theorem dX11_modeOf_37 : decode cX11_modeOf 37 = .ok (.iconst 2, 1) := by decide +kernel
theorem dX11_modeOf_38 : decode cX11_modeOf 38 = .ok (.ireturn, 1) := by decide +kernel
theorem dX11_modeOf_39 : decode cX11_modeOf 39 = .ok (.aload_n 0, 1) := by decide +kernel
theorem dX11_modeOf_40 : decode cX11_modeOf 40 = .ok (.getfield 269, 3) := by decide +kernel
theorem dX11_modeOf_43 : decode cX11_modeOf 43 = .ok (.ldc2_w 337, 3) := by decide +kernel
theorem dX11_modeOf_46 : decode cX11_modeOf 46 = .ok (.lcmp, 1) := by decide +kernel
theorem dX11_modeOf_47 : decode cX11_modeOf 47 = .ok (.ifCond .ne 5, 3) := by decide +kernel
theorem dX11_modeOf_50 : decode cX11_modeOf 50 = .ok (.iconst 3, 1) := by decide +kernel
theorem dX11_modeOf_51 : decode cX11_modeOf 51 = .ok (.ireturn, 1) := by decide +kernel
theorem dX11_modeOf_52 : decode cX11_modeOf 52 = .ok (.aload_n 0, 1) := by decide +kernel
theorem dX11_modeOf_53 : decode cX11_modeOf 53 = .ok (.getfield 269, 3) := by decide +kernel
theorem dX11_modeOf_56 : decode cX11_modeOf 56 = .ok (.ldc2_w 339, 3) := by decide +kernel
theorem dX11_modeOf_59 : decode cX11_modeOf 59 = .ok (.lcmp, 1) := by decide +kernel
theorem dX11_modeOf_60 : decode cX11_modeOf 60 = .ok (.ifCond .ne 5, 3) := by decide +kernel
theorem dX11_modeOf_63 : decode cX11_modeOf 63 = .ok (.iconst 4, 1) := by decide +kernel
theorem dX11_modeOf_64 : decode cX11_modeOf 64 = .ok (.ireturn, 1) := by decide +kernel
theorem dX11_modeOf_65 : decode cX11_modeOf 65 = .ok (.aload_n 0, 1) := by decide +kernel
theorem dX11_modeOf_66 : decode cX11_modeOf 66 = .ok (.getfield 269, 3) := by decide +kernel
theorem dX11_modeOf_69 : decode cX11_modeOf 69 = .ok (.ldc2_w 341, 3) := by decide +kernel
theorem dX11_modeOf_72 : decode cX11_modeOf 72 = .ok (.lcmp, 1) := by decide +kernel
theorem dX11_modeOf_73 : decode cX11_modeOf 73 = .ok (.ifCond .ne 5, 3) := by decide +kernel
theorem dX11_modeOf_76 : decode cX11_modeOf 76 = .ok (.iconst 5, 1) := by decide +kernel
theorem dX11_modeOf_77 : decode cX11_modeOf 77 = .ok (.ireturn, 1) := by decide +kernel
theorem dX11_modeOf_78 : decode cX11_modeOf 78 = .ok (.aload_n 0, 1) := by decide +kernel
theorem dX11_modeOf_79 : decode cX11_modeOf 79 = .ok (.getfield 269, 3) := by decide +kernel
theorem dX11_modeOf_82 : decode cX11_modeOf 82 = .ok (.ldc2_w 343, 3) := by decide +kernel
theorem dX11_modeOf_85 : decode cX11_modeOf 85 = .ok (.lcmp, 1) := by decide +kernel
theorem dX11_modeOf_86 : decode cX11_modeOf 86 = .ok (.ifCond .ne 6, 3) := by decide +kernel
theorem dX11_modeOf_89 : decode cX11_modeOf 89 = .ok (.bipush 6, 2) := by decide +kernel
theorem dX11_modeOf_91 : decode cX11_modeOf 91 = .ok (.ireturn, 1) := by decide +kernel
theorem dX11_modeOf_92 : decode cX11_modeOf 92 = .ok (.aload_n 0, 1) := by decide +kernel
theorem dX11_modeOf_93 : decode cX11_modeOf 93 = .ok (.getfield 269, 3) := by decide +kernel
theorem dX11_modeOf_96 : decode cX11_modeOf 96 = .ok (.ldc2_w 345, 3) := by decide +kernel
theorem dX11_modeOf_99 : decode cX11_modeOf 99 = .ok (.lcmp, 1) := by decide +kernel
theorem dX11_modeOf_100 : decode cX11_modeOf 100 = .ok (.ifCond .ne 6, 3) := by decide +kernel
theorem dX11_modeOf_103 : decode cX11_modeOf 103 = .ok (.bipush 7, 2) := by decide +kernel
theorem dX11_modeOf_105 : decode cX11_modeOf 105 = .ok (.ireturn, 1) := by decide +kernel
theorem dX11_modeOf_106 : decode cX11_modeOf 106 = .ok (.sipush (-1009), 3) := by decide +kernel
theorem dX11_modeOf_109 : decode cX11_modeOf 109 = .ok (.ireturn, 1) := by decide +kernel
theorem dX11_readNumber_0 : decode cX11_readNumber 0 = .ok (.aload_n 0, 1) := by decide +kernel
theorem dX11_readNumber_1 : decode cX11_readNumber 1 = .ok (.invokevirtual 296, 3) := by decide +kernel
theorem dX11_readNumber_4 : decode cX11_readNumber 4 = .ok (.ifCond .eq 15, 3) := by decide +kernel
theorem dX11_readNumber_7 : decode cX11_readNumber 7 = .ok (.aload_n 0, 1) := by decide +kernel
theorem dX11_readNumber_8 : decode cX11_readNumber 8 = .ok (.getfield 266, 3) := by decide +kernel
theorem dX11_readNumber_11 : decode cX11_readNumber 11 = .ok (.iconst 3, 1) := by decide +kernel
theorem dX11_readNumber_12 : decode cX11_readNumber 12 = .ok (.if_icmp .ne 7, 3) := by decide +kernel
theorem dX11_readNumber_15 : decode cX11_readNumber 15 = .ok (.iconst 1, 1) := by decide +kernel
theorem dX11_readNumber_16 : decode cX11_readNumber 16 = .ok (.goto 4, 3) := by decide +kernel
theorem dX11_readNumber_19 : decode cX11_readNumber 19 = .ok (.iconst 0, 1) := by decide +kernel
theorem dX11_readNumber_20 : decode cX11_readNumber 20 = .ok (.istore_n 3, 1) := by decide +kernel
theorem dX11_readNumber_21 : decode cX11_readNumber 21 = .ok (.iload_n 3, 1) := by decide +kernel
theorem dX11_readNumber_22 : decode cX11_readNumber 22 = .ok (.ifCond .eq 16, 3) := by decide +kernel
theorem dX11_readNumber_25 : decode cX11_readNumber 25 = .ok (.aload_n 0, 1) := by decide +kernel
theorem dX11_readNumber_26 : decode cX11_readNumber 26 = .ok (.iload_n 1, 1) := by decide +kernel
theorem dX11_readNumber_27 : decode cX11_readNumber 27 = .ok (.ifCond .ge 7, 3) := by decide +kernel
theorem dX11_readNumber_30 : decode cX11_readNumber 30 = .ok (.iconst 1, 1) := by decide +kernel
theorem dX11_readNumber_31 : decode cX11_readNumber 31 = .ok (.goto 4, 3) := by decide +kernel
theorem dX11_readNumber_34 : decode cX11_readNumber 34 = .ok (.iconst 0, 1) := by decide +kernel
theorem dX11_readNumber_35 : decode cX11_readNumber 35 = .ok (.invokevirtual 347, 3) := by decide +kernel
theorem dX11_readNumber_38 : decode cX11_readNumber 38 = .ok (.iload_n 3, 1) := by decide +kernel
theorem dX11_readNumber_39 : decode cX11_readNumber 39 = .ok (.ifCond .eq 11, 3) := by decide +kernel
theorem dX11_readNumber_42 : decode cX11_readNumber 42 = .ok (.aload_n 0, 1) := by decide +kernel
theorem dX11_readNumber_43 : decode cX11_readNumber 43 = .ok (.getfield 284, 3) := by decide +kernel
theorem dX11_readNumber_46 : decode cX11_readNumber 46 = .ok (.ineg, 1) := by decide +kernel
theorem dX11_readNumber_47 : decode cX11_readNumber 47 = .ok (.goto 7, 3) := by decide +kernel
theorem dX11_readNumber_50 : decode cX11_readNumber 50 = .ok (.aload_n 0, 1) := by decide +kernel
theorem dX11_readNumber_51 : decode cX11_readNumber 51 = .ok (.getfield 284, 3) := by decide +kernel
theorem dX11_readNumber_54 : decode cX11_readNumber 54 = .ok (.istore 4, 2) := by decide +kernel
theorem dX11_readNumber_56 : decode cX11_readNumber 56 = .ok (.aload_n 0, 1) := by decide +kernel
theorem dX11_readNumber_57 : decode cX11_readNumber 57 = .ok (.aload_n 0, 1) := by decide +kernel
theorem dX11_readNumber_58 : decode cX11_readNumber 58 = .ok (.getfield 266, 3) := by decide +kernel
theorem dX11_readNumber_61 : decode cX11_readNumber 61 = .ok (.iconst 2, 1) := by decide +kernel
theorem dX11_readNumber_62 : decode cX11_readNumber 62 = .ok (.if_icmp .ne 31, 3) := by decide +kernel
theorem dX11_readNumber_65 : decode cX11_readNumber 65 = .ok (.iload_n 3, 1) := by decide +kernel
theorem dX11_readNumber_66 : decode cX11_readNumber 66 = .ok (.ifCond .eq 11, 3) := by decide +kernel
theorem dX11_readNumber_69 : decode cX11_readNumber 69 = .ok (.aload_n 0, 1) := by decide +kernel
theorem dX11_readNumber_70 : decode cX11_readNumber 70 = .ok (.getfield 284, 3) := by decide +kernel
theorem dX11_readNumber_73 : decode cX11_readNumber 73 = .ok (.ineg, 1) := by decide +kernel
theorem dX11_readNumber_74 : decode cX11_readNumber 74 = .ok (.goto 7, 3) := by decide +kernel
theorem dX11_readNumber_77 : decode cX11_readNumber 77 = .ok (.aload_n 0, 1) := by decide +kernel
theorem dX11_readNumber_78 : decode cX11_readNumber 78 = .ok (.getfield 284, 3) := by decide +kernel
theorem dX11_readNumber_81 : decode cX11_readNumber 81 = .ok (.iload_n 1, 1) := by decide +kernel
theorem dX11_readNumber_82 : decode cX11_readNumber 82 = .ok (.iload_n 2, 1) := by decide +kernel
theorem dX11_readNumber_83 : decode cX11_readNumber 83 = .ok (.invokestatic 88, 3) := by decide +kernel
theorem dX11_readNumber_86 : decode cX11_readNumber 86 = .ok (.ifCond .eq 7, 3) := by decide +kernel
theorem dX11_readNumber_89 : decode cX11_readNumber 89 = .ok (.iconst 1, 1) := by decide +kernel
theorem dX11_readNumber_90 : decode cX11_readNumber 90 = .ok (.goto 4, 3) := by decide +kernel
theorem dX11_readNumber_93 : decode cX11_readNumber 93 = .ok (.iconst 0, 1) := by decide +kernel
theorem dX11_readNumber_94 : decode cX11_readNumber 94 = .ok (.invokevirtual 347, 3) := by decide +kernel
theorem dX11_readNumber_97 : decode cX11_readNumber 97 = .ok (.iload 4, 2) := by decide +kernel
theorem dX11_readNumber_99 : decode cX11_readNumber 99 = .ok (.ireturn, 1) := by decide +kernel
theorem dX11_hasA_0 : decode cX11_hasA 0 = .ok (.iload_n 0, 1) := by decide +kernel
theorem dX11_hasA_1 : decode cX11_hasA 1 = .ok (.iconst 4, 1) := by decide +kernel
theorem dX11_hasA_2 : decode cX11_hasA 2 = .ok (.if_icmp .eq 13, 3) := by decide +kernel
theorem dX11_hasA_5 : decode cX11_hasA 5 = .ok (.iload_n 0, 1) := by decide +kernel
theorem dX11_hasA_6 : decode cX11_hasA 6 = .ok (.bipush 13, 2) := by decide +kernel
theorem dX11_hasA_8 : decode cX11_hasA 8 = .ok (.if_icmp .eq 7, 3) := by decide +kernel
theorem dX11_hasA_11 : decode cX11_hasA 11 = .ok (.iconst 1, 1) := by decide +kernel
theorem dX11_hasA_12 : decode cX11_hasA 12 = .ok (.goto 4, 3) := by decide +kernel
theorem dX11_hasA_15 : decode cX11_hasA 15 = .ok (.iconst 0, 1) := by decide +kernel
theorem dX11_hasA_16 : decode cX11_hasA 16 = .ok (.ireturn, 1) := by decide +kernel
theorem dX11_hasB_0 : decode cX11_hasB 0 = .ok (.iload_n 0, 1) := by decide +kernel
theorem dX11_hasB_1 : decode cX11_hasB 1 = .ok (.ifCond .eq 15, 3) := by decide +kernel
theorem dX11_hasB_4 : decode cX11_hasB 4 = .ok (.iload_n 0, 1) := by decide +kernel
theorem dX11_hasB_5 : decode cX11_hasB 5 = .ok (.bipush 10, 2) := by decide +kernel
theorem dX11_hasB_7 : decode cX11_hasB 7 = .ok (.if_icmp .eq 9, 3) := by decide +kernel
theorem dX11_hasB_10 : decode cX11_hasB 10 = .ok (.iload_n 0, 1) := by decide +kernel
theorem dX11_hasB_11 : decode cX11_hasB 11 = .ok (.bipush 11, 2) := by decide +kernel
theorem dX11_hasB_13 : decode cX11_hasB 13 = .ok (.if_icmp .ne 7, 3) := by decide +kernel
theorem dX11_hasB_16 : decode cX11_hasB 16 = .ok (.iconst 1, 1) := by decide +kernel
theorem dX11_hasB_17 : decode cX11_hasB 17 = .ok (.goto 4, 3) := by decide +kernel
theorem dX11_hasB_20 : decode cX11_hasB 20 = .ok (.iconst 0, 1) := by decide +kernel
theorem dX11_hasB_21 : decode cX11_hasB 21 = .ok (.ireturn, 1) := by decide +kernel
theorem dX11_readOption_0 : decode cX11_readOption 0 = .ok (.aload_n 0, 1) := by decide +kernel
theorem dX11_readOption_1 : decode cX11_readOption 1 = .ok (.getfield 269, 3) := by decide +kernel
theorem dX11_readOption_4 : decode cX11_readOption 4 = .ok (.ldc2_w 351, 3) := by decide +kernel
theorem dX11_readOption_7 : decode cX11_readOption 7 = .ok (.lcmp, 1) := by decide +kernel
theorem dX11_readOption_8 : decode cX11_readOption 8 = .ok (.ifCond .ne 38, 3) := by decide +kernel
theorem dX11_readOption_11 : decode cX11_readOption 11 = .ok (.aload_n 0, 1) := by decide +kernel
theorem dX11_readOption_12 : decode cX11_readOption 12 = .ok (.getfield 353, 3) := by decide +kernel
theorem dX11_readOption_15 : decode cX11_readOption 15 = .ok (.ifCond .ne 31, 3) := by decide +kernel
theorem dX11_readOption_18 : decode cX11_readOption 18 = .ok (.aload_n 0, 1) := by decide +kernel
theorem dX11_readOption_19 : decode cX11_readOption 19 = .ok (.iconst 1, 1) := by decide +kernel
theorem dX11_readOption_20 : decode cX11_readOption 20 = .ok (.putfield 353, 3) := by decide +kernel
theorem dX11_readOption_23 : decode cX11_readOption 23 = .ok (.aload_n 0, 1) := by decide +kernel
theorem dX11_readOption_24 : decode cX11_readOption 24 = .ok (.iconst 1, 1) := by decide +kernel
theorem dX11_readOption_25 : decode cX11_readOption 25 = .ok (.invokevirtual 347, 3) := by decide +kernel
theorem dX11_readOption_28 : decode cX11_readOption 28 = .ok (.aload_n 0, 1) := by decide +kernel
theorem dX11_readOption_29 : decode cX11_readOption 29 = .ok (.getfield 72, 3) := by decide +kernel
theorem dX11_readOption_32 : decode cX11_readOption 32 = .ok (.iload_n 1, 1) := by decide +kernel
theorem dX11_readOption_33 : decode cX11_readOption 33 = .ok (.iconst 4, 1) := by decide +kernel
theorem dX11_readOption_34 : decode cX11_readOption 34 = .ok (.iadd, 1) := by decide +kernel
theorem dX11_readOption_35 : decode cX11_readOption 35 = .ok (.aload_n 0, 1) := by decide +kernel
theorem dX11_readOption_36 : decode cX11_readOption 36 = .ok (.iconst 0, 1) := by decide +kernel
theorem dX11_readOption_37 : decode cX11_readOption 37 = .ok (.bipush 100, 2) := by decide +kernel
theorem dX11_readOption_39 : decode cX11_readOption 39 = .ok (.invokevirtual 357, 3) := by decide +kernel
theorem dX11_readOption_42 : decode cX11_readOption 42 = .ok (.iastore, 1) := by decide +kernel
theorem dX11_readOption_43 : decode cX11_readOption 43 = .ok (.goto 113, 3) := by decide +kernel
theorem dX11_readOption_46 : decode cX11_readOption 46 = .ok (.aload_n 0, 1) := by decide +kernel
theorem dX11_readOption_47 : decode cX11_readOption 47 = .ok (.getfield 269, 3) := by decide +kernel
theorem dX11_readOption_50 : decode cX11_readOption 50 = .ok (.ldc2_w 360, 3) := by decide +kernel
theorem dX11_readOption_53 : decode cX11_readOption 53 = .ok (.lcmp, 1) := by decide +kernel
theorem dX11_readOption_54 : decode cX11_readOption 54 = .ok (.ifCond .ne 61, 3) := by decide +kernel
theorem dX11_readOption_57 : decode cX11_readOption 57 = .ok (.aload_n 0, 1) := by decide +kernel
theorem dX11_readOption_58 : decode cX11_readOption 58 = .ok (.getfield 362, 3) := by decide +kernel
theorem dX11_readOption_61 : decode cX11_readOption 61 = .ok (.ifCond .ne 54, 3) := by decide +kernel
theorem dX11_readOption_64 : decode cX11_readOption 64 = .ok (.aload_n 0, 1) := by decide +kernel
theorem dX11_readOption_65 : decode cX11_readOption 65 = .ok (.iconst 1, 1) := by decide +kernel
theorem dX11_readOption_66 : decode cX11_readOption 66 = .ok (.putfield 362, 3) := by decide +kernel
theorem dX11_readOption_69 : decode cX11_readOption 69 = .ok (.aload_n 0, 1) := by decide +kernel
theorem dX11_readOption_70 : decode cX11_readOption 70 = .ok (.iconst 1, 1) := by decide +kernel
theorem dX11_readOption_71 : decode cX11_readOption 71 = .ok (.invokevirtual 347, 3) := by decide +kernel
theorem dX11_readOption_74 : decode cX11_readOption 74 = .ok (.aload_n 0, 1) := by decide +kernel
theorem dX11_readOption_75 : decode cX11_readOption 75 = .ok (.invokevirtual 365, 3) := by decide +kernel
theorem dX11_readOption_78 : decode cX11_readOption 78 = .ok (.istore_n 2, 1) := by decide +kernel
theorem dX11_readOption_79 : decode cX11_readOption 79 = .ok (.aload_n 0, 1) := by decide +kernel
theorem dX11_readOption_80 : decode cX11_readOption 80 = .ok (.aload_n 0, 1) := by decide +kernel
theorem dX11_readOption_81 : decode cX11_readOption 81 = .ok (.getfield 266, 3) := by decide +kernel
theorem dX11_readOption_84 : decode cX11_readOption 84 = .ok (.iconst 1, 1) := by decide +kernel
theorem dX11_readOption_85 : decode cX11_readOption 85 = .ok (.if_icmp .ne 14, 3) := by decide +kernel
theorem dX11_readOption_88 : decode cX11_readOption 88 = .ok (.iload_n 2, 1) := by decide +kernel
theorem dX11_readOption_89 : decode cX11_readOption 89 = .ok (.sipush (-1009), 3) := by decide +kernel
theorem dX11_readOption_92 : decode cX11_readOption 92 = .ok (.if_icmp .eq 7, 3) := by decide +kernel
theorem dX11_readOption_95 : decode cX11_readOption 95 = .ok (.iconst 1, 1) := by decide +kernel
theorem dX11_readOption_96 : decode cX11_readOption 96 = .ok (.goto 4, 3) := by decide +kernel
theorem dX11_readOption_99 : decode cX11_readOption 99 = .ok (.iconst 0, 1) := by decide +kernel
theorem dX11_readOption_100 : decode cX11_readOption 100 = .ok (.invokevirtual 347, 3) := by decide +kernel
theorem dX11_readOption_103 : decode cX11_readOption 103 = .ok (.aload_n 0, 1) := by decide +kernel
theorem dX11_readOption_104 : decode cX11_readOption 104 = .ok (.getfield 72, 3) := by decide +kernel
theorem dX11_readOption_107 : decode cX11_readOption 107 = .ok (.iload_n 1, 1) := by decide +kernel
theorem dX11_readOption_108 : decode cX11_readOption 108 = .ok (.iconst 3, 1) := by decide +kernel
theorem dX11_readOption_109 : decode cX11_readOption 109 = .ok (.iadd, 1) := by decide +kernel
theorem dX11_readOption_110 : decode cX11_readOption 110 = .ok (.iload_n 2, 1) := by decide +kernel
theorem dX11_readOption_111 : decode cX11_readOption 111 = .ok (.iastore, 1) := by decide +kernel
theorem dX11_readOption_112 : decode cX11_readOption 112 = .ok (.goto 44, 3) := by decide +kernel
theorem dX11_readOption_115 : decode cX11_readOption 115 = .ok (.aload_n 0, 1) := by decide +kernel
theorem dX11_readOption_116 : decode cX11_readOption 116 = .ok (.aload_n 0, 1) := by decide +kernel
theorem dX11_readOption_117 : decode cX11_readOption 117 = .ok (.getfield 269, 3) := by decide +kernel
theorem dX11_readOption_120 : decode cX11_readOption 120 = .ok (.ldc2_w 368, 3) := by decide +kernel
theorem dX11_readOption_123 : decode cX11_readOption 123 = .ok (.lcmp, 1) := by decide +kernel
theorem dX11_readOption_124 : decode cX11_readOption 124 = .ok (.ifCond .ne 14, 3) := by decide +kernel
theorem dX11_readOption_127 : decode cX11_readOption 127 = .ok (.aload_n 0, 1) := by decide +kernel
theorem dX11_readOption_128 : decode cX11_readOption 128 = .ok (.getfield 370, 3) := by decide +kernel
theorem dX11_readOption_131 : decode cX11_readOption 131 = .ok (.ifCond .ne 7, 3) := by decide +kernel
theorem dX11_readOption_134 : decode cX11_readOption 134 = .ok (.iconst 1, 1) := by decide +kernel
theorem dX11_readOption_135 : decode cX11_readOption 135 = .ok (.goto 4, 3) := by decide +kernel
theorem dX11_readOption_138 : decode cX11_readOption 138 = .ok (.iconst 0, 1) := by decide +kernel
theorem dX11_readOption_139 : decode cX11_readOption 139 = .ok (.invokevirtual 347, 3) := by decide +kernel
theorem dX11_readOption_142 : decode cX11_readOption 142 = .ok (.aload_n 0, 1) := by decide +kernel
theorem dX11_readOption_143 : decode cX11_readOption 143 = .ok (.iconst 1, 1) := by decide +kernel
theorem dX11_readOption_144 : decode cX11_readOption 144 = .ok (.putfield 370, 3) := by decide +kernel
theorem dX11_readOption_147 : decode cX11_readOption 147 = .ok (.aload_n 0, 1) := by decide +kernel
theorem dX11_readOption_148 : decode cX11_readOption 148 = .ok (.getfield 72, 3) := by decide +kernel
theorem dX11_readOption_151 : decode cX11_readOption 151 = .ok (.iload_n 1, 1) := by decide +kernel
theorem dX11_readOption_152 : decode cX11_readOption 152 = .ok (.iconst 5, 1) := by decide +kernel
theorem dX11_readOption_153 : decode cX11_readOption 153 = .ok (.iadd, 1) := by decide +kernel
theorem dX11_readOption_154 : decode cX11_readOption 154 = .ok (.iconst 0, 1) := by decide +kernel
theorem dX11_readOption_155 : decode cX11_readOption 155 = .ok (.iastore, 1) := by decide +kernel
theorem dX11_readOption_156 : decode cX11_readOption 156 = .ok (.return_, 1) := by decide +kernel
theorem dX11_readLayer_0 : decode cX11_readLayer 0 = .ok (.aload_n 0, 1) := by decide +kernel
theorem dX11_readLayer_1 : decode cX11_readLayer 1 = .ok (.invokevirtual 373, 3) := by decide +kernel
theorem dX11_readLayer_4 : decode cX11_readLayer 4 = .ok (.istore_n 1, 1) := by decide +kernel
theorem dX11_readLayer_5 : decode cX11_readLayer 5 = .ok (.aload_n 0, 1) := by decide +kernel
theorem dX11_readLayer_6 : decode cX11_readLayer 6 = .ok (.aload_n 0, 1) := by decide +kernel
theorem dX11_readLayer_7 : decode cX11_readLayer 7 = .ok (.getfield 266, 3) := by decide +kernel
theorem dX11_readLayer_10 : decode cX11_readLayer 10 = .ok (.iconst 1, 1) := by decide +kernel
theorem dX11_readLayer_11 : decode cX11_readLayer 11 = .ok (.if_icmp .ne 23, 3) := by decide +kernel
theorem dX11_readLayer_14 : decode cX11_readLayer 14 = .ok (.iload_n 1, 1) := by decide +kernel
theorem dX11_readLayer_15 : decode cX11_readLayer 15 = .ok (.sipush (-1009), 3) := by decide +kernel
theorem dX11_readLayer_18 : decode cX11_readLayer 18 = .ok (.if_icmp .eq 16, 3) := by decide +kernel
theorem dX11_readLayer_21 : decode cX11_readLayer 21 = .ok (.aload_n 0, 1) := by decide +kernel
theorem dX11_readLayer_22 : decode cX11_readLayer 22 = .ok (.getfield 376, 3) := by decide +kernel
theorem dX11_readLayer_25 : decode cX11_readLayer 25 = .ok (.bipush 8, 2) := by decide +kernel
theorem dX11_readLayer_27 : decode cX11_readLayer 27 = .ok (.if_icmp .ge 7, 3) := by decide +kernel
theorem dX11_readLayer_30 : decode cX11_readLayer 30 = .ok (.iconst 1, 1) := by decide +kernel
theorem dX11_readLayer_31 : decode cX11_readLayer 31 = .ok (.goto 4, 3) := by decide +kernel
theorem dX11_readLayer_34 : decode cX11_readLayer 34 = .ok (.iconst 0, 1) := by decide +kernel
theorem dX11_readLayer_35 : decode cX11_readLayer 35 = .ok (.invokevirtual 347, 3) := by decide +kernel
theorem dX11_readLayer_38 : decode cX11_readLayer 38 = .ok (.aload_n 0, 1) := by decide +kernel
theorem dX11_readLayer_39 : decode cX11_readLayer 39 = .ok (.invokevirtual 296, 3) := by decide +kernel
theorem dX11_readLayer_42 : decode cX11_readLayer 42 = .ok (.ifCond .ne 4, 3) := by decide +kernel
theorem dX11_readLayer_45 : decode cX11_readLayer 45 = .ok (.return_, 1) := by decide +kernel
theorem dX11_readLayer_46 : decode cX11_readLayer 46 = .ok (.bipush 32, 2) := by decide +kernel
theorem dX11_readLayer_48 : decode cX11_readLayer 48 = .ok (.aload_n 0, 1) := by decide +kernel
theorem dX11_readLayer_49 : decode cX11_readLayer 49 = .ok (.getfield 376, 3) := by decide +kernel
theorem dX11_readLayer_52 : decode cX11_readLayer 52 = .ok (.imul, 1) := by decide +kernel
theorem dX11_readLayer_53 : decode cX11_readLayer 53 = .ok (.istore_n 2, 1) := by decide +kernel
theorem dX11_readLayer_54 : decode cX11_readLayer 54 = .ok (.iload_n 1, 1) := by decide +kernel
theorem dX11_readLayer_55 : decode cX11_readLayer 55 = .ok (.invokestatic 379, 3) := by decide +kernel
theorem dX11_readLayer_58 : decode cX11_readLayer 58 = .ok (.ifCond .eq 18, 3) := by decide +kernel
theorem dX11_readLayer_61 : decode cX11_readLayer 61 = .ok (.aload_n 0, 1) := by decide +kernel
theorem dX11_readLayer_62 : decode cX11_readLayer 62 = .ok (.iload_n 1, 1) := by decide +kernel
theorem dX11_readLayer_63 : decode cX11_readLayer 63 = .ok (.invokestatic 214, 3) := by decide +kernel
theorem dX11_readLayer_66 : decode cX11_readLayer 66 = .ok (.iload_n 1, 1) := by decide +kernel
theorem dX11_readLayer_67 : decode cX11_readLayer 67 = .ok (.invokestatic 217, 3) := by decide +kernel
theorem dX11_readLayer_70 : decode cX11_readLayer 70 = .ok (.invokevirtual 357, 3) := by decide +kernel
theorem dX11_readLayer_73 : decode cX11_readLayer 73 = .ok (.goto 4, 3) := by decide +kernel
theorem dX11_readLayer_76 : decode cX11_readLayer 76 = .ok (.iconst 0, 1) := by decide +kernel
theorem dX11_readLayer_77 : decode cX11_readLayer 77 = .ok (.istore_n 3, 1) := by decide +kernel
theorem dX11_readLayer_78 : decode cX11_readLayer 78 = .ok (.iload_n 1, 1) := by decide +kernel
theorem dX11_readLayer_79 : decode cX11_readLayer 79 = .ok (.invokestatic 382, 3) := by decide +kernel
theorem dX11_readLayer_82 : decode cX11_readLayer 82 = .ok (.ifCond .eq 19, 3) := by decide +kernel
theorem dX11_readLayer_85 : decode cX11_readLayer 85 = .ok (.aload_n 0, 1) := by decide +kernel
theorem dX11_readLayer_86 : decode cX11_readLayer 86 = .ok (.iload_n 1, 1) := by decide +kernel
theorem dX11_readLayer_87 : decode cX11_readLayer 87 = .ok (.iload_n 3, 1) := by decide +kernel
theorem dX11_readLayer_88 : decode cX11_readLayer 88 = .ok (.invokestatic 220, 3) := by decide +kernel
theorem dX11_readLayer_91 : decode cX11_readLayer 91 = .ok (.iload_n 1, 1) := by decide +kernel
theorem dX11_readLayer_92 : decode cX11_readLayer 92 = .ok (.invokestatic 223, 3) := by decide +kernel
theorem dX11_readLayer_95 : decode cX11_readLayer 95 = .ok (.invokevirtual 357, 3) := by decide +kernel
theorem dX11_readLayer_98 : decode cX11_readLayer 98 = .ok (.goto 4, 3) := by decide +kernel
theorem dX11_readLayer_101 : decode cX11_readLayer 101 = .ok (.iconst 0, 1) := by decide +kernel
theorem dX11_readLayer_102 : decode cX11_readLayer 102 = .ok (.istore 4, 2) := by decide +kernel
theorem dX11_readLayer_104 : decode cX11_readLayer 104 = .ok (.aload_n 0, 1) := by decide +kernel
theorem dX11_readLayer_105 : decode cX11_readLayer 105 = .ok (.aload_n 0, 1) := by decide +kernel
theorem dX11_readLayer_106 : decode cX11_readLayer 106 = .ok (.getfield 72, 3) := by decide +kernel
theorem dX11_readLayer_109 : decode cX11_readLayer 109 = .ok (.iload_n 2, 1) := by decide +kernel
theorem dX11_readLayer_110 : decode cX11_readLayer 110 = .ok (.iload_n 1, 1) := by decide +kernel
theorem dX11_readLayer_111 : decode cX11_readLayer 111 = .ok (.iload_n 3, 1) := by decide +kernel
theorem dX11_readLayer_112 : decode cX11_readLayer 112 = .ok (.iload 4, 2) := by decide +kernel
theorem dX11_readLayer_114 : decode cX11_readLayer 114 = .ok (.invokevirtual 229, 3) := by decide +kernel
theorem dX11_readLayer_117 : decode cX11_readLayer 117 = .ok (.aload_n 0, 1) := by decide +kernel
theorem dX11_readLayer_118 : decode cX11_readLayer 118 = .ok (.iconst 0, 1) := by decide +kernel
theorem dX11_readLayer_119 : decode cX11_readLayer 119 = .ok (.putfield 353, 3) := by decide +kernel
theorem dX11_readLayer_122 : decode cX11_readLayer 122 = .ok (.aload_n 0, 1) := by decide +kernel
theorem dX11_readLayer_123 : decode cX11_readLayer 123 = .ok (.iconst 0, 1) := by decide +kernel
theorem dX11_readLayer_124 : decode cX11_readLayer 124 = .ok (.putfield 362, 3) := by decide +kernel
theorem dX11_readLayer_127 : decode cX11_readLayer 127 = .ok (.aload_n 0, 1) := by decide +kernel
theorem dX11_readLayer_128 : decode cX11_readLayer 128 = .ok (.iconst 0, 1) := by decide +kernel
theorem dX11_readLayer_129 : decode cX11_readLayer 129 = .ok (.putfield 370, 3) := by decide +kernel
theorem dX11_readLayer_132 : decode cX11_readLayer 132 = .ok (.aload_n 0, 1) := by decide +kernel
theorem dX11_readLayer_133 : decode cX11_readLayer 133 = .ok (.invokevirtual 296, 3) := by decide +kernel
theorem dX11_readLayer_136 : decode cX11_readLayer 136 = .ok (.ifCond .eq 19, 3) := by decide +kernel
theorem dX11_readLayer_139 : decode cX11_readLayer 139 = .ok (.aload_n 0, 1) := by decide +kernel
theorem dX11_readLayer_140 : decode cX11_readLayer 140 = .ok (.getfield 266, 3) := by decide +kernel
theorem dX11_readLayer_143 : decode cX11_readLayer 143 = .ok (.iconst 1, 1) := by decide +kernel
theorem dX11_readLayer_144 : decode cX11_readLayer 144 = .ok (.if_icmp .ne 11, 3) := by decide +kernel
theorem dX11_readLayer_147 : decode cX11_readLayer 147 = .ok (.aload_n 0, 1) := by decide +kernel
theorem dX11_readLayer_148 : decode cX11_readLayer 148 = .ok (.iload_n 2, 1) := by decide +kernel
theorem dX11_readLayer_149 : decode cX11_readLayer 149 = .ok (.invokevirtual 385, 3) := by decide +kernel
theorem dX11_readLayer_152 : decode cX11_readLayer 152 = .ok (.goto (-20), 3) := by decide +kernel
theorem dX11_readLayer_155 : decode cX11_readLayer 155 = .ok (.aload_n 0, 1) := by decide +kernel
theorem dX11_readLayer_156 : decode cX11_readLayer 156 = .ok (.aload_n 0, 1) := by decide +kernel
theorem dX11_readLayer_157 : decode cX11_readLayer 157 = .ok (.getfield 266, 3) := by decide +kernel
theorem dX11_readLayer_160 : decode cX11_readLayer 160 = .ok (.iconst 4, 1) := by decide +kernel
theorem dX11_readLayer_161 : decode cX11_readLayer 161 = .ok (.if_icmp .ne 7, 3) := by decide +kernel
theorem dX11_readLayer_164 : decode cX11_readLayer 164 = .ok (.iconst 1, 1) := by decide +kernel
theorem dX11_readLayer_165 : decode cX11_readLayer 165 = .ok (.goto 4, 3) := by decide +kernel
theorem dX11_readLayer_168 : decode cX11_readLayer 168 = .ok (.iconst 0, 1) := by decide +kernel
theorem dX11_readLayer_169 : decode cX11_readLayer 169 = .ok (.invokevirtual 347, 3) := by decide +kernel
theorem dX11_readLayer_172 : decode cX11_readLayer 172 = .ok (.aload_n 0, 1) := by decide +kernel
theorem dX11_readLayer_173 : decode cX11_readLayer 173 = .ok (.dup, 1) := by decide +kernel
theorem dX11_readLayer_174 : decode cX11_readLayer 174 = .ok (.getfield 376, 3) := by decide +kernel
theorem dX11_readLayer_177 : decode cX11_readLayer 177 = .ok (.iconst 1, 1) := by decide +kernel
theorem dX11_readLayer_178 : decode cX11_readLayer 178 = .ok (.iadd, 1) := by decide +kernel
theorem dX11_readLayer_179 : decode cX11_readLayer 179 = .ok (.putfield 376, 3) := by decide +kernel
theorem dX11_readLayer_182 : decode cX11_readLayer 182 = .ok (.return_, 1) := by decide +kernel
theorem dX11_loadStack_0 : decode cX11_loadStack 0 = .ok (.aload_n 0, 1) := by decide +kernel
theorem dX11_loadStack_1 : decode cX11_loadStack 1 = .ok (.iconst 0, 1) := by decide +kernel
theorem dX11_loadStack_2 : decode cX11_loadStack 2 = .ok (.putfield 81, 3) := by decide +kernel
theorem dX11_loadStack_5 : decode cX11_loadStack 5 = .ok (.aload_n 0, 1) := by decide +kernel
theorem dX11_loadStack_6 : decode cX11_loadStack 6 = .ok (.iconst 0, 1) := by decide +kernel
theorem dX11_loadStack_7 : decode cX11_loadStack 7 = .ok (.putfield 263, 3) := by decide +kernel
theorem dX11_loadStack_10 : decode cX11_loadStack 10 = .ok (.aload_n 0, 1) := by decide +kernel
theorem dX11_loadStack_11 : decode cX11_loadStack 11 = .ok (.sipush (-1009), 3) := by decide +kernel
theorem dX11_loadStack_14 : decode cX11_loadStack 14 = .ok (.putfield 293, 3) := by decide +kernel
theorem dX11_loadStack_17 : decode cX11_loadStack 17 = .ok (.aload_n 0, 1) := by decide +kernel
theorem dX11_loadStack_18 : decode cX11_loadStack 18 = .ok (.iconst 0, 1) := by decide +kernel
theorem dX11_loadStack_19 : decode cX11_loadStack 19 = .ok (.putfield 376, 3) := by decide +kernel
theorem dX11_loadStack_22 : decode cX11_loadStack 22 = .ok (.aload_n 0, 1) := by decide +kernel
theorem dX11_loadStack_23 : decode cX11_loadStack 23 = .ok (.invokevirtual 300, 3) := by decide +kernel
theorem dX11_loadStack_26 : decode cX11_loadStack 26 = .ok (.aload_n 0, 1) := by decide +kernel
theorem dX11_loadStack_27 : decode cX11_loadStack 27 = .ok (.invokevirtual 296, 3) := by decide +kernel
theorem dX11_loadStack_30 : decode cX11_loadStack 30 = .ok (.ifCond .eq 17, 3) := by decide +kernel
theorem dX11_loadStack_33 : decode cX11_loadStack 33 = .ok (.aload_n 0, 1) := by decide +kernel
theorem dX11_loadStack_34 : decode cX11_loadStack 34 = .ok (.getfield 266, 3) := by decide +kernel
theorem dX11_loadStack_37 : decode cX11_loadStack 37 = .ok (.ifCond .eq 10, 3) := by decide +kernel
theorem dX11_loadStack_40 : decode cX11_loadStack 40 = .ok (.aload_n 0, 1) := by decide +kernel
theorem dX11_loadStack_41 : decode cX11_loadStack 41 = .ok (.invokevirtual 388, 3) := by decide +kernel
theorem dX11_loadStack_44 : decode cX11_loadStack 44 = .ok (.goto (-18), 3) := by decide +kernel
theorem dX11_loadStack_47 : decode cX11_loadStack 47 = .ok (.aload_n 0, 1) := by decide +kernel
theorem dX11_loadStack_48 : decode cX11_loadStack 48 = .ok (.invokevirtual 296, 3) := by decide +kernel
theorem dX11_loadStack_51 : decode cX11_loadStack 51 = .ok (.ifCond .ne 11, 3) := by decide +kernel
theorem dX11_loadStack_54 : decode cX11_loadStack 54 = .ok (.bipush (-10), 2) := by decide +kernel
theorem dX11_loadStack_56 : decode cX11_loadStack 56 = .ok (.aload_n 0, 1) := by decide +kernel
theorem dX11_loadStack_57 : decode cX11_loadStack 57 = .ok (.getfield 293, 3) := by decide +kernel
theorem dX11_loadStack_60 : decode cX11_loadStack 60 = .ok (.isub, 1) := by decide +kernel
theorem dX11_loadStack_61 : decode cX11_loadStack 61 = .ok (.ireturn, 1) := by decide +kernel
theorem dX11_loadStack_62 : decode cX11_loadStack 62 = .ok (.aload_n 0, 1) := by decide +kernel
theorem dX11_loadStack_63 : decode cX11_loadStack 63 = .ok (.invokevirtual 199, 3) := by decide +kernel
theorem dX11_loadStack_66 : decode cX11_loadStack 66 = .ok (.iconst 0, 1) := by decide +kernel
theorem dX11_loadStack_67 : decode cX11_loadStack 67 = .ok (.istore_n 1, 1) := by decide +kernel
theorem dX11_loadStack_68 : decode cX11_loadStack 68 = .ok (.iload_n 1, 1) := by decide +kernel
theorem dX11_loadStack_69 : decode cX11_loadStack 69 = .ok (.sipush 256, 3) := by decide +kernel
theorem dX11_loadStack_72 : decode cX11_loadStack 72 = .ok (.if_icmp .ge 40, 3) := by decide +kernel
theorem dX11_loadStack_75 : decode cX11_loadStack 75 = .ok (.aload_n 0, 1) := by decide +kernel
theorem dX11_loadStack_76 : decode cX11_loadStack 76 = .ok (.getfield 7, 3) := by decide +kernel
theorem dX11_loadStack_79 : decode cX11_loadStack 79 = .ok (.sipush 259, 3) := by decide +kernel
theorem dX11_loadStack_82 : decode cX11_loadStack 82 = .ok (.iload_n 1, 1) := by decide +kernel
theorem dX11_loadStack_83 : decode cX11_loadStack 83 = .ok (.iadd, 1) := by decide +kernel
theorem dX11_loadStack_84 : decode cX11_loadStack 84 = .ok (.iload_n 1, 1) := by decide +kernel
theorem dX11_loadStack_85 : decode cX11_loadStack 85 = .ok (.bipush 32, 2) := by decide +kernel
theorem dX11_loadStack_87 : decode cX11_loadStack 87 = .ok (.aload_n 0, 1) := by decide +kernel
theorem dX11_loadStack_88 : decode cX11_loadStack 88 = .ok (.getfield 376, 3) := by decide +kernel
theorem dX11_loadStack_91 : decode cX11_loadStack 91 = .ok (.imul, 1) := by decide +kernel
theorem dX11_loadStack_92 : decode cX11_loadStack 92 = .ok (.if_icmp .ge 12, 3) := by decide +kernel
theorem dX11_loadStack_95 : decode cX11_loadStack 95 = .ok (.aload_n 0, 1) := by decide +kernel
theorem dX11_loadStack_96 : decode cX11_loadStack 96 = .ok (.getfield 72, 3) := by decide +kernel
theorem dX11_loadStack_99 : decode cX11_loadStack 99 = .ok (.iload_n 1, 1) := by decide +kernel
theorem dX11_loadStack_100 : decode cX11_loadStack 100 = .ok (.iaload, 1) := by decide +kernel
theorem dX11_loadStack_101 : decode cX11_loadStack 101 = .ok (.goto 4, 3) := by decide +kernel
theorem dX11_loadStack_104 : decode cX11_loadStack 104 = .ok (.iconst 0, 1) := by decide +kernel
theorem dX11_loadStack_105 : decode cX11_loadStack 105 = .ok (.iastore, 1) := by decide +kernel
theorem dX11_loadStack_106 : decode cX11_loadStack 106 = .ok (.iinc 1 1, 3) := by decide +kernel
theorem dX11_loadStack_109 : decode cX11_loadStack 109 = .ok (.goto (-41), 3) := by decide +kernel
theorem dX11_loadStack_112 : decode cX11_loadStack 112 = .ok (.aload_n 0, 1) := by decide +kernel
theorem dX11_loadStack_113 : decode cX11_loadStack 113 = .ok (.getfield 7, 3) := by decide +kernel
theorem dX11_loadStack_116 : decode cX11_loadStack 116 = .ok (.sipush 258, 3) := by decide +kernel
theorem dX11_loadStack_119 : decode cX11_loadStack 119 = .ok (.aload_n 0, 1) := by decide +kernel
theorem dX11_loadStack_120 : decode cX11_loadStack 120 = .ok (.getfield 376, 3) := by decide +kernel
theorem dX11_loadStack_123 : decode cX11_loadStack 123 = .ok (.iastore, 1) := by decide +kernel
theorem dX11_loadStack_124 : decode cX11_loadStack 124 = .ok (.aload_n 0, 1) := by decide +kernel
theorem dX11_loadStack_125 : decode cX11_loadStack 125 = .ok (.invokevirtual 202, 3) := by decide +kernel
theorem dX11_loadStack_128 : decode cX11_loadStack 128 = .ok (.pop, 1) := by decide +kernel
theorem dX11_loadStack_129 : decode cX11_loadStack 129 = .ok (.aload_n 0, 1) := by decide +kernel
theorem dX11_loadStack_130 : decode cX11_loadStack 130 = .ok (.iconst 0, 1) := by decide +kernel
theorem dX11_loadStack_131 : decode cX11_loadStack 131 = .ok (.putfield 260, 3) := by decide +kernel
theorem dX11_loadStack_134 : decode cX11_loadStack 134 = .ok (.aload_n 0, 1) := by decide +kernel
theorem dX11_loadStack_135 : decode cX11_loadStack 135 = .ok (.getfield 376, 3) := by decide +kernel
theorem dX11_loadStack_138 : decode cX11_loadStack 138 = .ok (.ireturn, 1) := by decide +kernel
theorem dX11_pixel_0 : decode cX11_pixel 0 = .ok (.aload_n 0, 1) := by decide +kernel
theorem dX11_pixel_1 : decode cX11_pixel 1 = .ok (.iconst 0, 1) := by decide +kernel
theorem dX11_pixel_2 : decode cX11_pixel 2 = .ok (.putfield 81, 3) := by decide +kernel
theorem dX11_pixel_5 : decode cX11_pixel 5 = .ok (.iload_n 1, 1) := by decide +kernel
theorem dX11_pixel_6 : decode cX11_pixel 6 = .ok (.iconst (-1), 1) := by decide +kernel
theorem dX11_pixel_7 : decode cX11_pixel 7 = .ok (.if_icmp .eq 11, 3) := by decide +kernel
theorem dX11_pixel_10 : decode cX11_pixel 10 = .ok (.aload_n 0, 1) := by decide +kernel
theorem dX11_pixel_11 : decode cX11_pixel 11 = .ok (.iload_n 1, 1) := by decide +kernel
theorem dX11_pixel_12 : decode cX11_pixel 12 = .ok (.invokevirtual 233, 3) := by decide +kernel
theorem dX11_pixel_15 : decode cX11_pixel 15 = .ok (.ifCond .eq 12, 3) := by decide +kernel
theorem dX11_pixel_18 : decode cX11_pixel 18 = .ok (.aload_n 0, 1) := by decide +kernel
theorem dX11_pixel_19 : decode cX11_pixel 19 = .ok (.iload_n 2, 1) := by decide +kernel
theorem dX11_pixel_20 : decode cX11_pixel 20 = .ok (.iload_n 3, 1) := by decide +kernel
theorem dX11_pixel_21 : decode cX11_pixel 21 = .ok (.invokevirtual 138, 3) := by decide +kernel
theorem dX11_pixel_24 : decode cX11_pixel 24 = .ok (.ifCond .ne 7, 3) := by decide +kernel
theorem dX11_pixel_27 : decode cX11_pixel 27 = .ok (.sipush (-1001), 3) := by decide +kernel
theorem dX11_pixel_30 : decode cX11_pixel 30 = .ok (.ireturn, 1) := by decide +kernel
theorem dX11_pixel_31 : decode cX11_pixel 31 = .ok (.iload_n 1, 1) := by decide +kernel
theorem dX11_pixel_32 : decode cX11_pixel 32 = .ok (.ifCond .lt 29, 3) := by decide +kernel
theorem dX11_pixel_35 : decode cX11_pixel 35 = .ok (.aload_n 0, 1) := by decide +kernel
theorem dX11_pixel_36 : decode cX11_pixel 36 = .ok (.iload_n 1, 1) := by decide +kernel
theorem dX11_pixel_37 : decode cX11_pixel 37 = .ok (.bipush 8, 2) := by decide +kernel
theorem dX11_pixel_39 : decode cX11_pixel 39 = .ok (.iload_n 3, 1) := by decide +kernel
theorem dX11_pixel_40 : decode cX11_pixel 40 = .ok (.aload_n 0, 1) := by decide +kernel
theorem dX11_pixel_41 : decode cX11_pixel 41 = .ok (.getfield 26, 3) := by decide +kernel
theorem dX11_pixel_44 : decode cX11_pixel 44 = .ok (.idiv, 1) := by decide +kernel
theorem dX11_pixel_45 : decode cX11_pixel 45 = .ok (.imul, 1) := by decide +kernel
theorem dX11_pixel_46 : decode cX11_pixel 46 = .ok (.iload_n 2, 1) := by decide +kernel
theorem dX11_pixel_47 : decode cX11_pixel 47 = .ok (.aload_n 0, 1) := by decide +kernel
theorem dX11_pixel_48 : decode cX11_pixel 48 = .ok (.getfield 26, 3) := by decide +kernel
theorem dX11_pixel_51 : decode cX11_pixel 51 = .ok (.idiv, 1) := by decide +kernel
theorem dX11_pixel_52 : decode cX11_pixel 52 = .ok (.iadd, 1) := by decide +kernel
theorem dX11_pixel_53 : decode cX11_pixel 53 = .ok (.invokevirtual 391, 3) := by decide +kernel
theorem dX11_pixel_56 : decode cX11_pixel 56 = .ok (.aload_n 0, 1) := by decide +kernel
theorem dX11_pixel_57 : decode cX11_pixel 57 = .ok (.invokevirtual 394, 3) := by decide +kernel
theorem dX11_pixel_60 : decode cX11_pixel 60 = .ok (.pop, 1) := by decide +kernel
theorem dX11_pixel_61 : decode cX11_pixel 61 = .ok (.aload_n 0, 1) := by decide +kernel
theorem dX11_pixel_62 : decode cX11_pixel 62 = .ok (.iload_n 1, 1) := by decide +kernel
theorem dX11_pixel_63 : decode cX11_pixel 63 = .ok (.invokevirtual 242, 3) := by decide +kernel
theorem dX11_pixel_66 : decode cX11_pixel 66 = .ok (.istore 4, 2) := by decide +kernel
theorem dX11_pixel_68 : decode cX11_pixel 68 = .ok (.aload_n 0, 1) := by decide +kernel
theorem dX11_pixel_69 : decode cX11_pixel 69 = .ok (.iload 4, 2) := by decide +kernel
theorem dX11_pixel_71 : decode cX11_pixel 71 = .ok (.iload_n 2, 1) := by decide +kernel
theorem dX11_pixel_72 : decode cX11_pixel 72 = .ok (.iload_n 3, 1) := by decide +kernel
theorem dX11_pixel_73 : decode cX11_pixel 73 = .ok (.invokevirtual 142, 3) := by decide +kernel
theorem dX11_pixel_76 : decode cX11_pixel 76 = .ok (.ireturn, 1) := by decide +kernel
theorem dX11_prefetch_0 : decode cX11_prefetch 0 = .ok (.aload_n 0, 1) := by decide +kernel
theorem dX11_prefetch_1 : decode cX11_prefetch 1 = .ok (.iconst 0, 1) := by decide +kernel
theorem dX11_prefetch_2 : decode cX11_prefetch 2 = .ok (.putfield 81, 3) := by decide +kernel
theorem dX11_prefetch_5 : decode cX11_prefetch 5 = .ok (.aload_n 0, 1) := by decide +kernel
theorem dX11_prefetch_6 : decode cX11_prefetch 6 = .ok (.iload_n 1, 1) := by decide +kernel
theorem dX11_prefetch_7 : decode cX11_prefetch 7 = .ok (.invokevirtual 233, 3) := by decide +kernel
theorem dX11_prefetch_10 : decode cX11_prefetch 10 = .ok (.ifCond .ne 7, 3) := by decide +kernel
theorem dX11_prefetch_13 : decode cX11_prefetch 13 = .ok (.sipush (-1001), 3) := by decide +kernel
theorem dX11_prefetch_16 : decode cX11_prefetch 16 = .ok (.ireturn, 1) := by decide +kernel
theorem dX11_prefetch_17 : decode cX11_prefetch 17 = .ok (.aload_n 0, 1) := by decide +kernel
theorem dX11_prefetch_18 : decode cX11_prefetch 18 = .ok (.getfield 36, 3) := by decide +kernel
theorem dX11_prefetch_21 : decode cX11_prefetch 21 = .ok (.iconst 0, 1) := by decide +kernel
theorem dX11_prefetch_22 : decode cX11_prefetch 22 = .ok (.iaload, 1) := by decide +kernel
theorem dX11_prefetch_23 : decode cX11_prefetch 23 = .ok (.istore_n 2, 1) := by decide +kernel
theorem dX11_prefetch_24 : decode cX11_prefetch 24 = .ok (.iconst 0, 1) := by decide +kernel
theorem dX11_prefetch_25 : decode cX11_prefetch 25 = .ok (.istore_n 3, 1) := by decide +kernel
theorem dX11_prefetch_26 : decode cX11_prefetch 26 = .ok (.iload_n 3, 1) := by decide +kernel
theorem dX11_prefetch_27 : decode cX11_prefetch 27 = .ok (.aload_n 0, 1) := by decide +kernel
theorem dX11_prefetch_28 : decode cX11_prefetch 28 = .ok (.invokevirtual 211, 3) := by decide +kernel
theorem dX11_prefetch_31 : decode cX11_prefetch 31 = .ok (.if_icmp .ge 39, 3) := by decide +kernel
theorem dX11_prefetch_34 : decode cX11_prefetch 34 = .ok (.iconst 0, 1) := by decide +kernel
theorem dX11_prefetch_35 : decode cX11_prefetch 35 = .ok (.istore 4, 2) := by decide +kernel
theorem dX11_prefetch_37 : decode cX11_prefetch 37 = .ok (.iload 4, 2) := by decide +kernel
theorem dX11_prefetch_39 : decode cX11_prefetch 39 = .ok (.aload_n 0, 1) := by decide +kernel
theorem dX11_prefetch_40 : decode cX11_prefetch 40 = .ok (.invokevirtual 208, 3) := by decide +kernel
theorem dX11_prefetch_43 : decode cX11_prefetch 43 = .ok (.if_icmp .ge 21, 3) := by decide +kernel
theorem dX11_prefetch_46 : decode cX11_prefetch 46 = .ok (.aload_n 0, 1) := by decide +kernel
theorem dX11_prefetch_47 : decode cX11_prefetch 47 = .ok (.iload_n 1, 1) := by decide +kernel
theorem dX11_prefetch_48 : decode cX11_prefetch 48 = .ok (.bipush 8, 2) := by decide +kernel
theorem dX11_prefetch_50 : decode cX11_prefetch 50 = .ok (.iload_n 3, 1) := by decide +kernel
theorem dX11_prefetch_51 : decode cX11_prefetch 51 = .ok (.imul, 1) := by decide +kernel
theorem dX11_prefetch_52 : decode cX11_prefetch 52 = .ok (.iload 4, 2) := by decide +kernel
theorem dX11_prefetch_54 : decode cX11_prefetch 54 = .ok (.iadd, 1) := by decide +kernel
theorem dX11_prefetch_55 : decode cX11_prefetch 55 = .ok (.invokevirtual 391, 3) := by decide +kernel
theorem dX11_prefetch_58 : decode cX11_prefetch 58 = .ok (.iinc 4 1, 3) := by decide +kernel
theorem dX11_prefetch_61 : decode cX11_prefetch 61 = .ok (.goto (-24), 3) := by decide +kernel
theorem dX11_prefetch_64 : decode cX11_prefetch 64 = .ok (.iinc 3 1, 3) := by decide +kernel
theorem dX11_prefetch_67 : decode cX11_prefetch 67 = .ok (.goto (-41), 3) := by decide +kernel
theorem dX11_prefetch_70 : decode cX11_prefetch 70 = .ok (.aload_n 0, 1) := by decide +kernel
theorem dX11_prefetch_71 : decode cX11_prefetch 71 = .ok (.invokevirtual 394, 3) := by decide +kernel
theorem dX11_prefetch_74 : decode cX11_prefetch 74 = .ok (.pop, 1) := by decide +kernel
theorem dX11_prefetch_75 : decode cX11_prefetch 75 = .ok (.aload_n 0, 1) := by decide +kernel
theorem dX11_prefetch_76 : decode cX11_prefetch 76 = .ok (.getfield 36, 3) := by decide +kernel
theorem dX11_prefetch_79 : decode cX11_prefetch 79 = .ok (.iconst 0, 1) := by decide +kernel
theorem dX11_prefetch_80 : decode cX11_prefetch 80 = .ok (.iaload, 1) := by decide +kernel
theorem dX11_prefetch_81 : decode cX11_prefetch 81 = .ok (.iload_n 2, 1) := by decide +kernel
theorem dX11_prefetch_82 : decode cX11_prefetch 82 = .ok (.isub, 1) := by decide +kernel
theorem dX11_prefetch_83 : decode cX11_prefetch 83 = .ok (.ireturn, 1) := by decide +kernel
theorem dX11_setCacheLimit_0 : decode cX11_setCacheLimit 0 = .ok (.aload_n 0, 1) := by decide +kernel
theorem dX11_setCacheLimit_1 : decode cX11_setCacheLimit 1 = .ok (.iconst 0, 1) := by decide +kernel
theorem dX11_setCacheLimit_2 : decode cX11_setCacheLimit 2 = .ok (.putfield 81, 3) := by decide +kernel
theorem dX11_setCacheLimit_5 : decode cX11_setCacheLimit 5 = .ok (.iload_n 1, 1) := by decide +kernel
theorem dX11_setCacheLimit_6 : decode cX11_setCacheLimit 6 = .ok (.iconst 1, 1) := by decide +kernel
theorem dX11_setCacheLimit_7 : decode cX11_setCacheLimit 7 = .ok (.bipush 64, 2) := by decide +kernel
theorem dX11_setCacheLimit_9 : decode cX11_setCacheLimit 9 = .ok (.invokestatic 88, 3) := by decide +kernel
theorem dX11_setCacheLimit_12 : decode cX11_setCacheLimit 12 = .ok (.ifCond .ne 7, 3) := by decide +kernel
theorem dX11_setCacheLimit_15 : decode cX11_setCacheLimit 15 = .ok (.sipush (-1001), 3) := by decide +kernel
theorem dX11_setCacheLimit_18 : decode cX11_setCacheLimit 18 = .ok (.ireturn, 1) := by decide +kernel
theorem dX11_setCacheLimit_19 : decode cX11_setCacheLimit 19 = .ok (.aload_n 0, 1) := by decide +kernel
theorem dX11_setCacheLimit_20 : decode cX11_setCacheLimit 20 = .ok (.iload_n 1, 1) := by decide +kernel
theorem dX11_setCacheLimit_21 : decode cX11_setCacheLimit 21 = .ok (.putfield 30, 3) := by decide +kernel
theorem dX11_setCacheLimit_24 : decode cX11_setCacheLimit 24 = .ok (.aload_n 0, 1) := by decide +kernel
theorem dX11_setCacheLimit_25 : decode cX11_setCacheLimit 25 = .ok (.invokevirtual 394, 3) := by decide +kernel
theorem dX11_setCacheLimit_28 : decode cX11_setCacheLimit 28 = .ok (.ireturn, 1) := by decide +kernel
theorem dX11_setTileSize_0 : decode cX11_setTileSize 0 = .ok (.aload_n 0, 1) := by decide +kernel
theorem dX11_setTileSize_1 : decode cX11_setTileSize 1 = .ok (.iconst 0, 1) := by decide +kernel
theorem dX11_setTileSize_2 : decode cX11_setTileSize 2 = .ok (.putfield 81, 3) := by decide +kernel
theorem dX11_setTileSize_5 : decode cX11_setTileSize 5 = .ok (.iload_n 1, 1) := by decide +kernel
theorem dX11_setTileSize_6 : decode cX11_setTileSize 6 = .ok (.iconst 2, 1) := by decide +kernel
theorem dX11_setTileSize_7 : decode cX11_setTileSize 7 = .ok (.bipush 8, 2) := by decide +kernel
theorem dX11_setTileSize_9 : decode cX11_setTileSize 9 = .ok (.invokestatic 88, 3) := by decide +kernel
theorem dX11_setTileSize_12 : decode cX11_setTileSize 12 = .ok (.ifCond .ne 7, 3) := by decide +kernel
theorem dX11_setTileSize_15 : decode cX11_setTileSize 15 = .ok (.sipush (-1001), 3) := by decide +kernel
theorem dX11_setTileSize_18 : decode cX11_setTileSize 18 = .ok (.ireturn, 1) := by decide +kernel
theorem dX11_setTileSize_19 : decode cX11_setTileSize 19 = .ok (.aload_n 0, 1) := by decide +kernel
theorem dX11_setTileSize_20 : decode cX11_setTileSize 20 = .ok (.iload_n 1, 1) := by decide +kernel
theorem dX11_setTileSize_21 : decode cX11_setTileSize 21 = .ok (.putfield 26, 3) := by decide +kernel
theorem dX11_setTileSize_24 : decode cX11_setTileSize 24 = .ok (.aload_n 0, 1) := by decide +kernel
theorem dX11_setTileSize_25 : decode cX11_setTileSize 25 = .ok (.invokevirtual 202, 3) := by decide +kernel
theorem dX11_setTileSize_28 : decode cX11_setTileSize 28 = .ok (.ireturn, 1) := by decide +kernel
theorem dX11_clearCache_0 : decode cX11_clearCache 0 = .ok (.aload_n 0, 1) := by decide +kernel
theorem dX11_clearCache_1 : decode cX11_clearCache 1 = .ok (.iconst 0, 1) := by decide +kernel
theorem dX11_clearCache_2 : decode cX11_clearCache 2 = .ok (.putfield 81, 3) := by decide +kernel
theorem dX11_clearCache_5 : decode cX11_clearCache 5 = .ok (.aload_n 0, 1) := by decide +kernel
theorem dX11_clearCache_6 : decode cX11_clearCache 6 = .ok (.invokevirtual 202, 3) := by decide +kernel
theorem dX11_clearCache_9 : decode cX11_clearCache 9 = .ok (.ireturn, 1) := by decide +kernel
theorem dX11_isCached_0 : decode cX11_isCached 0 = .ok (.aload_n 0, 1) := by decide +kernel
theorem dX11_isCached_1 : decode cX11_isCached 1 = .ok (.iconst 0, 1) := by decide +kernel
theorem dX11_isCached_2 : decode cX11_isCached 2 = .ok (.putfield 81, 3) := by decide +kernel
theorem dX11_isCached_5 : decode cX11_isCached 5 = .ok (.aload_n 0, 1) := by decide +kernel
theorem dX11_isCached_6 : decode cX11_isCached 6 = .ok (.iload_n 1, 1) := by decide +kernel
theorem dX11_isCached_7 : decode cX11_isCached 7 = .ok (.invokevirtual 233, 3) := by decide +kernel
theorem dX11_isCached_10 : decode cX11_isCached 10 = .ok (.ifCond .eq 31, 3) := by decide +kernel
theorem dX11_isCached_13 : decode cX11_isCached 13 = .ok (.iload_n 2, 1) := by decide +kernel
theorem dX11_isCached_14 : decode cX11_isCached 14 = .ok (.iconst 0, 1) := by decide +kernel
theorem dX11_isCached_15 : decode cX11_isCached 15 = .ok (.aload_n 0, 1) := by decide +kernel
theorem dX11_isCached_16 : decode cX11_isCached 16 = .ok (.invokevirtual 208, 3) := by decide +kernel
theorem dX11_isCached_19 : decode cX11_isCached 19 = .ok (.iconst 1, 1) := by decide +kernel
theorem dX11_isCached_20 : decode cX11_isCached 20 = .ok (.isub, 1) := by decide +kernel
theorem dX11_isCached_21 : decode cX11_isCached 21 = .ok (.invokestatic 88, 3) := by decide +kernel
theorem dX11_isCached_24 : decode cX11_isCached 24 = .ok (.ifCond .eq 17, 3) := by decide +kernel
theorem dX11_isCached_27 : decode cX11_isCached 27 = .ok (.iload_n 3, 1) := by decide +kernel
theorem dX11_isCached_28 : decode cX11_isCached 28 = .ok (.iconst 0, 1) := by decide +kernel
theorem dX11_isCached_29 : decode cX11_isCached 29 = .ok (.aload_n 0, 1) := by decide +kernel
theorem dX11_isCached_30 : decode cX11_isCached 30 = .ok (.invokevirtual 211, 3) := by decide +kernel
theorem dX11_isCached_33 : decode cX11_isCached 33 = .ok (.iconst 1, 1) := by decide +kernel
theorem dX11_isCached_34 : decode cX11_isCached 34 = .ok (.isub, 1) := by decide +kernel
theorem dX11_isCached_35 : decode cX11_isCached 35 = .ok (.invokestatic 88, 3) := by decide +kernel
theorem dX11_isCached_38 : decode cX11_isCached 38 = .ok (.ifCond .ne 7, 3) := by decide +kernel
theorem dX11_isCached_41 : decode cX11_isCached 41 = .ok (.sipush (-1001), 3) := by decide +kernel
theorem dX11_isCached_44 : decode cX11_isCached 44 = .ok (.ireturn, 1) := by decide +kernel
theorem dX11_isCached_45 : decode cX11_isCached 45 = .ok (.aload_n 0, 1) := by decide +kernel
theorem dX11_isCached_46 : decode cX11_isCached 46 = .ok (.getfield 33, 3) := by decide +kernel
theorem dX11_isCached_49 : decode cX11_isCached 49 = .ok (.bipush 64, 2) := by decide +kernel
theorem dX11_isCached_51 : decode cX11_isCached 51 = .ok (.iload_n 1, 1) := by decide +kernel
theorem dX11_isCached_52 : decode cX11_isCached 52 = .ok (.imul, 1) := by decide +kernel
theorem dX11_isCached_53 : decode cX11_isCached 53 = .ok (.bipush 8, 2) := by decide +kernel
theorem dX11_isCached_55 : decode cX11_isCached 55 = .ok (.iload_n 3, 1) := by decide +kernel
theorem dX11_isCached_56 : decode cX11_isCached 56 = .ok (.imul, 1) := by decide +kernel
theorem dX11_isCached_57 : decode cX11_isCached 57 = .ok (.iadd, 1) := by decide +kernel
theorem dX11_isCached_58 : decode cX11_isCached 58 = .ok (.iload_n 2, 1) := by decide +kernel
theorem dX11_isCached_59 : decode cX11_isCached 59 = .ok (.iadd, 1) := by decide +kernel
theorem dX11_isCached_60 : decode cX11_isCached 60 = .ok (.iaload, 1) := by decide +kernel
theorem dX11_isCached_61 : decode cX11_isCached 61 = .ok (.ifCond .le 7, 3) := by decide +kernel
theorem dX11_isCached_64 : decode cX11_isCached 64 = .ok (.iconst 1, 1) := by decide +kernel
theorem dX11_isCached_65 : decode cX11_isCached 65 = .ok (.goto 4, 3) := by decide +kernel
theorem dX11_isCached_68 : decode cX11_isCached 68 = .ok (.iconst 0, 1) := by decide +kernel
theorem dX11_isCached_69 : decode cX11_isCached 69 = .ok (.ireturn, 1) := by decide +kernel
theorem dX11_cachedTiles_0 : decode cX11_cachedTiles 0 = .ok (.aload_n 0, 1) := by decide +kernel
theorem dX11_cachedTiles_1 : decode cX11_cachedTiles 1 = .ok (.iconst 0, 1) := by decide +kernel
theorem dX11_cachedTiles_2 : decode cX11_cachedTiles 2 = .ok (.putfield 81, 3) := by decide +kernel
theorem dX11_cachedTiles_5 : decode cX11_cachedTiles 5 = .ok (.aload_n 0, 1) := by decide +kernel
theorem dX11_cachedTiles_6 : decode cX11_cachedTiles 6 = .ok (.iload_n 1, 1) := by decide +kernel
theorem dX11_cachedTiles_7 : decode cX11_cachedTiles 7 = .ok (.invokevirtual 233, 3) := by decide +kernel
theorem dX11_cachedTiles_10 : decode cX11_cachedTiles 10 = .ok (.ifCond .ne 7, 3) := by decide +kernel
theorem dX11_cachedTiles_13 : decode cX11_cachedTiles 13 = .ok (.sipush (-1001), 3) := by decide +kernel
theorem dX11_cachedTiles_16 : decode cX11_cachedTiles 16 = .ok (.ireturn, 1) := by decide +kernel
theorem dX11_cachedTiles_17 : decode cX11_cachedTiles 17 = .ok (.iconst 0, 1) := by decide +kernel
theorem dX11_cachedTiles_18 : decode cX11_cachedTiles 18 = .ok (.istore_n 2, 1) := by decide +kernel
theorem dX11_cachedTiles_19 : decode cX11_cachedTiles 19 = .ok (.iconst 0, 1) := by decide +kernel
theorem dX11_cachedTiles_20 : decode cX11_cachedTiles 20 = .ok (.istore_n 3, 1) := by decide +kernel
theorem dX11_cachedTiles_21 : decode cX11_cachedTiles 21 = .ok (.iload_n 3, 1) := by decide +kernel
theorem dX11_cachedTiles_22 : decode cX11_cachedTiles 22 = .ok (.bipush 64, 2) := by decide +kernel
theorem dX11_cachedTiles_24 : decode cX11_cachedTiles 24 = .ok (.if_icmp .ge 31, 3) := by decide +kernel
theorem dX11_cachedTiles_27 : decode cX11_cachedTiles 27 = .ok (.iload_n 2, 1) := by decide +kernel
theorem dX11_cachedTiles_28 : decode cX11_cachedTiles 28 = .ok (.aload_n 0, 1) := by decide +kernel
theorem dX11_cachedTiles_29 : decode cX11_cachedTiles 29 = .ok (.getfield 33, 3) := by decide +kernel
theorem dX11_cachedTiles_32 : decode cX11_cachedTiles 32 = .ok (.bipush 64, 2) := by decide +kernel
theorem dX11_cachedTiles_34 : decode cX11_cachedTiles 34 = .ok (.iload_n 1, 1) := by decide +kernel
theorem dX11_cachedTiles_35 : decode cX11_cachedTiles 35 = .ok (.imul, 1) := by decide +kernel
theorem dX11_cachedTiles_36 : decode cX11_cachedTiles 36 = .ok (.iload_n 3, 1) := by decide +kernel
theorem dX11_cachedTiles_37 : decode cX11_cachedTiles 37 = .ok (.iadd, 1) := by decide +kernel
theorem dX11_cachedTiles_38 : decode cX11_cachedTiles 38 = .ok (.iaload, 1) := by decide +kernel
theorem dX11_cachedTiles_39 : decode cX11_cachedTiles 39 = .ok (.ifCond .le 7, 3) := by decide +kernel
theorem dX11_cachedTiles_42 : decode cX11_cachedTiles 42 = .ok (.iconst 1, 1) := by decide +kernel
theorem dX11_cachedTiles_43 : decode cX11_cachedTiles 43 = .ok (.goto 4, 3) := by decide +kernel
theorem dX11_cachedTiles_46 : decode cX11_cachedTiles 46 = .ok (.iconst 0, 1) := by decide +kernel
theorem dX11_cachedTiles_47 : decode cX11_cachedTiles 47 = .ok (.iadd, 1) := by decide +kernel
theorem dX11_cachedTiles_48 : decode cX11_cachedTiles 48 = .ok (.istore_n 2, 1) := by decide +kernel
theorem dX11_cachedTiles_49 : decode cX11_cachedTiles 49 = .ok (.iinc 3 1, 3) := by decide +kernel
theorem dX11_cachedTiles_52 : decode cX11_cachedTiles 52 = .ok (.goto (-31), 3) := by decide +kernel
theorem dX11_cachedTiles_55 : decode cX11_cachedTiles 55 = .ok (.iload_n 2, 1) := by decide +kernel
theorem dX11_cachedTiles_56 : decode cX11_cachedTiles 56 = .ok (.ireturn, 1) := by decide +kernel
theorem dX11_counter_0 : decode cX11_counter 0 = .ok (.aload_n 0, 1) := by decide +kernel
theorem dX11_counter_1 : decode cX11_counter 1 = .ok (.iconst 0, 1) := by decide +kernel
theorem dX11_counter_2 : decode cX11_counter 2 = .ok (.putfield 81, 3) := by decide +kernel
theorem dX11_counter_5 : decode cX11_counter 5 = .ok (.iload_n 1, 1) := by decide +kernel
theorem dX11_counter_6 : decode cX11_counter 6 = .ok (.iconst 0, 1) := by decide +kernel
theorem dX11_counter_7 : decode cX11_counter 7 = .ok (.iconst 2, 1) := by decide +kernel
theorem dX11_counter_8 : decode cX11_counter 8 = .ok (.invokestatic 88, 3) := by decide +kernel
theorem dX11_counter_11 : decode cX11_counter 11 = .ok (.ifCond .eq 12, 3) := by decide +kernel
theorem dX11_counter_14 : decode cX11_counter 14 = .ok (.aload_n 0, 1) := by decide +kernel
theorem dX11_counter_15 : decode cX11_counter 15 = .ok (.getfield 36, 3) := by decide +kernel
theorem dX11_counter_18 : decode cX11_counter 18 = .ok (.iload_n 1, 1) := by decide +kernel
theorem dX11_counter_19 : decode cX11_counter 19 = .ok (.iaload, 1) := by decide +kernel
theorem dX11_counter_20 : decode cX11_counter 20 = .ok (.goto 6, 3) := by decide +kernel
theorem dX11_counter_23 : decode cX11_counter 23 = .ok (.sipush (-1001), 3) := by decide +kernel
theorem dX11_counter_26 : decode cX11_counter 26 = .ok (.ireturn, 1) := by decide +kernel
theorem dX11_oldestTile_0 : decode cX11_oldestTile 0 = .ok (.aload_n 0, 1) := by decide +kernel
theorem dX11_oldestTile_1 : decode cX11_oldestTile 1 = .ok (.iconst 0, 1) := by decide +kernel
theorem dX11_oldestTile_2 : decode cX11_oldestTile 2 = .ok (.putfield 81, 3) := by decide +kernel
theorem dX11_oldestTile_5 : decode cX11_oldestTile 5 = .ok (.aload_n 0, 1) := by decide +kernel
theorem dX11_oldestTile_6 : decode cX11_oldestTile 6 = .ok (.invokevirtual 113, 3) := by decide +kernel
theorem dX11_oldestTile_9 : decode cX11_oldestTile 9 = .ok (.istore_n 1, 1) := by decide +kernel
theorem dX11_oldestTile_10 : decode cX11_oldestTile 10 = .ok (.iload_n 1, 1) := by decide +kernel
theorem dX11_oldestTile_11 : decode cX11_oldestTile 11 = .ok (.sipush (-1009), 3) := by decide +kernel
theorem dX11_oldestTile_14 : decode cX11_oldestTile 14 = .ok (.if_icmp .ne 9, 3) := by decide +kernel
theorem dX11_oldestTile_17 : decode cX11_oldestTile 17 = .ok (.sipush (-1009), 3) := by decide +kernel
theorem dX11_oldestTile_20 : decode cX11_oldestTile 20 = .ok (.goto 27, 3) := by decide +kernel
theorem dX11_oldestTile_23 : decode cX11_oldestTile 23 = .ok (.sipush 1000, 3) := by decide +kernel
theorem dX11_oldestTile_26 : decode cX11_oldestTile 26 = .ok (.iload_n 1, 1) := by decide +kernel
theorem dX11_oldestTile_27 : decode cX11_oldestTile 27 = .ok (.bipush 64, 2) := by decide +kernel
theorem dX11_oldestTile_29 : decode cX11_oldestTile 29 = .ok (.idiv, 1) := by decide +kernel
theorem dX11_oldestTile_30 : decode cX11_oldestTile 30 = .ok (.imul, 1) := by decide +kernel
theorem dX11_oldestTile_31 : decode cX11_oldestTile 31 = .ok (.bipush 10, 2) := by decide +kernel
theorem dX11_oldestTile_33 : decode cX11_oldestTile 33 = .ok (.iload_n 1, 1) := by decide +kernel
theorem dX11_oldestTile_34 : decode cX11_oldestTile 34 = .ok (.bipush 8, 2) := by decide +kernel
theorem dX11_oldestTile_36 : decode cX11_oldestTile 36 = .ok (.irem, 1) := by decide +kernel
theorem dX11_oldestTile_37 : decode cX11_oldestTile 37 = .ok (.imul, 1) := by decide +kernel
theorem dX11_oldestTile_38 : decode cX11_oldestTile 38 = .ok (.iadd, 1) := by decide +kernel
theorem dX11_oldestTile_39 : decode cX11_oldestTile 39 = .ok (.iload_n 1, 1) := by decide +kernel
theorem dX11_oldestTile_40 : decode cX11_oldestTile 40 = .ok (.bipush 64, 2) := by decide +kernel
theorem dX11_oldestTile_42 : decode cX11_oldestTile 42 = .ok (.irem, 1) := by decide +kernel
theorem dX11_oldestTile_43 : decode cX11_oldestTile 43 = .ok (.bipush 8, 2) := by decide +kernel
theorem dX11_oldestTile_45 : decode cX11_oldestTile 45 = .ok (.idiv, 1) := by decide +kernel
theorem dX11_oldestTile_46 : decode cX11_oldestTile 46 = .ok (.iadd, 1) := by decide +kernel
theorem dX11_oldestTile_47 : decode cX11_oldestTile 47 = .ok (.ireturn, 1) := by decide +kernel
theorem dX11_isOutput_0 : decode cX11_isOutput 0 = .ok (.iload_n 1, 1) := by decide +kernel
theorem dX11_isOutput_1 : decode cX11_isOutput 1 = .ok (.iconst (-1), 1) := by decide +kernel
theorem dX11_isOutput_2 : decode cX11_isOutput 2 = .ok (.if_icmp .eq 11, 3) := by decide +kernel
theorem dX11_isOutput_5 : decode cX11_isOutput 5 = .ok (.aload_n 0, 1) := by decide +kernel
theorem dX11_isOutput_6 : decode cX11_isOutput 6 = .ok (.iload_n 1, 1) := by decide +kernel
theorem dX11_isOutput_7 : decode cX11_isOutput 7 = .ok (.invokevirtual 233, 3) := by decide +kernel
theorem dX11_isOutput_10 : decode cX11_isOutput 10 = .ok (.ifCond .eq 7, 3) := by decide +kernel
theorem dX11_isOutput_13 : decode cX11_isOutput 13 = .ok (.iconst 1, 1) := by decide +kernel
theorem dX11_isOutput_14 : decode cX11_isOutput 14 = .ok (.goto 4, 3) := by decide +kernel
theorem dX11_isOutput_17 : decode cX11_isOutput 17 = .ok (.iconst 0, 1) := by decide +kernel
theorem dX11_isOutput_18 : decode cX11_isOutput 18 = .ok (.ireturn, 1) := by decide +kernel
theorem dX11_histogram_0 : decode cX11_histogram 0 = .ok (.aload_n 0, 1) := by decide +kernel
theorem dX11_histogram_1 : decode cX11_histogram 1 = .ok (.iconst 0, 1) := by decide +kernel
theorem dX11_histogram_2 : decode cX11_histogram 2 = .ok (.putfield 81, 3) := by decide +kernel
theorem dX11_histogram_5 : decode cX11_histogram 5 = .ok (.aload_n 0, 1) := by decide +kernel
theorem dX11_histogram_6 : decode cX11_histogram 6 = .ok (.iload_n 1, 1) := by decide +kernel
theorem dX11_histogram_7 : decode cX11_histogram 7 = .ok (.invokevirtual 397, 3) := by decide +kernel
theorem dX11_histogram_10 : decode cX11_histogram 10 = .ok (.ifCond .eq 25, 3) := by decide +kernel
theorem dX11_histogram_13 : decode cX11_histogram 13 = .ok (.iload_n 2, 1) := by decide +kernel
theorem dX11_histogram_14 : decode cX11_histogram 14 = .ok (.iconst 0, 1) := by decide +kernel
theorem dX11_histogram_15 : decode cX11_histogram 15 = .ok (.sipush 255, 3) := by decide +kernel
theorem dX11_histogram_18 : decode cX11_histogram 18 = .ok (.invokestatic 88, 3) := by decide +kernel
theorem dX11_histogram_21 : decode cX11_histogram 21 = .ok (.ifCond .eq 14, 3) := by decide +kernel
theorem dX11_histogram_24 : decode cX11_histogram 24 = .ok (.iload_n 3, 1) := by decide +kernel
theorem dX11_histogram_25 : decode cX11_histogram 25 = .ok (.iload_n 2, 1) := by decide +kernel
theorem dX11_histogram_26 : decode cX11_histogram 26 = .ok (.sipush 255, 3) := by decide +kernel
theorem dX11_histogram_29 : decode cX11_histogram 29 = .ok (.invokestatic 88, 3) := by decide +kernel
theorem dX11_histogram_32 : decode cX11_histogram 32 = .ok (.ifCond .ne 7, 3) := by decide +kernel
theorem dX11_histogram_35 : decode cX11_histogram 35 = .ok (.sipush (-1001), 3) := by decide +kernel
theorem dX11_histogram_38 : decode cX11_histogram 38 = .ok (.ireturn, 1) := by decide +kernel
theorem dX11_histogram_39 : decode cX11_histogram 39 = .ok (.aload_n 0, 1) := by decide +kernel
theorem dX11_histogram_40 : decode cX11_histogram 40 = .ok (.iload_n 1, 1) := by decide +kernel
theorem dX11_histogram_41 : decode cX11_histogram 41 = .ok (.invokevirtual 242, 3) := by decide +kernel
theorem dX11_histogram_44 : decode cX11_histogram 44 = .ok (.istore 4, 2) := by decide +kernel
theorem dX11_histogram_46 : decode cX11_histogram 46 = .ok (.iconst 0, 1) := by decide +kernel
theorem dX11_histogram_47 : decode cX11_histogram 47 = .ok (.istore 5, 2) := by decide +kernel
theorem dX11_histogram_49 : decode cX11_histogram 49 = .ok (.iconst 0, 1) := by decide +kernel
theorem dX11_histogram_50 : decode cX11_histogram 50 = .ok (.istore 6, 2) := by decide +kernel
theorem dX11_histogram_52 : decode cX11_histogram 52 = .ok (.iload 6, 2) := by decide +kernel
theorem dX11_histogram_54 : decode cX11_histogram 54 = .ok (.aload_n 0, 1) := by decide +kernel
theorem dX11_histogram_55 : decode cX11_histogram 55 = .ok (.invokevirtual 245, 3) := by decide +kernel
theorem dX11_histogram_58 : decode cX11_histogram 58 = .ok (.if_icmp .ge 37, 3) := by decide +kernel
theorem dX11_histogram_61 : decode cX11_histogram 61 = .ok (.iload 5, 2) := by decide +kernel
theorem dX11_histogram_63 : decode cX11_histogram 63 = .ok (.aload_n 0, 1) := by decide +kernel
theorem dX11_histogram_64 : decode cX11_histogram 64 = .ok (.getfield 66, 3) := by decide +kernel
theorem dX11_histogram_67 : decode cX11_histogram 67 = .ok (.iload 4, 2) := by decide +kernel
theorem dX11_histogram_69 : decode cX11_histogram 69 = .ok (.iload 6, 2) := by decide +kernel
theorem dX11_histogram_71 : decode cX11_histogram 71 = .ok (.iadd, 1) := by decide +kernel
theorem dX11_histogram_72 : decode cX11_histogram 72 = .ok (.iaload, 1) := by decide +kernel
theorem dX11_histogram_73 : decode cX11_histogram 73 = .ok (.iload_n 2, 1) := by decide +kernel
theorem dX11_histogram_74 : decode cX11_histogram 74 = .ok (.iload_n 3, 1) := by decide +kernel
theorem dX11_histogram_75 : decode cX11_histogram 75 = .ok (.invokestatic 88, 3) := by decide +kernel
theorem dX11_histogram_78 : decode cX11_histogram 78 = .ok (.ifCond .eq 7, 3) := by decide +kernel
theorem dX11_histogram_81 : decode cX11_histogram 81 = .ok (.iconst 1, 1) := by decide +kernel
theorem dX11_histogram_82 : decode cX11_histogram 82 = .ok (.goto 4, 3) := by decide +kernel
theorem dX11_histogram_85 : decode cX11_histogram 85 = .ok (.iconst 0, 1) := by decide +kernel
theorem dX11_histogram_86 : decode cX11_histogram 86 = .ok (.iadd, 1) := by decide +kernel
theorem dX11_histogram_87 : decode cX11_histogram 87 = .ok (.istore 5, 2) := by decide +kernel
theorem dX11_histogram_89 : decode cX11_histogram 89 = .ok (.iinc 6 1, 3) := by decide +kernel
theorem dX11_histogram_92 : decode cX11_histogram 92 = .ok (.goto (-40), 3) := by decide +kernel
theorem dX11_histogram_95 : decode cX11_histogram 95 = .ok (.iload 5, 2) := by decide +kernel
theorem dX11_histogram_97 : decode cX11_histogram 97 = .ok (.ireturn, 1) := by decide +kernel
theorem dX11_sum_0 : decode cX11_sum 0 = .ok (.aload_n 0, 1) := by decide +kernel
theorem dX11_sum_1 : decode cX11_sum 1 = .ok (.iconst 0, 1) := by decide +kernel
theorem dX11_sum_2 : decode cX11_sum 2 = .ok (.putfield 81, 3) := by decide +kernel
theorem dX11_sum_5 : decode cX11_sum 5 = .ok (.aload_n 0, 1) := by decide +kernel
theorem dX11_sum_6 : decode cX11_sum 6 = .ok (.iload_n 1, 1) := by decide +kernel
theorem dX11_sum_7 : decode cX11_sum 7 = .ok (.invokevirtual 397, 3) := by decide +kernel
theorem dX11_sum_10 : decode cX11_sum 10 = .ok (.ifCond .ne 7, 3) := by decide +kernel
theorem dX11_sum_13 : decode cX11_sum 13 = .ok (.sipush (-1001), 3) := by decide +kernel
theorem dX11_sum_16 : decode cX11_sum 16 = .ok (.ireturn, 1) := by decide +kernel
theorem dX11_sum_17 : decode cX11_sum 17 = .ok (.aload_n 0, 1) := by decide +kernel
theorem dX11_sum_18 : decode cX11_sum 18 = .ok (.iload_n 1, 1) := by decide +kernel
theorem dX11_sum_19 : decode cX11_sum 19 = .ok (.invokevirtual 242, 3) := by decide +kernel
theorem dX11_sum_22 : decode cX11_sum 22 = .ok (.istore_n 2, 1) := by decide +kernel
theorem dX11_sum_23 : decode cX11_sum 23 = .ok (.iconst 0, 1) := by decide +kernel
theorem dX11_sum_24 : decode cX11_sum 24 = .ok (.istore_n 3, 1) := by decide +kernel
theorem dX11_sum_25 : decode cX11_sum 25 = .ok (.iconst 0, 1) := by decide +kernel
theorem dX11_sum_26 : decode cX11_sum 26 = .ok (.istore 4, 2) := by decide +kernel
theorem dX11_sum_28 : decode cX11_sum 28 = .ok (.iload 4, 2) := by decide +kernel
theorem dX11_sum_30 : decode cX11_sum 30 = .ok (.aload_n 0, 1) := by decide +kernel
theorem dX11_sum_31 : decode cX11_sum 31 = .ok (.invokevirtual 245, 3) := by decide +kernel
theorem dX11_sum_34 : decode cX11_sum 34 = .ok (.if_icmp .ge 21, 3) := by decide +kernel
theorem dX11_sum_37 : decode cX11_sum 37 = .ok (.iload_n 3, 1) := by decide +kernel
theorem dX11_sum_38 : decode cX11_sum 38 = .ok (.aload_n 0, 1) := by decide +kernel
theorem dX11_sum_39 : decode cX11_sum 39 = .ok (.getfield 66, 3) := by decide +kernel
theorem dX11_sum_42 : decode cX11_sum 42 = .ok (.iload_n 2, 1) := by decide +kernel
theorem dX11_sum_43 : decode cX11_sum 43 = .ok (.iload 4, 2) := by decide +kernel
theorem dX11_sum_45 : decode cX11_sum 45 = .ok (.iadd, 1) := by decide +kernel
theorem dX11_sum_46 : decode cX11_sum 46 = .ok (.iaload, 1) := by decide +kernel
theorem dX11_sum_47 : decode cX11_sum 47 = .ok (.iadd, 1) := by decide +kernel
theorem dX11_sum_48 : decode cX11_sum 48 = .ok (.istore_n 3, 1) := by decide +kernel
theorem dX11_sum_49 : decode cX11_sum 49 = .ok (.iinc 4 1, 3) := by decide +kernel
theorem dX11_sum_52 : decode cX11_sum 52 = .ok (.goto (-24), 3) := by decide +kernel
theorem dX11_sum_55 : decode cX11_sum 55 = .ok (.iload_n 3, 1) := by decide +kernel
theorem dX11_sum_56 : decode cX11_sum 56 = .ok (.ireturn, 1) := by decide +kernel
theorem dX11_layBeside_0 : decode cX11_layBeside 0 = .ok (.aload_n 0, 1) := by decide +kernel
theorem dX11_layBeside_1 : decode cX11_layBeside 1 = .ok (.aload_n 0, 1) := by decide +kernel
theorem dX11_layBeside_2 : decode cX11_layBeside 2 = .ok (.invokevirtual 400, 3) := by decide +kernel
theorem dX11_layBeside_5 : decode cX11_layBeside 5 = .ok (.invokevirtual 242, 3) := by decide +kernel
theorem dX11_layBeside_8 : decode cX11_layBeside 8 = .ok (.istore_n 1, 1) := by decide +kernel
theorem dX11_layBeside_9 : decode cX11_layBeside 9 = .ok (.iconst 0, 1) := by decide +kernel
theorem dX11_layBeside_10 : decode cX11_layBeside 10 = .ok (.istore_n 2, 1) := by decide +kernel
theorem dX11_layBeside_11 : decode cX11_layBeside 11 = .ok (.iload_n 2, 1) := by decide +kernel
theorem dX11_layBeside_12 : decode cX11_layBeside 12 = .ok (.aload_n 0, 1) := by decide +kernel
theorem dX11_layBeside_13 : decode cX11_layBeside 13 = .ok (.invokevirtual 245, 3) := by decide +kernel
theorem dX11_layBeside_16 : decode cX11_layBeside 16 = .ok (.if_icmp .ge 23, 3) := by decide +kernel
theorem dX11_layBeside_19 : decode cX11_layBeside 19 = .ok (.aload_n 0, 1) := by decide +kernel
theorem dX11_layBeside_20 : decode cX11_layBeside 20 = .ok (.getfield 75, 3) := by decide +kernel
theorem dX11_layBeside_23 : decode cX11_layBeside 23 = .ok (.iload_n 2, 1) := by decide +kernel
theorem dX11_layBeside_24 : decode cX11_layBeside 24 = .ok (.aload_n 0, 1) := by decide +kernel
theorem dX11_layBeside_25 : decode cX11_layBeside 25 = .ok (.getfield 66, 3) := by decide +kernel
theorem dX11_layBeside_28 : decode cX11_layBeside 28 = .ok (.iload_n 1, 1) := by decide +kernel
theorem dX11_layBeside_29 : decode cX11_layBeside 29 = .ok (.iload_n 2, 1) := by decide +kernel
theorem dX11_layBeside_30 : decode cX11_layBeside 30 = .ok (.iadd, 1) := by decide +kernel
theorem dX11_layBeside_31 : decode cX11_layBeside 31 = .ok (.iaload, 1) := by decide +kernel
theorem dX11_layBeside_32 : decode cX11_layBeside 32 = .ok (.iastore, 1) := by decide +kernel
theorem dX11_layBeside_33 : decode cX11_layBeside 33 = .ok (.iinc 2 1, 3) := by decide +kernel
theorem dX11_layBeside_36 : decode cX11_layBeside 36 = .ok (.goto (-25), 3) := by decide +kernel
theorem dX11_layBeside_39 : decode cX11_layBeside 39 = .ok (.return_, 1) := by decide +kernel
theorem dX11_effectOf_0 : decode cX11_effectOf 0 = .ok (.aload_n 0, 1) := by decide +kernel
theorem dX11_effectOf_1 : decode cX11_effectOf 1 = .ok (.invokevirtual 403, 3) := by decide +kernel
theorem dX11_effectOf_4 : decode cX11_effectOf 4 = .ok (.aload_n 0, 1) := by decide +kernel
theorem dX11_effectOf_5 : decode cX11_effectOf 5 = .ok (.getfield 7, 3) := by decide +kernel
theorem dX11_effectOf_8 : decode cX11_effectOf 8 = .ok (.iload_n 1, 1) := by decide +kernel
theorem dX11_effectOf_9 : decode cX11_effectOf 9 = .ok (.invokestatic 95, 3) := by decide +kernel
theorem dX11_effectOf_12 : decode cX11_effectOf 12 = .ok (.iconst 5, 1) := by decide +kernel
theorem dX11_effectOf_13 : decode cX11_effectOf 13 = .ok (.iadd, 1) := by decide +kernel
theorem dX11_effectOf_14 : decode cX11_effectOf 14 = .ok (.iaload, 1) := by decide +kernel
theorem dX11_effectOf_15 : decode cX11_effectOf 15 = .ok (.istore_n 2, 1) := by decide +kernel
theorem dX11_effectOf_16 : decode cX11_effectOf 16 = .ok (.aload_n 0, 1) := by decide +kernel
theorem dX11_effectOf_17 : decode cX11_effectOf 17 = .ok (.getfield 7, 3) := by decide +kernel
theorem dX11_effectOf_20 : decode cX11_effectOf 20 = .ok (.iload_n 1, 1) := by decide +kernel
theorem dX11_effectOf_21 : decode cX11_effectOf 21 = .ok (.invokestatic 95, 3) := by decide +kernel
theorem dX11_effectOf_24 : decode cX11_effectOf 24 = .ok (.iconst 5, 1) := by decide +kernel
theorem dX11_effectOf_25 : decode cX11_effectOf 25 = .ok (.iadd, 1) := by decide +kernel
theorem dX11_effectOf_26 : decode cX11_effectOf 26 = .ok (.iconst 0, 1) := by decide +kernel
theorem dX11_effectOf_27 : decode cX11_effectOf 27 = .ok (.iastore, 1) := by decide +kernel
theorem dX11_effectOf_28 : decode cX11_effectOf 28 = .ok (.aload_n 0, 1) := by decide +kernel
theorem dX11_effectOf_29 : decode cX11_effectOf 29 = .ok (.aload_n 0, 1) := by decide +kernel
theorem dX11_effectOf_30 : decode cX11_effectOf 30 = .ok (.invokevirtual 400, 3) := by decide +kernel
theorem dX11_effectOf_33 : decode cX11_effectOf 33 = .ok (.invokevirtual 242, 3) := by decide +kernel
theorem dX11_effectOf_36 : decode cX11_effectOf 36 = .ok (.istore_n 3, 1) := by decide +kernel
theorem dX11_effectOf_37 : decode cX11_effectOf 37 = .ok (.aload_n 0, 1) := by decide +kernel
theorem dX11_effectOf_38 : decode cX11_effectOf 38 = .ok (.getfield 7, 3) := by decide +kernel
theorem dX11_effectOf_41 : decode cX11_effectOf 41 = .ok (.iload_n 1, 1) := by decide +kernel
theorem dX11_effectOf_42 : decode cX11_effectOf 42 = .ok (.invokestatic 95, 3) := by decide +kernel
theorem dX11_effectOf_45 : decode cX11_effectOf 45 = .ok (.iconst 5, 1) := by decide +kernel
theorem dX11_effectOf_46 : decode cX11_effectOf 46 = .ok (.iadd, 1) := by decide +kernel
theorem dX11_effectOf_47 : decode cX11_effectOf 47 = .ok (.iload_n 2, 1) := by decide +kernel
theorem dX11_effectOf_48 : decode cX11_effectOf 48 = .ok (.iastore, 1) := by decide +kernel
theorem dX11_effectOf_49 : decode cX11_effectOf 49 = .ok (.iconst 0, 1) := by decide +kernel
theorem dX11_effectOf_50 : decode cX11_effectOf 50 = .ok (.istore 4, 2) := by decide +kernel
theorem dX11_effectOf_52 : decode cX11_effectOf 52 = .ok (.iconst 0, 1) := by decide +kernel
theorem dX11_effectOf_53 : decode cX11_effectOf 53 = .ok (.istore 5, 2) := by decide +kernel
theorem dX11_effectOf_55 : decode cX11_effectOf 55 = .ok (.iload 5, 2) := by decide +kernel
theorem dX11_effectOf_57 : decode cX11_effectOf 57 = .ok (.aload_n 0, 1) := by decide +kernel
theorem dX11_effectOf_58 : decode cX11_effectOf 58 = .ok (.invokevirtual 245, 3) := by decide +kernel
theorem dX11_effectOf_61 : decode cX11_effectOf 61 = .ok (.if_icmp .ge 34, 3) := by decide +kernel
theorem dX11_effectOf_64 : decode cX11_effectOf 64 = .ok (.iload 4, 2) := by decide +kernel
theorem dX11_effectOf_66 : decode cX11_effectOf 66 = .ok (.aload_n 0, 1) := by decide +kernel
theorem dX11_effectOf_67 : decode cX11_effectOf 67 = .ok (.getfield 66, 3) := by decide +kernel
theorem dX11_effectOf_70 : decode cX11_effectOf 70 = .ok (.iload_n 3, 1) := by decide +kernel
theorem dX11_effectOf_71 : decode cX11_effectOf 71 = .ok (.iload 5, 2) := by decide +kernel
theorem dX11_effectOf_73 : decode cX11_effectOf 73 = .ok (.iadd, 1) := by decide +kernel
theorem dX11_effectOf_74 : decode cX11_effectOf 74 = .ok (.iaload, 1) := by decide +kernel
theorem dX11_effectOf_75 : decode cX11_effectOf 75 = .ok (.aload_n 0, 1) := by decide +kernel
theorem dX11_effectOf_76 : decode cX11_effectOf 76 = .ok (.getfield 75, 3) := by decide +kernel
theorem dX11_effectOf_79 : decode cX11_effectOf 79 = .ok (.iload 5, 2) := by decide +kernel
theorem dX11_effectOf_81 : decode cX11_effectOf 81 = .ok (.iaload, 1) := by decide +kernel
theorem dX11_effectOf_82 : decode cX11_effectOf 82 = .ok (.isub, 1) := by decide +kernel
theorem dX11_effectOf_83 : decode cX11_effectOf 83 = .ok (.invokestatic 99, 3) := by decide +kernel
theorem dX11_effectOf_86 : decode cX11_effectOf 86 = .ok (.iadd, 1) := by decide +kernel
theorem dX11_effectOf_87 : decode cX11_effectOf 87 = .ok (.istore 4, 2) := by decide +kernel
theorem dX11_effectOf_89 : decode cX11_effectOf 89 = .ok (.iinc 5 1, 3) := by decide +kernel
theorem dX11_effectOf_92 : decode cX11_effectOf 92 = .ok (.goto (-37), 3) := by decide +kernel
theorem dX11_effectOf_95 : decode cX11_effectOf 95 = .ok (.iload 4, 2) := by decide +kernel
theorem dX11_effectOf_97 : decode cX11_effectOf 97 = .ok (.ireturn, 1) := by decide +kernel
theorem dX11_effect_0 : decode cX11_effect 0 = .ok (.aload_n 0, 1) := by decide +kernel
theorem dX11_effect_1 : decode cX11_effect 1 = .ok (.iconst 0, 1) := by decide +kernel
theorem dX11_effect_2 : decode cX11_effect 2 = .ok (.putfield 81, 3) := by decide +kernel
theorem dX11_effect_5 : decode cX11_effect 5 = .ok (.aload_n 0, 1) := by decide +kernel
theorem dX11_effect_6 : decode cX11_effect 6 = .ok (.iload_n 1, 1) := by decide +kernel
theorem dX11_effect_7 : decode cX11_effect 7 = .ok (.invokevirtual 233, 3) := by decide +kernel
theorem dX11_effect_10 : decode cX11_effect 10 = .ok (.ifCond .eq 11, 3) := by decide +kernel
theorem dX11_effect_13 : decode cX11_effect 13 = .ok (.aload_n 0, 1) := by decide +kernel
theorem dX11_effect_14 : decode cX11_effect 14 = .ok (.iload_n 1, 1) := by decide +kernel
theorem dX11_effect_15 : decode cX11_effect 15 = .ok (.invokevirtual 406, 3) := by decide +kernel
theorem dX11_effect_18 : decode cX11_effect 18 = .ok (.goto 6, 3) := by decide +kernel
theorem dX11_effect_21 : decode cX11_effect 21 = .ok (.sipush (-1001), 3) := by decide +kernel
theorem dX11_effect_24 : decode cX11_effect 24 = .ok (.ireturn, 1) := by decide +kernel
theorem dX11_strongestLayer_0 : decode cX11_strongestLayer 0 = .ok (.aload_n 0, 1) := by decide +kernel
theorem dX11_strongestLayer_1 : decode cX11_strongestLayer 1 = .ok (.iconst 0, 1) := by decide +kernel
theorem dX11_strongestLayer_2 : decode cX11_strongestLayer 2 = .ok (.putfield 81, 3) := by decide +kernel
theorem dX11_strongestLayer_5 : decode cX11_strongestLayer 5 = .ok (.sipush (-1009), 3) := by decide +kernel
theorem dX11_strongestLayer_8 : decode cX11_strongestLayer 8 = .ok (.istore_n 1, 1) := by decide +kernel
theorem dX11_strongestLayer_9 : decode cX11_strongestLayer 9 = .ok (.iconst (-1), 1) := by decide +kernel
theorem dX11_strongestLayer_10 : decode cX11_strongestLayer 10 = .ok (.istore_n 2, 1) := by decide +kernel
theorem dX11_strongestLayer_11 : decode cX11_strongestLayer 11 = .ok (.iconst 0, 1) := by decide +kernel
theorem dX11_strongestLayer_12 : decode cX11_strongestLayer 12 = .ok (.istore_n 3, 1) := by decide +kernel
theorem dX11_strongestLayer_13 : decode cX11_strongestLayer 13 = .ok (.iload_n 3, 1) := by decide +kernel
theorem dX11_strongestLayer_14 : decode cX11_strongestLayer 14 = .ok (.aload_n 0, 1) := by decide +kernel
theorem dX11_strongestLayer_15 : decode cX11_strongestLayer 15 = .ok (.getfield 7, 3) := by decide +kernel
theorem dX11_strongestLayer_18 : decode cX11_strongestLayer 18 = .ok (.sipush 258, 3) := by decide +kernel
theorem dX11_strongestLayer_21 : decode cX11_strongestLayer 21 = .ok (.iaload, 1) := by decide +kernel
theorem dX11_strongestLayer_22 : decode cX11_strongestLayer 22 = .ok (.if_icmp .ge 41, 3) := by decide +kernel
theorem dX11_strongestLayer_25 : decode cX11_strongestLayer 25 = .ok (.aload_n 0, 1) := by decide +kernel
theorem dX11_strongestLayer_26 : decode cX11_strongestLayer 26 = .ok (.iload_n 3, 1) := by decide +kernel
theorem dX11_strongestLayer_27 : decode cX11_strongestLayer 27 = .ok (.invokevirtual 406, 3) := by decide +kernel
theorem dX11_strongestLayer_30 : decode cX11_strongestLayer 30 = .ok (.istore 4, 2) := by decide +kernel
theorem dX11_strongestLayer_32 : decode cX11_strongestLayer 32 = .ok (.iload 4, 2) := by decide +kernel
theorem dX11_strongestLayer_34 : decode cX11_strongestLayer 34 = .ok (.iload_n 2, 1) := by decide +kernel
theorem dX11_strongestLayer_35 : decode cX11_strongestLayer 35 = .ok (.if_icmp .le 7, 3) := by decide +kernel
theorem dX11_strongestLayer_38 : decode cX11_strongestLayer 38 = .ok (.iload_n 3, 1) := by decide +kernel
theorem dX11_strongestLayer_39 : decode cX11_strongestLayer 39 = .ok (.goto 4, 3) := by decide +kernel
theorem dX11_strongestLayer_42 : decode cX11_strongestLayer 42 = .ok (.iload_n 1, 1) := by decide +kernel
theorem dX11_strongestLayer_43 : decode cX11_strongestLayer 43 = .ok (.istore_n 1, 1) := by decide +kernel
theorem dX11_strongestLayer_44 : decode cX11_strongestLayer 44 = .ok (.iload 4, 2) := by decide +kernel
theorem dX11_strongestLayer_46 : decode cX11_strongestLayer 46 = .ok (.iload_n 2, 1) := by decide +kernel
theorem dX11_strongestLayer_47 : decode cX11_strongestLayer 47 = .ok (.if_icmp .le 8, 3) := by decide +kernel
theorem dX11_strongestLayer_50 : decode cX11_strongestLayer 50 = .ok (.iload 4, 2) := by decide +kernel
theorem dX11_strongestLayer_52 : decode cX11_strongestLayer 52 = .ok (.goto 4, 3) := by decide +kernel
theorem dX11_strongestLayer_55 : decode cX11_strongestLayer 55 = .ok (.iload_n 2, 1) := by decide +kernel
theorem dX11_strongestLayer_56 : decode cX11_strongestLayer 56 = .ok (.istore_n 2, 1) := by decide +kernel
theorem dX11_strongestLayer_57 : decode cX11_strongestLayer 57 = .ok (.iinc 3 1, 3) := by decide +kernel
theorem dX11_strongestLayer_60 : decode cX11_strongestLayer 60 = .ok (.goto (-47), 3) := by decide +kernel
theorem dX11_strongestLayer_63 : decode cX11_strongestLayer 63 = .ok (.iload_n 1, 1) := by decide +kernel
theorem dX11_strongestLayer_64 : decode cX11_strongestLayer 64 = .ok (.ireturn, 1) := by decide +kernel
theorem dX11_differences_0 : decode cX11_differences 0 = .ok (.aload_n 0, 1) := by decide +kernel
theorem dX11_differences_1 : decode cX11_differences 1 = .ok (.aload_n 0, 1) := by decide +kernel
theorem dX11_differences_2 : decode cX11_differences 2 = .ok (.invokevirtual 400, 3) := by decide +kernel
theorem dX11_differences_5 : decode cX11_differences 5 = .ok (.invokevirtual 242, 3) := by decide +kernel
theorem dX11_differences_8 : decode cX11_differences 8 = .ok (.istore_n 1, 1) := by decide +kernel
theorem dX11_differences_9 : decode cX11_differences 9 = .ok (.iconst 0, 1) := by decide +kernel
theorem dX11_differences_10 : decode cX11_differences 10 = .ok (.istore_n 2, 1) := by decide +kernel
theorem dX11_differences_11 : decode cX11_differences 11 = .ok (.iconst 0, 1) := by decide +kernel
theorem dX11_differences_12 : decode cX11_differences 12 = .ok (.istore_n 3, 1) := by decide +kernel
theorem dX11_differences_13 : decode cX11_differences 13 = .ok (.iload_n 3, 1) := by decide +kernel
theorem dX11_differences_14 : decode cX11_differences 14 = .ok (.aload_n 0, 1) := by decide +kernel
theorem dX11_differences_15 : decode cX11_differences 15 = .ok (.invokevirtual 245, 3) := by decide +kernel
theorem dX11_differences_18 : decode cX11_differences 18 = .ok (.if_icmp .ge 34, 3) := by decide +kernel
theorem dX11_differences_21 : decode cX11_differences 21 = .ok (.iload_n 2, 1) := by decide +kernel
theorem dX11_differences_22 : decode cX11_differences 22 = .ok (.aload_n 0, 1) := by decide +kernel
theorem dX11_differences_23 : decode cX11_differences 23 = .ok (.getfield 66, 3) := by decide +kernel
theorem dX11_differences_26 : decode cX11_differences 26 = .ok (.iload_n 1, 1) := by decide +kernel
theorem dX11_differences_27 : decode cX11_differences 27 = .ok (.iload_n 3, 1) := by decide +kernel
theorem dX11_differences_28 : decode cX11_differences 28 = .ok (.iadd, 1) := by decide +kernel
theorem dX11_differences_29 : decode cX11_differences 29 = .ok (.iaload, 1) := by decide +kernel
theorem dX11_differences_30 : decode cX11_differences 30 = .ok (.aload_n 0, 1) := by decide +kernel
theorem dX11_differences_31 : decode cX11_differences 31 = .ok (.getfield 75, 3) := by decide +kernel
theorem dX11_differences_34 : decode cX11_differences 34 = .ok (.iload_n 3, 1) := by decide +kernel
theorem dX11_differences_35 : decode cX11_differences 35 = .ok (.iaload, 1) := by decide +kernel
theorem dX11_differences_36 : decode cX11_differences 36 = .ok (.if_icmp .ne 7, 3) := by decide +kernel
theorem dX11_differences_39 : decode cX11_differences 39 = .ok (.iconst 0, 1) := by decide +kernel
theorem dX11_differences_40 : decode cX11_differences 40 = .ok (.goto 4, 3) := by decide +kernel
theorem dX11_differences_43 : decode cX11_differences 43 = .ok (.iconst 1, 1) := by decide +kernel
theorem dX11_differences_44 : decode cX11_differences 44 = .ok (.iadd, 1) := by decide +kernel
theorem dX11_differences_45 : decode cX11_differences 45 = .ok (.istore_n 2, 1) := by decide +kernel
theorem dX11_differences_46 : decode cX11_differences 46 = .ok (.iinc 3 1, 3) := by decide +kernel
theorem dX11_differences_49 : decode cX11_differences 49 = .ok (.goto (-36), 3) := by decide +kernel
theorem dX11_differences_52 : decode cX11_differences 52 = .ok (.iload_n 2, 1) := by decide +kernel
theorem dX11_differences_53 : decode cX11_differences 53 = .ok (.ireturn, 1) := by decide +kernel
theorem dX11_exchangeDifference_0 : decode cX11_exchangeDifference 0 = .ok (.aload_n 0, 1) := by decide +kernel
theorem dX11_exchangeDifference_1 : decode cX11_exchangeDifference 1 = .ok (.iconst 0, 1) := by decide +kernel
theorem dX11_exchangeDifference_2 : decode cX11_exchangeDifference 2 = .ok (.putfield 81, 3) := by decide +kernel
theorem dX11_exchangeDifference_5 : decode cX11_exchangeDifference 5 = .ok (.aload_n 0, 1) := by decide +kernel
theorem dX11_exchangeDifference_6 : decode cX11_exchangeDifference 6 = .ok (.iload_n 1, 1) := by decide +kernel
theorem dX11_exchangeDifference_7 : decode cX11_exchangeDifference 7 = .ok (.invokevirtual 233, 3) := by decide +kernel
theorem dX11_exchangeDifference_10 : decode cX11_exchangeDifference 10 = .ok (.ifCond .eq 11, 3) := by decide +kernel
theorem dX11_exchangeDifference_13 : decode cX11_exchangeDifference 13 = .ok (.iload_n 1, 1) := by decide +kernel
theorem dX11_exchangeDifference_14 : decode cX11_exchangeDifference 14 = .ok (.aload_n 0, 1) := by decide +kernel
theorem dX11_exchangeDifference_15 : decode cX11_exchangeDifference 15 = .ok (.invokevirtual 400, 3) := by decide +kernel
theorem dX11_exchangeDifference_18 : decode cX11_exchangeDifference 18 = .ok (.if_icmp .ne 7, 3) := by decide +kernel
theorem dX11_exchangeDifference_21 : decode cX11_exchangeDifference 21 = .ok (.sipush (-1001), 3) := by decide +kernel
theorem dX11_exchangeDifference_24 : decode cX11_exchangeDifference 24 = .ok (.ireturn, 1) := by decide +kernel
theorem dX11_exchangeDifference_25 : decode cX11_exchangeDifference 25 = .ok (.aload_n 0, 1) := by decide +kernel
theorem dX11_exchangeDifference_26 : decode cX11_exchangeDifference 26 = .ok (.invokevirtual 403, 3) := by decide +kernel
theorem dX11_exchangeDifference_29 : decode cX11_exchangeDifference 29 = .ok (.aload_n 0, 1) := by decide +kernel
theorem dX11_exchangeDifference_30 : decode cX11_exchangeDifference 30 = .ok (.iload_n 1, 1) := by decide +kernel
theorem dX11_exchangeDifference_31 : decode cX11_exchangeDifference 31 = .ok (.iload_n 1, 1) := by decide +kernel
theorem dX11_exchangeDifference_32 : decode cX11_exchangeDifference 32 = .ok (.iconst 1, 1) := by decide +kernel
theorem dX11_exchangeDifference_33 : decode cX11_exchangeDifference 33 = .ok (.iadd, 1) := by decide +kernel
theorem dX11_exchangeDifference_34 : decode cX11_exchangeDifference 34 = .ok (.invokevirtual 236, 3) := by decide +kernel
theorem dX11_exchangeDifference_37 : decode cX11_exchangeDifference 37 = .ok (.aload_n 0, 1) := by decide +kernel
theorem dX11_exchangeDifference_38 : decode cX11_exchangeDifference 38 = .ok (.invokevirtual 409, 3) := by decide +kernel
theorem dX11_exchangeDifference_41 : decode cX11_exchangeDifference 41 = .ok (.istore_n 2, 1) := by decide +kernel
theorem dX11_exchangeDifference_42 : decode cX11_exchangeDifference 42 = .ok (.aload_n 0, 1) := by decide +kernel
theorem dX11_exchangeDifference_43 : decode cX11_exchangeDifference 43 = .ok (.iload_n 1, 1) := by decide +kernel
theorem dX11_exchangeDifference_44 : decode cX11_exchangeDifference 44 = .ok (.iload_n 1, 1) := by decide +kernel
theorem dX11_exchangeDifference_45 : decode cX11_exchangeDifference 45 = .ok (.iconst 1, 1) := by decide +kernel
theorem dX11_exchangeDifference_46 : decode cX11_exchangeDifference 46 = .ok (.iadd, 1) := by decide +kernel
theorem dX11_exchangeDifference_47 : decode cX11_exchangeDifference 47 = .ok (.invokevirtual 236, 3) := by decide +kernel
theorem dX11_exchangeDifference_50 : decode cX11_exchangeDifference 50 = .ok (.iload_n 2, 1) := by decide +kernel
theorem dX11_exchangeDifference_51 : decode cX11_exchangeDifference 51 = .ok (.ireturn, 1) := by decide +kernel
theorem dX11_snapshotDifference_0 : decode cX11_snapshotDifference 0 = .ok (.aload_n 0, 1) := by decide +kernel
theorem dX11_snapshotDifference_1 : decode cX11_snapshotDifference 1 = .ok (.iconst 0, 1) := by decide +kernel
theorem dX11_snapshotDifference_2 : decode cX11_snapshotDifference 2 = .ok (.putfield 81, 3) := by decide +kernel
theorem dX11_snapshotDifference_5 : decode cX11_snapshotDifference 5 = .ok (.iload_n 1, 1) := by decide +kernel
theorem dX11_snapshotDifference_6 : decode cX11_snapshotDifference 6 = .ok (.iconst 0, 1) := by decide +kernel
theorem dX11_snapshotDifference_7 : decode cX11_snapshotDifference 7 = .ok (.iconst 1, 1) := by decide +kernel
theorem dX11_snapshotDifference_8 : decode cX11_snapshotDifference 8 = .ok (.invokestatic 88, 3) := by decide +kernel
theorem dX11_snapshotDifference_11 : decode cX11_snapshotDifference 11 = .ok (.ifCond .ne 7, 3) := by decide +kernel
theorem dX11_snapshotDifference_14 : decode cX11_snapshotDifference 14 = .ok (.sipush (-1001), 3) := by decide +kernel
theorem dX11_snapshotDifference_17 : decode cX11_snapshotDifference 17 = .ok (.ireturn, 1) := by decide +kernel
theorem dX11_snapshotDifference_18 : decode cX11_snapshotDifference 18 = .ok (.aload_n 0, 1) := by decide +kernel
theorem dX11_snapshotDifference_19 : decode cX11_snapshotDifference 19 = .ok (.getfield 19, 3) := by decide +kernel
theorem dX11_snapshotDifference_22 : decode cX11_snapshotDifference 22 = .ok (.iload_n 1, 1) := by decide +kernel
theorem dX11_snapshotDifference_23 : decode cX11_snapshotDifference 23 = .ok (.baload, 1) := by decide +kernel
theorem dX11_snapshotDifference_24 : decode cX11_snapshotDifference 24 = .ok (.ifCond .eq 43, 3) := by decide +kernel
theorem dX11_snapshotDifference_27 : decode cX11_snapshotDifference 27 = .ok (.aload_n 0, 1) := by decide +kernel
theorem dX11_snapshotDifference_28 : decode cX11_snapshotDifference 28 = .ok (.getfield 16, 3) := by decide +kernel
theorem dX11_snapshotDifference_31 : decode cX11_snapshotDifference 31 = .ok (.sipush 515, 3) := by decide +kernel
theorem dX11_snapshotDifference_34 : decode cX11_snapshotDifference 34 = .ok (.iload_n 1, 1) := by decide +kernel
theorem dX11_snapshotDifference_35 : decode cX11_snapshotDifference 35 = .ok (.imul, 1) := by decide +kernel
theorem dX11_snapshotDifference_36 : decode cX11_snapshotDifference 36 = .ok (.iaload, 1) := by decide +kernel
theorem dX11_snapshotDifference_37 : decode cX11_snapshotDifference 37 = .ok (.aload_n 0, 1) := by decide +kernel
theorem dX11_snapshotDifference_38 : decode cX11_snapshotDifference 38 = .ok (.getfield 7, 3) := by decide +kernel
theorem dX11_snapshotDifference_41 : decode cX11_snapshotDifference 41 = .ok (.iconst 0, 1) := by decide +kernel
theorem dX11_snapshotDifference_42 : decode cX11_snapshotDifference 42 = .ok (.iaload, 1) := by decide +kernel
theorem dX11_snapshotDifference_43 : decode cX11_snapshotDifference 43 = .ok (.if_icmp .ne 24, 3) := by decide +kernel
theorem dX11_snapshotDifference_46 : decode cX11_snapshotDifference 46 = .ok (.aload_n 0, 1) := by decide +kernel
theorem dX11_snapshotDifference_47 : decode cX11_snapshotDifference 47 = .ok (.getfield 16, 3) := by decide +kernel
theorem dX11_snapshotDifference_50 : decode cX11_snapshotDifference 50 = .ok (.sipush 515, 3) := by decide +kernel
theorem dX11_snapshotDifference_53 : decode cX11_snapshotDifference 53 = .ok (.iload_n 1, 1) := by decide +kernel
theorem dX11_snapshotDifference_54 : decode cX11_snapshotDifference 54 = .ok (.imul, 1) := by decide +kernel
theorem dX11_snapshotDifference_55 : decode cX11_snapshotDifference 55 = .ok (.iconst 1, 1) := by decide +kernel
theorem dX11_snapshotDifference_56 : decode cX11_snapshotDifference 56 = .ok (.iadd, 1) := by decide +kernel
theorem dX11_snapshotDifference_57 : decode cX11_snapshotDifference 57 = .ok (.iaload, 1) := by decide +kernel
theorem dX11_snapshotDifference_58 : decode cX11_snapshotDifference 58 = .ok (.aload_n 0, 1) := by decide +kernel
theorem dX11_snapshotDifference_59 : decode cX11_snapshotDifference 59 = .ok (.getfield 7, 3) := by decide +kernel
theorem dX11_snapshotDifference_62 : decode cX11_snapshotDifference 62 = .ok (.iconst 1, 1) := by decide +kernel
theorem dX11_snapshotDifference_63 : decode cX11_snapshotDifference 63 = .ok (.iaload, 1) := by decide +kernel
theorem dX11_snapshotDifference_64 : decode cX11_snapshotDifference 64 = .ok (.if_icmp .eq 7, 3) := by decide +kernel
theorem dX11_snapshotDifference_67 : decode cX11_snapshotDifference 67 = .ok (.sipush (-1002), 3) := by decide +kernel
theorem dX11_snapshotDifference_70 : decode cX11_snapshotDifference 70 = .ok (.ireturn, 1) := by decide +kernel
theorem dX11_snapshotDifference_71 : decode cX11_snapshotDifference 71 = .ok (.aload_n 0, 1) := by decide +kernel
theorem dX11_snapshotDifference_72 : decode cX11_snapshotDifference 72 = .ok (.invokevirtual 403, 3) := by decide +kernel
theorem dX11_snapshotDifference_75 : decode cX11_snapshotDifference 75 = .ok (.iconst 0, 1) := by decide +kernel
theorem dX11_snapshotDifference_76 : decode cX11_snapshotDifference 76 = .ok (.istore_n 2, 1) := by decide +kernel
theorem dX11_snapshotDifference_77 : decode cX11_snapshotDifference 77 = .ok (.iload_n 2, 1) := by decide +kernel
theorem dX11_snapshotDifference_78 : decode cX11_snapshotDifference 78 = .ok (.sipush 515, 3) := by decide +kernel
theorem dX11_snapshotDifference_81 : decode cX11_snapshotDifference 81 = .ok (.if_icmp .ge 39, 3) := by decide +kernel
theorem dX11_snapshotDifference_84 : decode cX11_snapshotDifference 84 = .ok (.aload_n 0, 1) := by decide +kernel
theorem dX11_snapshotDifference_85 : decode cX11_snapshotDifference 85 = .ok (.getfield 78, 3) := by decide +kernel
theorem dX11_snapshotDifference_88 : decode cX11_snapshotDifference 88 = .ok (.iload_n 2, 1) := by decide +kernel
theorem dX11_snapshotDifference_89 : decode cX11_snapshotDifference 89 = .ok (.aload_n 0, 1) := by decide +kernel
theorem dX11_snapshotDifference_90 : decode cX11_snapshotDifference 90 = .ok (.getfield 7, 3) := by decide +kernel
theorem dX11_snapshotDifference_93 : decode cX11_snapshotDifference 93 = .ok (.iload_n 2, 1) := by decide +kernel
theorem dX11_snapshotDifference_94 : decode cX11_snapshotDifference 94 = .ok (.iaload, 1) := by decide +kernel
theorem dX11_snapshotDifference_95 : decode cX11_snapshotDifference 95 = .ok (.iastore, 1) := by decide +kernel
theorem dX11_snapshotDifference_96 : decode cX11_snapshotDifference 96 = .ok (.aload_n 0, 1) := by decide +kernel
theorem dX11_snapshotDifference_97 : decode cX11_snapshotDifference 97 = .ok (.getfield 7, 3) := by decide +kernel
theorem dX11_snapshotDifference_100 : decode cX11_snapshotDifference 100 = .ok (.iload_n 2, 1) := by decide +kernel
theorem dX11_snapshotDifference_101 : decode cX11_snapshotDifference 101 = .ok (.aload_n 0, 1) := by decide +kernel
theorem dX11_snapshotDifference_102 : decode cX11_snapshotDifference 102 = .ok (.getfield 16, 3) := by decide +kernel
theorem dX11_snapshotDifference_105 : decode cX11_snapshotDifference 105 = .ok (.sipush 515, 3) := by decide +kernel
theorem dX11_snapshotDifference_108 : decode cX11_snapshotDifference 108 = .ok (.iload_n 1, 1) := by decide +kernel
theorem dX11_snapshotDifference_109 : decode cX11_snapshotDifference 109 = .ok (.imul, 1) := by decide +kernel
theorem dX11_snapshotDifference_110 : decode cX11_snapshotDifference 110 = .ok (.iload_n 2, 1) := by decide +kernel
theorem dX11_snapshotDifference_111 : decode cX11_snapshotDifference 111 = .ok (.iadd, 1) := by decide +kernel
theorem dX11_snapshotDifference_112 : decode cX11_snapshotDifference 112 = .ok (.iaload, 1) := by decide +kernel
theorem dX11_snapshotDifference_113 : decode cX11_snapshotDifference 113 = .ok (.iastore, 1) := by decide +kernel
theorem dX11_snapshotDifference_114 : decode cX11_snapshotDifference 114 = .ok (.iinc 2 1, 3) := by decide +kernel
theorem dX11_snapshotDifference_117 : decode cX11_snapshotDifference 117 = .ok (.goto (-40), 3) := by decide +kernel
theorem dX11_snapshotDifference_120 : decode cX11_snapshotDifference 120 = .ok (.aload_n 0, 1) := by decide +kernel
theorem dX11_snapshotDifference_121 : decode cX11_snapshotDifference 121 = .ok (.invokevirtual 409, 3) := by decide +kernel
theorem dX11_snapshotDifference_124 : decode cX11_snapshotDifference 124 = .ok (.istore_n 2, 1) := by decide +kernel
theorem dX11_snapshotDifference_125 : decode cX11_snapshotDifference 125 = .ok (.iconst 0, 1) := by decide +kernel
theorem dX11_snapshotDifference_126 : decode cX11_snapshotDifference 126 = .ok (.istore_n 3, 1) := by decide +kernel
theorem dX11_snapshotDifference_127 : decode cX11_snapshotDifference 127 = .ok (.iload_n 3, 1) := by decide +kernel
theorem dX11_snapshotDifference_128 : decode cX11_snapshotDifference 128 = .ok (.sipush 515, 3) := by decide +kernel
theorem dX11_snapshotDifference_131 : decode cX11_snapshotDifference 131 = .ok (.if_icmp .ge 21, 3) := by decide +kernel
theorem dX11_snapshotDifference_134 : decode cX11_snapshotDifference 134 = .ok (.aload_n 0, 1) := by decide +kernel
theorem dX11_snapshotDifference_135 : decode cX11_snapshotDifference 135 = .ok (.getfield 7, 3) := by decide +kernel
theorem dX11_snapshotDifference_138 : decode cX11_snapshotDifference 138 = .ok (.iload_n 3, 1) := by decide +kernel
theorem dX11_snapshotDifference_139 : decode cX11_snapshotDifference 139 = .ok (.aload_n 0, 1) := by decide +kernel
theorem dX11_snapshotDifference_140 : decode cX11_snapshotDifference 140 = .ok (.getfield 78, 3) := by decide +kernel
theorem dX11_snapshotDifference_143 : decode cX11_snapshotDifference 143 = .ok (.iload_n 3, 1) := by decide +kernel
theorem dX11_snapshotDifference_144 : decode cX11_snapshotDifference 144 = .ok (.iaload, 1) := by decide +kernel
theorem dX11_snapshotDifference_145 : decode cX11_snapshotDifference 145 = .ok (.iastore, 1) := by decide +kernel
theorem dX11_snapshotDifference_146 : decode cX11_snapshotDifference 146 = .ok (.iinc 3 1, 3) := by decide +kernel
theorem dX11_snapshotDifference_149 : decode cX11_snapshotDifference 149 = .ok (.goto (-22), 3) := by decide +kernel
theorem dX11_snapshotDifference_152 : decode cX11_snapshotDifference 152 = .ok (.iload_n 2, 1) := by decide +kernel
theorem dX11_snapshotDifference_153 : decode cX11_snapshotDifference 153 = .ok (.ireturn, 1) := by decide +kernel
theorem dX11_undo_0 : decode cX11_undo 0 = .ok (.aload_n 0, 1) := by decide +kernel
theorem dX11_undo_1 : decode cX11_undo 1 = .ok (.iconst 0, 1) := by decide +kernel
theorem dX11_undo_2 : decode cX11_undo 2 = .ok (.putfield 81, 3) := by decide +kernel
theorem dX11_undo_5 : decode cX11_undo 5 = .ok (.aload_n 0, 1) := by decide +kernel
theorem dX11_undo_6 : decode cX11_undo 6 = .ok (.getfield 92, 3) := by decide +kernel
theorem dX11_undo_9 : decode cX11_undo 9 = .ok (.ifCond .ne 7, 3) := by decide +kernel
theorem dX11_undo_12 : decode cX11_undo 12 = .ok (.sipush (-1002), 3) := by decide +kernel
theorem dX11_undo_15 : decode cX11_undo 15 = .ok (.ireturn, 1) := by decide +kernel
theorem dX11_undo_16 : decode cX11_undo 16 = .ok (.aload_n 0, 1) := by decide +kernel
theorem dX11_undo_17 : decode cX11_undo 17 = .ok (.dup, 1) := by decide +kernel
theorem dX11_undo_18 : decode cX11_undo 18 = .ok (.getfield 92, 3) := by decide +kernel
theorem dX11_undo_21 : decode cX11_undo 21 = .ok (.iconst 1, 1) := by decide +kernel
theorem dX11_undo_22 : decode cX11_undo 22 = .ok (.isub, 1) := by decide +kernel
theorem dX11_undo_23 : decode cX11_undo 23 = .ok (.putfield 92, 3) := by decide +kernel
theorem dX11_undo_26 : decode cX11_undo 26 = .ok (.iconst 0, 1) := by decide +kernel
theorem dX11_undo_27 : decode cX11_undo 27 = .ok (.istore_n 1, 1) := by decide +kernel
theorem dX11_undo_28 : decode cX11_undo 28 = .ok (.iload_n 1, 1) := by decide +kernel
theorem dX11_undo_29 : decode cX11_undo 29 = .ok (.sipush 515, 3) := by decide +kernel
theorem dX11_undo_32 : decode cX11_undo 32 = .ok (.if_icmp .ge 30, 3) := by decide +kernel
theorem dX11_undo_35 : decode cX11_undo 35 = .ok (.aload_n 0, 1) := by decide +kernel
theorem dX11_undo_36 : decode cX11_undo 36 = .ok (.getfield 7, 3) := by decide +kernel
theorem dX11_undo_39 : decode cX11_undo 39 = .ok (.iload_n 1, 1) := by decide +kernel
theorem dX11_undo_40 : decode cX11_undo 40 = .ok (.aload_n 0, 1) := by decide +kernel
theorem dX11_undo_41 : decode cX11_undo 41 = .ok (.getfield 13, 3) := by decide +kernel
theorem dX11_undo_44 : decode cX11_undo 44 = .ok (.sipush 515, 3) := by decide +kernel
theorem dX11_undo_47 : decode cX11_undo 47 = .ok (.aload_n 0, 1) := by decide +kernel
theorem dX11_undo_48 : decode cX11_undo 48 = .ok (.getfield 92, 3) := by decide +kernel
theorem dX11_undo_51 : decode cX11_undo 51 = .ok (.imul, 1) := by decide +kernel
theorem dX11_undo_52 : decode cX11_undo 52 = .ok (.iload_n 1, 1) := by decide +kernel
theorem dX11_undo_53 : decode cX11_undo 53 = .ok (.iadd, 1) := by decide +kernel
theorem dX11_undo_54 : decode cX11_undo 54 = .ok (.iaload, 1) := by decide +kernel
theorem dX11_undo_55 : decode cX11_undo 55 = .ok (.iastore, 1) := by decide +kernel
theorem dX11_undo_56 : decode cX11_undo 56 = .ok (.iinc 1 1, 3) := by decide +kernel
theorem dX11_undo_59 : decode cX11_undo 59 = .ok (.goto (-31), 3) := by decide +kernel
theorem dX11_undo_62 : decode cX11_undo 62 = .ok (.aload_n 0, 1) := by decide +kernel
theorem dX11_undo_63 : decode cX11_undo 63 = .ok (.invokevirtual 202, 3) := by decide +kernel
theorem dX11_undo_66 : decode cX11_undo 66 = .ok (.pop, 1) := by decide +kernel
theorem dX11_undo_67 : decode cX11_undo 67 = .ok (.aload_n 0, 1) := by decide +kernel
theorem dX11_undo_68 : decode cX11_undo 68 = .ok (.getfield 92, 3) := by decide +kernel
theorem dX11_undo_71 : decode cX11_undo 71 = .ok (.ireturn, 1) := by decide +kernel
theorem dX11_save_0 : decode cX11_save 0 = .ok (.aload_n 0, 1) := by decide +kernel
theorem dX11_save_1 : decode cX11_save 1 = .ok (.iconst 0, 1) := by decide +kernel
theorem dX11_save_2 : decode cX11_save 2 = .ok (.putfield 81, 3) := by decide +kernel
theorem dX11_save_5 : decode cX11_save 5 = .ok (.iload_n 1, 1) := by decide +kernel
theorem dX11_save_6 : decode cX11_save 6 = .ok (.iconst 0, 1) := by decide +kernel
theorem dX11_save_7 : decode cX11_save 7 = .ok (.iconst 1, 1) := by decide +kernel
theorem dX11_save_8 : decode cX11_save 8 = .ok (.invokestatic 88, 3) := by decide +kernel
theorem dX11_save_11 : decode cX11_save 11 = .ok (.ifCond .ne 7, 3) := by decide +kernel
theorem dX11_save_14 : decode cX11_save 14 = .ok (.sipush (-1001), 3) := by decide +kernel
theorem dX11_save_17 : decode cX11_save 17 = .ok (.ireturn, 1) := by decide +kernel
theorem dX11_save_18 : decode cX11_save 18 = .ok (.iconst 0, 1) := by decide +kernel
theorem dX11_save_19 : decode cX11_save 19 = .ok (.istore_n 2, 1) := by decide +kernel
theorem dX11_save_20 : decode cX11_save 20 = .ok (.iload_n 2, 1) := by decide +kernel
theorem dX11_save_21 : decode cX11_save 21 = .ok (.sipush 515, 3) := by decide +kernel
theorem dX11_save_24 : decode cX11_save 24 = .ok (.if_icmp .ge 27, 3) := by decide +kernel
theorem dX11_save_27 : decode cX11_save 27 = .ok (.aload_n 0, 1) := by decide +kernel
theorem dX11_save_28 : decode cX11_save 28 = .ok (.getfield 16, 3) := by decide +kernel
theorem dX11_save_31 : decode cX11_save 31 = .ok (.sipush 515, 3) := by decide +kernel
theorem dX11_save_34 : decode cX11_save 34 = .ok (.iload_n 1, 1) := by decide +kernel
theorem dX11_save_35 : decode cX11_save 35 = .ok (.imul, 1) := by decide +kernel
theorem dX11_save_36 : decode cX11_save 36 = .ok (.iload_n 2, 1) := by decide +kernel
theorem dX11_save_37 : decode cX11_save 37 = .ok (.iadd, 1) := by decide +kernel
theorem dX11_save_38 : decode cX11_save 38 = .ok (.aload_n 0, 1) := by decide +kernel
theorem dX11_save_39 : decode cX11_save 39 = .ok (.getfield 7, 3) := by decide +kernel
theorem dX11_save_42 : decode cX11_save 42 = .ok (.iload_n 2, 1) := by decide +kernel
theorem dX11_save_43 : decode cX11_save 43 = .ok (.iaload, 1) := by decide +kernel
theorem dX11_save_44 : decode cX11_save 44 = .ok (.iastore, 1) := by decide +kernel
theorem dX11_save_45 : decode cX11_save 45 = .ok (.iinc 2 1, 3) := by decide +kernel
theorem dX11_save_48 : decode cX11_save 48 = .ok (.goto (-28), 3) := by decide +kernel
theorem dX11_save_51 : decode cX11_save 51 = .ok (.aload_n 0, 1) := by decide +kernel
theorem dX11_save_52 : decode cX11_save 52 = .ok (.getfield 19, 3) := by decide +kernel
theorem dX11_save_55 : decode cX11_save 55 = .ok (.iload_n 1, 1) := by decide +kernel
theorem dX11_save_56 : decode cX11_save 56 = .ok (.iconst 1, 1) := by decide +kernel
theorem dX11_save_57 : decode cX11_save 57 = .ok (.bastore, 1) := by decide +kernel
theorem dX11_save_58 : decode cX11_save 58 = .ok (.aload_n 0, 1) := by decide +kernel
theorem dX11_save_59 : decode cX11_save 59 = .ok (.getfield 7, 3) := by decide +kernel
theorem dX11_save_62 : decode cX11_save 62 = .ok (.sipush 258, 3) := by decide +kernel
theorem dX11_save_65 : decode cX11_save 65 = .ok (.iaload, 1) := by decide +kernel
theorem dX11_save_66 : decode cX11_save 66 = .ok (.ireturn, 1) := by decide +kernel
theorem dX11_restore_0 : decode cX11_restore 0 = .ok (.aload_n 0, 1) := by decide +kernel
theorem dX11_restore_1 : decode cX11_restore 1 = .ok (.iconst 0, 1) := by decide +kernel
theorem dX11_restore_2 : decode cX11_restore 2 = .ok (.putfield 81, 3) := by decide +kernel
theorem dX11_restore_5 : decode cX11_restore 5 = .ok (.iload_n 1, 1) := by decide +kernel
theorem dX11_restore_6 : decode cX11_restore 6 = .ok (.iconst 0, 1) := by decide +kernel
theorem dX11_restore_7 : decode cX11_restore 7 = .ok (.iconst 1, 1) := by decide +kernel
theorem dX11_restore_8 : decode cX11_restore 8 = .ok (.invokestatic 88, 3) := by decide +kernel
theorem dX11_restore_11 : decode cX11_restore 11 = .ok (.ifCond .ne 7, 3) := by decide +kernel
theorem dX11_restore_14 : decode cX11_restore 14 = .ok (.sipush (-1001), 3) := by decide +kernel
theorem dX11_restore_17 : decode cX11_restore 17 = .ok (.ireturn, 1) := by decide +kernel
theorem dX11_restore_18 : decode cX11_restore 18 = .ok (.aload_n 0, 1) := by decide +kernel
theorem dX11_restore_19 : decode cX11_restore 19 = .ok (.getfield 19, 3) := by decide +kernel
theorem dX11_restore_22 : decode cX11_restore 22 = .ok (.iload_n 1, 1) := by decide +kernel
theorem dX11_restore_23 : decode cX11_restore 23 = .ok (.baload, 1) := by decide +kernel
theorem dX11_restore_24 : decode cX11_restore 24 = .ok (.ifCond .ne 7, 3) := by decide +kernel
theorem dX11_restore_27 : decode cX11_restore 27 = .ok (.sipush (-1002), 3) := by decide +kernel
theorem dX11_restore_30 : decode cX11_restore 30 = .ok (.ireturn, 1) := by decide +kernel
theorem dX11_restore_31 : decode cX11_restore 31 = .ok (.iconst 0, 1) := by decide +kernel
theorem dX11_restore_32 : decode cX11_restore 32 = .ok (.istore_n 2, 1) := by decide +kernel
theorem dX11_restore_33 : decode cX11_restore 33 = .ok (.iload_n 2, 1) := by decide +kernel
theorem dX11_restore_34 : decode cX11_restore 34 = .ok (.sipush 515, 3) := by decide +kernel
theorem dX11_restore_37 : decode cX11_restore 37 = .ok (.if_icmp .ge 27, 3) := by decide +kernel
theorem dX11_restore_40 : decode cX11_restore 40 = .ok (.aload_n 0, 1) := by decide +kernel
theorem dX11_restore_41 : decode cX11_restore 41 = .ok (.getfield 7, 3) := by decide +kernel
theorem dX11_restore_44 : decode cX11_restore 44 = .ok (.iload_n 2, 1) := by decide +kernel
theorem dX11_restore_45 : decode cX11_restore 45 = .ok (.aload_n 0, 1) := by decide +kernel
theorem dX11_restore_46 : decode cX11_restore 46 = .ok (.getfield 16, 3) := by decide +kernel
theorem dX11_restore_49 : decode cX11_restore 49 = .ok (.sipush 515, 3) := by decide +kernel
theorem dX11_restore_52 : decode cX11_restore 52 = .ok (.iload_n 1, 1) := by decide +kernel
theorem dX11_restore_53 : decode cX11_restore 53 = .ok (.imul, 1) := by decide +kernel
theorem dX11_restore_54 : decode cX11_restore 54 = .ok (.iload_n 2, 1) := by decide +kernel
theorem dX11_restore_55 : decode cX11_restore 55 = .ok (.iadd, 1) := by decide +kernel
theorem dX11_restore_56 : decode cX11_restore 56 = .ok (.iaload, 1) := by decide +kernel
theorem dX11_restore_57 : decode cX11_restore 57 = .ok (.iastore, 1) := by decide +kernel
theorem dX11_restore_58 : decode cX11_restore 58 = .ok (.iinc 2 1, 3) := by decide +kernel
theorem dX11_restore_61 : decode cX11_restore 61 = .ok (.goto (-28), 3) := by decide +kernel
theorem dX11_restore_64 : decode cX11_restore 64 = .ok (.aload_n 0, 1) := by decide +kernel
theorem dX11_restore_65 : decode cX11_restore 65 = .ok (.iconst 0, 1) := by decide +kernel
theorem dX11_restore_66 : decode cX11_restore 66 = .ok (.putfield 92, 3) := by decide +kernel
theorem dX11_restore_69 : decode cX11_restore 69 = .ok (.aload_n 0, 1) := by decide +kernel
theorem dX11_restore_70 : decode cX11_restore 70 = .ok (.invokevirtual 202, 3) := by decide +kernel
theorem dX11_restore_73 : decode cX11_restore 73 = .ok (.pop, 1) := by decide +kernel
theorem dX11_restore_74 : decode cX11_restore 74 = .ok (.aload_n 0, 1) := by decide +kernel
theorem dX11_restore_75 : decode cX11_restore 75 = .ok (.getfield 7, 3) := by decide +kernel
theorem dX11_restore_78 : decode cX11_restore 78 = .ok (.sipush 258, 3) := by decide +kernel
theorem dX11_restore_81 : decode cX11_restore 81 = .ok (.iaload, 1) := by decide +kernel
theorem dX11_restore_82 : decode cX11_restore 82 = .ok (.ireturn, 1) := by decide +kernel
theorem dJ9_floorDiv_7cf53_0 : decode cJ9_floorDiv_7cf53 0 = .ok (.iload_n 0, 1) := by decide +kernel
theorem dJ9_floorDiv_7cf53_1 : decode cJ9_floorDiv_7cf53 1 = .ok (.iload_n 1, 1) := by decide +kernel
theorem dJ9_floorDiv_7cf53_2 : decode cJ9_floorDiv_7cf53 2 = .ok (.idiv, 1) := by decide +kernel
theorem dJ9_floorDiv_7cf53_3 : decode cJ9_floorDiv_7cf53 3 = .ok (.istore_n 2, 1) := by decide +kernel
theorem dJ9_floorDiv_7cf53_4 : decode cJ9_floorDiv_7cf53 4 = .ok (.iload_n 0, 1) := by decide +kernel
theorem dJ9_floorDiv_7cf53_5 : decode cJ9_floorDiv_7cf53 5 = .ok (.iload_n 1, 1) := by decide +kernel
theorem dJ9_floorDiv_7cf53_6 : decode cJ9_floorDiv_7cf53 6 = .ok (.ixor, 1) := by decide +kernel
theorem dJ9_floorDiv_7cf53_7 : decode cJ9_floorDiv_7cf53 7 = .ok (.ifCond .ge 14, 3) := by decide +kernel
theorem dJ9_floorDiv_7cf53_10 : decode cJ9_floorDiv_7cf53 10 = .ok (.iload_n 2, 1) := by decide +kernel
theorem dJ9_floorDiv_7cf53_11 : decode cJ9_floorDiv_7cf53 11 = .ok (.iload_n 1, 1) := by decide +kernel
theorem dJ9_floorDiv_7cf53_12 : decode cJ9_floorDiv_7cf53 12 = .ok (.imul, 1) := by decide +kernel
theorem dJ9_floorDiv_7cf53_13 : decode cJ9_floorDiv_7cf53 13 = .ok (.iload_n 0, 1) := by decide +kernel
theorem dJ9_floorDiv_7cf53_14 : decode cJ9_floorDiv_7cf53 14 = .ok (.if_icmp .eq 7, 3) := by decide +kernel
theorem dJ9_floorDiv_7cf53_17 : decode cJ9_floorDiv_7cf53 17 = .ok (.iload_n 2, 1) := by decide +kernel
theorem dJ9_floorDiv_7cf53_18 : decode cJ9_floorDiv_7cf53 18 = .ok (.iconst 1, 1) := by decide +kernel
theorem dJ9_floorDiv_7cf53_19 : decode cJ9_floorDiv_7cf53 19 = .ok (.isub, 1) := by decide +kernel
theorem dJ9_floorDiv_7cf53_20 : decode cJ9_floorDiv_7cf53 20 = .ok (.ireturn, 1) := by decide +kernel
theorem dJ9_floorDiv_7cf53_21 : decode cJ9_floorDiv_7cf53 21 = .ok (.iload_n 2, 1) := by decide +kernel
theorem dJ9_floorDiv_7cf53_22 : decode cJ9_floorDiv_7cf53 22 = .ok (.ireturn, 1) := by decide +kernel
theorem dJ9_abs_0f7a4_0 : decode cJ9_abs_0f7a4 0 = .ok (.iload_n 0, 1) := by decide +kernel
theorem dJ9_abs_0f7a4_1 : decode cJ9_abs_0f7a4 1 = .ok (.ifCond .ge 8, 3) := by decide +kernel
theorem dJ9_abs_0f7a4_4 : decode cJ9_abs_0f7a4 4 = .ok (.iload_n 0, 1) := by decide +kernel
theorem dJ9_abs_0f7a4_5 : decode cJ9_abs_0f7a4 5 = .ok (.ineg, 1) := by decide +kernel
theorem dJ9_abs_0f7a4_6 : decode cJ9_abs_0f7a4 6 = .ok (.goto 4, 3) := by decide +kernel
theorem dJ9_abs_0f7a4_9 : decode cJ9_abs_0f7a4 9 = .ok (.iload_n 0, 1) := by decide +kernel
theorem dJ9_abs_0f7a4_10 : decode cJ9_abs_0f7a4 10 = .ok (.ireturn, 1) := by decide +kernel
theorem dJ9_max_7cf53_0 : decode cJ9_max_7cf53 0 = .ok (.iload_n 0, 1) := by decide +kernel
theorem dJ9_max_7cf53_1 : decode cJ9_max_7cf53 1 = .ok (.iload_n 1, 1) := by decide +kernel
theorem dJ9_max_7cf53_2 : decode cJ9_max_7cf53 2 = .ok (.if_icmp .lt 7, 3) := by decide +kernel
theorem dJ9_max_7cf53_5 : decode cJ9_max_7cf53 5 = .ok (.iload_n 0, 1) := by decide +kernel
theorem dJ9_max_7cf53_6 : decode cJ9_max_7cf53 6 = .ok (.goto 4, 3) := by decide +kernel
theorem dJ9_max_7cf53_9 : decode cJ9_max_7cf53 9 = .ok (.iload_n 1, 1) := by decide +kernel
theorem dJ9_max_7cf53_10 : decode cJ9_max_7cf53 10 = .ok (.ireturn, 1) := by decide +kernel
theorem dJ9_min_7cf53_0 : decode cJ9_min_7cf53 0 = .ok (.iload_n 0, 1) := by decide +kernel
theorem dJ9_min_7cf53_1 : decode cJ9_min_7cf53 1 = .ok (.iload_n 1, 1) := by decide +kernel
theorem dJ9_min_7cf53_2 : decode cJ9_min_7cf53 2 = .ok (.if_icmp .gt 7, 3) := by decide +kernel
theorem dJ9_min_7cf53_5 : decode cJ9_min_7cf53 5 = .ok (.iload_n 0, 1) := by decide +kernel
theorem dJ9_min_7cf53_6 : decode cJ9_min_7cf53 6 = .ok (.goto 4, 3) := by decide +kernel
theorem dJ9_min_7cf53_9 : decode cJ9_min_7cf53 9 = .ok (.iload_n 1, 1) := by decide +kernel
theorem dJ9_min_7cf53_10 : decode cJ9_min_7cf53 10 = .ok (.ireturn, 1) := by decide +kernel
theorem dJ0_length_8abf5_0 : decode cJ0_length_8abf5 0 = .ok (.aload_n 0, 1) := by decide +kernel
theorem dJ0_length_8abf5_1 : decode cJ0_length_8abf5 1 = .ok (.getfield 9, 3) := by decide +kernel
theorem dJ0_length_8abf5_4 : decode cJ0_length_8abf5 4 = .ok (.arraylength, 1) := by decide +kernel
theorem dJ0_length_8abf5_5 : decode cJ0_length_8abf5 5 = .ok (.aload_n 0, 1) := by decide +kernel
theorem dJ0_length_8abf5_6 : decode cJ0_length_8abf5 6 = .ok (.invokevirtual 335, 3) := by decide +kernel
theorem dJ0_length_8abf5_9 : decode cJ0_length_8abf5 9 = .ok (.ishr, 1) := by decide +kernel
theorem dJ0_length_8abf5_10 : decode cJ0_length_8abf5 10 = .ok (.ireturn, 1) := by decide +kernel
theorem dJ0_charAt_5068e_0 : decode cJ0_charAt_5068e 0 = .ok (.aload_n 0, 1) := by decide +kernel
theorem dJ0_charAt_5068e_1 : decode cJ0_charAt_5068e 1 = .ok (.invokevirtual 492, 3) := by decide +kernel
theorem dJ0_charAt_5068e_4 : decode cJ0_charAt_5068e 4 = .ok (.ifCond .eq 12, 3) := by decide +kernel
theorem dJ0_charAt_5068e_7 : decode cJ0_charAt_5068e 7 = .ok (.aload_n 0, 1) := by decide +kernel
theorem dJ0_charAt_5068e_8 : decode cJ0_charAt_5068e 8 = .ok (.getfield 9, 3) := by decide +kernel
theorem dJ0_charAt_5068e_11 : decode cJ0_charAt_5068e 11 = .ok (.iload_n 1, 1) := by decide +kernel
theorem dJ0_charAt_5068e_12 : decode cJ0_charAt_5068e 12 = .ok (.invokestatic 495, 3) := by decide +kernel
theorem dJ0_charAt_5068e_15 : decode cJ0_charAt_5068e 15 = .ok (.ireturn, 1) := by decide +kernel
theorem dJ0_charAt_5068e_16 : decode cJ0_charAt_5068e 16 = .ok (.aload_n 0, 1) := by decide +kernel
theorem dJ0_charAt_5068e_17 : decode cJ0_charAt_5068e 17 = .ok (.getfield 9, 3) := by decide +kernel
theorem dJ0_charAt_5068e_20 : decode cJ0_charAt_5068e 20 = .ok (.iload_n 1, 1) := by decide +kernel
theorem dJ0_charAt_5068e_21 : decode cJ0_charAt_5068e 21 = .ok (.invokestatic 498, 3) := by decide +kernel
theorem dJ0_charAt_5068e_24 : decode cJ0_charAt_5068e 24 = .ok (.ireturn, 1) := by decide +kernel
theorem dJ0_coder_7d493_0 : decode cJ0_coder_7d493 0 = .ok (.getstatic 38, 3) := by decide +kernel
theorem dJ0_coder_7d493_3 : decode cJ0_coder_7d493 3 = .ok (.ifCond .eq 10, 3) := by decide +kernel
theorem dJ0_coder_7d493_6 : decode cJ0_coder_7d493 6 = .ok (.aload_n 0, 1) := by decide +kernel
theorem dJ0_coder_7d493_7 : decode cJ0_coder_7d493 7 = .ok (.getfield 15, 3) := by decide +kernel
theorem dJ0_coder_7d493_10 : decode cJ0_coder_7d493 10 = .ok (.goto 4, 3) := by decide +kernel
theorem dJ0_coder_7d493_13 : decode cJ0_coder_7d493 13 = .ok (.iconst 1, 1) := by decide +kernel
theorem dJ0_coder_7d493_14 : decode cJ0_coder_7d493 14 = .ok (.ireturn, 1) := by decide +kernel
theorem dJ0_isLatin1_aae02_0 : decode cJ0_isLatin1_aae02 0 = .ok (.getstatic 38, 3) := by decide +kernel
theorem dJ0_isLatin1_aae02_3 : decode cJ0_isLatin1_aae02 3 = .ok (.ifCond .eq 14, 3) := by decide +kernel
theorem dJ0_isLatin1_aae02_6 : decode cJ0_isLatin1_aae02 6 = .ok (.aload_n 0, 1) := by decide +kernel
theorem dJ0_isLatin1_aae02_7 : decode cJ0_isLatin1_aae02 7 = .ok (.getfield 15, 3) := by decide +kernel
theorem dJ0_isLatin1_aae02_10 : decode cJ0_isLatin1_aae02 10 = .ok (.ifCond .ne 7, 3) := by decide +kernel
theorem dJ0_isLatin1_aae02_13 : decode cJ0_isLatin1_aae02 13 = .ok (.iconst 1, 1) := by decide +kernel
theorem dJ0_isLatin1_aae02_14 : decode cJ0_isLatin1_aae02 14 = .ok (.goto 4, 3) := by decide +kernel
theorem dJ0_isLatin1_aae02_17 : decode cJ0_isLatin1_aae02 17 = .ok (.iconst 0, 1) := by decide +kernel
theorem dJ0_isLatin1_aae02_18 : decode cJ0_isLatin1_aae02 18 = .ok (.ireturn, 1) := by decide +kernel
theorem dJ0_checkIndex_df160_0 : decode cJ0_checkIndex_df160 0 = .ok (.iload_n 0, 1) := by decide +kernel
theorem dJ0_checkIndex_df160_1 : decode cJ0_checkIndex_df160 1 = .ok (.iload_n 1, 1) := by decide +kernel
theorem dJ0_checkIndex_df160_2 : decode cJ0_checkIndex_df160 2 = .ok (.getstatic 1053, 3) := by decide +kernel
theorem dJ0_checkIndex_df160_5 : decode cJ0_checkIndex_df160 5 = .ok (.invokestatic 1059, 3) := by decide +kernel
theorem dJ0_checkIndex_df160_8 : decode cJ0_checkIndex_df160 8 = .ok (.pop, 1) := by decide +kernel
theorem dJ0_checkIndex_df160_9 : decode cJ0_checkIndex_df160 9 = .ok (.return_, 1) := by decide +kernel
theorem dJ1_charAt_3b067_0 : decode cJ1_charAt_3b067 0 = .ok (.iload_n 1, 1) := by decide +kernel
theorem dJ1_charAt_3b067_1 : decode cJ1_charAt_3b067 1 = .ok (.aload_n 0, 1) := by decide +kernel
theorem dJ1_charAt_3b067_2 : decode cJ1_charAt_3b067 2 = .ok (.arraylength, 1) := by decide +kernel
theorem dJ1_charAt_3b067_3 : decode cJ1_charAt_3b067 3 = .ok (.invokestatic 9, 3) := by decide +kernel
theorem dJ1_charAt_3b067_6 : decode cJ1_charAt_3b067 6 = .ok (.aload_n 0, 1) := by decide +kernel
theorem dJ1_charAt_3b067_7 : decode cJ1_charAt_3b067 7 = .ok (.iload_n 1, 1) := by decide +kernel
theorem dJ1_charAt_3b067_8 : decode cJ1_charAt_3b067 8 = .ok (.baload, 1) := by decide +kernel
theorem dJ1_charAt_3b067_9 : decode cJ1_charAt_3b067 9 = .ok (.sipush 255, 3) := by decide +kernel
theorem dJ1_charAt_3b067_12 : decode cJ1_charAt_3b067 12 = .ok (.iand, 1) := by decide +kernel
theorem dJ1_charAt_3b067_13 : decode cJ1_charAt_3b067 13 = .ok (.i2c, 1) := by decide +kernel
theorem dJ1_charAt_3b067_14 : decode cJ1_charAt_3b067 14 = .ok (.ireturn, 1) := by decide +kernel
theorem dJ3_checkIndex_8e157_0 : decode cJ3_checkIndex_8e157 0 = .ok (.iload_n 0, 1) := by decide +kernel
theorem dJ3_checkIndex_8e157_1 : decode cJ3_checkIndex_8e157 1 = .ok (.ifCond .lt 8, 3) := by decide +kernel
theorem dJ3_checkIndex_8e157_4 : decode cJ3_checkIndex_8e157 4 = .ok (.iload_n 0, 1) := by decide +kernel
theorem dJ3_checkIndex_8e157_5 : decode cJ3_checkIndex_8e157 5 = .ok (.iload_n 1, 1) := by decide +kernel
theorem dJ3_checkIndex_8e157_6 : decode cJ3_checkIndex_8e157 6 = .ok (.if_icmp .lt 10, 3) := by decide +kernel
theorem dJ3_checkIndex_8e157_9 : decode cJ3_checkIndex_8e157 9 = .ok (.aload_n 2, 1) := by decide +kernel
theorem dJ3_checkIndex_8e157_10 : decode cJ3_checkIndex_8e157 10 = .ok (.iload_n 0, 1) := by decide +kernel
theorem dJ3_checkIndex_8e157_11 : decode cJ3_checkIndex_8e157 11 = .ok (.iload_n 1, 1) := by decide +kernel
theorem dJ3_checkIndex_8e157_12 : decode cJ3_checkIndex_8e157 12 = .ok (.invokestatic 95, 3) := by decide +kernel
theorem dJ3_checkIndex_8e157_15 : decode cJ3_checkIndex_8e157 15 = .ok (.athrow, 1) := by decide +kernel
theorem dJ3_checkIndex_8e157_16 : decode cJ3_checkIndex_8e157 16 = .ok (.iload_n 0, 1) := by decide +kernel
theorem dJ3_checkIndex_8e157_17 : decode cJ3_checkIndex_8e157 17 = .ok (.ireturn, 1) := by decide +kernel
theorem dL_law_0 : decode cL_law 0 = .ok (.new 7, 3) := by decide +kernel
theorem dL_law_3 : decode cL_law 3 = .ok (.dup, 1) := by decide +kernel
theorem dL_law_4 : decode cL_law 4 = .ok (.invokespecial 9, 3) := by decide +kernel
theorem dL_law_7 : decode cL_law 7 = .ok (.astore_n 1, 1) := by decide +kernel
theorem dL_law_8 : decode cL_law 8 = .ok (.new 10, 3) := by decide +kernel
theorem dL_law_11 : decode cL_law 11 = .ok (.dup, 1) := by decide +kernel
theorem dL_law_12 : decode cL_law 12 = .ok (.invokespecial 12, 3) := by decide +kernel
theorem dL_law_15 : decode cL_law 15 = .ok (.astore_n 2, 1) := by decide +kernel
theorem dL_law_16 : decode cL_law 16 = .ok (.iconst 0, 1) := by decide +kernel
theorem dL_law_17 : decode cL_law 17 = .ok (.istore_n 3, 1) := by decide +kernel
theorem dL_law_18 : decode cL_law 18 = .ok (.iload_n 3, 1) := by decide +kernel
theorem dL_law_19 : decode cL_law 19 = .ok (.aload_n 0, 1) := by decide +kernel
theorem dL_law_20 : decode cL_law 20 = .ok (.arraylength, 1) := by decide +kernel
theorem dL_law_21 : decode cL_law 21 = .ok (.bipush 7, 2) := by decide +kernel
theorem dL_law_23 : decode cL_law 23 = .ok (.isub, 1) := by decide +kernel
theorem dL_law_24 : decode cL_law 24 = .ok (.if_icmp .gt 1355, 3) := by decide +kernel
theorem dL_law_27 : decode cL_law 27 = .ok (.aload_n 0, 1) := by decide +kernel
theorem dL_law_28 : decode cL_law 28 = .ok (.iload_n 3, 1) := by decide +kernel
theorem dL_law_29 : decode cL_law 29 = .ok (.iaload, 1) := by decide +kernel
theorem dL_law_30 : decode cL_law 30 = .ok (.bipush 63, 2) := by decide +kernel
theorem dL_law_32 : decode cL_law 32 = .ok (.iand, 1) := by decide +kernel
theorem dL_law_33 : decode cL_law 33 = .ok (.tableswitch 1340 0 38 #[171, 204, 247, 310, 333, 376, 419, 462, 495, 528, 551, 574, 597, 630, 705, 738, 761, 814, 857, 880, 893, 906, 949, 972, 995, 1018, 1031, 1074, 1097, 1120, 1133, 1176, 1199, 1222, 1235, 1258, 1281, 1294, 1317], 171) := by decide +kernel
theorem dL_law_204 : decode cL_law 204 = .ok (.aload_n 1, 1) := by decide +kernel
theorem dL_law_205 : decode cL_law 205 = .ok (.aload_n 0, 1) := by decide +kernel
theorem dL_law_206 : decode cL_law 206 = .ok (.iload_n 3, 1) := by decide +kernel
theorem dL_law_207 : decode cL_law 207 = .ok (.iconst 1, 1) := by decide +kernel
theorem dL_law_208 : decode cL_law 208 = .ok (.iadd, 1) := by decide +kernel
theorem dL_law_209 : decode cL_law 209 = .ok (.iaload, 1) := by decide +kernel
theorem dL_law_210 : decode cL_law 210 = .ok (.aload_n 0, 1) := by decide +kernel
theorem dL_law_211 : decode cL_law 211 = .ok (.iload_n 3, 1) := by decide +kernel
theorem dL_law_212 : decode cL_law 212 = .ok (.iconst 2, 1) := by decide +kernel
theorem dL_law_213 : decode cL_law 213 = .ok (.iadd, 1) := by decide +kernel
theorem dL_law_214 : decode cL_law 214 = .ok (.iaload, 1) := by decide +kernel
theorem dL_law_215 : decode cL_law 215 = .ok (.invokevirtual 13, 3) := by decide +kernel
theorem dL_law_218 : decode cL_law 218 = .ok (.aload_n 2, 1) := by decide +kernel
theorem dL_law_219 : decode cL_law 219 = .ok (.aload_n 0, 1) := by decide +kernel
theorem dL_law_220 : decode cL_law 220 = .ok (.iload_n 3, 1) := by decide +kernel
theorem dL_law_221 : decode cL_law 221 = .ok (.iconst 1, 1) := by decide +kernel
theorem dL_law_222 : decode cL_law 222 = .ok (.iadd, 1) := by decide +kernel
theorem dL_law_223 : decode cL_law 223 = .ok (.iaload, 1) := by decide +kernel
theorem dL_law_224 : decode cL_law 224 = .ok (.aload_n 0, 1) := by decide +kernel
theorem dL_law_225 : decode cL_law 225 = .ok (.iload_n 3, 1) := by decide +kernel
theorem dL_law_226 : decode cL_law 226 = .ok (.iconst 2, 1) := by decide +kernel
theorem dL_law_227 : decode cL_law 227 = .ok (.iadd, 1) := by decide +kernel
theorem dL_law_228 : decode cL_law 228 = .ok (.iaload, 1) := by decide +kernel
theorem dL_law_229 : decode cL_law 229 = .ok (.invokevirtual 17, 3) := by decide +kernel
theorem dL_law_232 : decode cL_law 232 = .ok (.if_icmp .eq 1141, 3) := by decide +kernel
theorem dL_law_235 : decode cL_law 235 = .ok (.iconst 0, 1) := by decide +kernel
theorem dL_law_236 : decode cL_law 236 = .ok (.ireturn, 1) := by decide +kernel
theorem dL_law_237 : decode cL_law 237 = .ok (.aload_n 1, 1) := by decide +kernel
theorem dL_law_238 : decode cL_law 238 = .ok (.aload_n 0, 1) := by decide +kernel
theorem dL_law_239 : decode cL_law 239 = .ok (.iload_n 3, 1) := by decide +kernel
theorem dL_law_240 : decode cL_law 240 = .ok (.iconst 1, 1) := by decide +kernel
theorem dL_law_241 : decode cL_law 241 = .ok (.iadd, 1) := by decide +kernel
theorem dL_law_242 : decode cL_law 242 = .ok (.iaload, 1) := by decide +kernel
theorem dL_law_243 : decode cL_law 243 = .ok (.aload_n 0, 1) := by decide +kernel
theorem dL_law_244 : decode cL_law 244 = .ok (.iload_n 3, 1) := by decide +kernel
theorem dL_law_245 : decode cL_law 245 = .ok (.iconst 2, 1) := by decide +kernel
theorem dL_law_246 : decode cL_law 246 = .ok (.iadd, 1) := by decide +kernel
theorem dL_law_247 : decode cL_law 247 = .ok (.iaload, 1) := by decide +kernel
theorem dL_law_248 : decode cL_law 248 = .ok (.aload_n 0, 1) := by decide +kernel
theorem dL_law_249 : decode cL_law 249 = .ok (.iload_n 3, 1) := by decide +kernel
theorem dL_law_250 : decode cL_law 250 = .ok (.iconst 3, 1) := by decide +kernel
theorem dL_law_251 : decode cL_law 251 = .ok (.iadd, 1) := by decide +kernel
theorem dL_law_252 : decode cL_law 252 = .ok (.iaload, 1) := by decide +kernel
theorem dL_law_253 : decode cL_law 253 = .ok (.invokevirtual 18, 3) := by decide +kernel
theorem dL_law_256 : decode cL_law 256 = .ok (.aload_n 2, 1) := by decide +kernel
theorem dL_law_257 : decode cL_law 257 = .ok (.aload_n 0, 1) := by decide +kernel
theorem dL_law_258 : decode cL_law 258 = .ok (.iload_n 3, 1) := by decide +kernel
theorem dL_law_259 : decode cL_law 259 = .ok (.iconst 1, 1) := by decide +kernel
theorem dL_law_260 : decode cL_law 260 = .ok (.iadd, 1) := by decide +kernel
theorem dL_law_261 : decode cL_law 261 = .ok (.iaload, 1) := by decide +kernel
theorem dL_law_262 : decode cL_law 262 = .ok (.aload_n 0, 1) := by decide +kernel
theorem dL_law_263 : decode cL_law 263 = .ok (.iload_n 3, 1) := by decide +kernel
theorem dL_law_264 : decode cL_law 264 = .ok (.iconst 2, 1) := by decide +kernel
theorem dL_law_265 : decode cL_law 265 = .ok (.iadd, 1) := by decide +kernel
theorem dL_law_266 : decode cL_law 266 = .ok (.iaload, 1) := by decide +kernel
theorem dL_law_267 : decode cL_law 267 = .ok (.aload_n 0, 1) := by decide +kernel
theorem dL_law_268 : decode cL_law 268 = .ok (.iload_n 3, 1) := by decide +kernel
theorem dL_law_269 : decode cL_law 269 = .ok (.iconst 3, 1) := by decide +kernel
theorem dL_law_270 : decode cL_law 270 = .ok (.iadd, 1) := by decide +kernel
theorem dL_law_271 : decode cL_law 271 = .ok (.iaload, 1) := by decide +kernel
theorem dL_law_272 : decode cL_law 272 = .ok (.invokevirtual 22, 3) := by decide +kernel
theorem dL_law_275 : decode cL_law 275 = .ok (.if_icmp .eq 1098, 3) := by decide +kernel
theorem dL_law_278 : decode cL_law 278 = .ok (.iconst 0, 1) := by decide +kernel
theorem dL_law_279 : decode cL_law 279 = .ok (.ireturn, 1) := by decide +kernel
theorem dL_law_280 : decode cL_law 280 = .ok (.aload_n 1, 1) := by decide +kernel
theorem dL_law_281 : decode cL_law 281 = .ok (.aload_n 0, 1) := by decide +kernel
theorem dL_law_282 : decode cL_law 282 = .ok (.iload_n 3, 1) := by decide +kernel
theorem dL_law_283 : decode cL_law 283 = .ok (.iconst 1, 1) := by decide +kernel
theorem dL_law_284 : decode cL_law 284 = .ok (.iadd, 1) := by decide +kernel
theorem dL_law_285 : decode cL_law 285 = .ok (.iaload, 1) := by decide +kernel
theorem dL_law_286 : decode cL_law 286 = .ok (.aload_n 0, 1) := by decide +kernel
theorem dL_law_287 : decode cL_law 287 = .ok (.iload_n 3, 1) := by decide +kernel
theorem dL_law_288 : decode cL_law 288 = .ok (.iconst 2, 1) := by decide +kernel
theorem dL_law_289 : decode cL_law 289 = .ok (.iadd, 1) := by decide +kernel
theorem dL_law_290 : decode cL_law 290 = .ok (.iaload, 1) := by decide +kernel
theorem dL_law_291 : decode cL_law 291 = .ok (.aload_n 0, 1) := by decide +kernel
theorem dL_law_292 : decode cL_law 292 = .ok (.iload_n 3, 1) := by decide +kernel
theorem dL_law_293 : decode cL_law 293 = .ok (.iconst 3, 1) := by decide +kernel
theorem dL_law_294 : decode cL_law 294 = .ok (.iadd, 1) := by decide +kernel
theorem dL_law_295 : decode cL_law 295 = .ok (.iaload, 1) := by decide +kernel
theorem dL_law_296 : decode cL_law 296 = .ok (.aload_n 0, 1) := by decide +kernel
theorem dL_law_297 : decode cL_law 297 = .ok (.iload_n 3, 1) := by decide +kernel
theorem dL_law_298 : decode cL_law 298 = .ok (.iconst 4, 1) := by decide +kernel
theorem dL_law_299 : decode cL_law 299 = .ok (.iadd, 1) := by decide +kernel
theorem dL_law_300 : decode cL_law 300 = .ok (.iaload, 1) := by decide +kernel
theorem dL_law_301 : decode cL_law 301 = .ok (.aload_n 0, 1) := by decide +kernel
theorem dL_law_302 : decode cL_law 302 = .ok (.iload_n 3, 1) := by decide +kernel
theorem dL_law_303 : decode cL_law 303 = .ok (.iconst 5, 1) := by decide +kernel
theorem dL_law_304 : decode cL_law 304 = .ok (.iadd, 1) := by decide +kernel
theorem dL_law_305 : decode cL_law 305 = .ok (.iaload, 1) := by decide +kernel
theorem dL_law_306 : decode cL_law 306 = .ok (.invokevirtual 23, 3) := by decide +kernel
theorem dL_law_309 : decode cL_law 309 = .ok (.aload_n 2, 1) := by decide +kernel
theorem dL_law_310 : decode cL_law 310 = .ok (.aload_n 0, 1) := by decide +kernel
theorem dL_law_311 : decode cL_law 311 = .ok (.iload_n 3, 1) := by decide +kernel
theorem dL_law_312 : decode cL_law 312 = .ok (.iconst 1, 1) := by decide +kernel
theorem dL_law_313 : decode cL_law 313 = .ok (.iadd, 1) := by decide +kernel
theorem dL_law_314 : decode cL_law 314 = .ok (.iaload, 1) := by decide +kernel
theorem dL_law_315 : decode cL_law 315 = .ok (.aload_n 0, 1) := by decide +kernel
theorem dL_law_316 : decode cL_law 316 = .ok (.iload_n 3, 1) := by decide +kernel
theorem dL_law_317 : decode cL_law 317 = .ok (.iconst 2, 1) := by decide +kernel
theorem dL_law_318 : decode cL_law 318 = .ok (.iadd, 1) := by decide +kernel
theorem dL_law_319 : decode cL_law 319 = .ok (.iaload, 1) := by decide +kernel
theorem dL_law_320 : decode cL_law 320 = .ok (.aload_n 0, 1) := by decide +kernel
theorem dL_law_321 : decode cL_law 321 = .ok (.iload_n 3, 1) := by decide +kernel
theorem dL_law_322 : decode cL_law 322 = .ok (.iconst 3, 1) := by decide +kernel
theorem dL_law_323 : decode cL_law 323 = .ok (.iadd, 1) := by decide +kernel
theorem dL_law_324 : decode cL_law 324 = .ok (.iaload, 1) := by decide +kernel
theorem dL_law_325 : decode cL_law 325 = .ok (.aload_n 0, 1) := by decide +kernel
theorem dL_law_326 : decode cL_law 326 = .ok (.iload_n 3, 1) := by decide +kernel
theorem dL_law_327 : decode cL_law 327 = .ok (.iconst 4, 1) := by decide +kernel
theorem dL_law_328 : decode cL_law 328 = .ok (.iadd, 1) := by decide +kernel
theorem dL_law_329 : decode cL_law 329 = .ok (.iaload, 1) := by decide +kernel
theorem dL_law_330 : decode cL_law 330 = .ok (.aload_n 0, 1) := by decide +kernel
theorem dL_law_331 : decode cL_law 331 = .ok (.iload_n 3, 1) := by decide +kernel
theorem dL_law_332 : decode cL_law 332 = .ok (.iconst 5, 1) := by decide +kernel
theorem dL_law_333 : decode cL_law 333 = .ok (.iadd, 1) := by decide +kernel
theorem dL_law_334 : decode cL_law 334 = .ok (.iaload, 1) := by decide +kernel
theorem dL_law_335 : decode cL_law 335 = .ok (.invokevirtual 27, 3) := by decide +kernel
theorem dL_law_338 : decode cL_law 338 = .ok (.if_icmp .eq 1035, 3) := by decide +kernel
theorem dL_law_341 : decode cL_law 341 = .ok (.iconst 0, 1) := by decide +kernel
theorem dL_law_342 : decode cL_law 342 = .ok (.ireturn, 1) := by decide +kernel
theorem dL_law_343 : decode cL_law 343 = .ok (.aload_n 1, 1) := by decide +kernel
theorem dL_law_344 : decode cL_law 344 = .ok (.aload_n 0, 1) := by decide +kernel
theorem dL_law_345 : decode cL_law 345 = .ok (.iload_n 3, 1) := by decide +kernel
theorem dL_law_346 : decode cL_law 346 = .ok (.iconst 1, 1) := by decide +kernel
theorem dL_law_347 : decode cL_law 347 = .ok (.iadd, 1) := by decide +kernel
theorem dL_law_348 : decode cL_law 348 = .ok (.iaload, 1) := by decide +kernel
theorem dL_law_349 : decode cL_law 349 = .ok (.invokevirtual 28, 3) := by decide +kernel
theorem dL_law_352 : decode cL_law 352 = .ok (.aload_n 2, 1) := by decide +kernel
theorem dL_law_353 : decode cL_law 353 = .ok (.aload_n 0, 1) := by decide +kernel
theorem dL_law_354 : decode cL_law 354 = .ok (.iload_n 3, 1) := by decide +kernel
theorem dL_law_355 : decode cL_law 355 = .ok (.iconst 1, 1) := by decide +kernel
theorem dL_law_356 : decode cL_law 356 = .ok (.iadd, 1) := by decide +kernel
theorem dL_law_357 : decode cL_law 357 = .ok (.iaload, 1) := by decide +kernel
theorem dL_law_358 : decode cL_law 358 = .ok (.invokevirtual 32, 3) := by decide +kernel
theorem dL_law_361 : decode cL_law 361 = .ok (.if_icmp .eq 1012, 3) := by decide +kernel
theorem dL_law_364 : decode cL_law 364 = .ok (.iconst 0, 1) := by decide +kernel
theorem dL_law_365 : decode cL_law 365 = .ok (.ireturn, 1) := by decide +kernel
theorem dL_law_366 : decode cL_law 366 = .ok (.aload_n 1, 1) := by decide +kernel
theorem dL_law_367 : decode cL_law 367 = .ok (.aload_n 0, 1) := by decide +kernel
theorem dL_law_368 : decode cL_law 368 = .ok (.iload_n 3, 1) := by decide +kernel
theorem dL_law_369 : decode cL_law 369 = .ok (.iconst 1, 1) := by decide +kernel
theorem dL_law_370 : decode cL_law 370 = .ok (.iadd, 1) := by decide +kernel
theorem dL_law_371 : decode cL_law 371 = .ok (.iaload, 1) := by decide +kernel
theorem dL_law_372 : decode cL_law 372 = .ok (.aload_n 0, 1) := by decide +kernel
theorem dL_law_373 : decode cL_law 373 = .ok (.iload_n 3, 1) := by decide +kernel
theorem dL_law_374 : decode cL_law 374 = .ok (.iconst 2, 1) := by decide +kernel
theorem dL_law_375 : decode cL_law 375 = .ok (.iadd, 1) := by decide +kernel
theorem dL_law_376 : decode cL_law 376 = .ok (.iaload, 1) := by decide +kernel
theorem dL_law_377 : decode cL_law 377 = .ok (.aload_n 0, 1) := by decide +kernel
theorem dL_law_378 : decode cL_law 378 = .ok (.iload_n 3, 1) := by decide +kernel
theorem dL_law_379 : decode cL_law 379 = .ok (.iconst 3, 1) := by decide +kernel
theorem dL_law_380 : decode cL_law 380 = .ok (.iadd, 1) := by decide +kernel
theorem dL_law_381 : decode cL_law 381 = .ok (.iaload, 1) := by decide +kernel
theorem dL_law_382 : decode cL_law 382 = .ok (.invokevirtual 33, 3) := by decide +kernel
theorem dL_law_385 : decode cL_law 385 = .ok (.aload_n 2, 1) := by decide +kernel
theorem dL_law_386 : decode cL_law 386 = .ok (.aload_n 0, 1) := by decide +kernel
theorem dL_law_387 : decode cL_law 387 = .ok (.iload_n 3, 1) := by decide +kernel
theorem dL_law_388 : decode cL_law 388 = .ok (.iconst 1, 1) := by decide +kernel
theorem dL_law_389 : decode cL_law 389 = .ok (.iadd, 1) := by decide +kernel
theorem dL_law_390 : decode cL_law 390 = .ok (.iaload, 1) := by decide +kernel
theorem dL_law_391 : decode cL_law 391 = .ok (.aload_n 0, 1) := by decide +kernel
theorem dL_law_392 : decode cL_law 392 = .ok (.iload_n 3, 1) := by decide +kernel
theorem dL_law_393 : decode cL_law 393 = .ok (.iconst 2, 1) := by decide +kernel
theorem dL_law_394 : decode cL_law 394 = .ok (.iadd, 1) := by decide +kernel
theorem dL_law_395 : decode cL_law 395 = .ok (.iaload, 1) := by decide +kernel
theorem dL_law_396 : decode cL_law 396 = .ok (.aload_n 0, 1) := by decide +kernel
theorem dL_law_397 : decode cL_law 397 = .ok (.iload_n 3, 1) := by decide +kernel
theorem dL_law_398 : decode cL_law 398 = .ok (.iconst 3, 1) := by decide +kernel
theorem dL_law_399 : decode cL_law 399 = .ok (.iadd, 1) := by decide +kernel
theorem dL_law_400 : decode cL_law 400 = .ok (.iaload, 1) := by decide +kernel
theorem dL_law_401 : decode cL_law 401 = .ok (.invokevirtual 36, 3) := by decide +kernel
theorem dL_law_404 : decode cL_law 404 = .ok (.if_icmp .eq 969, 3) := by decide +kernel
theorem dL_law_407 : decode cL_law 407 = .ok (.iconst 0, 1) := by decide +kernel
theorem dL_law_408 : decode cL_law 408 = .ok (.ireturn, 1) := by decide +kernel
theorem dL_law_409 : decode cL_law 409 = .ok (.aload_n 1, 1) := by decide +kernel
theorem dL_law_410 : decode cL_law 410 = .ok (.aload_n 0, 1) := by decide +kernel
theorem dL_law_411 : decode cL_law 411 = .ok (.iload_n 3, 1) := by decide +kernel
theorem dL_law_412 : decode cL_law 412 = .ok (.iconst 1, 1) := by decide +kernel
theorem dL_law_413 : decode cL_law 413 = .ok (.iadd, 1) := by decide +kernel
theorem dL_law_414 : decode cL_law 414 = .ok (.iaload, 1) := by decide +kernel
theorem dL_law_415 : decode cL_law 415 = .ok (.aload_n 0, 1) := by decide +kernel
theorem dL_law_416 : decode cL_law 416 = .ok (.iload_n 3, 1) := by decide +kernel
theorem dL_law_417 : decode cL_law 417 = .ok (.iconst 2, 1) := by decide +kernel
theorem dL_law_418 : decode cL_law 418 = .ok (.iadd, 1) := by decide +kernel
theorem dL_law_419 : decode cL_law 419 = .ok (.iaload, 1) := by decide +kernel
theorem dL_law_420 : decode cL_law 420 = .ok (.aload_n 0, 1) := by decide +kernel
theorem dL_law_421 : decode cL_law 421 = .ok (.iload_n 3, 1) := by decide +kernel
theorem dL_law_422 : decode cL_law 422 = .ok (.iconst 3, 1) := by decide +kernel
theorem dL_law_423 : decode cL_law 423 = .ok (.iadd, 1) := by decide +kernel
theorem dL_law_424 : decode cL_law 424 = .ok (.iaload, 1) := by decide +kernel
theorem dL_law_425 : decode cL_law 425 = .ok (.invokevirtual 37, 3) := by decide +kernel
theorem dL_law_428 : decode cL_law 428 = .ok (.aload_n 2, 1) := by decide +kernel
theorem dL_law_429 : decode cL_law 429 = .ok (.aload_n 0, 1) := by decide +kernel
theorem dL_law_430 : decode cL_law 430 = .ok (.iload_n 3, 1) := by decide +kernel
theorem dL_law_431 : decode cL_law 431 = .ok (.iconst 1, 1) := by decide +kernel
theorem dL_law_432 : decode cL_law 432 = .ok (.iadd, 1) := by decide +kernel
theorem dL_law_433 : decode cL_law 433 = .ok (.iaload, 1) := by decide +kernel
theorem dL_law_434 : decode cL_law 434 = .ok (.aload_n 0, 1) := by decide +kernel
theorem dL_law_435 : decode cL_law 435 = .ok (.iload_n 3, 1) := by decide +kernel
theorem dL_law_436 : decode cL_law 436 = .ok (.iconst 2, 1) := by decide +kernel
theorem dL_law_437 : decode cL_law 437 = .ok (.iadd, 1) := by decide +kernel
theorem dL_law_438 : decode cL_law 438 = .ok (.iaload, 1) := by decide +kernel
theorem dL_law_439 : decode cL_law 439 = .ok (.aload_n 0, 1) := by decide +kernel
theorem dL_law_440 : decode cL_law 440 = .ok (.iload_n 3, 1) := by decide +kernel
theorem dL_law_441 : decode cL_law 441 = .ok (.iconst 3, 1) := by decide +kernel
theorem dL_law_442 : decode cL_law 442 = .ok (.iadd, 1) := by decide +kernel
theorem dL_law_443 : decode cL_law 443 = .ok (.iaload, 1) := by decide +kernel
theorem dL_law_444 : decode cL_law 444 = .ok (.invokevirtual 40, 3) := by decide +kernel
theorem dL_law_447 : decode cL_law 447 = .ok (.if_icmp .eq 926, 3) := by decide +kernel
theorem dL_law_450 : decode cL_law 450 = .ok (.iconst 0, 1) := by decide +kernel
theorem dL_law_451 : decode cL_law 451 = .ok (.ireturn, 1) := by decide +kernel
theorem dL_law_452 : decode cL_law 452 = .ok (.aload_n 1, 1) := by decide +kernel
theorem dL_law_453 : decode cL_law 453 = .ok (.aload_n 0, 1) := by decide +kernel
theorem dL_law_454 : decode cL_law 454 = .ok (.iload_n 3, 1) := by decide +kernel
theorem dL_law_455 : decode cL_law 455 = .ok (.iconst 1, 1) := by decide +kernel
theorem dL_law_456 : decode cL_law 456 = .ok (.iadd, 1) := by decide +kernel
theorem dL_law_457 : decode cL_law 457 = .ok (.iaload, 1) := by decide +kernel
theorem dL_law_458 : decode cL_law 458 = .ok (.aload_n 0, 1) := by decide +kernel
theorem dL_law_459 : decode cL_law 459 = .ok (.iload_n 3, 1) := by decide +kernel
theorem dL_law_460 : decode cL_law 460 = .ok (.iconst 2, 1) := by decide +kernel
theorem dL_law_461 : decode cL_law 461 = .ok (.iadd, 1) := by decide +kernel
theorem dL_law_462 : decode cL_law 462 = .ok (.iaload, 1) := by decide +kernel
theorem dL_law_463 : decode cL_law 463 = .ok (.aload_n 0, 1) := by decide +kernel
theorem dL_law_464 : decode cL_law 464 = .ok (.iload_n 3, 1) := by decide +kernel
theorem dL_law_465 : decode cL_law 465 = .ok (.iconst 3, 1) := by decide +kernel
theorem dL_law_466 : decode cL_law 466 = .ok (.iadd, 1) := by decide +kernel
theorem dL_law_467 : decode cL_law 467 = .ok (.iaload, 1) := by decide +kernel
theorem dL_law_468 : decode cL_law 468 = .ok (.invokevirtual 41, 3) := by decide +kernel
theorem dL_law_471 : decode cL_law 471 = .ok (.aload_n 2, 1) := by decide +kernel
theorem dL_law_472 : decode cL_law 472 = .ok (.aload_n 0, 1) := by decide +kernel
theorem dL_law_473 : decode cL_law 473 = .ok (.iload_n 3, 1) := by decide +kernel
theorem dL_law_474 : decode cL_law 474 = .ok (.iconst 1, 1) := by decide +kernel
theorem dL_law_475 : decode cL_law 475 = .ok (.iadd, 1) := by decide +kernel
theorem dL_law_476 : decode cL_law 476 = .ok (.iaload, 1) := by decide +kernel
theorem dL_law_477 : decode cL_law 477 = .ok (.aload_n 0, 1) := by decide +kernel
theorem dL_law_478 : decode cL_law 478 = .ok (.iload_n 3, 1) := by decide +kernel
theorem dL_law_479 : decode cL_law 479 = .ok (.iconst 2, 1) := by decide +kernel
theorem dL_law_480 : decode cL_law 480 = .ok (.iadd, 1) := by decide +kernel
theorem dL_law_481 : decode cL_law 481 = .ok (.iaload, 1) := by decide +kernel
theorem dL_law_482 : decode cL_law 482 = .ok (.aload_n 0, 1) := by decide +kernel
theorem dL_law_483 : decode cL_law 483 = .ok (.iload_n 3, 1) := by decide +kernel
theorem dL_law_484 : decode cL_law 484 = .ok (.iconst 3, 1) := by decide +kernel
theorem dL_law_485 : decode cL_law 485 = .ok (.iadd, 1) := by decide +kernel
theorem dL_law_486 : decode cL_law 486 = .ok (.iaload, 1) := by decide +kernel
theorem dL_law_487 : decode cL_law 487 = .ok (.invokevirtual 44, 3) := by decide +kernel
theorem dL_law_490 : decode cL_law 490 = .ok (.if_icmp .eq 883, 3) := by decide +kernel
theorem dL_law_493 : decode cL_law 493 = .ok (.iconst 0, 1) := by decide +kernel
theorem dL_law_494 : decode cL_law 494 = .ok (.ireturn, 1) := by decide +kernel
theorem dL_law_495 : decode cL_law 495 = .ok (.aload_n 1, 1) := by decide +kernel
theorem dL_law_496 : decode cL_law 496 = .ok (.aload_n 0, 1) := by decide +kernel
theorem dL_law_497 : decode cL_law 497 = .ok (.iload_n 3, 1) := by decide +kernel
theorem dL_law_498 : decode cL_law 498 = .ok (.iconst 1, 1) := by decide +kernel
theorem dL_law_499 : decode cL_law 499 = .ok (.iadd, 1) := by decide +kernel
theorem dL_law_500 : decode cL_law 500 = .ok (.iaload, 1) := by decide +kernel
theorem dL_law_501 : decode cL_law 501 = .ok (.aload_n 0, 1) := by decide +kernel
theorem dL_law_502 : decode cL_law 502 = .ok (.iload_n 3, 1) := by decide +kernel
theorem dL_law_503 : decode cL_law 503 = .ok (.iconst 2, 1) := by decide +kernel
theorem dL_law_504 : decode cL_law 504 = .ok (.iadd, 1) := by decide +kernel
theorem dL_law_505 : decode cL_law 505 = .ok (.iaload, 1) := by decide +kernel
theorem dL_law_506 : decode cL_law 506 = .ok (.invokevirtual 45, 3) := by decide +kernel
theorem dL_law_509 : decode cL_law 509 = .ok (.aload_n 2, 1) := by decide +kernel
theorem dL_law_510 : decode cL_law 510 = .ok (.aload_n 0, 1) := by decide +kernel
theorem dL_law_511 : decode cL_law 511 = .ok (.iload_n 3, 1) := by decide +kernel
theorem dL_law_512 : decode cL_law 512 = .ok (.iconst 1, 1) := by decide +kernel
theorem dL_law_513 : decode cL_law 513 = .ok (.iadd, 1) := by decide +kernel
theorem dL_law_514 : decode cL_law 514 = .ok (.iaload, 1) := by decide +kernel
theorem dL_law_515 : decode cL_law 515 = .ok (.aload_n 0, 1) := by decide +kernel
theorem dL_law_516 : decode cL_law 516 = .ok (.iload_n 3, 1) := by decide +kernel
theorem dL_law_517 : decode cL_law 517 = .ok (.iconst 2, 1) := by decide +kernel
theorem dL_law_518 : decode cL_law 518 = .ok (.iadd, 1) := by decide +kernel
theorem dL_law_519 : decode cL_law 519 = .ok (.iaload, 1) := by decide +kernel
theorem dL_law_520 : decode cL_law 520 = .ok (.invokevirtual 48, 3) := by decide +kernel
theorem dL_law_523 : decode cL_law 523 = .ok (.if_icmp .eq 850, 3) := by decide +kernel
theorem dL_law_526 : decode cL_law 526 = .ok (.iconst 0, 1) := by decide +kernel
theorem dL_law_527 : decode cL_law 527 = .ok (.ireturn, 1) := by decide +kernel
theorem dL_law_528 : decode cL_law 528 = .ok (.aload_n 1, 1) := by decide +kernel
theorem dL_law_529 : decode cL_law 529 = .ok (.aload_n 0, 1) := by decide +kernel
theorem dL_law_530 : decode cL_law 530 = .ok (.iload_n 3, 1) := by decide +kernel
theorem dL_law_531 : decode cL_law 531 = .ok (.iconst 1, 1) := by decide +kernel
theorem dL_law_532 : decode cL_law 532 = .ok (.iadd, 1) := by decide +kernel
theorem dL_law_533 : decode cL_law 533 = .ok (.iaload, 1) := by decide +kernel
theorem dL_law_534 : decode cL_law 534 = .ok (.aload_n 0, 1) := by decide +kernel
theorem dL_law_535 : decode cL_law 535 = .ok (.iload_n 3, 1) := by decide +kernel
theorem dL_law_536 : decode cL_law 536 = .ok (.iconst 2, 1) := by decide +kernel
theorem dL_law_537 : decode cL_law 537 = .ok (.iadd, 1) := by decide +kernel
theorem dL_law_538 : decode cL_law 538 = .ok (.iaload, 1) := by decide +kernel
theorem dL_law_539 : decode cL_law 539 = .ok (.invokevirtual 49, 3) := by decide +kernel
theorem dL_law_542 : decode cL_law 542 = .ok (.aload_n 2, 1) := by decide +kernel
theorem dL_law_543 : decode cL_law 543 = .ok (.aload_n 0, 1) := by decide +kernel
theorem dL_law_544 : decode cL_law 544 = .ok (.iload_n 3, 1) := by decide +kernel
theorem dL_law_545 : decode cL_law 545 = .ok (.iconst 1, 1) := by decide +kernel
theorem dL_law_546 : decode cL_law 546 = .ok (.iadd, 1) := by decide +kernel
theorem dL_law_547 : decode cL_law 547 = .ok (.iaload, 1) := by decide +kernel
theorem dL_law_548 : decode cL_law 548 = .ok (.aload_n 0, 1) := by decide +kernel
theorem dL_law_549 : decode cL_law 549 = .ok (.iload_n 3, 1) := by decide +kernel
theorem dL_law_550 : decode cL_law 550 = .ok (.iconst 2, 1) := by decide +kernel
theorem dL_law_551 : decode cL_law 551 = .ok (.iadd, 1) := by decide +kernel
theorem dL_law_552 : decode cL_law 552 = .ok (.iaload, 1) := by decide +kernel
theorem dL_law_553 : decode cL_law 553 = .ok (.invokevirtual 52, 3) := by decide +kernel
theorem dL_law_556 : decode cL_law 556 = .ok (.if_icmp .eq 817, 3) := by decide +kernel
theorem dL_law_559 : decode cL_law 559 = .ok (.iconst 0, 1) := by decide +kernel
theorem dL_law_560 : decode cL_law 560 = .ok (.ireturn, 1) := by decide +kernel
theorem dL_law_561 : decode cL_law 561 = .ok (.aload_n 1, 1) := by decide +kernel
theorem dL_law_562 : decode cL_law 562 = .ok (.aload_n 0, 1) := by decide +kernel
theorem dL_law_563 : decode cL_law 563 = .ok (.iload_n 3, 1) := by decide +kernel
theorem dL_law_564 : decode cL_law 564 = .ok (.iconst 1, 1) := by decide +kernel
theorem dL_law_565 : decode cL_law 565 = .ok (.iadd, 1) := by decide +kernel
theorem dL_law_566 : decode cL_law 566 = .ok (.iaload, 1) := by decide +kernel
theorem dL_law_567 : decode cL_law 567 = .ok (.invokevirtual 53, 3) := by decide +kernel
theorem dL_law_570 : decode cL_law 570 = .ok (.aload_n 2, 1) := by decide +kernel
theorem dL_law_571 : decode cL_law 571 = .ok (.aload_n 0, 1) := by decide +kernel
theorem dL_law_572 : decode cL_law 572 = .ok (.iload_n 3, 1) := by decide +kernel
theorem dL_law_573 : decode cL_law 573 = .ok (.iconst 1, 1) := by decide +kernel
theorem dL_law_574 : decode cL_law 574 = .ok (.iadd, 1) := by decide +kernel
theorem dL_law_575 : decode cL_law 575 = .ok (.iaload, 1) := by decide +kernel
theorem dL_law_576 : decode cL_law 576 = .ok (.invokevirtual 56, 3) := by decide +kernel
theorem dL_law_579 : decode cL_law 579 = .ok (.if_icmp .eq 794, 3) := by decide +kernel
theorem dL_law_582 : decode cL_law 582 = .ok (.iconst 0, 1) := by decide +kernel
theorem dL_law_583 : decode cL_law 583 = .ok (.ireturn, 1) := by decide +kernel
theorem dL_law_584 : decode cL_law 584 = .ok (.aload_n 1, 1) := by decide +kernel
theorem dL_law_585 : decode cL_law 585 = .ok (.aload_n 0, 1) := by decide +kernel
theorem dL_law_586 : decode cL_law 586 = .ok (.iload_n 3, 1) := by decide +kernel
theorem dL_law_587 : decode cL_law 587 = .ok (.iconst 1, 1) := by decide +kernel
theorem dL_law_588 : decode cL_law 588 = .ok (.iadd, 1) := by decide +kernel
theorem dL_law_589 : decode cL_law 589 = .ok (.iaload, 1) := by decide +kernel
theorem dL_law_590 : decode cL_law 590 = .ok (.invokevirtual 57, 3) := by decide +kernel
theorem dL_law_593 : decode cL_law 593 = .ok (.aload_n 2, 1) := by decide +kernel
theorem dL_law_594 : decode cL_law 594 = .ok (.aload_n 0, 1) := by decide +kernel
theorem dL_law_595 : decode cL_law 595 = .ok (.iload_n 3, 1) := by decide +kernel
theorem dL_law_596 : decode cL_law 596 = .ok (.iconst 1, 1) := by decide +kernel
theorem dL_law_597 : decode cL_law 597 = .ok (.iadd, 1) := by decide +kernel
theorem dL_law_598 : decode cL_law 598 = .ok (.iaload, 1) := by decide +kernel
theorem dL_law_599 : decode cL_law 599 = .ok (.invokevirtual 60, 3) := by decide +kernel
theorem dL_law_602 : decode cL_law 602 = .ok (.if_icmp .eq 771, 3) := by decide +kernel
theorem dL_law_605 : decode cL_law 605 = .ok (.iconst 0, 1) := by decide +kernel
theorem dL_law_606 : decode cL_law 606 = .ok (.ireturn, 1) := by decide +kernel
theorem dL_law_607 : decode cL_law 607 = .ok (.aload_n 1, 1) := by decide +kernel
theorem dL_law_608 : decode cL_law 608 = .ok (.aload_n 0, 1) := by decide +kernel
theorem dL_law_609 : decode cL_law 609 = .ok (.iload_n 3, 1) := by decide +kernel
theorem dL_law_610 : decode cL_law 610 = .ok (.iconst 1, 1) := by decide +kernel
theorem dL_law_611 : decode cL_law 611 = .ok (.iadd, 1) := by decide +kernel
theorem dL_law_612 : decode cL_law 612 = .ok (.iaload, 1) := by decide +kernel
theorem dL_law_613 : decode cL_law 613 = .ok (.invokevirtual 61, 3) := by decide +kernel
theorem dL_law_616 : decode cL_law 616 = .ok (.aload_n 2, 1) := by decide +kernel
theorem dL_law_617 : decode cL_law 617 = .ok (.aload_n 0, 1) := by decide +kernel
theorem dL_law_618 : decode cL_law 618 = .ok (.iload_n 3, 1) := by decide +kernel
theorem dL_law_619 : decode cL_law 619 = .ok (.iconst 1, 1) := by decide +kernel
theorem dL_law_620 : decode cL_law 620 = .ok (.iadd, 1) := by decide +kernel
theorem dL_law_621 : decode cL_law 621 = .ok (.iaload, 1) := by decide +kernel
theorem dL_law_622 : decode cL_law 622 = .ok (.invokevirtual 64, 3) := by decide +kernel
theorem dL_law_625 : decode cL_law 625 = .ok (.if_icmp .eq 748, 3) := by decide +kernel
theorem dL_law_628 : decode cL_law 628 = .ok (.iconst 0, 1) := by decide +kernel
theorem dL_law_629 : decode cL_law 629 = .ok (.ireturn, 1) := by decide +kernel
theorem dL_law_630 : decode cL_law 630 = .ok (.aload_n 1, 1) := by decide +kernel
theorem dL_law_631 : decode cL_law 631 = .ok (.aload_n 0, 1) := by decide +kernel
theorem dL_law_632 : decode cL_law 632 = .ok (.iload_n 3, 1) := by decide +kernel
theorem dL_law_633 : decode cL_law 633 = .ok (.iconst 1, 1) := by decide +kernel
theorem dL_law_634 : decode cL_law 634 = .ok (.iadd, 1) := by decide +kernel
theorem dL_law_635 : decode cL_law 635 = .ok (.iaload, 1) := by decide +kernel
theorem dL_law_636 : decode cL_law 636 = .ok (.aload_n 0, 1) := by decide +kernel
theorem dL_law_637 : decode cL_law 637 = .ok (.iload_n 3, 1) := by decide +kernel
theorem dL_law_638 : decode cL_law 638 = .ok (.iconst 2, 1) := by decide +kernel
theorem dL_law_639 : decode cL_law 639 = .ok (.iadd, 1) := by decide +kernel
theorem dL_law_640 : decode cL_law 640 = .ok (.iaload, 1) := by decide +kernel
theorem dL_law_641 : decode cL_law 641 = .ok (.invokevirtual 65, 3) := by decide +kernel
theorem dL_law_644 : decode cL_law 644 = .ok (.aload_n 2, 1) := by decide +kernel
theorem dL_law_645 : decode cL_law 645 = .ok (.aload_n 0, 1) := by decide +kernel
theorem dL_law_646 : decode cL_law 646 = .ok (.iload_n 3, 1) := by decide +kernel
theorem dL_law_647 : decode cL_law 647 = .ok (.iconst 1, 1) := by decide +kernel
theorem dL_law_648 : decode cL_law 648 = .ok (.iadd, 1) := by decide +kernel
theorem dL_law_649 : decode cL_law 649 = .ok (.iaload, 1) := by decide +kernel
theorem dL_law_650 : decode cL_law 650 = .ok (.aload_n 0, 1) := by decide +kernel
theorem dL_law_651 : decode cL_law 651 = .ok (.iload_n 3, 1) := by decide +kernel
theorem dL_law_652 : decode cL_law 652 = .ok (.iconst 2, 1) := by decide +kernel
theorem dL_law_653 : decode cL_law 653 = .ok (.iadd, 1) := by decide +kernel
theorem dL_law_654 : decode cL_law 654 = .ok (.iaload, 1) := by decide +kernel
theorem dL_law_655 : decode cL_law 655 = .ok (.invokevirtual 68, 3) := by decide +kernel
theorem dL_law_658 : decode cL_law 658 = .ok (.if_icmp .eq 715, 3) := by decide +kernel
theorem dL_law_661 : decode cL_law 661 = .ok (.iconst 0, 1) := by decide +kernel
theorem dL_law_662 : decode cL_law 662 = .ok (.ireturn, 1) := by decide +kernel
theorem dL_law_663 : decode cL_law 663 = .ok (.aload_n 1, 1) := by decide +kernel
theorem dL_law_664 : decode cL_law 664 = .ok (.aload_n 0, 1) := by decide +kernel
theorem dL_law_665 : decode cL_law 665 = .ok (.iload_n 3, 1) := by decide +kernel
theorem dL_law_666 : decode cL_law 666 = .ok (.iconst 1, 1) := by decide +kernel
theorem dL_law_667 : decode cL_law 667 = .ok (.iadd, 1) := by decide +kernel
theorem dL_law_668 : decode cL_law 668 = .ok (.iaload, 1) := by decide +kernel
theorem dL_law_669 : decode cL_law 669 = .ok (.aload_n 0, 1) := by decide +kernel
theorem dL_law_670 : decode cL_law 670 = .ok (.iload_n 3, 1) := by decide +kernel
theorem dL_law_671 : decode cL_law 671 = .ok (.iconst 2, 1) := by decide +kernel
theorem dL_law_672 : decode cL_law 672 = .ok (.iadd, 1) := by decide +kernel
theorem dL_law_673 : decode cL_law 673 = .ok (.iaload, 1) := by decide +kernel
theorem dL_law_674 : decode cL_law 674 = .ok (.aload_n 0, 1) := by decide +kernel
theorem dL_law_675 : decode cL_law 675 = .ok (.iload_n 3, 1) := by decide +kernel
theorem dL_law_676 : decode cL_law 676 = .ok (.iconst 3, 1) := by decide +kernel
theorem dL_law_677 : decode cL_law 677 = .ok (.iadd, 1) := by decide +kernel
theorem dL_law_678 : decode cL_law 678 = .ok (.iaload, 1) := by decide +kernel
theorem dL_law_679 : decode cL_law 679 = .ok (.aload_n 0, 1) := by decide +kernel
theorem dL_law_680 : decode cL_law 680 = .ok (.iload_n 3, 1) := by decide +kernel
theorem dL_law_681 : decode cL_law 681 = .ok (.iconst 4, 1) := by decide +kernel
theorem dL_law_682 : decode cL_law 682 = .ok (.iadd, 1) := by decide +kernel
theorem dL_law_683 : decode cL_law 683 = .ok (.iaload, 1) := by decide +kernel
theorem dL_law_684 : decode cL_law 684 = .ok (.aload_n 0, 1) := by decide +kernel
theorem dL_law_685 : decode cL_law 685 = .ok (.iload_n 3, 1) := by decide +kernel
theorem dL_law_686 : decode cL_law 686 = .ok (.iconst 5, 1) := by decide +kernel
theorem dL_law_687 : decode cL_law 687 = .ok (.iadd, 1) := by decide +kernel
theorem dL_law_688 : decode cL_law 688 = .ok (.iaload, 1) := by decide +kernel
theorem dL_law_689 : decode cL_law 689 = .ok (.aload_n 0, 1) := by decide +kernel
theorem dL_law_690 : decode cL_law 690 = .ok (.iload_n 3, 1) := by decide +kernel
theorem dL_law_691 : decode cL_law 691 = .ok (.bipush 6, 2) := by decide +kernel
theorem dL_law_693 : decode cL_law 693 = .ok (.iadd, 1) := by decide +kernel
theorem dL_law_694 : decode cL_law 694 = .ok (.iaload, 1) := by decide +kernel
theorem dL_law_695 : decode cL_law 695 = .ok (.invokevirtual 69, 3) := by decide +kernel
theorem dL_law_698 : decode cL_law 698 = .ok (.aload_n 2, 1) := by decide +kernel
theorem dL_law_699 : decode cL_law 699 = .ok (.aload_n 0, 1) := by decide +kernel
theorem dL_law_700 : decode cL_law 700 = .ok (.iload_n 3, 1) := by decide +kernel
theorem dL_law_701 : decode cL_law 701 = .ok (.iconst 1, 1) := by decide +kernel
theorem dL_law_702 : decode cL_law 702 = .ok (.iadd, 1) := by decide +kernel
theorem dL_law_703 : decode cL_law 703 = .ok (.iaload, 1) := by decide +kernel
theorem dL_law_704 : decode cL_law 704 = .ok (.aload_n 0, 1) := by decide +kernel
theorem dL_law_705 : decode cL_law 705 = .ok (.iload_n 3, 1) := by decide +kernel
theorem dL_law_706 : decode cL_law 706 = .ok (.iconst 2, 1) := by decide +kernel
theorem dL_law_707 : decode cL_law 707 = .ok (.iadd, 1) := by decide +kernel
theorem dL_law_708 : decode cL_law 708 = .ok (.iaload, 1) := by decide +kernel
theorem dL_law_709 : decode cL_law 709 = .ok (.aload_n 0, 1) := by decide +kernel
theorem dL_law_710 : decode cL_law 710 = .ok (.iload_n 3, 1) := by decide +kernel
theorem dL_law_711 : decode cL_law 711 = .ok (.iconst 3, 1) := by decide +kernel
theorem dL_law_712 : decode cL_law 712 = .ok (.iadd, 1) := by decide +kernel
theorem dL_law_713 : decode cL_law 713 = .ok (.iaload, 1) := by decide +kernel
theorem dL_law_714 : decode cL_law 714 = .ok (.aload_n 0, 1) := by decide +kernel
theorem dL_law_715 : decode cL_law 715 = .ok (.iload_n 3, 1) := by decide +kernel
theorem dL_law_716 : decode cL_law 716 = .ok (.iconst 4, 1) := by decide +kernel
theorem dL_law_717 : decode cL_law 717 = .ok (.iadd, 1) := by decide +kernel
theorem dL_law_718 : decode cL_law 718 = .ok (.iaload, 1) := by decide +kernel
theorem dL_law_719 : decode cL_law 719 = .ok (.aload_n 0, 1) := by decide +kernel
theorem dL_law_720 : decode cL_law 720 = .ok (.iload_n 3, 1) := by decide +kernel
theorem dL_law_721 : decode cL_law 721 = .ok (.iconst 5, 1) := by decide +kernel
theorem dL_law_722 : decode cL_law 722 = .ok (.iadd, 1) := by decide +kernel
theorem dL_law_723 : decode cL_law 723 = .ok (.iaload, 1) := by decide +kernel
theorem dL_law_724 : decode cL_law 724 = .ok (.aload_n 0, 1) := by decide +kernel
theorem dL_law_725 : decode cL_law 725 = .ok (.iload_n 3, 1) := by decide +kernel
theorem dL_law_726 : decode cL_law 726 = .ok (.bipush 6, 2) := by decide +kernel
theorem dL_law_728 : decode cL_law 728 = .ok (.iadd, 1) := by decide +kernel
theorem dL_law_729 : decode cL_law 729 = .ok (.iaload, 1) := by decide +kernel
theorem dL_law_730 : decode cL_law 730 = .ok (.invokevirtual 73, 3) := by decide +kernel
theorem dL_law_733 : decode cL_law 733 = .ok (.if_icmp .eq 640, 3) := by decide +kernel
theorem dL_law_736 : decode cL_law 736 = .ok (.iconst 0, 1) := by decide +kernel
theorem dL_law_737 : decode cL_law 737 = .ok (.ireturn, 1) := by decide +kernel
theorem dL_law_738 : decode cL_law 738 = .ok (.aload_n 1, 1) := by decide +kernel
theorem dL_law_739 : decode cL_law 739 = .ok (.aload_n 0, 1) := by decide +kernel
theorem dL_law_740 : decode cL_law 740 = .ok (.iload_n 3, 1) := by decide +kernel
theorem dL_law_741 : decode cL_law 741 = .ok (.iconst 1, 1) := by decide +kernel
theorem dL_law_742 : decode cL_law 742 = .ok (.iadd, 1) := by decide +kernel
theorem dL_law_743 : decode cL_law 743 = .ok (.iaload, 1) := by decide +kernel
theorem dL_law_744 : decode cL_law 744 = .ok (.aload_n 0, 1) := by decide +kernel
theorem dL_law_745 : decode cL_law 745 = .ok (.iload_n 3, 1) := by decide +kernel
theorem dL_law_746 : decode cL_law 746 = .ok (.iconst 2, 1) := by decide +kernel
theorem dL_law_747 : decode cL_law 747 = .ok (.iadd, 1) := by decide +kernel
theorem dL_law_748 : decode cL_law 748 = .ok (.iaload, 1) := by decide +kernel
theorem dL_law_749 : decode cL_law 749 = .ok (.invokevirtual 74, 3) := by decide +kernel
theorem dL_law_752 : decode cL_law 752 = .ok (.aload_n 2, 1) := by decide +kernel
theorem dL_law_753 : decode cL_law 753 = .ok (.aload_n 0, 1) := by decide +kernel
theorem dL_law_754 : decode cL_law 754 = .ok (.iload_n 3, 1) := by decide +kernel
theorem dL_law_755 : decode cL_law 755 = .ok (.iconst 1, 1) := by decide +kernel
theorem dL_law_756 : decode cL_law 756 = .ok (.iadd, 1) := by decide +kernel
theorem dL_law_757 : decode cL_law 757 = .ok (.iaload, 1) := by decide +kernel
theorem dL_law_758 : decode cL_law 758 = .ok (.aload_n 0, 1) := by decide +kernel
theorem dL_law_759 : decode cL_law 759 = .ok (.iload_n 3, 1) := by decide +kernel
theorem dL_law_760 : decode cL_law 760 = .ok (.iconst 2, 1) := by decide +kernel
theorem dL_law_761 : decode cL_law 761 = .ok (.iadd, 1) := by decide +kernel
theorem dL_law_762 : decode cL_law 762 = .ok (.iaload, 1) := by decide +kernel
theorem dL_law_763 : decode cL_law 763 = .ok (.invokevirtual 77, 3) := by decide +kernel
theorem dL_law_766 : decode cL_law 766 = .ok (.if_icmp .eq 607, 3) := by decide +kernel
theorem dL_law_769 : decode cL_law 769 = .ok (.iconst 0, 1) := by decide +kernel
theorem dL_law_770 : decode cL_law 770 = .ok (.ireturn, 1) := by decide +kernel
theorem dL_law_771 : decode cL_law 771 = .ok (.aload_n 1, 1) := by decide +kernel
theorem dL_law_772 : decode cL_law 772 = .ok (.aload_n 0, 1) := by decide +kernel
theorem dL_law_773 : decode cL_law 773 = .ok (.iload_n 3, 1) := by decide +kernel
theorem dL_law_774 : decode cL_law 774 = .ok (.iconst 1, 1) := by decide +kernel
theorem dL_law_775 : decode cL_law 775 = .ok (.iadd, 1) := by decide +kernel
theorem dL_law_776 : decode cL_law 776 = .ok (.iaload, 1) := by decide +kernel
theorem dL_law_777 : decode cL_law 777 = .ok (.invokevirtual 78, 3) := by decide +kernel
theorem dL_law_780 : decode cL_law 780 = .ok (.aload_n 2, 1) := by decide +kernel
theorem dL_law_781 : decode cL_law 781 = .ok (.aload_n 0, 1) := by decide +kernel
theorem dL_law_782 : decode cL_law 782 = .ok (.iload_n 3, 1) := by decide +kernel
theorem dL_law_783 : decode cL_law 783 = .ok (.iconst 1, 1) := by decide +kernel
theorem dL_law_784 : decode cL_law 784 = .ok (.iadd, 1) := by decide +kernel
theorem dL_law_785 : decode cL_law 785 = .ok (.iaload, 1) := by decide +kernel
theorem dL_law_786 : decode cL_law 786 = .ok (.invokevirtual 81, 3) := by decide +kernel
theorem dL_law_789 : decode cL_law 789 = .ok (.if_icmp .eq 584, 3) := by decide +kernel
theorem dL_law_792 : decode cL_law 792 = .ok (.iconst 0, 1) := by decide +kernel
theorem dL_law_793 : decode cL_law 793 = .ok (.ireturn, 1) := by decide +kernel
theorem dL_law_794 : decode cL_law 794 = .ok (.aload_n 1, 1) := by decide +kernel
theorem dL_law_795 : decode cL_law 795 = .ok (.aload_n 0, 1) := by decide +kernel
theorem dL_law_796 : decode cL_law 796 = .ok (.iload_n 3, 1) := by decide +kernel
theorem dL_law_797 : decode cL_law 797 = .ok (.iconst 1, 1) := by decide +kernel
theorem dL_law_798 : decode cL_law 798 = .ok (.iadd, 1) := by decide +kernel
theorem dL_law_799 : decode cL_law 799 = .ok (.iaload, 1) := by decide +kernel
theorem dL_law_800 : decode cL_law 800 = .ok (.aload_n 0, 1) := by decide +kernel
theorem dL_law_801 : decode cL_law 801 = .ok (.iload_n 3, 1) := by decide +kernel
theorem dL_law_802 : decode cL_law 802 = .ok (.iconst 2, 1) := by decide +kernel
theorem dL_law_803 : decode cL_law 803 = .ok (.iadd, 1) := by decide +kernel
theorem dL_law_804 : decode cL_law 804 = .ok (.iaload, 1) := by decide +kernel
theorem dL_law_805 : decode cL_law 805 = .ok (.aload_n 0, 1) := by decide +kernel
theorem dL_law_806 : decode cL_law 806 = .ok (.iload_n 3, 1) := by decide +kernel
theorem dL_law_807 : decode cL_law 807 = .ok (.iconst 3, 1) := by decide +kernel
theorem dL_law_808 : decode cL_law 808 = .ok (.iadd, 1) := by decide +kernel
theorem dL_law_809 : decode cL_law 809 = .ok (.iaload, 1) := by decide +kernel
theorem dL_law_810 : decode cL_law 810 = .ok (.aload_n 0, 1) := by decide +kernel
theorem dL_law_811 : decode cL_law 811 = .ok (.iload_n 3, 1) := by decide +kernel
theorem dL_law_812 : decode cL_law 812 = .ok (.iconst 4, 1) := by decide +kernel
theorem dL_law_813 : decode cL_law 813 = .ok (.iadd, 1) := by decide +kernel
theorem dL_law_814 : decode cL_law 814 = .ok (.iaload, 1) := by decide +kernel
theorem dL_law_815 : decode cL_law 815 = .ok (.invokevirtual 82, 3) := by decide +kernel
theorem dL_law_818 : decode cL_law 818 = .ok (.aload_n 2, 1) := by decide +kernel
theorem dL_law_819 : decode cL_law 819 = .ok (.aload_n 0, 1) := by decide +kernel
theorem dL_law_820 : decode cL_law 820 = .ok (.iload_n 3, 1) := by decide +kernel
theorem dL_law_821 : decode cL_law 821 = .ok (.iconst 1, 1) := by decide +kernel
theorem dL_law_822 : decode cL_law 822 = .ok (.iadd, 1) := by decide +kernel
theorem dL_law_823 : decode cL_law 823 = .ok (.iaload, 1) := by decide +kernel
theorem dL_law_824 : decode cL_law 824 = .ok (.aload_n 0, 1) := by decide +kernel
theorem dL_law_825 : decode cL_law 825 = .ok (.iload_n 3, 1) := by decide +kernel
theorem dL_law_826 : decode cL_law 826 = .ok (.iconst 2, 1) := by decide +kernel
theorem dL_law_827 : decode cL_law 827 = .ok (.iadd, 1) := by decide +kernel
theorem dL_law_828 : decode cL_law 828 = .ok (.iaload, 1) := by decide +kernel
theorem dL_law_829 : decode cL_law 829 = .ok (.aload_n 0, 1) := by decide +kernel
theorem dL_law_830 : decode cL_law 830 = .ok (.iload_n 3, 1) := by decide +kernel
theorem dL_law_831 : decode cL_law 831 = .ok (.iconst 3, 1) := by decide +kernel
theorem dL_law_832 : decode cL_law 832 = .ok (.iadd, 1) := by decide +kernel
theorem dL_law_833 : decode cL_law 833 = .ok (.iaload, 1) := by decide +kernel
theorem dL_law_834 : decode cL_law 834 = .ok (.aload_n 0, 1) := by decide +kernel
theorem dL_law_835 : decode cL_law 835 = .ok (.iload_n 3, 1) := by decide +kernel
theorem dL_law_836 : decode cL_law 836 = .ok (.iconst 4, 1) := by decide +kernel
theorem dL_law_837 : decode cL_law 837 = .ok (.iadd, 1) := by decide +kernel
theorem dL_law_838 : decode cL_law 838 = .ok (.iaload, 1) := by decide +kernel
theorem dL_law_839 : decode cL_law 839 = .ok (.invokevirtual 86, 3) := by decide +kernel
theorem dL_law_842 : decode cL_law 842 = .ok (.if_icmp .eq 531, 3) := by decide +kernel
theorem dL_law_845 : decode cL_law 845 = .ok (.iconst 0, 1) := by decide +kernel
theorem dL_law_846 : decode cL_law 846 = .ok (.ireturn, 1) := by decide +kernel
theorem dL_law_847 : decode cL_law 847 = .ok (.aload_n 1, 1) := by decide +kernel
theorem dL_law_848 : decode cL_law 848 = .ok (.aload_n 0, 1) := by decide +kernel
theorem dL_law_849 : decode cL_law 849 = .ok (.iload_n 3, 1) := by decide +kernel
theorem dL_law_850 : decode cL_law 850 = .ok (.iconst 1, 1) := by decide +kernel
theorem dL_law_851 : decode cL_law 851 = .ok (.iadd, 1) := by decide +kernel
theorem dL_law_852 : decode cL_law 852 = .ok (.iaload, 1) := by decide +kernel
theorem dL_law_853 : decode cL_law 853 = .ok (.aload_n 0, 1) := by decide +kernel
theorem dL_law_854 : decode cL_law 854 = .ok (.iload_n 3, 1) := by decide +kernel
theorem dL_law_855 : decode cL_law 855 = .ok (.iconst 2, 1) := by decide +kernel
theorem dL_law_856 : decode cL_law 856 = .ok (.iadd, 1) := by decide +kernel
theorem dL_law_857 : decode cL_law 857 = .ok (.iaload, 1) := by decide +kernel
theorem dL_law_858 : decode cL_law 858 = .ok (.aload_n 0, 1) := by decide +kernel
theorem dL_law_859 : decode cL_law 859 = .ok (.iload_n 3, 1) := by decide +kernel
theorem dL_law_860 : decode cL_law 860 = .ok (.iconst 3, 1) := by decide +kernel
theorem dL_law_861 : decode cL_law 861 = .ok (.iadd, 1) := by decide +kernel
theorem dL_law_862 : decode cL_law 862 = .ok (.iaload, 1) := by decide +kernel
theorem dL_law_863 : decode cL_law 863 = .ok (.invokevirtual 87, 3) := by decide +kernel
theorem dL_law_866 : decode cL_law 866 = .ok (.aload_n 2, 1) := by decide +kernel
theorem dL_law_867 : decode cL_law 867 = .ok (.aload_n 0, 1) := by decide +kernel
theorem dL_law_868 : decode cL_law 868 = .ok (.iload_n 3, 1) := by decide +kernel
theorem dL_law_869 : decode cL_law 869 = .ok (.iconst 1, 1) := by decide +kernel
theorem dL_law_870 : decode cL_law 870 = .ok (.iadd, 1) := by decide +kernel
theorem dL_law_871 : decode cL_law 871 = .ok (.iaload, 1) := by decide +kernel
theorem dL_law_872 : decode cL_law 872 = .ok (.aload_n 0, 1) := by decide +kernel
theorem dL_law_873 : decode cL_law 873 = .ok (.iload_n 3, 1) := by decide +kernel
theorem dL_law_874 : decode cL_law 874 = .ok (.iconst 2, 1) := by decide +kernel
theorem dL_law_875 : decode cL_law 875 = .ok (.iadd, 1) := by decide +kernel
theorem dL_law_876 : decode cL_law 876 = .ok (.iaload, 1) := by decide +kernel
theorem dL_law_877 : decode cL_law 877 = .ok (.aload_n 0, 1) := by decide +kernel
theorem dL_law_878 : decode cL_law 878 = .ok (.iload_n 3, 1) := by decide +kernel
theorem dL_law_879 : decode cL_law 879 = .ok (.iconst 3, 1) := by decide +kernel
theorem dL_law_880 : decode cL_law 880 = .ok (.iadd, 1) := by decide +kernel
theorem dL_law_881 : decode cL_law 881 = .ok (.iaload, 1) := by decide +kernel
theorem dL_law_882 : decode cL_law 882 = .ok (.invokevirtual 90, 3) := by decide +kernel
theorem dL_law_885 : decode cL_law 885 = .ok (.if_icmp .eq 488, 3) := by decide +kernel
theorem dL_law_888 : decode cL_law 888 = .ok (.iconst 0, 1) := by decide +kernel
theorem dL_law_889 : decode cL_law 889 = .ok (.ireturn, 1) := by decide +kernel
theorem dL_law_890 : decode cL_law 890 = .ok (.aload_n 1, 1) := by decide +kernel
theorem dL_law_891 : decode cL_law 891 = .ok (.aload_n 0, 1) := by decide +kernel
theorem dL_law_892 : decode cL_law 892 = .ok (.iload_n 3, 1) := by decide +kernel
theorem dL_law_893 : decode cL_law 893 = .ok (.iconst 1, 1) := by decide +kernel
theorem dL_law_894 : decode cL_law 894 = .ok (.iadd, 1) := by decide +kernel
theorem dL_law_895 : decode cL_law 895 = .ok (.iaload, 1) := by decide +kernel
theorem dL_law_896 : decode cL_law 896 = .ok (.invokevirtual 91, 3) := by decide +kernel
theorem dL_law_899 : decode cL_law 899 = .ok (.aload_n 2, 1) := by decide +kernel
theorem dL_law_900 : decode cL_law 900 = .ok (.aload_n 0, 1) := by decide +kernel
theorem dL_law_901 : decode cL_law 901 = .ok (.iload_n 3, 1) := by decide +kernel
theorem dL_law_902 : decode cL_law 902 = .ok (.iconst 1, 1) := by decide +kernel
theorem dL_law_903 : decode cL_law 903 = .ok (.iadd, 1) := by decide +kernel
theorem dL_law_904 : decode cL_law 904 = .ok (.iaload, 1) := by decide +kernel
theorem dL_law_905 : decode cL_law 905 = .ok (.invokevirtual 94, 3) := by decide +kernel
theorem dL_law_908 : decode cL_law 908 = .ok (.if_icmp .eq 465, 3) := by decide +kernel
theorem dL_law_911 : decode cL_law 911 = .ok (.iconst 0, 1) := by decide +kernel
theorem dL_law_912 : decode cL_law 912 = .ok (.ireturn, 1) := by decide +kernel
theorem dL_law_913 : decode cL_law 913 = .ok (.aload_n 1, 1) := by decide +kernel
theorem dL_law_914 : decode cL_law 914 = .ok (.invokevirtual 95, 3) := by decide +kernel
theorem dL_law_917 : decode cL_law 917 = .ok (.aload_n 2, 1) := by decide +kernel
theorem dL_law_918 : decode cL_law 918 = .ok (.invokevirtual 99, 3) := by decide +kernel
theorem dL_law_921 : decode cL_law 921 = .ok (.if_icmp .eq 452, 3) := by decide +kernel
theorem dL_law_924 : decode cL_law 924 = .ok (.iconst 0, 1) := by decide +kernel
theorem dL_law_925 : decode cL_law 925 = .ok (.ireturn, 1) := by decide +kernel
theorem dL_law_926 : decode cL_law 926 = .ok (.aload_n 1, 1) := by decide +kernel
theorem dL_law_927 : decode cL_law 927 = .ok (.invokevirtual 100, 3) := by decide +kernel
theorem dL_law_930 : decode cL_law 930 = .ok (.aload_n 2, 1) := by decide +kernel
theorem dL_law_931 : decode cL_law 931 = .ok (.invokevirtual 103, 3) := by decide +kernel
theorem dL_law_934 : decode cL_law 934 = .ok (.if_icmp .eq 439, 3) := by decide +kernel
theorem dL_law_937 : decode cL_law 937 = .ok (.iconst 0, 1) := by decide +kernel
theorem dL_law_938 : decode cL_law 938 = .ok (.ireturn, 1) := by decide +kernel
theorem dL_law_939 : decode cL_law 939 = .ok (.aload_n 1, 1) := by decide +kernel
theorem dL_law_940 : decode cL_law 940 = .ok (.aload_n 0, 1) := by decide +kernel
theorem dL_law_941 : decode cL_law 941 = .ok (.iload_n 3, 1) := by decide +kernel
theorem dL_law_942 : decode cL_law 942 = .ok (.iconst 1, 1) := by decide +kernel
theorem dL_law_943 : decode cL_law 943 = .ok (.iadd, 1) := by decide +kernel
theorem dL_law_944 : decode cL_law 944 = .ok (.iaload, 1) := by decide +kernel
theorem dL_law_945 : decode cL_law 945 = .ok (.aload_n 0, 1) := by decide +kernel
theorem dL_law_946 : decode cL_law 946 = .ok (.iload_n 3, 1) := by decide +kernel
theorem dL_law_947 : decode cL_law 947 = .ok (.iconst 2, 1) := by decide +kernel
theorem dL_law_948 : decode cL_law 948 = .ok (.iadd, 1) := by decide +kernel
theorem dL_law_949 : decode cL_law 949 = .ok (.iaload, 1) := by decide +kernel
theorem dL_law_950 : decode cL_law 950 = .ok (.aload_n 0, 1) := by decide +kernel
theorem dL_law_951 : decode cL_law 951 = .ok (.iload_n 3, 1) := by decide +kernel
theorem dL_law_952 : decode cL_law 952 = .ok (.iconst 3, 1) := by decide +kernel
theorem dL_law_953 : decode cL_law 953 = .ok (.iadd, 1) := by decide +kernel
theorem dL_law_954 : decode cL_law 954 = .ok (.iaload, 1) := by decide +kernel
theorem dL_law_955 : decode cL_law 955 = .ok (.invokevirtual 104, 3) := by decide +kernel
theorem dL_law_958 : decode cL_law 958 = .ok (.aload_n 2, 1) := by decide +kernel
theorem dL_law_959 : decode cL_law 959 = .ok (.aload_n 0, 1) := by decide +kernel
theorem dL_law_960 : decode cL_law 960 = .ok (.iload_n 3, 1) := by decide +kernel
theorem dL_law_961 : decode cL_law 961 = .ok (.iconst 1, 1) := by decide +kernel
theorem dL_law_962 : decode cL_law 962 = .ok (.iadd, 1) := by decide +kernel
theorem dL_law_963 : decode cL_law 963 = .ok (.iaload, 1) := by decide +kernel
theorem dL_law_964 : decode cL_law 964 = .ok (.aload_n 0, 1) := by decide +kernel
theorem dL_law_965 : decode cL_law 965 = .ok (.iload_n 3, 1) := by decide +kernel
theorem dL_law_966 : decode cL_law 966 = .ok (.iconst 2, 1) := by decide +kernel
theorem dL_law_967 : decode cL_law 967 = .ok (.iadd, 1) := by decide +kernel
theorem dL_law_968 : decode cL_law 968 = .ok (.iaload, 1) := by decide +kernel
theorem dL_law_969 : decode cL_law 969 = .ok (.aload_n 0, 1) := by decide +kernel
theorem dL_law_970 : decode cL_law 970 = .ok (.iload_n 3, 1) := by decide +kernel
theorem dL_law_971 : decode cL_law 971 = .ok (.iconst 3, 1) := by decide +kernel
theorem dL_law_972 : decode cL_law 972 = .ok (.iadd, 1) := by decide +kernel
theorem dL_law_973 : decode cL_law 973 = .ok (.iaload, 1) := by decide +kernel
theorem dL_law_974 : decode cL_law 974 = .ok (.invokevirtual 107, 3) := by decide +kernel
theorem dL_law_977 : decode cL_law 977 = .ok (.if_icmp .eq 396, 3) := by decide +kernel
theorem dL_law_980 : decode cL_law 980 = .ok (.iconst 0, 1) := by decide +kernel
theorem dL_law_981 : decode cL_law 981 = .ok (.ireturn, 1) := by decide +kernel
theorem dL_law_982 : decode cL_law 982 = .ok (.aload_n 1, 1) := by decide +kernel
theorem dL_law_983 : decode cL_law 983 = .ok (.aload_n 0, 1) := by decide +kernel
theorem dL_law_984 : decode cL_law 984 = .ok (.iload_n 3, 1) := by decide +kernel
theorem dL_law_985 : decode cL_law 985 = .ok (.iconst 1, 1) := by decide +kernel
theorem dL_law_986 : decode cL_law 986 = .ok (.iadd, 1) := by decide +kernel
theorem dL_law_987 : decode cL_law 987 = .ok (.iaload, 1) := by decide +kernel
theorem dL_law_988 : decode cL_law 988 = .ok (.invokevirtual 108, 3) := by decide +kernel
theorem dL_law_991 : decode cL_law 991 = .ok (.aload_n 2, 1) := by decide +kernel
theorem dL_law_992 : decode cL_law 992 = .ok (.aload_n 0, 1) := by decide +kernel
theorem dL_law_993 : decode cL_law 993 = .ok (.iload_n 3, 1) := by decide +kernel
theorem dL_law_994 : decode cL_law 994 = .ok (.iconst 1, 1) := by decide +kernel
theorem dL_law_995 : decode cL_law 995 = .ok (.iadd, 1) := by decide +kernel
theorem dL_law_996 : decode cL_law 996 = .ok (.iaload, 1) := by decide +kernel
theorem dL_law_997 : decode cL_law 997 = .ok (.invokevirtual 111, 3) := by decide +kernel
theorem dL_law_1000 : decode cL_law 1000 = .ok (.if_icmp .eq 373, 3) := by decide +kernel
theorem dL_law_1003 : decode cL_law 1003 = .ok (.iconst 0, 1) := by decide +kernel
theorem dL_law_1004 : decode cL_law 1004 = .ok (.ireturn, 1) := by decide +kernel
theorem dL_law_1005 : decode cL_law 1005 = .ok (.aload_n 1, 1) := by decide +kernel
theorem dL_law_1006 : decode cL_law 1006 = .ok (.aload_n 0, 1) := by decide +kernel
theorem dL_law_1007 : decode cL_law 1007 = .ok (.iload_n 3, 1) := by decide +kernel
theorem dL_law_1008 : decode cL_law 1008 = .ok (.iconst 1, 1) := by decide +kernel
theorem dL_law_1009 : decode cL_law 1009 = .ok (.iadd, 1) := by decide +kernel
theorem dL_law_1010 : decode cL_law 1010 = .ok (.iaload, 1) := by decide +kernel
theorem dL_law_1011 : decode cL_law 1011 = .ok (.invokevirtual 112, 3) := by decide +kernel
theorem dL_law_1014 : decode cL_law 1014 = .ok (.aload_n 2, 1) := by decide +kernel
theorem dL_law_1015 : decode cL_law 1015 = .ok (.aload_n 0, 1) := by decide +kernel
theorem dL_law_1016 : decode cL_law 1016 = .ok (.iload_n 3, 1) := by decide +kernel
theorem dL_law_1017 : decode cL_law 1017 = .ok (.iconst 1, 1) := by decide +kernel
theorem dL_law_1018 : decode cL_law 1018 = .ok (.iadd, 1) := by decide +kernel
theorem dL_law_1019 : decode cL_law 1019 = .ok (.iaload, 1) := by decide +kernel
theorem dL_law_1020 : decode cL_law 1020 = .ok (.invokevirtual 115, 3) := by decide +kernel
theorem dL_law_1023 : decode cL_law 1023 = .ok (.if_icmp .eq 350, 3) := by decide +kernel
theorem dL_law_1026 : decode cL_law 1026 = .ok (.iconst 0, 1) := by decide +kernel
theorem dL_law_1027 : decode cL_law 1027 = .ok (.ireturn, 1) := by decide +kernel
theorem dL_law_1028 : decode cL_law 1028 = .ok (.aload_n 1, 1) := by decide +kernel
theorem dL_law_1029 : decode cL_law 1029 = .ok (.aload_n 0, 1) := by decide +kernel
theorem dL_law_1030 : decode cL_law 1030 = .ok (.iload_n 3, 1) := by decide +kernel
theorem dL_law_1031 : decode cL_law 1031 = .ok (.iconst 1, 1) := by decide +kernel
theorem dL_law_1032 : decode cL_law 1032 = .ok (.iadd, 1) := by decide +kernel
theorem dL_law_1033 : decode cL_law 1033 = .ok (.iaload, 1) := by decide +kernel
theorem dL_law_1034 : decode cL_law 1034 = .ok (.invokevirtual 116, 3) := by decide +kernel
theorem dL_law_1037 : decode cL_law 1037 = .ok (.aload_n 2, 1) := by decide +kernel
theorem dL_law_1038 : decode cL_law 1038 = .ok (.aload_n 0, 1) := by decide +kernel
theorem dL_law_1039 : decode cL_law 1039 = .ok (.iload_n 3, 1) := by decide +kernel
theorem dL_law_1040 : decode cL_law 1040 = .ok (.iconst 1, 1) := by decide +kernel
theorem dL_law_1041 : decode cL_law 1041 = .ok (.iadd, 1) := by decide +kernel
theorem dL_law_1042 : decode cL_law 1042 = .ok (.iaload, 1) := by decide +kernel
theorem dL_law_1043 : decode cL_law 1043 = .ok (.invokevirtual 119, 3) := by decide +kernel
theorem dL_law_1046 : decode cL_law 1046 = .ok (.if_icmp .eq 327, 3) := by decide +kernel
theorem dL_law_1049 : decode cL_law 1049 = .ok (.iconst 0, 1) := by decide +kernel
theorem dL_law_1050 : decode cL_law 1050 = .ok (.ireturn, 1) := by decide +kernel
theorem dL_law_1051 : decode cL_law 1051 = .ok (.aload_n 1, 1) := by decide +kernel
theorem dL_law_1052 : decode cL_law 1052 = .ok (.invokevirtual 120, 3) := by decide +kernel
theorem dL_law_1055 : decode cL_law 1055 = .ok (.aload_n 2, 1) := by decide +kernel
theorem dL_law_1056 : decode cL_law 1056 = .ok (.invokevirtual 123, 3) := by decide +kernel
theorem dL_law_1059 : decode cL_law 1059 = .ok (.if_icmp .eq 314, 3) := by decide +kernel
theorem dL_law_1062 : decode cL_law 1062 = .ok (.iconst 0, 1) := by decide +kernel
theorem dL_law_1063 : decode cL_law 1063 = .ok (.ireturn, 1) := by decide +kernel
theorem dL_law_1064 : decode cL_law 1064 = .ok (.aload_n 1, 1) := by decide +kernel
theorem dL_law_1065 : decode cL_law 1065 = .ok (.aload_n 0, 1) := by decide +kernel
theorem dL_law_1066 : decode cL_law 1066 = .ok (.iload_n 3, 1) := by decide +kernel
theorem dL_law_1067 : decode cL_law 1067 = .ok (.iconst 1, 1) := by decide +kernel
theorem dL_law_1068 : decode cL_law 1068 = .ok (.iadd, 1) := by decide +kernel
theorem dL_law_1069 : decode cL_law 1069 = .ok (.iaload, 1) := by decide +kernel
theorem dL_law_1070 : decode cL_law 1070 = .ok (.aload_n 0, 1) := by decide +kernel
theorem dL_law_1071 : decode cL_law 1071 = .ok (.iload_n 3, 1) := by decide +kernel
theorem dL_law_1072 : decode cL_law 1072 = .ok (.iconst 2, 1) := by decide +kernel
theorem dL_law_1073 : decode cL_law 1073 = .ok (.iadd, 1) := by decide +kernel
theorem dL_law_1074 : decode cL_law 1074 = .ok (.iaload, 1) := by decide +kernel
theorem dL_law_1075 : decode cL_law 1075 = .ok (.aload_n 0, 1) := by decide +kernel
theorem dL_law_1076 : decode cL_law 1076 = .ok (.iload_n 3, 1) := by decide +kernel
theorem dL_law_1077 : decode cL_law 1077 = .ok (.iconst 3, 1) := by decide +kernel
theorem dL_law_1078 : decode cL_law 1078 = .ok (.iadd, 1) := by decide +kernel
theorem dL_law_1079 : decode cL_law 1079 = .ok (.iaload, 1) := by decide +kernel
theorem dL_law_1080 : decode cL_law 1080 = .ok (.invokevirtual 124, 3) := by decide +kernel
theorem dL_law_1083 : decode cL_law 1083 = .ok (.aload_n 2, 1) := by decide +kernel
theorem dL_law_1084 : decode cL_law 1084 = .ok (.aload_n 0, 1) := by decide +kernel
theorem dL_law_1085 : decode cL_law 1085 = .ok (.iload_n 3, 1) := by decide +kernel
theorem dL_law_1086 : decode cL_law 1086 = .ok (.iconst 1, 1) := by decide +kernel
theorem dL_law_1087 : decode cL_law 1087 = .ok (.iadd, 1) := by decide +kernel
theorem dL_law_1088 : decode cL_law 1088 = .ok (.iaload, 1) := by decide +kernel
theorem dL_law_1089 : decode cL_law 1089 = .ok (.aload_n 0, 1) := by decide +kernel
theorem dL_law_1090 : decode cL_law 1090 = .ok (.iload_n 3, 1) := by decide +kernel
theorem dL_law_1091 : decode cL_law 1091 = .ok (.iconst 2, 1) := by decide +kernel
theorem dL_law_1092 : decode cL_law 1092 = .ok (.iadd, 1) := by decide +kernel
theorem dL_law_1093 : decode cL_law 1093 = .ok (.iaload, 1) := by decide +kernel
theorem dL_law_1094 : decode cL_law 1094 = .ok (.aload_n 0, 1) := by decide +kernel
theorem dL_law_1095 : decode cL_law 1095 = .ok (.iload_n 3, 1) := by decide +kernel
theorem dL_law_1096 : decode cL_law 1096 = .ok (.iconst 3, 1) := by decide +kernel
theorem dL_law_1097 : decode cL_law 1097 = .ok (.iadd, 1) := by decide +kernel
theorem dL_law_1098 : decode cL_law 1098 = .ok (.iaload, 1) := by decide +kernel
theorem dL_law_1099 : decode cL_law 1099 = .ok (.invokevirtual 127, 3) := by decide +kernel
theorem dL_law_1102 : decode cL_law 1102 = .ok (.if_icmp .eq 271, 3) := by decide +kernel
theorem dL_law_1105 : decode cL_law 1105 = .ok (.iconst 0, 1) := by decide +kernel
theorem dL_law_1106 : decode cL_law 1106 = .ok (.ireturn, 1) := by decide +kernel
theorem dL_law_1107 : decode cL_law 1107 = .ok (.aload_n 1, 1) := by decide +kernel
theorem dL_law_1108 : decode cL_law 1108 = .ok (.aload_n 0, 1) := by decide +kernel
theorem dL_law_1109 : decode cL_law 1109 = .ok (.iload_n 3, 1) := by decide +kernel
theorem dL_law_1110 : decode cL_law 1110 = .ok (.iconst 1, 1) := by decide +kernel
theorem dL_law_1111 : decode cL_law 1111 = .ok (.iadd, 1) := by decide +kernel
theorem dL_law_1112 : decode cL_law 1112 = .ok (.iaload, 1) := by decide +kernel
theorem dL_law_1113 : decode cL_law 1113 = .ok (.invokevirtual 128, 3) := by decide +kernel
theorem dL_law_1116 : decode cL_law 1116 = .ok (.aload_n 2, 1) := by decide +kernel
theorem dL_law_1117 : decode cL_law 1117 = .ok (.aload_n 0, 1) := by decide +kernel
theorem dL_law_1118 : decode cL_law 1118 = .ok (.iload_n 3, 1) := by decide +kernel
theorem dL_law_1119 : decode cL_law 1119 = .ok (.iconst 1, 1) := by decide +kernel
theorem dL_law_1120 : decode cL_law 1120 = .ok (.iadd, 1) := by decide +kernel
theorem dL_law_1121 : decode cL_law 1121 = .ok (.iaload, 1) := by decide +kernel
theorem dL_law_1122 : decode cL_law 1122 = .ok (.invokevirtual 131, 3) := by decide +kernel
theorem dL_law_1125 : decode cL_law 1125 = .ok (.if_icmp .eq 248, 3) := by decide +kernel
theorem dL_law_1128 : decode cL_law 1128 = .ok (.iconst 0, 1) := by decide +kernel
theorem dL_law_1129 : decode cL_law 1129 = .ok (.ireturn, 1) := by decide +kernel
theorem dL_law_1130 : decode cL_law 1130 = .ok (.aload_n 1, 1) := by decide +kernel
theorem dL_law_1131 : decode cL_law 1131 = .ok (.aload_n 0, 1) := by decide +kernel
theorem dL_law_1132 : decode cL_law 1132 = .ok (.iload_n 3, 1) := by decide +kernel
theorem dL_law_1133 : decode cL_law 1133 = .ok (.iconst 1, 1) := by decide +kernel
theorem dL_law_1134 : decode cL_law 1134 = .ok (.iadd, 1) := by decide +kernel
theorem dL_law_1135 : decode cL_law 1135 = .ok (.iaload, 1) := by decide +kernel
theorem dL_law_1136 : decode cL_law 1136 = .ok (.invokevirtual 132, 3) := by decide +kernel
theorem dL_law_1139 : decode cL_law 1139 = .ok (.aload_n 2, 1) := by decide +kernel
theorem dL_law_1140 : decode cL_law 1140 = .ok (.aload_n 0, 1) := by decide +kernel
theorem dL_law_1141 : decode cL_law 1141 = .ok (.iload_n 3, 1) := by decide +kernel
theorem dL_law_1142 : decode cL_law 1142 = .ok (.iconst 1, 1) := by decide +kernel
theorem dL_law_1143 : decode cL_law 1143 = .ok (.iadd, 1) := by decide +kernel
theorem dL_law_1144 : decode cL_law 1144 = .ok (.iaload, 1) := by decide +kernel
theorem dL_law_1145 : decode cL_law 1145 = .ok (.invokevirtual 135, 3) := by decide +kernel
theorem dL_law_1148 : decode cL_law 1148 = .ok (.if_icmp .eq 225, 3) := by decide +kernel
theorem dL_law_1151 : decode cL_law 1151 = .ok (.iconst 0, 1) := by decide +kernel
theorem dL_law_1152 : decode cL_law 1152 = .ok (.ireturn, 1) := by decide +kernel
theorem dL_law_1153 : decode cL_law 1153 = .ok (.aload_n 1, 1) := by decide +kernel
theorem dL_law_1154 : decode cL_law 1154 = .ok (.invokevirtual 136, 3) := by decide +kernel
theorem dL_law_1157 : decode cL_law 1157 = .ok (.aload_n 2, 1) := by decide +kernel
theorem dL_law_1158 : decode cL_law 1158 = .ok (.invokevirtual 139, 3) := by decide +kernel
theorem dL_law_1161 : decode cL_law 1161 = .ok (.if_icmp .eq 212, 3) := by decide +kernel
theorem dL_law_1164 : decode cL_law 1164 = .ok (.iconst 0, 1) := by decide +kernel
theorem dL_law_1165 : decode cL_law 1165 = .ok (.ireturn, 1) := by decide +kernel
theorem dL_law_1166 : decode cL_law 1166 = .ok (.aload_n 1, 1) := by decide +kernel
theorem dL_law_1167 : decode cL_law 1167 = .ok (.aload_n 0, 1) := by decide +kernel
theorem dL_law_1168 : decode cL_law 1168 = .ok (.iload_n 3, 1) := by decide +kernel
theorem dL_law_1169 : decode cL_law 1169 = .ok (.iconst 1, 1) := by decide +kernel
theorem dL_law_1170 : decode cL_law 1170 = .ok (.iadd, 1) := by decide +kernel
theorem dL_law_1171 : decode cL_law 1171 = .ok (.iaload, 1) := by decide +kernel
theorem dL_law_1172 : decode cL_law 1172 = .ok (.aload_n 0, 1) := by decide +kernel
theorem dL_law_1173 : decode cL_law 1173 = .ok (.iload_n 3, 1) := by decide +kernel
theorem dL_law_1174 : decode cL_law 1174 = .ok (.iconst 2, 1) := by decide +kernel
theorem dL_law_1175 : decode cL_law 1175 = .ok (.iadd, 1) := by decide +kernel
theorem dL_law_1176 : decode cL_law 1176 = .ok (.iaload, 1) := by decide +kernel
theorem dL_law_1177 : decode cL_law 1177 = .ok (.aload_n 0, 1) := by decide +kernel
theorem dL_law_1178 : decode cL_law 1178 = .ok (.iload_n 3, 1) := by decide +kernel
theorem dL_law_1179 : decode cL_law 1179 = .ok (.iconst 3, 1) := by decide +kernel
theorem dL_law_1180 : decode cL_law 1180 = .ok (.iadd, 1) := by decide +kernel
theorem dL_law_1181 : decode cL_law 1181 = .ok (.iaload, 1) := by decide +kernel
theorem dL_law_1182 : decode cL_law 1182 = .ok (.invokevirtual 140, 3) := by decide +kernel
theorem dL_law_1185 : decode cL_law 1185 = .ok (.aload_n 2, 1) := by decide +kernel
theorem dL_law_1186 : decode cL_law 1186 = .ok (.aload_n 0, 1) := by decide +kernel
theorem dL_law_1187 : decode cL_law 1187 = .ok (.iload_n 3, 1) := by decide +kernel
theorem dL_law_1188 : decode cL_law 1188 = .ok (.iconst 1, 1) := by decide +kernel
theorem dL_law_1189 : decode cL_law 1189 = .ok (.iadd, 1) := by decide +kernel
theorem dL_law_1190 : decode cL_law 1190 = .ok (.iaload, 1) := by decide +kernel
theorem dL_law_1191 : decode cL_law 1191 = .ok (.aload_n 0, 1) := by decide +kernel
theorem dL_law_1192 : decode cL_law 1192 = .ok (.iload_n 3, 1) := by decide +kernel
theorem dL_law_1193 : decode cL_law 1193 = .ok (.iconst 2, 1) := by decide +kernel
theorem dL_law_1194 : decode cL_law 1194 = .ok (.iadd, 1) := by decide +kernel
theorem dL_law_1195 : decode cL_law 1195 = .ok (.iaload, 1) := by decide +kernel
theorem dL_law_1196 : decode cL_law 1196 = .ok (.aload_n 0, 1) := by decide +kernel
theorem dL_law_1197 : decode cL_law 1197 = .ok (.iload_n 3, 1) := by decide +kernel
theorem dL_law_1198 : decode cL_law 1198 = .ok (.iconst 3, 1) := by decide +kernel
theorem dL_law_1199 : decode cL_law 1199 = .ok (.iadd, 1) := by decide +kernel
theorem dL_law_1200 : decode cL_law 1200 = .ok (.iaload, 1) := by decide +kernel
theorem dL_law_1201 : decode cL_law 1201 = .ok (.invokevirtual 143, 3) := by decide +kernel
theorem dL_law_1204 : decode cL_law 1204 = .ok (.if_icmp .eq 169, 3) := by decide +kernel
theorem dL_law_1207 : decode cL_law 1207 = .ok (.iconst 0, 1) := by decide +kernel
theorem dL_law_1208 : decode cL_law 1208 = .ok (.ireturn, 1) := by decide +kernel
theorem dL_law_1209 : decode cL_law 1209 = .ok (.aload_n 1, 1) := by decide +kernel
theorem dL_law_1210 : decode cL_law 1210 = .ok (.aload_n 0, 1) := by decide +kernel
theorem dL_law_1211 : decode cL_law 1211 = .ok (.iload_n 3, 1) := by decide +kernel
theorem dL_law_1212 : decode cL_law 1212 = .ok (.iconst 1, 1) := by decide +kernel
theorem dL_law_1213 : decode cL_law 1213 = .ok (.iadd, 1) := by decide +kernel
theorem dL_law_1214 : decode cL_law 1214 = .ok (.iaload, 1) := by decide +kernel
theorem dL_law_1215 : decode cL_law 1215 = .ok (.invokevirtual 144, 3) := by decide +kernel
theorem dL_law_1218 : decode cL_law 1218 = .ok (.aload_n 2, 1) := by decide +kernel
theorem dL_law_1219 : decode cL_law 1219 = .ok (.aload_n 0, 1) := by decide +kernel
theorem dL_law_1220 : decode cL_law 1220 = .ok (.iload_n 3, 1) := by decide +kernel
theorem dL_law_1221 : decode cL_law 1221 = .ok (.iconst 1, 1) := by decide +kernel
theorem dL_law_1222 : decode cL_law 1222 = .ok (.iadd, 1) := by decide +kernel
theorem dL_law_1223 : decode cL_law 1223 = .ok (.iaload, 1) := by decide +kernel
theorem dL_law_1224 : decode cL_law 1224 = .ok (.invokevirtual 147, 3) := by decide +kernel
theorem dL_law_1227 : decode cL_law 1227 = .ok (.if_icmp .eq 146, 3) := by decide +kernel
theorem dL_law_1230 : decode cL_law 1230 = .ok (.iconst 0, 1) := by decide +kernel
theorem dL_law_1231 : decode cL_law 1231 = .ok (.ireturn, 1) := by decide +kernel
theorem dL_law_1232 : decode cL_law 1232 = .ok (.aload_n 1, 1) := by decide +kernel
theorem dL_law_1233 : decode cL_law 1233 = .ok (.aload_n 0, 1) := by decide +kernel
theorem dL_law_1234 : decode cL_law 1234 = .ok (.iload_n 3, 1) := by decide +kernel
theorem dL_law_1235 : decode cL_law 1235 = .ok (.iconst 1, 1) := by decide +kernel
theorem dL_law_1236 : decode cL_law 1236 = .ok (.iadd, 1) := by decide +kernel
theorem dL_law_1237 : decode cL_law 1237 = .ok (.iaload, 1) := by decide +kernel
theorem dL_law_1238 : decode cL_law 1238 = .ok (.invokevirtual 148, 3) := by decide +kernel
theorem dL_law_1241 : decode cL_law 1241 = .ok (.aload_n 2, 1) := by decide +kernel
theorem dL_law_1242 : decode cL_law 1242 = .ok (.aload_n 0, 1) := by decide +kernel
theorem dL_law_1243 : decode cL_law 1243 = .ok (.iload_n 3, 1) := by decide +kernel
theorem dL_law_1244 : decode cL_law 1244 = .ok (.iconst 1, 1) := by decide +kernel
theorem dL_law_1245 : decode cL_law 1245 = .ok (.iadd, 1) := by decide +kernel
theorem dL_law_1246 : decode cL_law 1246 = .ok (.iaload, 1) := by decide +kernel
theorem dL_law_1247 : decode cL_law 1247 = .ok (.invokevirtual 151, 3) := by decide +kernel
theorem dL_law_1250 : decode cL_law 1250 = .ok (.if_icmp .eq 123, 3) := by decide +kernel
theorem dL_law_1253 : decode cL_law 1253 = .ok (.iconst 0, 1) := by decide +kernel
theorem dL_law_1254 : decode cL_law 1254 = .ok (.ireturn, 1) := by decide +kernel
theorem dL_law_1255 : decode cL_law 1255 = .ok (.aload_n 1, 1) := by decide +kernel
theorem dL_law_1256 : decode cL_law 1256 = .ok (.invokevirtual 152, 3) := by decide +kernel
theorem dL_law_1259 : decode cL_law 1259 = .ok (.aload_n 2, 1) := by decide +kernel
theorem dL_law_1260 : decode cL_law 1260 = .ok (.invokevirtual 155, 3) := by decide +kernel
theorem dL_law_1263 : decode cL_law 1263 = .ok (.if_icmp .eq 110, 3) := by decide +kernel
theorem dL_law_1266 : decode cL_law 1266 = .ok (.iconst 0, 1) := by decide +kernel
theorem dL_law_1267 : decode cL_law 1267 = .ok (.ireturn, 1) := by decide +kernel
theorem dL_law_1268 : decode cL_law 1268 = .ok (.aload_n 1, 1) := by decide +kernel
theorem dL_law_1269 : decode cL_law 1269 = .ok (.aload_n 0, 1) := by decide +kernel
theorem dL_law_1270 : decode cL_law 1270 = .ok (.iload_n 3, 1) := by decide +kernel
theorem dL_law_1271 : decode cL_law 1271 = .ok (.iconst 1, 1) := by decide +kernel
theorem dL_law_1272 : decode cL_law 1272 = .ok (.iadd, 1) := by decide +kernel
theorem dL_law_1273 : decode cL_law 1273 = .ok (.iaload, 1) := by decide +kernel
theorem dL_law_1274 : decode cL_law 1274 = .ok (.invokevirtual 156, 3) := by decide +kernel
theorem dL_law_1277 : decode cL_law 1277 = .ok (.aload_n 2, 1) := by decide +kernel
theorem dL_law_1278 : decode cL_law 1278 = .ok (.aload_n 0, 1) := by decide +kernel
theorem dL_law_1279 : decode cL_law 1279 = .ok (.iload_n 3, 1) := by decide +kernel
theorem dL_law_1280 : decode cL_law 1280 = .ok (.iconst 1, 1) := by decide +kernel
theorem dL_law_1281 : decode cL_law 1281 = .ok (.iadd, 1) := by decide +kernel
theorem dL_law_1282 : decode cL_law 1282 = .ok (.iaload, 1) := by decide +kernel
theorem dL_law_1283 : decode cL_law 1283 = .ok (.invokevirtual 159, 3) := by decide +kernel
theorem dL_law_1286 : decode cL_law 1286 = .ok (.if_icmp .eq 87, 3) := by decide +kernel
theorem dL_law_1289 : decode cL_law 1289 = .ok (.iconst 0, 1) := by decide +kernel
theorem dL_law_1290 : decode cL_law 1290 = .ok (.ireturn, 1) := by decide +kernel
theorem dL_law_1291 : decode cL_law 1291 = .ok (.aload_n 1, 1) := by decide +kernel
theorem dL_law_1292 : decode cL_law 1292 = .ok (.aload_n 0, 1) := by decide +kernel
theorem dL_law_1293 : decode cL_law 1293 = .ok (.iload_n 3, 1) := by decide +kernel
theorem dL_law_1294 : decode cL_law 1294 = .ok (.iconst 1, 1) := by decide +kernel
theorem dL_law_1295 : decode cL_law 1295 = .ok (.iadd, 1) := by decide +kernel
theorem dL_law_1296 : decode cL_law 1296 = .ok (.iaload, 1) := by decide +kernel
theorem dL_law_1297 : decode cL_law 1297 = .ok (.invokevirtual 160, 3) := by decide +kernel
theorem dL_law_1300 : decode cL_law 1300 = .ok (.aload_n 2, 1) := by decide +kernel
theorem dL_law_1301 : decode cL_law 1301 = .ok (.aload_n 0, 1) := by decide +kernel
theorem dL_law_1302 : decode cL_law 1302 = .ok (.iload_n 3, 1) := by decide +kernel
theorem dL_law_1303 : decode cL_law 1303 = .ok (.iconst 1, 1) := by decide +kernel
theorem dL_law_1304 : decode cL_law 1304 = .ok (.iadd, 1) := by decide +kernel
theorem dL_law_1305 : decode cL_law 1305 = .ok (.iaload, 1) := by decide +kernel
theorem dL_law_1306 : decode cL_law 1306 = .ok (.invokevirtual 163, 3) := by decide +kernel
theorem dL_law_1309 : decode cL_law 1309 = .ok (.if_icmp .eq 64, 3) := by decide +kernel
theorem dL_law_1312 : decode cL_law 1312 = .ok (.iconst 0, 1) := by decide +kernel
theorem dL_law_1313 : decode cL_law 1313 = .ok (.ireturn, 1) := by decide +kernel
theorem dL_law_1314 : decode cL_law 1314 = .ok (.aload_n 1, 1) := by decide +kernel
theorem dL_law_1315 : decode cL_law 1315 = .ok (.invokevirtual 164, 3) := by decide +kernel
theorem dL_law_1318 : decode cL_law 1318 = .ok (.aload_n 2, 1) := by decide +kernel
theorem dL_law_1319 : decode cL_law 1319 = .ok (.invokevirtual 167, 3) := by decide +kernel
theorem dL_law_1322 : decode cL_law 1322 = .ok (.if_icmp .eq 51, 3) := by decide +kernel
theorem dL_law_1325 : decode cL_law 1325 = .ok (.iconst 0, 1) := by decide +kernel
theorem dL_law_1326 : decode cL_law 1326 = .ok (.ireturn, 1) := by decide +kernel
theorem dL_law_1327 : decode cL_law 1327 = .ok (.aload_n 1, 1) := by decide +kernel
theorem dL_law_1328 : decode cL_law 1328 = .ok (.aload_n 0, 1) := by decide +kernel
theorem dL_law_1329 : decode cL_law 1329 = .ok (.iload_n 3, 1) := by decide +kernel
theorem dL_law_1330 : decode cL_law 1330 = .ok (.iconst 1, 1) := by decide +kernel
theorem dL_law_1331 : decode cL_law 1331 = .ok (.iadd, 1) := by decide +kernel
theorem dL_law_1332 : decode cL_law 1332 = .ok (.iaload, 1) := by decide +kernel
theorem dL_law_1333 : decode cL_law 1333 = .ok (.invokevirtual 168, 3) := by decide +kernel
theorem dL_law_1336 : decode cL_law 1336 = .ok (.aload_n 2, 1) := by decide +kernel
theorem dL_law_1337 : decode cL_law 1337 = .ok (.aload_n 0, 1) := by decide +kernel
theorem dL_law_1338 : decode cL_law 1338 = .ok (.iload_n 3, 1) := by decide +kernel
theorem dL_law_1339 : decode cL_law 1339 = .ok (.iconst 1, 1) := by decide +kernel
theorem dL_law_1340 : decode cL_law 1340 = .ok (.iadd, 1) := by decide +kernel
theorem dL_law_1341 : decode cL_law 1341 = .ok (.iaload, 1) := by decide +kernel
theorem dL_law_1342 : decode cL_law 1342 = .ok (.invokevirtual 171, 3) := by decide +kernel
theorem dL_law_1345 : decode cL_law 1345 = .ok (.if_icmp .eq 28, 3) := by decide +kernel
theorem dL_law_1348 : decode cL_law 1348 = .ok (.iconst 0, 1) := by decide +kernel
theorem dL_law_1349 : decode cL_law 1349 = .ok (.ireturn, 1) := by decide +kernel
theorem dL_law_1350 : decode cL_law 1350 = .ok (.aload_n 1, 1) := by decide +kernel
theorem dL_law_1351 : decode cL_law 1351 = .ok (.aload_n 0, 1) := by decide +kernel
theorem dL_law_1352 : decode cL_law 1352 = .ok (.iload_n 3, 1) := by decide +kernel
theorem dL_law_1353 : decode cL_law 1353 = .ok (.iconst 1, 1) := by decide +kernel
theorem dL_law_1354 : decode cL_law 1354 = .ok (.iadd, 1) := by decide +kernel
theorem dL_law_1355 : decode cL_law 1355 = .ok (.iaload, 1) := by decide +kernel
theorem dL_law_1356 : decode cL_law 1356 = .ok (.invokevirtual 172, 3) := by decide +kernel
theorem dL_law_1359 : decode cL_law 1359 = .ok (.aload_n 2, 1) := by decide +kernel
theorem dL_law_1360 : decode cL_law 1360 = .ok (.aload_n 0, 1) := by decide +kernel
theorem dL_law_1361 : decode cL_law 1361 = .ok (.iload_n 3, 1) := by decide +kernel
theorem dL_law_1362 : decode cL_law 1362 = .ok (.iconst 1, 1) := by decide +kernel
theorem dL_law_1363 : decode cL_law 1363 = .ok (.iadd, 1) := by decide +kernel
theorem dL_law_1364 : decode cL_law 1364 = .ok (.iaload, 1) := by decide +kernel
theorem dL_law_1365 : decode cL_law 1365 = .ok (.invokevirtual 175, 3) := by decide +kernel
theorem dL_law_1368 : decode cL_law 1368 = .ok (.if_icmp .eq 5, 3) := by decide +kernel
theorem dL_law_1371 : decode cL_law 1371 = .ok (.iconst 0, 1) := by decide +kernel
theorem dL_law_1372 : decode cL_law 1372 = .ok (.ireturn, 1) := by decide +kernel
theorem dL_law_1373 : decode cL_law 1373 = .ok (.iinc 3 7, 3) := by decide +kernel
theorem dL_law_1376 : decode cL_law 1376 = .ok (.goto (-1358), 3) := by decide +kernel
theorem dL_law_1379 : decode cL_law 1379 = .ok (.iconst 1, 1) := by decide +kernel
theorem dL_law_1380 : decode cL_law 1380 = .ok (.ireturn, 1) := by decide +kernel
