theorem dX9_wordOf_145 : decode cX9_wordOf 145 = .ok (.istore_n 3, 1) := by decide +kernel
theorem dX9_wordOf_146 : decode cX9_wordOf 146 = .ok (.lload_n 0, 1) := by decide +kernel
theorem dX9_wordOf_147 : decode cX9_wordOf 147 = .ok (.bipush 100, 2) := by decide +kernel
theorem dX9_wordOf_149 : decode cX9_wordOf 149 = .ok (.bipush 117, 2) := by decide +kernel
theorem dX9_wordOf_151 : decode cX9_wordOf 151 = .ok (.bipush 101, 2) := by decide +kernel
theorem dX9_wordOf_153 : decode cX9_wordOf 153 = .ok (.iconst 0, 1) := by decide +kernel
theorem dX9_wordOf_154 : decode cX9_wordOf 154 = .ok (.iconst 0, 1) := by decide +kernel
theorem dX9_wordOf_155 : decode cX9_wordOf 155 = .ok (.iconst 0, 1) := by decide +kernel
theorem dX9_wordOf_156 : decode cX9_wordOf 156 = .ok (.iconst 0, 1) := by decide +kernel
theorem dX9_wordOf_157 : decode cX9_wordOf 157 = .ok (.invokestatic 99, 3) := by decide +kernel
theorem dX9_wordOf_160 : decode cX9_wordOf 160 = .ok (.lcmp, 1) := by decide +kernel
theorem dX9_wordOf_161 : decode cX9_wordOf 161 = .ok (.ifCond .ne 8, 3) := by decide +kernel
theorem dX9_wordOf_164 : decode cX9_wordOf 164 = .ok (.bipush 6, 2) := by decide +kernel
theorem dX9_wordOf_166 : decode cX9_wordOf 166 = .ok (.goto 27, 3) := by decide +kernel
theorem dX9_wordOf_169 : decode cX9_wordOf 169 = .ok (.lload_n 0, 1) := by decide +kernel
theorem dX9_wordOf_170 : decode cX9_wordOf 170 = .ok (.bipush 115, 2) := by decide +kernel
theorem dX9_wordOf_172 : decode cX9_wordOf 172 = .ok (.bipush 117, 2) := by decide +kernel
theorem dX9_wordOf_174 : decode cX9_wordOf 174 = .ok (.bipush 109, 2) := by decide +kernel
theorem dX9_wordOf_176 : decode cX9_wordOf 176 = .ok (.iconst 0, 1) := by decide +kernel
theorem dX9_wordOf_177 : decode cX9_wordOf 177 = .ok (.iconst 0, 1) := by decide +kernel
theorem dX9_wordOf_178 : decode cX9_wordOf 178 = .ok (.iconst 0, 1) := by decide +kernel
theorem dX9_wordOf_179 : decode cX9_wordOf 179 = .ok (.iconst 0, 1) := by decide +kernel
theorem dX9_wordOf_180 : decode cX9_wordOf 180 = .ok (.invokestatic 99, 3) := by decide +kernel
theorem dX9_wordOf_183 : decode cX9_wordOf 183 = .ok (.lcmp, 1) := by decide +kernel
theorem dX9_wordOf_184 : decode cX9_wordOf 184 = .ok (.ifCond .ne 8, 3) := by decide +kernel
theorem dX9_wordOf_187 : decode cX9_wordOf 187 = .ok (.bipush 7, 2) := by decide +kernel
theorem dX9_wordOf_189 : decode cX9_wordOf 189 = .ok (.goto 4, 3) := by decide +kernel
theorem dX9_wordOf_192 : decode cX9_wordOf 192 = .ok (.iload_n 3, 1) := by decide +kernel
theorem dX9_wordOf_193 : decode cX9_wordOf 193 = .ok (.istore 4, 2) := by decide +kernel
theorem dX9_wordOf_195 : decode cX9_wordOf 195 = .ok (.lload_n 0, 1) := by decide +kernel
theorem dX9_wordOf_196 : decode cX9_wordOf 196 = .ok (.bipush 115, 2) := by decide +kernel
theorem dX9_wordOf_198 : decode cX9_wordOf 198 = .ok (.bipush 108, 2) := by decide +kernel
theorem dX9_wordOf_200 : decode cX9_wordOf 200 = .ok (.bipush 111, 2) := by decide +kernel
theorem dX9_wordOf_202 : decode cX9_wordOf 202 = .ok (.bipush 119, 2) := by decide +kernel
theorem dX9_wordOf_204 : decode cX9_wordOf 204 = .ok (.bipush 101, 2) := by decide +kernel
theorem dX9_wordOf_206 : decode cX9_wordOf 206 = .ok (.bipush 115, 2) := by decide +kernel
theorem dX9_wordOf_208 : decode cX9_wordOf 208 = .ok (.bipush 116, 2) := by decide +kernel
theorem dX9_wordOf_210 : decode cX9_wordOf 210 = .ok (.invokestatic 99, 3) := by decide +kernel
theorem dX9_wordOf_213 : decode cX9_wordOf 213 = .ok (.lcmp, 1) := by decide +kernel
theorem dX9_wordOf_214 : decode cX9_wordOf 214 = .ok (.ifCond .ne 8, 3) := by decide +kernel
theorem dX9_wordOf_217 : decode cX9_wordOf 217 = .ok (.bipush 8, 2) := by decide +kernel
theorem dX9_wordOf_219 : decode cX9_wordOf 219 = .ok (.goto 5, 3) := by decide +kernel
theorem dX9_wordOf_222 : decode cX9_wordOf 222 = .ok (.iload 4, 2) := by decide +kernel
theorem dX9_wordOf_224 : decode cX9_wordOf 224 = .ok (.ireturn, 1) := by decide +kernel
theorem dX9_advances_0 : decode cX9_advances 0 = .ok (.aload_n 0, 1) := by decide +kernel
theorem dX9_advances_1 : decode cX9_advances 1 = .ok (.aload_n 0, 1) := by decide +kernel
theorem dX9_advances_2 : decode cX9_advances 2 = .ok (.getfield 103, 3) := by decide +kernel
theorem dX9_advances_5 : decode cX9_advances 5 = .ok (.invokevirtual 106, 3) := by decide +kernel
theorem dX9_advances_8 : decode cX9_advances 8 = .ok (.bipush 32, 2) := by decide +kernel
theorem dX9_advances_10 : decode cX9_advances 10 = .ok (.if_icmp .ne 16, 3) := by decide +kernel
theorem dX9_advances_13 : decode cX9_advances 13 = .ok (.aload_n 0, 1) := by decide +kernel
theorem dX9_advances_14 : decode cX9_advances 14 = .ok (.dup, 1) := by decide +kernel
theorem dX9_advances_15 : decode cX9_advances 15 = .ok (.getfield 103, 3) := by decide +kernel
theorem dX9_advances_18 : decode cX9_advances 18 = .ok (.iconst 1, 1) := by decide +kernel
theorem dX9_advances_19 : decode cX9_advances 19 = .ok (.iadd, 1) := by decide +kernel
theorem dX9_advances_20 : decode cX9_advances 20 = .ok (.putfield 103, 3) := by decide +kernel
theorem dX9_advances_23 : decode cX9_advances 23 = .ok (.goto (-23), 3) := by decide +kernel
theorem dX9_advances_26 : decode cX9_advances 26 = .ok (.aload_n 0, 1) := by decide +kernel
theorem dX9_advances_27 : decode cX9_advances 27 = .ok (.aload_n 0, 1) := by decide +kernel
theorem dX9_advances_28 : decode cX9_advances 28 = .ok (.getfield 103, 3) := by decide +kernel
theorem dX9_advances_31 : decode cX9_advances 31 = .ok (.putfield 110, 3) := by decide +kernel
theorem dX9_advances_34 : decode cX9_advances 34 = .ok (.aload_n 0, 1) := by decide +kernel
theorem dX9_advances_35 : decode cX9_advances 35 = .ok (.aload_n 0, 1) := by decide +kernel
theorem dX9_advances_36 : decode cX9_advances 36 = .ok (.getfield 103, 3) := by decide +kernel
theorem dX9_advances_39 : decode cX9_advances 39 = .ok (.invokevirtual 106, 3) := by decide +kernel
theorem dX9_advances_42 : decode cX9_advances 42 = .ok (.istore_n 1, 1) := by decide +kernel
theorem dX9_advances_43 : decode cX9_advances 43 = .ok (.iload_n 1, 1) := by decide +kernel
theorem dX9_advances_44 : decode cX9_advances 44 = .ok (.ifCond .ge 11, 3) := by decide +kernel
theorem dX9_advances_47 : decode cX9_advances 47 = .ok (.aload_n 0, 1) := by decide +kernel
theorem dX9_advances_48 : decode cX9_advances 48 = .ok (.iconst 0, 1) := by decide +kernel
theorem dX9_advances_49 : decode cX9_advances 49 = .ok (.putfield 113, 3) := by decide +kernel
theorem dX9_advances_52 : decode cX9_advances 52 = .ok (.goto 241, 3) := by decide +kernel
theorem dX9_advances_55 : decode cX9_advances 55 = .ok (.iload_n 1, 1) := by decide +kernel
theorem dX9_advances_56 : decode cX9_advances 56 = .ok (.bipush 97, 2) := by decide +kernel
theorem dX9_advances_58 : decode cX9_advances 58 = .ok (.bipush 122, 2) := by decide +kernel
theorem dX9_advances_60 : decode cX9_advances 60 = .ok (.invokestatic 82, 3) := by decide +kernel
theorem dX9_advances_63 : decode cX9_advances 63 = .ok (.ifCond .eq 83, 3) := by decide +kernel
theorem dX9_advances_66 : decode cX9_advances 66 = .ok (.lconst 0, 1) := by decide +kernel
theorem dX9_advances_67 : decode cX9_advances 67 = .ok (.lstore_n 2, 1) := by decide +kernel
theorem dX9_advances_68 : decode cX9_advances 68 = .ok (.aload_n 0, 1) := by decide +kernel
theorem dX9_advances_69 : decode cX9_advances 69 = .ok (.aload_n 0, 1) := by decide +kernel
theorem dX9_advances_70 : decode cX9_advances 70 = .ok (.getfield 103, 3) := by decide +kernel
theorem dX9_advances_73 : decode cX9_advances 73 = .ok (.invokevirtual 106, 3) := by decide +kernel
theorem dX9_advances_76 : decode cX9_advances 76 = .ok (.bipush 97, 2) := by decide +kernel
theorem dX9_advances_78 : decode cX9_advances 78 = .ok (.bipush 122, 2) := by decide +kernel
theorem dX9_advances_80 : decode cX9_advances 80 = .ok (.invokestatic 82, 3) := by decide +kernel
theorem dX9_advances_83 : decode cX9_advances 83 = .ok (.ifCond .eq 47, 3) := by decide +kernel
theorem dX9_advances_86 : decode cX9_advances 86 = .ok (.aload_n 0, 1) := by decide +kernel
theorem dX9_advances_87 : decode cX9_advances 87 = .ok (.getfield 103, 3) := by decide +kernel
theorem dX9_advances_90 : decode cX9_advances 90 = .ok (.aload_n 0, 1) := by decide +kernel
theorem dX9_advances_91 : decode cX9_advances 91 = .ok (.getfield 110, 3) := by decide +kernel
theorem dX9_advances_94 : decode cX9_advances 94 = .ok (.isub, 1) := by decide +kernel
theorem dX9_advances_95 : decode cX9_advances 95 = .ok (.bipush 7, 2) := by decide +kernel
theorem dX9_advances_97 : decode cX9_advances 97 = .ok (.if_icmp .ge 18, 3) := by decide +kernel
theorem dX9_advances_100 : decode cX9_advances 100 = .ok (.lload_n 2, 1) := by decide +kernel
theorem dX9_advances_101 : decode cX9_advances 101 = .ok (.aload_n 0, 1) := by decide +kernel
theorem dX9_advances_102 : decode cX9_advances 102 = .ok (.aload_n 0, 1) := by decide +kernel
theorem dX9_advances_103 : decode cX9_advances 103 = .ok (.getfield 103, 3) := by decide +kernel
theorem dX9_advances_106 : decode cX9_advances 106 = .ok (.invokevirtual 106, 3) := by decide +kernel
theorem dX9_advances_109 : decode cX9_advances 109 = .ok (.invokestatic 95, 3) := by decide +kernel
theorem dX9_advances_112 : decode cX9_advances 112 = .ok (.goto 4, 3) := by decide +kernel
theorem dX9_advances_115 : decode cX9_advances 115 = .ok (.lconst 0, 1) := by decide +kernel
theorem dX9_advances_116 : decode cX9_advances 116 = .ok (.lstore_n 2, 1) := by decide +kernel
theorem dX9_advances_117 : decode cX9_advances 117 = .ok (.aload_n 0, 1) := by decide +kernel
theorem dX9_advances_118 : decode cX9_advances 118 = .ok (.dup, 1) := by decide +kernel
theorem dX9_advances_119 : decode cX9_advances 119 = .ok (.getfield 103, 3) := by decide +kernel
theorem dX9_advances_122 : decode cX9_advances 122 = .ok (.iconst 1, 1) := by decide +kernel
theorem dX9_advances_123 : decode cX9_advances 123 = .ok (.iadd, 1) := by decide +kernel
theorem dX9_advances_124 : decode cX9_advances 124 = .ok (.putfield 103, 3) := by decide +kernel
theorem dX9_advances_127 : decode cX9_advances 127 = .ok (.goto (-59), 3) := by decide +kernel
theorem dX9_advances_130 : decode cX9_advances 130 = .ok (.aload_n 0, 1) := by decide +kernel
theorem dX9_advances_131 : decode cX9_advances 131 = .ok (.lload_n 2, 1) := by decide +kernel
theorem dX9_advances_132 : decode cX9_advances 132 = .ok (.invokestatic 116, 3) := by decide +kernel
theorem dX9_advances_135 : decode cX9_advances 135 = .ok (.putfield 120, 3) := by decide +kernel
theorem dX9_advances_138 : decode cX9_advances 138 = .ok (.aload_n 0, 1) := by decide +kernel
theorem dX9_advances_139 : decode cX9_advances 139 = .ok (.iconst 1, 1) := by decide +kernel
theorem dX9_advances_140 : decode cX9_advances 140 = .ok (.putfield 113, 3) := by decide +kernel
theorem dX9_advances_143 : decode cX9_advances 143 = .ok (.goto 150, 3) := by decide +kernel
theorem dX9_advances_146 : decode cX9_advances 146 = .ok (.iload_n 1, 1) := by decide +kernel
theorem dX9_advances_147 : decode cX9_advances 147 = .ok (.bipush 48, 2) := by decide +kernel
theorem dX9_advances_149 : decode cX9_advances 149 = .ok (.bipush 57, 2) := by decide +kernel
theorem dX9_advances_151 : decode cX9_advances 151 = .ok (.invokestatic 82, 3) := by decide +kernel
theorem dX9_advances_154 : decode cX9_advances 154 = .ok (.ifCond .eq 103, 3) := by decide +kernel
theorem dX9_advances_157 : decode cX9_advances 157 = .ok (.aload_n 0, 1) := by decide +kernel
theorem dX9_advances_158 : decode cX9_advances 158 = .ok (.iconst 0, 1) := by decide +kernel
theorem dX9_advances_159 : decode cX9_advances 159 = .ok (.putfield 120, 3) := by decide +kernel
theorem dX9_advances_162 : decode cX9_advances 162 = .ok (.aload_n 0, 1) := by decide +kernel
theorem dX9_advances_163 : decode cX9_advances 163 = .ok (.aload_n 0, 1) := by decide +kernel
theorem dX9_advances_164 : decode cX9_advances 164 = .ok (.getfield 103, 3) := by decide +kernel
theorem dX9_advances_167 : decode cX9_advances 167 = .ok (.invokevirtual 106, 3) := by decide +kernel
theorem dX9_advances_170 : decode cX9_advances 170 = .ok (.bipush 48, 2) := by decide +kernel
theorem dX9_advances_172 : decode cX9_advances 172 = .ok (.bipush 57, 2) := by decide +kernel
theorem dX9_advances_174 : decode cX9_advances 174 = .ok (.invokestatic 82, 3) := by decide +kernel
theorem dX9_advances_177 : decode cX9_advances 177 = .ok (.ifCond .eq 59, 3) := by decide +kernel
theorem dX9_advances_180 : decode cX9_advances 180 = .ok (.aload_n 0, 1) := by decide +kernel
theorem dX9_advances_181 : decode cX9_advances 181 = .ok (.aload_n 0, 1) := by decide +kernel
theorem dX9_advances_182 : decode cX9_advances 182 = .ok (.getfield 103, 3) := by decide +kernel
theorem dX9_advances_185 : decode cX9_advances 185 = .ok (.aload_n 0, 1) := by decide +kernel
theorem dX9_advances_186 : decode cX9_advances 186 = .ok (.getfield 110, 3) := by decide +kernel
theorem dX9_advances_189 : decode cX9_advances 189 = .ok (.isub, 1) := by decide +kernel
theorem dX9_advances_190 : decode cX9_advances 190 = .ok (.iconst 3, 1) := by decide +kernel
theorem dX9_advances_191 : decode cX9_advances 191 = .ok (.if_icmp .ge 25, 3) := by decide +kernel
theorem dX9_advances_194 : decode cX9_advances 194 = .ok (.bipush 10, 2) := by decide +kernel
theorem dX9_advances_196 : decode cX9_advances 196 = .ok (.aload_n 0, 1) := by decide +kernel
theorem dX9_advances_197 : decode cX9_advances 197 = .ok (.getfield 120, 3) := by decide +kernel
theorem dX9_advances_200 : decode cX9_advances 200 = .ok (.imul, 1) := by decide +kernel
theorem dX9_advances_201 : decode cX9_advances 201 = .ok (.aload_n 0, 1) := by decide +kernel
theorem dX9_advances_202 : decode cX9_advances 202 = .ok (.aload_n 0, 1) := by decide +kernel
theorem dX9_advances_203 : decode cX9_advances 203 = .ok (.getfield 103, 3) := by decide +kernel
theorem dX9_advances_206 : decode cX9_advances 206 = .ok (.invokevirtual 106, 3) := by decide +kernel
theorem dX9_advances_209 : decode cX9_advances 209 = .ok (.iadd, 1) := by decide +kernel
theorem dX9_advances_210 : decode cX9_advances 210 = .ok (.bipush 48, 2) := by decide +kernel
theorem dX9_advances_212 : decode cX9_advances 212 = .ok (.isub, 1) := by decide +kernel
theorem dX9_advances_213 : decode cX9_advances 213 = .ok (.goto 7, 3) := by decide +kernel
theorem dX9_advances_216 : decode cX9_advances 216 = .ok (.aload_n 0, 1) := by decide +kernel
theorem dX9_advances_217 : decode cX9_advances 217 = .ok (.getfield 120, 3) := by decide +kernel
theorem dX9_advances_220 : decode cX9_advances 220 = .ok (.putfield 120, 3) := by decide +kernel
theorem dX9_advances_223 : decode cX9_advances 223 = .ok (.aload_n 0, 1) := by decide +kernel
theorem dX9_advances_224 : decode cX9_advances 224 = .ok (.dup, 1) := by decide +kernel
theorem dX9_advances_225 : decode cX9_advances 225 = .ok (.getfield 103, 3) := by decide +kernel
theorem dX9_advances_228 : decode cX9_advances 228 = .ok (.iconst 1, 1) := by decide +kernel
theorem dX9_advances_229 : decode cX9_advances 229 = .ok (.iadd, 1) := by decide +kernel
theorem dX9_advances_230 : decode cX9_advances 230 = .ok (.putfield 103, 3) := by decide +kernel
theorem dX9_advances_233 : decode cX9_advances 233 = .ok (.goto (-71), 3) := by decide +kernel
theorem dX9_advances_236 : decode cX9_advances 236 = .ok (.aload_n 0, 1) := by decide +kernel
theorem dX9_advances_237 : decode cX9_advances 237 = .ok (.aload_n 0, 1) := by decide +kernel
theorem dX9_advances_238 : decode cX9_advances 238 = .ok (.getfield 103, 3) := by decide +kernel
theorem dX9_advances_241 : decode cX9_advances 241 = .ok (.aload_n 0, 1) := by decide +kernel
theorem dX9_advances_242 : decode cX9_advances 242 = .ok (.getfield 110, 3) := by decide +kernel
theorem dX9_advances_245 : decode cX9_advances 245 = .ok (.isub, 1) := by decide +kernel
theorem dX9_advances_246 : decode cX9_advances 246 = .ok (.putfield 123, 3) := by decide +kernel
theorem dX9_advances_249 : decode cX9_advances 249 = .ok (.aload_n 0, 1) := by decide +kernel
theorem dX9_advances_250 : decode cX9_advances 250 = .ok (.iconst 2, 1) := by decide +kernel
theorem dX9_advances_251 : decode cX9_advances 251 = .ok (.putfield 113, 3) := by decide +kernel
theorem dX9_advances_254 : decode cX9_advances 254 = .ok (.goto 39, 3) := by decide +kernel
theorem dX9_advances_257 : decode cX9_advances 257 = .ok (.aload_n 0, 1) := by decide +kernel
theorem dX9_advances_258 : decode cX9_advances 258 = .ok (.dup, 1) := by decide +kernel
theorem dX9_advances_259 : decode cX9_advances 259 = .ok (.getfield 103, 3) := by decide +kernel
theorem dX9_advances_262 : decode cX9_advances 262 = .ok (.iconst 1, 1) := by decide +kernel
theorem dX9_advances_263 : decode cX9_advances 263 = .ok (.iadd, 1) := by decide +kernel
theorem dX9_advances_264 : decode cX9_advances 264 = .ok (.putfield 103, 3) := by decide +kernel
theorem dX9_advances_267 : decode cX9_advances 267 = .ok (.aload_n 0, 1) := by decide +kernel
theorem dX9_advances_268 : decode cX9_advances 268 = .ok (.iload_n 1, 1) := by decide +kernel
theorem dX9_advances_269 : decode cX9_advances 269 = .ok (.putfield 120, 3) := by decide +kernel
theorem dX9_advances_272 : decode cX9_advances 272 = .ok (.aload_n 0, 1) := by decide +kernel
theorem dX9_advances_273 : decode cX9_advances 273 = .ok (.iload_n 1, 1) := by decide +kernel
theorem dX9_advances_274 : decode cX9_advances 274 = .ok (.bipush 59, 2) := by decide +kernel
theorem dX9_advances_276 : decode cX9_advances 276 = .ok (.if_icmp .eq 9, 3) := by decide +kernel
theorem dX9_advances_279 : decode cX9_advances 279 = .ok (.iload_n 1, 1) := by decide +kernel
theorem dX9_advances_280 : decode cX9_advances 280 = .ok (.bipush 44, 2) := by decide +kernel
theorem dX9_advances_282 : decode cX9_advances 282 = .ok (.if_icmp .ne 7, 3) := by decide +kernel
theorem dX9_advances_285 : decode cX9_advances 285 = .ok (.iconst 3, 1) := by decide +kernel
theorem dX9_advances_286 : decode cX9_advances 286 = .ok (.goto 4, 3) := by decide +kernel
theorem dX9_advances_289 : decode cX9_advances 289 = .ok (.iconst 4, 1) := by decide +kernel
theorem dX9_advances_290 : decode cX9_advances 290 = .ok (.putfield 113, 3) := by decide +kernel
theorem dX9_advances_293 : decode cX9_advances 293 = .ok (.return_, 1) := by decide +kernel
theorem dX9_isWell_0 : decode cX9_isWell 0 = .ok (.aload_n 0, 1) := by decide +kernel
theorem dX9_isWell_1 : decode cX9_isWell 1 = .ok (.getfield 126, 3) := by decide +kernel
theorem dX9_isWell_4 : decode cX9_isWell 4 = .ok (.ifCond .ne 7, 3) := by decide +kernel
theorem dX9_isWell_7 : decode cX9_isWell 7 = .ok (.iconst 1, 1) := by decide +kernel
theorem dX9_isWell_8 : decode cX9_isWell 8 = .ok (.goto 4, 3) := by decide +kernel
theorem dX9_isWell_11 : decode cX9_isWell 11 = .ok (.iconst 0, 1) := by decide +kernel
theorem dX9_isWell_12 : decode cX9_isWell 12 = .ok (.ireturn, 1) := by decide +kernel
theorem dX9_fails_0 : decode cX9_fails 0 = .ok (.aload_n 0, 1) := by decide +kernel
theorem dX9_fails_1 : decode cX9_fails 1 = .ok (.invokevirtual 129, 3) := by decide +kernel
theorem dX9_fails_4 : decode cX9_fails 4 = .ok (.ifCond .eq 16, 3) := by decide +kernel
theorem dX9_fails_7 : decode cX9_fails 7 = .ok (.aload_n 0, 1) := by decide +kernel
theorem dX9_fails_8 : decode cX9_fails 8 = .ok (.iload_n 1, 1) := by decide +kernel
theorem dX9_fails_9 : decode cX9_fails 9 = .ok (.putfield 126, 3) := by decide +kernel
theorem dX9_fails_12 : decode cX9_fails 12 = .ok (.aload_n 0, 1) := by decide +kernel
theorem dX9_fails_13 : decode cX9_fails 13 = .ok (.aload_n 0, 1) := by decide +kernel
theorem dX9_fails_14 : decode cX9_fails 14 = .ok (.getfield 110, 3) := by decide +kernel
theorem dX9_fails_17 : decode cX9_fails 17 = .ok (.putfield 13, 3) := by decide +kernel
theorem dX9_fails_20 : decode cX9_fails 20 = .ok (.return_, 1) := by decide +kernel
theorem dX9_takes_0 : decode cX9_takes 0 = .ok (.iload_n 1, 1) := by decide +kernel
theorem dX9_takes_1 : decode cX9_takes 1 = .ok (.ifCond .ne 8, 3) := by decide +kernel
theorem dX9_takes_4 : decode cX9_takes 4 = .ok (.aload_n 0, 1) := by decide +kernel
theorem dX9_takes_5 : decode cX9_takes 5 = .ok (.iload_n 2, 1) := by decide +kernel
theorem dX9_takes_6 : decode cX9_takes 6 = .ok (.invokevirtual 133, 3) := by decide +kernel
theorem dX9_takes_9 : decode cX9_takes 9 = .ok (.aload_n 0, 1) := by decide +kernel
theorem dX9_takes_10 : decode cX9_takes 10 = .ok (.getfield 120, 3) := by decide +kernel
theorem dX9_takes_13 : decode cX9_takes 13 = .ok (.istore_n 3, 1) := by decide +kernel
theorem dX9_takes_14 : decode cX9_takes 14 = .ok (.aload_n 0, 1) := by decide +kernel
theorem dX9_takes_15 : decode cX9_takes 15 = .ok (.invokevirtual 129, 3) := by decide +kernel
theorem dX9_takes_18 : decode cX9_takes 18 = .ok (.ifCond .eq 7, 3) := by decide +kernel
theorem dX9_takes_21 : decode cX9_takes 21 = .ok (.aload_n 0, 1) := by decide +kernel
theorem dX9_takes_22 : decode cX9_takes 22 = .ok (.invokevirtual 137, 3) := by decide +kernel
theorem dX9_takes_25 : decode cX9_takes 25 = .ok (.aload_n 0, 1) := by decide +kernel
theorem dX9_takes_26 : decode cX9_takes 26 = .ok (.invokevirtual 129, 3) := by decide +kernel
theorem dX9_takes_29 : decode cX9_takes 29 = .ok (.ifCond .ne 7, 3) := by decide +kernel
theorem dX9_takes_32 : decode cX9_takes 32 = .ok (.iload_n 1, 1) := by decide +kernel
theorem dX9_takes_33 : decode cX9_takes 33 = .ok (.ifCond .eq 7, 3) := by decide +kernel
theorem dX9_takes_36 : decode cX9_takes 36 = .ok (.iload_n 3, 1) := by decide +kernel
theorem dX9_takes_37 : decode cX9_takes 37 = .ok (.goto 4, 3) := by decide +kernel
theorem dX9_takes_40 : decode cX9_takes 40 = .ok (.iconst 0, 1) := by decide +kernel
theorem dX9_takes_41 : decode cX9_takes 41 = .ok (.ireturn, 1) := by decide +kernel
theorem dX9_number_0 : decode cX9_number 0 = .ok (.aload_n 0, 1) := by decide +kernel
theorem dX9_number_1 : decode cX9_number 1 = .ok (.getfield 113, 3) := by decide +kernel
theorem dX9_number_4 : decode cX9_number 4 = .ok (.iconst 2, 1) := by decide +kernel
theorem dX9_number_5 : decode cX9_number 5 = .ok (.if_icmp .eq 10, 3) := by decide +kernel
theorem dX9_number_8 : decode cX9_number 8 = .ok (.aload_n 0, 1) := by decide +kernel
theorem dX9_number_9 : decode cX9_number 9 = .ok (.iconst 1, 1) := by decide +kernel
theorem dX9_number_10 : decode cX9_number 10 = .ok (.invokevirtual 133, 3) := by decide +kernel
theorem dX9_number_13 : decode cX9_number 13 = .ok (.iload_n 1, 1) := by decide +kernel
theorem dX9_number_14 : decode cX9_number 14 = .ok (.ireturn, 1) := by decide +kernel
theorem dX9_number_15 : decode cX9_number 15 = .ok (.aload_n 0, 1) := by decide +kernel
theorem dX9_number_16 : decode cX9_number 16 = .ok (.getfield 123, 3) := by decide +kernel
theorem dX9_number_19 : decode cX9_number 19 = .ok (.iconst 4, 1) := by decide +kernel
theorem dX9_number_20 : decode cX9_number 20 = .ok (.if_icmp .ge 19, 3) := by decide +kernel
theorem dX9_number_23 : decode cX9_number 23 = .ok (.aload_n 0, 1) := by decide +kernel
theorem dX9_number_24 : decode cX9_number 24 = .ok (.getfield 120, 3) := by decide +kernel
theorem dX9_number_27 : decode cX9_number 27 = .ok (.iload_n 1, 1) := by decide +kernel
theorem dX9_number_28 : decode cX9_number 28 = .ok (.iload_n 2, 1) := by decide +kernel
theorem dX9_number_29 : decode cX9_number 29 = .ok (.invokestatic 82, 3) := by decide +kernel
theorem dX9_number_32 : decode cX9_number 32 = .ok (.ifCond .eq 7, 3) := by decide +kernel
theorem dX9_number_35 : decode cX9_number 35 = .ok (.iconst 1, 1) := by decide +kernel
theorem dX9_number_36 : decode cX9_number 36 = .ok (.goto 4, 3) := by decide +kernel
theorem dX9_number_39 : decode cX9_number 39 = .ok (.iconst 0, 1) := by decide +kernel
theorem dX9_number_40 : decode cX9_number 40 = .ok (.istore_n 3, 1) := by decide +kernel
theorem dX9_number_41 : decode cX9_number 41 = .ok (.aload_n 0, 1) := by decide +kernel
theorem dX9_number_42 : decode cX9_number 42 = .ok (.iload_n 3, 1) := by decide +kernel
theorem dX9_number_43 : decode cX9_number 43 = .ok (.iconst 2, 1) := by decide +kernel
theorem dX9_number_44 : decode cX9_number 44 = .ok (.invokevirtual 140, 3) := by decide +kernel
theorem dX9_number_47 : decode cX9_number 47 = .ok (.istore 4, 2) := by decide +kernel
theorem dX9_number_49 : decode cX9_number 49 = .ok (.iload_n 3, 1) := by decide +kernel
theorem dX9_number_50 : decode cX9_number 50 = .ok (.ifCond .eq 8, 3) := by decide +kernel
theorem dX9_number_53 : decode cX9_number 53 = .ok (.iload 4, 2) := by decide +kernel
theorem dX9_number_55 : decode cX9_number 55 = .ok (.goto 4, 3) := by decide +kernel
theorem dX9_number_58 : decode cX9_number 58 = .ok (.iload_n 1, 1) := by decide +kernel
theorem dX9_number_59 : decode cX9_number 59 = .ok (.ireturn, 1) := by decide +kernel
theorem dX9_ends_0 : decode cX9_ends 0 = .ok (.aload_n 0, 1) := by decide +kernel
theorem dX9_ends_1 : decode cX9_ends 1 = .ok (.aload_n 0, 1) := by decide +kernel
theorem dX9_ends_2 : decode cX9_ends 2 = .ok (.getfield 113, 3) := by decide +kernel
theorem dX9_ends_5 : decode cX9_ends 5 = .ok (.iconst 3, 1) := by decide +kernel
theorem dX9_ends_6 : decode cX9_ends 6 = .ok (.if_icmp .ne 16, 3) := by decide +kernel
theorem dX9_ends_9 : decode cX9_ends 9 = .ok (.aload_n 0, 1) := by decide +kernel
theorem dX9_ends_10 : decode cX9_ends 10 = .ok (.getfield 120, 3) := by decide +kernel
theorem dX9_ends_13 : decode cX9_ends 13 = .ok (.bipush 59, 2) := by decide +kernel
theorem dX9_ends_15 : decode cX9_ends 15 = .ok (.if_icmp .ne 7, 3) := by decide +kernel
theorem dX9_ends_18 : decode cX9_ends 18 = .ok (.iconst 1, 1) := by decide +kernel
theorem dX9_ends_19 : decode cX9_ends 19 = .ok (.goto 4, 3) := by decide +kernel
theorem dX9_ends_22 : decode cX9_ends 22 = .ok (.iconst 0, 1) := by decide +kernel
theorem dX9_ends_23 : decode cX9_ends 23 = .ok (.iconst 1, 1) := by decide +kernel
theorem dX9_ends_24 : decode cX9_ends 24 = .ok (.invokevirtual 140, 3) := by decide +kernel
theorem dX9_ends_27 : decode cX9_ends 27 = .ok (.pop, 1) := by decide +kernel
theorem dX9_ends_28 : decode cX9_ends 28 = .ok (.return_, 1) := by decide +kernel
theorem dX9_beast_0 : decode cX9_beast 0 = .ok (.aload_n 0, 1) := by decide +kernel
theorem dX9_beast_1 : decode cX9_beast 1 = .ok (.getfield 113, 3) := by decide +kernel
theorem dX9_beast_4 : decode cX9_beast 4 = .ok (.iconst 2, 1) := by decide +kernel
theorem dX9_beast_5 : decode cX9_beast 5 = .ok (.if_icmp .eq 10, 3) := by decide +kernel
theorem dX9_beast_8 : decode cX9_beast 8 = .ok (.aload_n 0, 1) := by decide +kernel
theorem dX9_beast_9 : decode cX9_beast 9 = .ok (.iconst 1, 1) := by decide +kernel
theorem dX9_beast_10 : decode cX9_beast 10 = .ok (.invokevirtual 133, 3) := by decide +kernel
theorem dX9_beast_13 : decode cX9_beast 13 = .ok (.iconst 0, 1) := by decide +kernel
theorem dX9_beast_14 : decode cX9_beast 14 = .ok (.ireturn, 1) := by decide +kernel
theorem dX9_beast_15 : decode cX9_beast 15 = .ok (.aload_n 0, 1) := by decide +kernel
theorem dX9_beast_16 : decode cX9_beast 16 = .ok (.getfield 123, 3) := by decide +kernel
theorem dX9_beast_19 : decode cX9_beast 19 = .ok (.iconst 3, 1) := by decide +kernel
theorem dX9_beast_20 : decode cX9_beast 20 = .ok (.if_icmp .gt 16, 3) := by decide +kernel
theorem dX9_beast_23 : decode cX9_beast 23 = .ok (.aload_n 0, 1) := by decide +kernel
theorem dX9_beast_24 : decode cX9_beast 24 = .ok (.getfield 120, 3) := by decide +kernel
theorem dX9_beast_27 : decode cX9_beast 27 = .ok (.aload_n 0, 1) := by decide +kernel
theorem dX9_beast_28 : decode cX9_beast 28 = .ok (.getfield 20, 3) := by decide +kernel
theorem dX9_beast_31 : decode cX9_beast 31 = .ok (.iconst 3, 1) := by decide +kernel
theorem dX9_beast_32 : decode cX9_beast 32 = .ok (.iaload, 1) := by decide +kernel
theorem dX9_beast_33 : decode cX9_beast 33 = .ok (.if_icmp .lt 10, 3) := by decide +kernel
theorem dX9_beast_36 : decode cX9_beast 36 = .ok (.aload_n 0, 1) := by decide +kernel
theorem dX9_beast_37 : decode cX9_beast 37 = .ok (.iconst 2, 1) := by decide +kernel
theorem dX9_beast_38 : decode cX9_beast 38 = .ok (.invokevirtual 133, 3) := by decide +kernel
theorem dX9_beast_41 : decode cX9_beast 41 = .ok (.iconst 0, 1) := by decide +kernel
theorem dX9_beast_42 : decode cX9_beast 42 = .ok (.ireturn, 1) := by decide +kernel
theorem dX9_beast_43 : decode cX9_beast 43 = .ok (.aload_n 0, 1) := by decide +kernel
theorem dX9_beast_44 : decode cX9_beast 44 = .ok (.aload_n 0, 1) := by decide +kernel
theorem dX9_beast_45 : decode cX9_beast 45 = .ok (.getfield 120, 3) := by decide +kernel
theorem dX9_beast_48 : decode cX9_beast 48 = .ok (.iload_n 1, 1) := by decide +kernel
theorem dX9_beast_49 : decode cX9_beast 49 = .ok (.if_icmp .eq 11, 3) := by decide +kernel
theorem dX9_beast_52 : decode cX9_beast 52 = .ok (.iload_n 2, 1) := by decide +kernel
theorem dX9_beast_53 : decode cX9_beast 53 = .ok (.ifCond .ne 7, 3) := by decide +kernel
theorem dX9_beast_56 : decode cX9_beast 56 = .ok (.iconst 1, 1) := by decide +kernel
theorem dX9_beast_57 : decode cX9_beast 57 = .ok (.goto 4, 3) := by decide +kernel
theorem dX9_beast_60 : decode cX9_beast 60 = .ok (.iconst 0, 1) := by decide +kernel
theorem dX9_beast_61 : decode cX9_beast 61 = .ok (.iconst 4, 1) := by decide +kernel
theorem dX9_beast_62 : decode cX9_beast 62 = .ok (.invokevirtual 140, 3) := by decide +kernel
theorem dX9_beast_65 : decode cX9_beast 65 = .ok (.ireturn, 1) := by decide +kernel
theorem dX9_belt_0 : decode cX9_belt 0 = .ok (.aload_n 0, 1) := by decide +kernel
theorem dX9_belt_1 : decode cX9_belt 1 = .ok (.getfield 20, 3) := by decide +kernel
theorem dX9_belt_4 : decode cX9_belt 4 = .ok (.iconst 1, 1) := by decide +kernel
theorem dX9_belt_5 : decode cX9_belt 5 = .ok (.aload_n 0, 1) := by decide +kernel
theorem dX9_belt_6 : decode cX9_belt 6 = .ok (.aload_n 0, 1) := by decide +kernel
theorem dX9_belt_7 : decode cX9_belt 7 = .ok (.getfield 113, 3) := by decide +kernel
theorem dX9_belt_10 : decode cX9_belt 10 = .ok (.iconst 1, 1) := by decide +kernel
theorem dX9_belt_11 : decode cX9_belt 11 = .ok (.if_icmp .ne 25, 3) := by decide +kernel
theorem dX9_belt_14 : decode cX9_belt 14 = .ok (.aload_n 0, 1) := by decide +kernel
theorem dX9_belt_15 : decode cX9_belt 15 = .ok (.getfield 120, 3) := by decide +kernel
theorem dX9_belt_18 : decode cX9_belt 18 = .ok (.bipush 7, 2) := by decide +kernel
theorem dX9_belt_20 : decode cX9_belt 20 = .ok (.if_icmp .eq 12, 3) := by decide +kernel
theorem dX9_belt_23 : decode cX9_belt 23 = .ok (.aload_n 0, 1) := by decide +kernel
theorem dX9_belt_24 : decode cX9_belt 24 = .ok (.getfield 120, 3) := by decide +kernel
theorem dX9_belt_27 : decode cX9_belt 27 = .ok (.bipush 8, 2) := by decide +kernel
theorem dX9_belt_29 : decode cX9_belt 29 = .ok (.if_icmp .ne 7, 3) := by decide +kernel
theorem dX9_belt_32 : decode cX9_belt 32 = .ok (.iconst 1, 1) := by decide +kernel
theorem dX9_belt_33 : decode cX9_belt 33 = .ok (.goto 4, 3) := by decide +kernel
theorem dX9_belt_36 : decode cX9_belt 36 = .ok (.iconst 0, 1) := by decide +kernel
theorem dX9_belt_37 : decode cX9_belt 37 = .ok (.iconst 1, 1) := by decide +kernel
theorem dX9_belt_38 : decode cX9_belt 38 = .ok (.invokevirtual 140, 3) := by decide +kernel
theorem dX9_belt_41 : decode cX9_belt 41 = .ok (.bipush 7, 2) := by decide +kernel
theorem dX9_belt_43 : decode cX9_belt 43 = .ok (.isub, 1) := by decide +kernel
theorem dX9_belt_44 : decode cX9_belt 44 = .ok (.iastore, 1) := by decide +kernel
theorem dX9_belt_45 : decode cX9_belt 45 = .ok (.aload_n 0, 1) := by decide +kernel
theorem dX9_belt_46 : decode cX9_belt 46 = .ok (.getfield 20, 3) := by decide +kernel
theorem dX9_belt_49 : decode cX9_belt 49 = .ok (.iconst 0, 1) := by decide +kernel
theorem dX9_belt_50 : decode cX9_belt 50 = .ok (.aload_n 0, 1) := by decide +kernel
theorem dX9_belt_51 : decode cX9_belt 51 = .ok (.iconst 1, 1) := by decide +kernel
theorem dX9_belt_52 : decode cX9_belt 52 = .ok (.iconst 3, 1) := by decide +kernel
theorem dX9_belt_53 : decode cX9_belt 53 = .ok (.invokevirtual 144, 3) := by decide +kernel
theorem dX9_belt_56 : decode cX9_belt 56 = .ok (.iastore, 1) := by decide +kernel
theorem dX9_belt_57 : decode cX9_belt 57 = .ok (.aload_n 0, 1) := by decide +kernel
theorem dX9_belt_58 : decode cX9_belt 58 = .ok (.getfield 20, 3) := by decide +kernel
theorem dX9_belt_61 : decode cX9_belt 61 = .ok (.iconst 2, 1) := by decide +kernel
theorem dX9_belt_62 : decode cX9_belt 62 = .ok (.aload_n 0, 1) := by decide +kernel
theorem dX9_belt_63 : decode cX9_belt 63 = .ok (.iconst 1, 1) := by decide +kernel
theorem dX9_belt_64 : decode cX9_belt 64 = .ok (.sipush 999, 3) := by decide +kernel
theorem dX9_belt_67 : decode cX9_belt 67 = .ok (.invokevirtual 144, 3) := by decide +kernel
theorem dX9_belt_70 : decode cX9_belt 70 = .ok (.iastore, 1) := by decide +kernel
theorem dX9_belt_71 : decode cX9_belt 71 = .ok (.return_, 1) := by decide +kernel
theorem dX9_horse_0 : decode cX9_horse 0 = .ok (.bipush 8, 2) := by decide +kernel
theorem dX9_horse_2 : decode cX9_horse 2 = .ok (.iconst 4, 1) := by decide +kernel
theorem dX9_horse_3 : decode cX9_horse 3 = .ok (.aload_n 0, 1) := by decide +kernel
theorem dX9_horse_4 : decode cX9_horse 4 = .ok (.getfield 20, 3) := by decide +kernel
theorem dX9_horse_7 : decode cX9_horse 7 = .ok (.iconst 3, 1) := by decide +kernel
theorem dX9_horse_8 : decode cX9_horse 8 = .ok (.iaload, 1) := by decide +kernel
theorem dX9_horse_9 : decode cX9_horse 9 = .ok (.imul, 1) := by decide +kernel
theorem dX9_horse_10 : decode cX9_horse 10 = .ok (.iadd, 1) := by decide +kernel
theorem dX9_horse_11 : decode cX9_horse 11 = .ok (.istore_n 1, 1) := by decide +kernel
theorem dX9_horse_12 : decode cX9_horse 12 = .ok (.aload_n 0, 1) := by decide +kernel
theorem dX9_horse_13 : decode cX9_horse 13 = .ok (.getfield 20, 3) := by decide +kernel
theorem dX9_horse_16 : decode cX9_horse 16 = .ok (.iload_n 1, 1) := by decide +kernel
theorem dX9_horse_17 : decode cX9_horse 17 = .ok (.aload_n 0, 1) := by decide +kernel
theorem dX9_horse_18 : decode cX9_horse 18 = .ok (.iconst 1, 1) := by decide +kernel
theorem dX9_horse_19 : decode cX9_horse 19 = .ok (.bipush 30, 2) := by decide +kernel
theorem dX9_horse_21 : decode cX9_horse 21 = .ok (.invokevirtual 144, 3) := by decide +kernel
theorem dX9_horse_24 : decode cX9_horse 24 = .ok (.iastore, 1) := by decide +kernel
theorem dX9_horse_25 : decode cX9_horse 25 = .ok (.aload_n 0, 1) := by decide +kernel
theorem dX9_horse_26 : decode cX9_horse 26 = .ok (.getfield 20, 3) := by decide +kernel
theorem dX9_horse_29 : decode cX9_horse 29 = .ok (.iload_n 1, 1) := by decide +kernel
theorem dX9_horse_30 : decode cX9_horse 30 = .ok (.iconst 1, 1) := by decide +kernel
theorem dX9_horse_31 : decode cX9_horse 31 = .ok (.iadd, 1) := by decide +kernel
theorem dX9_horse_32 : decode cX9_horse 32 = .ok (.aload_n 0, 1) := by decide +kernel
theorem dX9_horse_33 : decode cX9_horse 33 = .ok (.iconst 1, 1) := by decide +kernel
theorem dX9_horse_34 : decode cX9_horse 34 = .ok (.sipush 200, 3) := by decide +kernel
theorem dX9_horse_37 : decode cX9_horse 37 = .ok (.invokevirtual 144, 3) := by decide +kernel
theorem dX9_horse_40 : decode cX9_horse 40 = .ok (.iastore, 1) := by decide +kernel
theorem dX9_horse_41 : decode cX9_horse 41 = .ok (.aload_n 0, 1) := by decide +kernel
theorem dX9_horse_42 : decode cX9_horse 42 = .ok (.getfield 20, 3) := by decide +kernel
theorem dX9_horse_45 : decode cX9_horse 45 = .ok (.iload_n 1, 1) := by decide +kernel
theorem dX9_horse_46 : decode cX9_horse 46 = .ok (.iconst 2, 1) := by decide +kernel
theorem dX9_horse_47 : decode cX9_horse 47 = .ok (.iadd, 1) := by decide +kernel
theorem dX9_horse_48 : decode cX9_horse 48 = .ok (.aload_n 0, 1) := by decide +kernel
theorem dX9_horse_49 : decode cX9_horse 49 = .ok (.iconst 0, 1) := by decide +kernel
theorem dX9_horse_50 : decode cX9_horse 50 = .ok (.bipush 60, 2) := by decide +kernel
theorem dX9_horse_52 : decode cX9_horse 52 = .ok (.invokevirtual 144, 3) := by decide +kernel
theorem dX9_horse_55 : decode cX9_horse 55 = .ok (.iastore, 1) := by decide +kernel
theorem dX9_horse_56 : decode cX9_horse 56 = .ok (.aload_n 0, 1) := by decide +kernel
theorem dX9_horse_57 : decode cX9_horse 57 = .ok (.getfield 20, 3) := by decide +kernel
theorem dX9_horse_60 : decode cX9_horse 60 = .ok (.iconst 3, 1) := by decide +kernel
theorem dX9_horse_61 : decode cX9_horse 61 = .ok (.dup2, 1) := by decide +kernel
theorem dX9_horse_62 : decode cX9_horse 62 = .ok (.iaload, 1) := by decide +kernel
theorem dX9_horse_63 : decode cX9_horse 63 = .ok (.iconst 1, 1) := by decide +kernel
theorem dX9_horse_64 : decode cX9_horse 64 = .ok (.iadd, 1) := by decide +kernel
theorem dX9_horse_65 : decode cX9_horse 65 = .ok (.iastore, 1) := by decide +kernel
theorem dX9_horse_66 : decode cX9_horse 66 = .ok (.return_, 1) := by decide +kernel
theorem dX9_blind_0 : decode cX9_blind 0 = .ok (.aload_n 0, 1) := by decide +kernel
theorem dX9_blind_1 : decode cX9_blind 1 = .ok (.getfield 113, 3) := by decide +kernel
theorem dX9_blind_4 : decode cX9_blind 4 = .ok (.iconst 2, 1) := by decide +kernel
theorem dX9_blind_5 : decode cX9_blind 5 = .ok (.if_icmp .ne 48, 3) := by decide +kernel
theorem dX9_blind_8 : decode cX9_blind 8 = .ok (.aload_n 0, 1) := by decide +kernel
theorem dX9_blind_9 : decode cX9_blind 9 = .ok (.getfield 123, 3) := by decide +kernel
theorem dX9_blind_12 : decode cX9_blind 12 = .ok (.iconst 4, 1) := by decide +kernel
theorem dX9_blind_13 : decode cX9_blind 13 = .ok (.if_icmp .ge 40, 3) := by decide +kernel
theorem dX9_blind_16 : decode cX9_blind 16 = .ok (.aload_n 0, 1) := by decide +kernel
theorem dX9_blind_17 : decode cX9_blind 17 = .ok (.getfield 120, 3) := by decide +kernel
theorem dX9_blind_20 : decode cX9_blind 20 = .ok (.aload_n 0, 1) := by decide +kernel
theorem dX9_blind_21 : decode cX9_blind 21 = .ok (.getfield 20, 3) := by decide +kernel
theorem dX9_blind_24 : decode cX9_blind 24 = .ok (.iconst 3, 1) := by decide +kernel
theorem dX9_blind_25 : decode cX9_blind 25 = .ok (.iaload, 1) := by decide +kernel
theorem dX9_blind_26 : decode cX9_blind 26 = .ok (.if_icmp .ge 27, 3) := by decide +kernel
theorem dX9_blind_29 : decode cX9_blind 29 = .ok (.aload_n 0, 1) := by decide +kernel
theorem dX9_blind_30 : decode cX9_blind 30 = .ok (.getfield 20, 3) := by decide +kernel
theorem dX9_blind_33 : decode cX9_blind 33 = .ok (.bipush 8, 2) := by decide +kernel
theorem dX9_blind_35 : decode cX9_blind 35 = .ok (.iconst 4, 1) := by decide +kernel
theorem dX9_blind_36 : decode cX9_blind 36 = .ok (.aload_n 0, 1) := by decide +kernel
theorem dX9_blind_37 : decode cX9_blind 37 = .ok (.getfield 120, 3) := by decide +kernel
theorem dX9_blind_40 : decode cX9_blind 40 = .ok (.imul, 1) := by decide +kernel
theorem dX9_blind_41 : decode cX9_blind 41 = .ok (.iadd, 1) := by decide +kernel
theorem dX9_blind_42 : decode cX9_blind 42 = .ok (.iconst 3, 1) := by decide +kernel
theorem dX9_blind_43 : decode cX9_blind 43 = .ok (.iadd, 1) := by decide +kernel
theorem dX9_blind_44 : decode cX9_blind 44 = .ok (.iaload, 1) := by decide +kernel
theorem dX9_blind_45 : decode cX9_blind 45 = .ok (.iconst 1, 1) := by decide +kernel
theorem dX9_blind_46 : decode cX9_blind 46 = .ok (.if_icmp .ne 7, 3) := by decide +kernel
theorem dX9_blind_49 : decode cX9_blind 49 = .ok (.iconst 1, 1) := by decide +kernel
theorem dX9_blind_50 : decode cX9_blind 50 = .ok (.goto 4, 3) := by decide +kernel
theorem dX9_blind_53 : decode cX9_blind 53 = .ok (.iconst 0, 1) := by decide +kernel
theorem dX9_blind_54 : decode cX9_blind 54 = .ok (.istore_n 1, 1) := by decide +kernel
theorem dX9_blind_55 : decode cX9_blind 55 = .ok (.aload_n 0, 1) := by decide +kernel
theorem dX9_blind_56 : decode cX9_blind 56 = .ok (.iconst (-1), 1) := by decide +kernel
theorem dX9_blind_57 : decode cX9_blind 57 = .ok (.iload_n 1, 1) := by decide +kernel
theorem dX9_blind_58 : decode cX9_blind 58 = .ok (.invokevirtual 148, 3) := by decide +kernel
theorem dX9_blind_61 : decode cX9_blind 61 = .ok (.istore_n 2, 1) := by decide +kernel
theorem dX9_blind_62 : decode cX9_blind 62 = .ok (.aload_n 0, 1) := by decide +kernel
theorem dX9_blind_63 : decode cX9_blind 63 = .ok (.getfield 20, 3) := by decide +kernel
theorem dX9_blind_66 : decode cX9_blind 66 = .ok (.bipush 8, 2) := by decide +kernel
theorem dX9_blind_68 : decode cX9_blind 68 = .ok (.iconst 4, 1) := by decide +kernel
theorem dX9_blind_69 : decode cX9_blind 69 = .ok (.iload_n 2, 1) := by decide +kernel
theorem dX9_blind_70 : decode cX9_blind 70 = .ok (.imul, 1) := by decide +kernel
theorem dX9_blind_71 : decode cX9_blind 71 = .ok (.iadd, 1) := by decide +kernel
theorem dX9_blind_72 : decode cX9_blind 72 = .ok (.iconst 3, 1) := by decide +kernel
theorem dX9_blind_73 : decode cX9_blind 73 = .ok (.iadd, 1) := by decide +kernel
theorem dX9_blind_74 : decode cX9_blind 74 = .ok (.aload_n 0, 1) := by decide +kernel
theorem dX9_blind_75 : decode cX9_blind 75 = .ok (.invokevirtual 129, 3) := by decide +kernel
theorem dX9_blind_78 : decode cX9_blind 78 = .ok (.ifCond .eq 7, 3) := by decide +kernel
theorem dX9_blind_81 : decode cX9_blind 81 = .ok (.iconst 1, 1) := by decide +kernel
theorem dX9_blind_82 : decode cX9_blind 82 = .ok (.goto 16, 3) := by decide +kernel
theorem dX9_blind_85 : decode cX9_blind 85 = .ok (.aload_n 0, 1) := by decide +kernel
theorem dX9_blind_86 : decode cX9_blind 86 = .ok (.getfield 20, 3) := by decide +kernel
theorem dX9_blind_89 : decode cX9_blind 89 = .ok (.bipush 8, 2) := by decide +kernel
theorem dX9_blind_91 : decode cX9_blind 91 = .ok (.iconst 4, 1) := by decide +kernel
theorem dX9_blind_92 : decode cX9_blind 92 = .ok (.iload_n 2, 1) := by decide +kernel
theorem dX9_blind_93 : decode cX9_blind 93 = .ok (.imul, 1) := by decide +kernel
theorem dX9_blind_94 : decode cX9_blind 94 = .ok (.iadd, 1) := by decide +kernel
theorem dX9_blind_95 : decode cX9_blind 95 = .ok (.iconst 3, 1) := by decide +kernel
theorem dX9_blind_96 : decode cX9_blind 96 = .ok (.iadd, 1) := by decide +kernel
theorem dX9_blind_97 : decode cX9_blind 97 = .ok (.iaload, 1) := by decide +kernel
theorem dX9_blind_98 : decode cX9_blind 98 = .ok (.iastore, 1) := by decide +kernel
theorem dX9_blind_99 : decode cX9_blind 99 = .ok (.return_, 1) := by decide +kernel
theorem dX9_beside_0 : decode cX9_beside 0 = .ok (.aload_n 0, 1) := by decide +kernel
theorem dX9_beside_1 : decode cX9_beside 1 = .ok (.iconst (-1), 1) := by decide +kernel
theorem dX9_beside_2 : decode cX9_beside 2 = .ok (.iconst 0, 1) := by decide +kernel
theorem dX9_beside_3 : decode cX9_beside 3 = .ok (.invokevirtual 148, 3) := by decide +kernel
theorem dX9_beside_6 : decode cX9_beside 6 = .ok (.istore_n 1, 1) := by decide +kernel
theorem dX9_beside_7 : decode cX9_beside 7 = .ok (.aload_n 0, 1) := by decide +kernel
theorem dX9_beside_8 : decode cX9_beside 8 = .ok (.getfield 113, 3) := by decide +kernel
theorem dX9_beside_11 : decode cX9_beside 11 = .ok (.iconst 2, 1) := by decide +kernel
theorem dX9_beside_12 : decode cX9_beside 12 = .ok (.if_icmp .ne 33, 3) := by decide +kernel
theorem dX9_beside_15 : decode cX9_beside 15 = .ok (.aload_n 0, 1) := by decide +kernel
theorem dX9_beside_16 : decode cX9_beside 16 = .ok (.getfield 120, 3) := by decide +kernel
theorem dX9_beside_19 : decode cX9_beside 19 = .ok (.bipush 6, 2) := by decide +kernel
theorem dX9_beside_21 : decode cX9_beside 21 = .ok (.if_icmp .ge 24, 3) := by decide +kernel
theorem dX9_beside_24 : decode cX9_beside 24 = .ok (.aload_n 0, 1) := by decide +kernel
theorem dX9_beside_25 : decode cX9_beside 25 = .ok (.getfield 57, 3) := by decide +kernel
theorem dX9_beside_28 : decode cX9_beside 28 = .ok (.iload_n 1, 1) := by decide +kernel
theorem dX9_beside_29 : decode cX9_beside 29 = .ok (.iaload, 1) := by decide +kernel
theorem dX9_beside_30 : decode cX9_beside 30 = .ok (.aload_n 0, 1) := by decide +kernel
theorem dX9_beside_31 : decode cX9_beside 31 = .ok (.getfield 120, 3) := by decide +kernel
theorem dX9_beside_34 : decode cX9_beside 34 = .ok (.ishr, 1) := by decide +kernel
theorem dX9_beside_35 : decode cX9_beside 35 = .ok (.iconst 1, 1) := by decide +kernel
theorem dX9_beside_36 : decode cX9_beside 36 = .ok (.iand, 1) := by decide +kernel
theorem dX9_beside_37 : decode cX9_beside 37 = .ok (.iconst 1, 1) := by decide +kernel
theorem dX9_beside_38 : decode cX9_beside 38 = .ok (.if_icmp .ne 7, 3) := by decide +kernel
theorem dX9_beside_41 : decode cX9_beside 41 = .ok (.iconst 1, 1) := by decide +kernel
theorem dX9_beside_42 : decode cX9_beside 42 = .ok (.goto 4, 3) := by decide +kernel
theorem dX9_beside_45 : decode cX9_beside 45 = .ok (.iconst 0, 1) := by decide +kernel
theorem dX9_beside_46 : decode cX9_beside 46 = .ok (.istore_n 2, 1) := by decide +kernel
theorem dX9_beside_47 : decode cX9_beside 47 = .ok (.aload_n 0, 1) := by decide +kernel
theorem dX9_beside_48 : decode cX9_beside 48 = .ok (.iload_n 1, 1) := by decide +kernel
theorem dX9_beside_49 : decode cX9_beside 49 = .ok (.iload_n 2, 1) := by decide +kernel
theorem dX9_beside_50 : decode cX9_beside 50 = .ok (.ifCond .eq 14, 3) := by decide +kernel
theorem dX9_beside_53 : decode cX9_beside 53 = .ok (.aload_n 0, 1) := by decide +kernel
theorem dX9_beside_54 : decode cX9_beside 54 = .ok (.invokevirtual 129, 3) := by decide +kernel
theorem dX9_beside_57 : decode cX9_beside 57 = .ok (.ifCond .eq 7, 3) := by decide +kernel
theorem dX9_beside_60 : decode cX9_beside 60 = .ok (.iconst 1, 1) := by decide +kernel
theorem dX9_beside_61 : decode cX9_beside 61 = .ok (.goto 4, 3) := by decide +kernel
theorem dX9_beside_64 : decode cX9_beside 64 = .ok (.iconst 0, 1) := by decide +kernel
theorem dX9_beside_65 : decode cX9_beside 65 = .ok (.invokevirtual 148, 3) := by decide +kernel
theorem dX9_beside_68 : decode cX9_beside 68 = .ok (.istore_n 3, 1) := by decide +kernel
theorem dX9_beside_69 : decode cX9_beside 69 = .ok (.aload_n 0, 1) := by decide +kernel
theorem dX9_beside_70 : decode cX9_beside 70 = .ok (.iconst 0, 1) := by decide +kernel
theorem dX9_beside_71 : decode cX9_beside 71 = .ok (.bipush 10, 2) := by decide +kernel
theorem dX9_beside_73 : decode cX9_beside 73 = .ok (.invokevirtual 144, 3) := by decide +kernel
theorem dX9_beside_76 : decode cX9_beside 76 = .ok (.istore 4, 2) := by decide +kernel
theorem dX9_beside_78 : decode cX9_beside 78 = .ok (.aload_n 0, 1) := by decide +kernel
theorem dX9_beside_79 : decode cX9_beside 79 = .ok (.invokevirtual 129, 3) := by decide +kernel
theorem dX9_beside_82 : decode cX9_beside 82 = .ok (.ifCond .eq 31, 3) := by decide +kernel
theorem dX9_beside_85 : decode cX9_beside 85 = .ok (.aload_n 0, 1) := by decide +kernel
theorem dX9_beside_86 : decode cX9_beside 86 = .ok (.getfield 57, 3) := by decide +kernel
theorem dX9_beside_89 : decode cX9_beside 89 = .ok (.iload_n 1, 1) := by decide +kernel
theorem dX9_beside_90 : decode cX9_beside 90 = .ok (.dup2, 1) := by decide +kernel
theorem dX9_beside_91 : decode cX9_beside 91 = .ok (.iaload, 1) := by decide +kernel
theorem dX9_beside_92 : decode cX9_beside 92 = .ok (.iconst 1, 1) := by decide +kernel
theorem dX9_beside_93 : decode cX9_beside 93 = .ok (.iload_n 3, 1) := by decide +kernel
theorem dX9_beside_94 : decode cX9_beside 94 = .ok (.ishl, 1) := by decide +kernel
theorem dX9_beside_95 : decode cX9_beside 95 = .ok (.ior, 1) := by decide +kernel
theorem dX9_beside_96 : decode cX9_beside 96 = .ok (.iastore, 1) := by decide +kernel
theorem dX9_beside_97 : decode cX9_beside 97 = .ok (.aload_n 0, 1) := by decide +kernel
theorem dX9_beside_98 : decode cX9_beside 98 = .ok (.getfield 20, 3) := by decide +kernel
theorem dX9_beside_101 : decode cX9_beside 101 = .ok (.bipush 32, 2) := by decide +kernel
theorem dX9_beside_103 : decode cX9_beside 103 = .ok (.bipush 6, 2) := by decide +kernel
theorem dX9_beside_105 : decode cX9_beside 105 = .ok (.iload_n 1, 1) := by decide +kernel
theorem dX9_beside_106 : decode cX9_beside 106 = .ok (.imul, 1) := by decide +kernel
theorem dX9_beside_107 : decode cX9_beside 107 = .ok (.iadd, 1) := by decide +kernel
theorem dX9_beside_108 : decode cX9_beside 108 = .ok (.iload_n 3, 1) := by decide +kernel
theorem dX9_beside_109 : decode cX9_beside 109 = .ok (.iadd, 1) := by decide +kernel
theorem dX9_beside_110 : decode cX9_beside 110 = .ok (.iload 4, 2) := by decide +kernel
theorem dX9_beside_112 : decode cX9_beside 112 = .ok (.iastore, 1) := by decide +kernel
theorem dX9_beside_113 : decode cX9_beside 113 = .ok (.aload_n 0, 1) := by decide +kernel
theorem dX9_beside_114 : decode cX9_beside 114 = .ok (.getfield 20, 3) := by decide +kernel
theorem dX9_beside_117 : decode cX9_beside 117 = .ok (.bipush 6, 2) := by decide +kernel
theorem dX9_beside_119 : decode cX9_beside 119 = .ok (.dup2, 1) := by decide +kernel
theorem dX9_beside_120 : decode cX9_beside 120 = .ok (.iaload, 1) := by decide +kernel
theorem dX9_beside_121 : decode cX9_beside 121 = .ok (.iconst 1, 1) := by decide +kernel
theorem dX9_beside_122 : decode cX9_beside 122 = .ok (.iadd, 1) := by decide +kernel
theorem dX9_beside_123 : decode cX9_beside 123 = .ok (.iastore, 1) := by decide +kernel
theorem dX9_beside_124 : decode cX9_beside 124 = .ok (.return_, 1) := by decide +kernel
theorem dX9_tide_0 : decode cX9_tide 0 = .ok (.iconst 1, 1) := by decide +kernel
theorem dX9_tide_1 : decode cX9_tide 1 = .ok (.istore_n 1, 1) := by decide +kernel
theorem dX9_tide_2 : decode cX9_tide 2 = .ok (.iload_n 1, 1) := by decide +kernel
theorem dX9_tide_3 : decode cX9_tide 3 = .ok (.ifCond .eq 103, 3) := by decide +kernel
theorem dX9_tide_6 : decode cX9_tide 6 = .ok (.aload_n 0, 1) := by decide +kernel
theorem dX9_tide_7 : decode cX9_tide 7 = .ok (.getfield 20, 3) := by decide +kernel
theorem dX9_tide_10 : decode cX9_tide 10 = .ok (.bipush 68, 2) := by decide +kernel
theorem dX9_tide_12 : decode cX9_tide 12 = .ok (.aload_n 0, 1) := by decide +kernel
theorem dX9_tide_13 : decode cX9_tide 13 = .ok (.getfield 20, 3) := by decide +kernel
theorem dX9_tide_16 : decode cX9_tide 16 = .ok (.bipush 7, 2) := by decide +kernel
theorem dX9_tide_18 : decode cX9_tide 18 = .ok (.iaload, 1) := by decide +kernel
theorem dX9_tide_19 : decode cX9_tide 19 = .ok (.iadd, 1) := by decide +kernel
theorem dX9_tide_20 : decode cX9_tide 20 = .ok (.aload_n 0, 1) := by decide +kernel
theorem dX9_tide_21 : decode cX9_tide 21 = .ok (.iconst 0, 1) := by decide +kernel
theorem dX9_tide_22 : decode cX9_tide 22 = .ok (.bipush 40, 2) := by decide +kernel
theorem dX9_tide_24 : decode cX9_tide 24 = .ok (.invokevirtual 144, 3) := by decide +kernel
theorem dX9_tide_27 : decode cX9_tide 27 = .ok (.iastore, 1) := by decide +kernel
theorem dX9_tide_28 : decode cX9_tide 28 = .ok (.aload_n 0, 1) := by decide +kernel
theorem dX9_tide_29 : decode cX9_tide 29 = .ok (.getfield 20, 3) := by decide +kernel
theorem dX9_tide_32 : decode cX9_tide 32 = .ok (.bipush 7, 2) := by decide +kernel
theorem dX9_tide_34 : decode cX9_tide 34 = .ok (.dup2, 1) := by decide +kernel
theorem dX9_tide_35 : decode cX9_tide 35 = .ok (.iaload, 1) := by decide +kernel
theorem dX9_tide_36 : decode cX9_tide 36 = .ok (.iconst 1, 1) := by decide +kernel
theorem dX9_tide_37 : decode cX9_tide 37 = .ok (.iadd, 1) := by decide +kernel
theorem dX9_tide_38 : decode cX9_tide 38 = .ok (.iastore, 1) := by decide +kernel
theorem dX9_tide_39 : decode cX9_tide 39 = .ok (.aload_n 0, 1) := by decide +kernel
theorem dX9_tide_40 : decode cX9_tide 40 = .ok (.invokevirtual 129, 3) := by decide +kernel
theorem dX9_tide_43 : decode cX9_tide 43 = .ok (.ifCond .eq 24, 3) := by decide +kernel
theorem dX9_tide_46 : decode cX9_tide 46 = .ok (.aload_n 0, 1) := by decide +kernel
theorem dX9_tide_47 : decode cX9_tide 47 = .ok (.getfield 113, 3) := by decide +kernel
theorem dX9_tide_50 : decode cX9_tide 50 = .ok (.iconst 3, 1) := by decide +kernel
theorem dX9_tide_51 : decode cX9_tide 51 = .ok (.if_icmp .ne 16, 3) := by decide +kernel
theorem dX9_tide_54 : decode cX9_tide 54 = .ok (.aload_n 0, 1) := by decide +kernel
theorem dX9_tide_55 : decode cX9_tide 55 = .ok (.getfield 120, 3) := by decide +kernel
theorem dX9_tide_58 : decode cX9_tide 58 = .ok (.bipush 44, 2) := by decide +kernel
theorem dX9_tide_60 : decode cX9_tide 60 = .ok (.if_icmp .ne 7, 3) := by decide +kernel
theorem dX9_tide_63 : decode cX9_tide 63 = .ok (.iconst 1, 1) := by decide +kernel
theorem dX9_tide_64 : decode cX9_tide 64 = .ok (.goto 4, 3) := by decide +kernel
theorem dX9_tide_67 : decode cX9_tide 67 = .ok (.iconst 0, 1) := by decide +kernel
theorem dX9_tide_68 : decode cX9_tide 68 = .ok (.istore_n 1, 1) := by decide +kernel
theorem dX9_tide_69 : decode cX9_tide 69 = .ok (.iload_n 1, 1) := by decide +kernel
theorem dX9_tide_70 : decode cX9_tide 70 = .ok (.ifCond .eq 25, 3) := by decide +kernel
theorem dX9_tide_73 : decode cX9_tide 73 = .ok (.aload_n 0, 1) := by decide +kernel
theorem dX9_tide_74 : decode cX9_tide 74 = .ok (.getfield 20, 3) := by decide +kernel
theorem dX9_tide_77 : decode cX9_tide 77 = .ok (.bipush 7, 2) := by decide +kernel
theorem dX9_tide_79 : decode cX9_tide 79 = .ok (.iaload, 1) := by decide +kernel
theorem dX9_tide_80 : decode cX9_tide 80 = .ok (.bipush 12, 2) := by decide +kernel
theorem dX9_tide_82 : decode cX9_tide 82 = .ok (.if_icmp .ne 13, 3) := by decide +kernel
theorem dX9_tide_85 : decode cX9_tide 85 = .ok (.aload_n 0, 1) := by decide +kernel
theorem dX9_tide_86 : decode cX9_tide 86 = .ok (.iconst 1, 1) := by decide +kernel
theorem dX9_tide_87 : decode cX9_tide 87 = .ok (.invokevirtual 133, 3) := by decide +kernel
theorem dX9_tide_90 : decode cX9_tide 90 = .ok (.iconst 0, 1) := by decide +kernel
theorem dX9_tide_91 : decode cX9_tide 91 = .ok (.istore_n 1, 1) := by decide +kernel
theorem dX9_tide_92 : decode cX9_tide 92 = .ok (.goto (-90), 3) := by decide +kernel
theorem dX9_tide_95 : decode cX9_tide 95 = .ok (.iload_n 1, 1) := by decide +kernel
theorem dX9_tide_96 : decode cX9_tide 96 = .ok (.ifCond .eq (-94), 3) := by decide +kernel
theorem dX9_tide_99 : decode cX9_tide 99 = .ok (.aload_n 0, 1) := by decide +kernel
theorem dX9_tide_100 : decode cX9_tide 100 = .ok (.invokevirtual 137, 3) := by decide +kernel
theorem dX9_tide_103 : decode cX9_tide 103 = .ok (.goto (-101), 3) := by decide +kernel
theorem dX9_tide_106 : decode cX9_tide 106 = .ok (.return_, 1) := by decide +kernel
theorem dX9_clause_0 : decode cX9_clause 0 = .ok (.iload_n 1, 1) := by decide +kernel
theorem dX9_clause_1 : decode cX9_clause 1 = .ok (.ifCond .ne 10, 3) := by decide +kernel
theorem dX9_clause_4 : decode cX9_clause 4 = .ok (.aload_n 0, 1) := by decide +kernel
theorem dX9_clause_5 : decode cX9_clause 5 = .ok (.invokevirtual 152, 3) := by decide +kernel
theorem dX9_clause_8 : decode cX9_clause 8 = .ok (.goto 108, 3) := by decide +kernel
theorem dX9_clause_11 : decode cX9_clause 11 = .ok (.iload_n 1, 1) := by decide +kernel
theorem dX9_clause_12 : decode cX9_clause 12 = .ok (.iconst 1, 1) := by decide +kernel
theorem dX9_clause_13 : decode cX9_clause 13 = .ok (.if_icmp .ne 10, 3) := by decide +kernel
theorem dX9_clause_16 : decode cX9_clause 16 = .ok (.aload_n 0, 1) := by decide +kernel
theorem dX9_clause_17 : decode cX9_clause 17 = .ok (.invokevirtual 155, 3) := by decide +kernel
theorem dX9_clause_20 : decode cX9_clause 20 = .ok (.goto 96, 3) := by decide +kernel
theorem dX9_clause_23 : decode cX9_clause 23 = .ok (.iload_n 1, 1) := by decide +kernel
theorem dX9_clause_24 : decode cX9_clause 24 = .ok (.iconst 2, 1) := by decide +kernel
theorem dX9_clause_25 : decode cX9_clause 25 = .ok (.if_icmp .ne 10, 3) := by decide +kernel
theorem dX9_clause_28 : decode cX9_clause 28 = .ok (.aload_n 0, 1) := by decide +kernel
theorem dX9_clause_29 : decode cX9_clause 29 = .ok (.invokevirtual 158, 3) := by decide +kernel
theorem dX9_clause_32 : decode cX9_clause 32 = .ok (.goto 84, 3) := by decide +kernel
theorem dX9_clause_35 : decode cX9_clause 35 = .ok (.iload_n 1, 1) := by decide +kernel
theorem dX9_clause_36 : decode cX9_clause 36 = .ok (.iconst 3, 1) := by decide +kernel
theorem dX9_clause_37 : decode cX9_clause 37 = .ok (.if_icmp .ne 10, 3) := by decide +kernel
theorem dX9_clause_40 : decode cX9_clause 40 = .ok (.aload_n 0, 1) := by decide +kernel
theorem dX9_clause_41 : decode cX9_clause 41 = .ok (.invokevirtual 161, 3) := by decide +kernel
theorem dX9_clause_44 : decode cX9_clause 44 = .ok (.goto 72, 3) := by decide +kernel
theorem dX9_clause_47 : decode cX9_clause 47 = .ok (.iload_n 1, 1) := by decide +kernel
theorem dX9_clause_48 : decode cX9_clause 48 = .ok (.iconst 4, 1) := by decide +kernel
theorem dX9_clause_49 : decode cX9_clause 49 = .ok (.if_icmp .ne 10, 3) := by decide +kernel
theorem dX9_clause_52 : decode cX9_clause 52 = .ok (.aload_n 0, 1) := by decide +kernel
theorem dX9_clause_53 : decode cX9_clause 53 = .ok (.invokevirtual 164, 3) := by decide +kernel
theorem dX9_clause_56 : decode cX9_clause 56 = .ok (.goto 60, 3) := by decide +kernel
theorem dX9_clause_59 : decode cX9_clause 59 = .ok (.iload_n 1, 1) := by decide +kernel
theorem dX9_clause_60 : decode cX9_clause 60 = .ok (.iconst 5, 1) := by decide +kernel
theorem dX9_clause_61 : decode cX9_clause 61 = .ok (.if_icmp .ne 37, 3) := by decide +kernel
theorem dX9_clause_64 : decode cX9_clause 64 = .ok (.aload_n 0, 1) := by decide +kernel
theorem dX9_clause_65 : decode cX9_clause 65 = .ok (.getfield 20, 3) := by decide +kernel
theorem dX9_clause_68 : decode cX9_clause 68 = .ok (.bipush 80, 2) := by decide +kernel
theorem dX9_clause_70 : decode cX9_clause 70 = .ok (.aload_n 0, 1) := by decide +kernel
theorem dX9_clause_71 : decode cX9_clause 71 = .ok (.getfield 20, 3) := by decide +kernel
theorem dX9_clause_74 : decode cX9_clause 74 = .ok (.iconst 4, 1) := by decide +kernel
theorem dX9_clause_75 : decode cX9_clause 75 = .ok (.iaload, 1) := by decide +kernel
theorem dX9_clause_76 : decode cX9_clause 76 = .ok (.iadd, 1) := by decide +kernel
theorem dX9_clause_77 : decode cX9_clause 77 = .ok (.aload_n 0, 1) := by decide +kernel
theorem dX9_clause_78 : decode cX9_clause 78 = .ok (.iconst 0, 1) := by decide +kernel
theorem dX9_clause_79 : decode cX9_clause 79 = .ok (.bipush 60, 2) := by decide +kernel
theorem dX9_clause_81 : decode cX9_clause 81 = .ok (.invokevirtual 144, 3) := by decide +kernel
theorem dX9_clause_84 : decode cX9_clause 84 = .ok (.iastore, 1) := by decide +kernel
theorem dX9_clause_85 : decode cX9_clause 85 = .ok (.aload_n 0, 1) := by decide +kernel
theorem dX9_clause_86 : decode cX9_clause 86 = .ok (.getfield 20, 3) := by decide +kernel
theorem dX9_clause_89 : decode cX9_clause 89 = .ok (.iconst 4, 1) := by decide +kernel
theorem dX9_clause_90 : decode cX9_clause 90 = .ok (.dup2, 1) := by decide +kernel
theorem dX9_clause_91 : decode cX9_clause 91 = .ok (.iaload, 1) := by decide +kernel
theorem dX9_clause_92 : decode cX9_clause 92 = .ok (.iconst 1, 1) := by decide +kernel
theorem dX9_clause_93 : decode cX9_clause 93 = .ok (.iadd, 1) := by decide +kernel
theorem dX9_clause_94 : decode cX9_clause 94 = .ok (.iastore, 1) := by decide +kernel
theorem dX9_clause_95 : decode cX9_clause 95 = .ok (.goto 21, 3) := by decide +kernel
theorem dX9_clause_98 : decode cX9_clause 98 = .ok (.aload_n 0, 1) := by decide +kernel
theorem dX9_clause_99 : decode cX9_clause 99 = .ok (.getfield 20, 3) := by decide +kernel
theorem dX9_clause_102 : decode cX9_clause 102 = .ok (.iconst 5, 1) := by decide +kernel
theorem dX9_clause_103 : decode cX9_clause 103 = .ok (.aload_n 0, 1) := by decide +kernel
theorem dX9_clause_104 : decode cX9_clause 104 = .ok (.iconst 1, 1) := by decide +kernel
theorem dX9_clause_105 : decode cX9_clause 105 = .ok (.bipush 120, 2) := by decide +kernel
theorem dX9_clause_107 : decode cX9_clause 107 = .ok (.invokevirtual 144, 3) := by decide +kernel
theorem dX9_clause_110 : decode cX9_clause 110 = .ok (.iastore, 1) := by decide +kernel
theorem dX9_clause_111 : decode cX9_clause 111 = .ok (.aload_n 0, 1) := by decide +kernel
theorem dX9_clause_112 : decode cX9_clause 112 = .ok (.iconst 1, 1) := by decide +kernel
theorem dX9_clause_113 : decode cX9_clause 113 = .ok (.putfield 167, 3) := by decide +kernel
theorem dX9_clause_116 : decode cX9_clause 116 = .ok (.aload_n 0, 1) := by decide +kernel
theorem dX9_clause_117 : decode cX9_clause 117 = .ok (.invokevirtual 171, 3) := by decide +kernel
theorem dX9_clause_120 : decode cX9_clause 120 = .ok (.return_, 1) := by decide +kernel
theorem dX9_faultOf_0 : decode cX9_faultOf 0 = .ok (.aload_n 0, 1) := by decide +kernel
theorem dX9_faultOf_1 : decode cX9_faultOf 1 = .ok (.getfield 113, 3) := by decide +kernel
theorem dX9_faultOf_4 : decode cX9_faultOf 4 = .ok (.iconst 1, 1) := by decide +kernel
theorem dX9_faultOf_5 : decode cX9_faultOf 5 = .ok (.if_icmp .ne 43, 3) := by decide +kernel
theorem dX9_faultOf_8 : decode cX9_faultOf 8 = .ok (.aload_n 0, 1) := by decide +kernel
theorem dX9_faultOf_9 : decode cX9_faultOf 9 = .ok (.getfield 120, 3) := by decide +kernel
theorem dX9_faultOf_12 : decode cX9_faultOf 12 = .ok (.iconst 0, 1) := by decide +kernel
theorem dX9_faultOf_13 : decode cX9_faultOf 13 = .ok (.bipush 6, 2) := by decide +kernel
theorem dX9_faultOf_15 : decode cX9_faultOf 15 = .ok (.invokestatic 82, 3) := by decide +kernel
theorem dX9_faultOf_18 : decode cX9_faultOf 18 = .ok (.ifCond .eq 30, 3) := by decide +kernel
theorem dX9_faultOf_21 : decode cX9_faultOf 21 = .ok (.iload_n 1, 1) := by decide +kernel
theorem dX9_faultOf_22 : decode cX9_faultOf 22 = .ok (.aload_n 0, 1) := by decide +kernel
theorem dX9_faultOf_23 : decode cX9_faultOf 23 = .ok (.getfield 120, 3) := by decide +kernel
theorem dX9_faultOf_26 : decode cX9_faultOf 26 = .ok (.ifCond .ne 7, 3) := by decide +kernel
theorem dX9_faultOf_29 : decode cX9_faultOf 29 = .ok (.iconst 1, 1) := by decide +kernel
theorem dX9_faultOf_30 : decode cX9_faultOf 30 = .ok (.goto 4, 3) := by decide +kernel
theorem dX9_faultOf_33 : decode cX9_faultOf 33 = .ok (.iconst 0, 1) := by decide +kernel
theorem dX9_faultOf_34 : decode cX9_faultOf 34 = .ok (.if_icmp .eq 16, 3) := by decide +kernel
theorem dX9_faultOf_37 : decode cX9_faultOf 37 = .ok (.iload_n 1, 1) := by decide +kernel
theorem dX9_faultOf_38 : decode cX9_faultOf 38 = .ok (.ifCond .ne 10, 3) := by decide +kernel
theorem dX9_faultOf_41 : decode cX9_faultOf 41 = .ok (.aload_n 0, 1) := by decide +kernel
theorem dX9_faultOf_42 : decode cX9_faultOf 42 = .ok (.getfield 120, 3) := by decide +kernel
theorem dX9_faultOf_45 : decode cX9_faultOf 45 = .ok (.ifCond .eq 5, 3) := by decide +kernel
theorem dX9_faultOf_48 : decode cX9_faultOf 48 = .ok (.iconst 1, 1) := by decide +kernel
theorem dX9_faultOf_49 : decode cX9_faultOf 49 = .ok (.ireturn, 1) := by decide +kernel
theorem dX9_faultOf_50 : decode cX9_faultOf 50 = .ok (.aload_n 0, 1) := by decide +kernel
theorem dX9_faultOf_51 : decode cX9_faultOf 51 = .ok (.getfield 120, 3) := by decide +kernel
theorem dX9_faultOf_54 : decode cX9_faultOf 54 = .ok (.iconst 1, 1) := by decide +kernel
theorem dX9_faultOf_55 : decode cX9_faultOf 55 = .ok (.if_icmp .ne 14, 3) := by decide +kernel
theorem dX9_faultOf_58 : decode cX9_faultOf 58 = .ok (.aload_n 0, 1) := by decide +kernel
theorem dX9_faultOf_59 : decode cX9_faultOf 59 = .ok (.getfield 20, 3) := by decide +kernel
theorem dX9_faultOf_62 : decode cX9_faultOf 62 = .ok (.iconst 3, 1) := by decide +kernel
theorem dX9_faultOf_63 : decode cX9_faultOf 63 = .ok (.iaload, 1) := by decide +kernel
theorem dX9_faultOf_64 : decode cX9_faultOf 64 = .ok (.bipush 6, 2) := by decide +kernel
theorem dX9_faultOf_66 : decode cX9_faultOf 66 = .ok (.if_icmp .eq 41, 3) := by decide +kernel
theorem dX9_faultOf_69 : decode cX9_faultOf 69 = .ok (.aload_n 0, 1) := by decide +kernel
theorem dX9_faultOf_70 : decode cX9_faultOf 70 = .ok (.getfield 120, 3) := by decide +kernel
theorem dX9_faultOf_73 : decode cX9_faultOf 73 = .ok (.iconst 3, 1) := by decide +kernel
theorem dX9_faultOf_74 : decode cX9_faultOf 74 = .ok (.if_icmp .ne 15, 3) := by decide +kernel
theorem dX9_faultOf_77 : decode cX9_faultOf 77 = .ok (.aload_n 0, 1) := by decide +kernel
theorem dX9_faultOf_78 : decode cX9_faultOf 78 = .ok (.getfield 20, 3) := by decide +kernel
theorem dX9_faultOf_81 : decode cX9_faultOf 81 = .ok (.bipush 6, 2) := by decide +kernel
theorem dX9_faultOf_83 : decode cX9_faultOf 83 = .ok (.iaload, 1) := by decide +kernel
theorem dX9_faultOf_84 : decode cX9_faultOf 84 = .ok (.bipush 12, 2) := by decide +kernel
theorem dX9_faultOf_86 : decode cX9_faultOf 86 = .ok (.if_icmp .eq 21, 3) := by decide +kernel
theorem dX9_faultOf_89 : decode cX9_faultOf 89 = .ok (.aload_n 0, 1) := by decide +kernel
theorem dX9_faultOf_90 : decode cX9_faultOf 90 = .ok (.getfield 120, 3) := by decide +kernel
theorem dX9_faultOf_93 : decode cX9_faultOf 93 = .ok (.iconst 4, 1) := by decide +kernel
theorem dX9_faultOf_94 : decode cX9_faultOf 94 = .ok (.if_icmp .ne 17, 3) := by decide +kernel
theorem dX9_faultOf_97 : decode cX9_faultOf 97 = .ok (.aload_n 0, 1) := by decide +kernel
theorem dX9_faultOf_98 : decode cX9_faultOf 98 = .ok (.getfield 20, 3) := by decide +kernel
theorem dX9_faultOf_101 : decode cX9_faultOf 101 = .ok (.bipush 7, 2) := by decide +kernel
theorem dX9_faultOf_103 : decode cX9_faultOf 103 = .ok (.iaload, 1) := by decide +kernel
theorem dX9_faultOf_104 : decode cX9_faultOf 104 = .ok (.ifCond .le 7, 3) := by decide +kernel
theorem dX9_faultOf_107 : decode cX9_faultOf 107 = .ok (.iconst 1, 1) := by decide +kernel
theorem dX9_faultOf_108 : decode cX9_faultOf 108 = .ok (.goto 4, 3) := by decide +kernel
theorem dX9_faultOf_111 : decode cX9_faultOf 111 = .ok (.iconst 0, 1) := by decide +kernel
theorem dX9_faultOf_112 : decode cX9_faultOf 112 = .ok (.istore_n 2, 1) := by decide +kernel
theorem dX9_faultOf_113 : decode cX9_faultOf 113 = .ok (.aload_n 0, 1) := by decide +kernel
theorem dX9_faultOf_114 : decode cX9_faultOf 114 = .ok (.getfield 120, 3) := by decide +kernel
theorem dX9_faultOf_117 : decode cX9_faultOf 117 = .ok (.iconst 5, 1) := by decide +kernel
theorem dX9_faultOf_118 : decode cX9_faultOf 118 = .ok (.if_icmp .ne 13, 3) := by decide +kernel
theorem dX9_faultOf_121 : decode cX9_faultOf 121 = .ok (.aload_n 0, 1) := by decide +kernel
theorem dX9_faultOf_122 : decode cX9_faultOf 122 = .ok (.getfield 20, 3) := by decide +kernel
theorem dX9_faultOf_125 : decode cX9_faultOf 125 = .ok (.iconst 4, 1) := by decide +kernel
theorem dX9_faultOf_126 : decode cX9_faultOf 126 = .ok (.iaload, 1) := by decide +kernel
theorem dX9_faultOf_127 : decode cX9_faultOf 127 = .ok (.iconst 4, 1) := by decide +kernel
theorem dX9_faultOf_128 : decode cX9_faultOf 128 = .ok (.if_icmp .eq 30, 3) := by decide +kernel
theorem dX9_faultOf_131 : decode cX9_faultOf 131 = .ok (.aload_n 0, 1) := by decide +kernel
theorem dX9_faultOf_132 : decode cX9_faultOf 132 = .ok (.getfield 120, 3) := by decide +kernel
theorem dX9_faultOf_135 : decode cX9_faultOf 135 = .ok (.bipush 6, 2) := by decide +kernel
theorem dX9_faultOf_137 : decode cX9_faultOf 137 = .ok (.if_icmp .ne 10, 3) := by decide +kernel
theorem dX9_faultOf_140 : decode cX9_faultOf 140 = .ok (.aload_n 0, 1) := by decide +kernel
theorem dX9_faultOf_141 : decode cX9_faultOf 141 = .ok (.getfield 167, 3) := by decide +kernel
theorem dX9_faultOf_144 : decode cX9_faultOf 144 = .ok (.ifCond .ne 14, 3) := by decide +kernel
theorem dX9_faultOf_147 : decode cX9_faultOf 147 = .ok (.aload_n 0, 1) := by decide +kernel
theorem dX9_faultOf_148 : decode cX9_faultOf 148 = .ok (.getfield 120, 3) := by decide +kernel
theorem dX9_faultOf_151 : decode cX9_faultOf 151 = .ok (.ifCond .ne 11, 3) := by decide +kernel
theorem dX9_faultOf_154 : decode cX9_faultOf 154 = .ok (.iload_n 1, 1) := by decide +kernel
theorem dX9_faultOf_155 : decode cX9_faultOf 155 = .ok (.ifCond .ne 7, 3) := by decide +kernel
theorem dX9_faultOf_158 : decode cX9_faultOf 158 = .ok (.iconst 1, 1) := by decide +kernel
theorem dX9_faultOf_159 : decode cX9_faultOf 159 = .ok (.goto 4, 3) := by decide +kernel
theorem dX9_faultOf_162 : decode cX9_faultOf 162 = .ok (.iconst 0, 1) := by decide +kernel
theorem dX9_faultOf_163 : decode cX9_faultOf 163 = .ok (.istore_n 3, 1) := by decide +kernel
theorem dX9_faultOf_164 : decode cX9_faultOf 164 = .ok (.iload_n 2, 1) := by decide +kernel
theorem dX9_faultOf_165 : decode cX9_faultOf 165 = .ok (.ifCond .ne 7, 3) := by decide +kernel
theorem dX9_faultOf_168 : decode cX9_faultOf 168 = .ok (.iload_n 3, 1) := by decide +kernel
theorem dX9_faultOf_169 : decode cX9_faultOf 169 = .ok (.ifCond .eq 7, 3) := by decide +kernel
theorem dX9_faultOf_172 : decode cX9_faultOf 172 = .ok (.iconst 3, 1) := by decide +kernel
theorem dX9_faultOf_173 : decode cX9_faultOf 173 = .ok (.goto 4, 3) := by decide +kernel
theorem dX9_faultOf_176 : decode cX9_faultOf 176 = .ok (.iconst 0, 1) := by decide +kernel
theorem dX9_faultOf_177 : decode cX9_faultOf 177 = .ok (.ireturn, 1) := by decide +kernel
theorem dX9_ferry_0 : decode cX9_ferry 0 = .ok (.aload_n 0, 1) := by decide +kernel
theorem dX9_ferry_1 : decode cX9_ferry 1 = .ok (.iconst 0, 1) := by decide +kernel
theorem dX9_ferry_2 : decode cX9_ferry 2 = .ok (.putfield 76, 3) := by decide +kernel
theorem dX9_ferry_5 : decode cX9_ferry 5 = .ok (.aload_n 0, 1) := by decide +kernel
theorem dX9_ferry_6 : decode cX9_ferry 6 = .ok (.iconst 0, 1) := by decide +kernel
theorem dX9_ferry_7 : decode cX9_ferry 7 = .ok (.putfield 126, 3) := by decide +kernel
theorem dX9_ferry_10 : decode cX9_ferry 10 = .ok (.aload_n 0, 1) := by decide +kernel
theorem dX9_ferry_11 : decode cX9_ferry 11 = .ok (.iconst (-1), 1) := by decide +kernel
theorem dX9_ferry_12 : decode cX9_ferry 12 = .ok (.putfield 13, 3) := by decide +kernel
theorem dX9_ferry_15 : decode cX9_ferry 15 = .ok (.aload_n 0, 1) := by decide +kernel
theorem dX9_ferry_16 : decode cX9_ferry 16 = .ok (.iconst 0, 1) := by decide +kernel
theorem dX9_ferry_17 : decode cX9_ferry 17 = .ok (.putfield 103, 3) := by decide +kernel
theorem dX9_ferry_20 : decode cX9_ferry 20 = .ok (.aload_n 0, 1) := by decide +kernel
theorem dX9_ferry_21 : decode cX9_ferry 21 = .ok (.getfield 20, 3) := by decide +kernel
theorem dX9_ferry_24 : decode cX9_ferry 24 = .ok (.invokestatic 69, 3) := by decide +kernel
theorem dX9_ferry_27 : decode cX9_ferry 27 = .ok (.aload_n 0, 1) := by decide +kernel
theorem dX9_ferry_28 : decode cX9_ferry 28 = .ok (.iconst 0, 1) := by decide +kernel
theorem dX9_ferry_29 : decode cX9_ferry 29 = .ok (.putfield 167, 3) := by decide +kernel
theorem dX9_ferry_32 : decode cX9_ferry 32 = .ok (.iconst 0, 1) := by decide +kernel
theorem dX9_ferry_33 : decode cX9_ferry 33 = .ok (.istore_n 1, 1) := by decide +kernel
theorem dX9_ferry_34 : decode cX9_ferry 34 = .ok (.iload_n 1, 1) := by decide +kernel
theorem dX9_ferry_35 : decode cX9_ferry 35 = .ok (.bipush 6, 2) := by decide +kernel
theorem dX9_ferry_37 : decode cX9_ferry 37 = .ok (.if_icmp .ge 16, 3) := by decide +kernel
theorem dX9_ferry_40 : decode cX9_ferry 40 = .ok (.aload_n 0, 1) := by decide +kernel
theorem dX9_ferry_41 : decode cX9_ferry 41 = .ok (.getfield 57, 3) := by decide +kernel
theorem dX9_ferry_44 : decode cX9_ferry 44 = .ok (.iload_n 1, 1) := by decide +kernel
theorem dX9_ferry_45 : decode cX9_ferry 45 = .ok (.iconst 0, 1) := by decide +kernel
theorem dX9_ferry_46 : decode cX9_ferry 46 = .ok (.iastore, 1) := by decide +kernel
theorem dX9_ferry_47 : decode cX9_ferry 47 = .ok (.iinc 1 1, 3) := by decide +kernel
theorem dX9_ferry_50 : decode cX9_ferry 50 = .ok (.goto (-16), 3) := by decide +kernel
theorem dX9_ferry_53 : decode cX9_ferry 53 = .ok (.aload_n 0, 1) := by decide +kernel
theorem dX9_ferry_54 : decode cX9_ferry 54 = .ok (.invokevirtual 137, 3) := by decide +kernel
theorem dX9_ferry_57 : decode cX9_ferry 57 = .ok (.iconst 1, 1) := by decide +kernel
theorem dX9_ferry_58 : decode cX9_ferry 58 = .ok (.istore_n 1, 1) := by decide +kernel
theorem dX9_ferry_59 : decode cX9_ferry 59 = .ok (.aload_n 0, 1) := by decide +kernel
theorem dX9_ferry_60 : decode cX9_ferry 60 = .ok (.invokevirtual 129, 3) := by decide +kernel
theorem dX9_ferry_63 : decode cX9_ferry 63 = .ok (.ifCond .eq 43, 3) := by decide +kernel
theorem dX9_ferry_66 : decode cX9_ferry 66 = .ok (.aload_n 0, 1) := by decide +kernel
theorem dX9_ferry_67 : decode cX9_ferry 67 = .ok (.getfield 113, 3) := by decide +kernel
theorem dX9_ferry_70 : decode cX9_ferry 70 = .ok (.ifCond .eq 36, 3) := by decide +kernel
theorem dX9_ferry_73 : decode cX9_ferry 73 = .ok (.aload_n 0, 1) := by decide +kernel
theorem dX9_ferry_74 : decode cX9_ferry 74 = .ok (.iload_n 1, 1) := by decide +kernel
theorem dX9_ferry_75 : decode cX9_ferry 75 = .ok (.invokevirtual 174, 3) := by decide +kernel
theorem dX9_ferry_78 : decode cX9_ferry 78 = .ok (.istore_n 2, 1) := by decide +kernel
theorem dX9_ferry_79 : decode cX9_ferry 79 = .ok (.iload_n 2, 1) := by decide +kernel
theorem dX9_ferry_80 : decode cX9_ferry 80 = .ok (.ifCond .le 11, 3) := by decide +kernel
theorem dX9_ferry_83 : decode cX9_ferry 83 = .ok (.aload_n 0, 1) := by decide +kernel
theorem dX9_ferry_84 : decode cX9_ferry 84 = .ok (.iload_n 2, 1) := by decide +kernel
theorem dX9_ferry_85 : decode cX9_ferry 85 = .ok (.invokevirtual 133, 3) := by decide +kernel
theorem dX9_ferry_88 : decode cX9_ferry 88 = .ok (.goto 13, 3) := by decide +kernel
theorem dX9_ferry_91 : decode cX9_ferry 91 = .ok (.aload_n 0, 1) := by decide +kernel
theorem dX9_ferry_92 : decode cX9_ferry 92 = .ok (.aload_n 0, 1) := by decide +kernel
theorem dX9_ferry_93 : decode cX9_ferry 93 = .ok (.iconst 1, 1) := by decide +kernel
theorem dX9_ferry_94 : decode cX9_ferry 94 = .ok (.iconst 1, 1) := by decide +kernel
theorem dX9_ferry_95 : decode cX9_ferry 95 = .ok (.invokevirtual 140, 3) := by decide +kernel
theorem dX9_ferry_98 : decode cX9_ferry 98 = .ok (.invokevirtual 178, 3) := by decide +kernel
theorem dX9_ferry_101 : decode cX9_ferry 101 = .ok (.iconst 0, 1) := by decide +kernel
theorem dX9_ferry_102 : decode cX9_ferry 102 = .ok (.istore_n 1, 1) := by decide +kernel
theorem dX9_ferry_103 : decode cX9_ferry 103 = .ok (.goto (-44), 3) := by decide +kernel
theorem dX9_ferry_106 : decode cX9_ferry 106 = .ok (.aload_n 0, 1) := by decide +kernel
theorem dX9_ferry_107 : decode cX9_ferry 107 = .ok (.iconst 0, 1) := by decide +kernel
theorem dX9_ferry_108 : decode cX9_ferry 108 = .ok (.putfield 87, 3) := by decide +kernel
theorem dX9_ferry_111 : decode cX9_ferry 111 = .ok (.aload_n 0, 1) := by decide +kernel
theorem dX9_ferry_112 : decode cX9_ferry 112 = .ok (.invokevirtual 129, 3) := by decide +kernel
theorem dX9_ferry_115 : decode cX9_ferry 115 = .ok (.ifCond .ne 11, 3) := by decide +kernel
theorem dX9_ferry_118 : decode cX9_ferry 118 = .ok (.bipush (-10), 2) := by decide +kernel
theorem dX9_ferry_120 : decode cX9_ferry 120 = .ok (.aload_n 0, 1) := by decide +kernel
theorem dX9_ferry_121 : decode cX9_ferry 121 = .ok (.getfield 126, 3) := by decide +kernel
theorem dX9_ferry_124 : decode cX9_ferry 124 = .ok (.isub, 1) := by decide +kernel
theorem dX9_ferry_125 : decode cX9_ferry 125 = .ok (.ireturn, 1) := by decide +kernel
theorem dX9_ferry_126 : decode cX9_ferry 126 = .ok (.iconst 0, 1) := by decide +kernel
theorem dX9_ferry_127 : decode cX9_ferry 127 = .ok (.istore_n 2, 1) := by decide +kernel
theorem dX9_ferry_128 : decode cX9_ferry 128 = .ok (.iload_n 2, 1) := by decide +kernel
theorem dX9_ferry_129 : decode cX9_ferry 129 = .ok (.bipush 84, 2) := by decide +kernel
theorem dX9_ferry_131 : decode cX9_ferry 131 = .ok (.if_icmp .ge 21, 3) := by decide +kernel
theorem dX9_ferry_134 : decode cX9_ferry 134 = .ok (.aload_n 0, 1) := by decide +kernel
theorem dX9_ferry_135 : decode cX9_ferry 135 = .ok (.getfield 17, 3) := by decide +kernel
theorem dX9_ferry_138 : decode cX9_ferry 138 = .ok (.iload_n 2, 1) := by decide +kernel
theorem dX9_ferry_139 : decode cX9_ferry 139 = .ok (.aload_n 0, 1) := by decide +kernel
theorem dX9_ferry_140 : decode cX9_ferry 140 = .ok (.getfield 20, 3) := by decide +kernel
theorem dX9_ferry_143 : decode cX9_ferry 143 = .ok (.iload_n 2, 1) := by decide +kernel
theorem dX9_ferry_144 : decode cX9_ferry 144 = .ok (.iaload, 1) := by decide +kernel
theorem dX9_ferry_145 : decode cX9_ferry 145 = .ok (.iastore, 1) := by decide +kernel
theorem dX9_ferry_146 : decode cX9_ferry 146 = .ok (.iinc 2 1, 3) := by decide +kernel
theorem dX9_ferry_149 : decode cX9_ferry 149 = .ok (.goto (-21), 3) := by decide +kernel
theorem dX9_ferry_152 : decode cX9_ferry 152 = .ok (.aload_n 0, 1) := by decide +kernel
theorem dX9_ferry_153 : decode cX9_ferry 153 = .ok (.invokevirtual 73, 3) := by decide +kernel
theorem dX9_ferry_156 : decode cX9_ferry 156 = .ok (.aload_n 0, 1) := by decide +kernel
theorem dX9_ferry_157 : decode cX9_ferry 157 = .ok (.getfield 17, 3) := by decide +kernel
theorem dX9_ferry_160 : decode cX9_ferry 160 = .ok (.iconst 0, 1) := by decide +kernel
theorem dX9_ferry_161 : decode cX9_ferry 161 = .ok (.iaload, 1) := by decide +kernel
theorem dX9_ferry_162 : decode cX9_ferry 162 = .ok (.ireturn, 1) := by decide +kernel
theorem dX9_fault_0 : decode cX9_fault 0 = .ok (.aload_n 0, 1) := by decide +kernel
theorem dX9_fault_1 : decode cX9_fault 1 = .ok (.iconst 0, 1) := by decide +kernel
theorem dX9_fault_2 : decode cX9_fault 2 = .ok (.putfield 76, 3) := by decide +kernel
theorem dX9_fault_5 : decode cX9_fault 5 = .ok (.aload_n 0, 1) := by decide +kernel
theorem dX9_fault_6 : decode cX9_fault 6 = .ok (.getfield 13, 3) := by decide +kernel
theorem dX9_fault_9 : decode cX9_fault 9 = .ok (.ireturn, 1) := by decide +kernel
theorem dX9_tideOf_0 : decode cX9_tideOf 0 = .ok (.aload_n 0, 1) := by decide +kernel
theorem dX9_tideOf_1 : decode cX9_tideOf 1 = .ok (.getfield 17, 3) := by decide +kernel
theorem dX9_tideOf_4 : decode cX9_tideOf 4 = .ok (.bipush 7, 2) := by decide +kernel
theorem dX9_tideOf_6 : decode cX9_tideOf 6 = .ok (.iaload, 1) := by decide +kernel
theorem dX9_tideOf_7 : decode cX9_tideOf 7 = .ok (.ifCond .ne 7, 3) := by decide +kernel
theorem dX9_tideOf_10 : decode cX9_tideOf 10 = .ok (.iconst 0, 1) := by decide +kernel
theorem dX9_tideOf_11 : decode cX9_tideOf 11 = .ok (.goto 23, 3) := by decide +kernel
theorem dX9_tideOf_14 : decode cX9_tideOf 14 = .ok (.aload_n 0, 1) := by decide +kernel
theorem dX9_tideOf_15 : decode cX9_tideOf 15 = .ok (.getfield 17, 3) := by decide +kernel
theorem dX9_tideOf_18 : decode cX9_tideOf 18 = .ok (.bipush 68, 2) := by decide +kernel
theorem dX9_tideOf_20 : decode cX9_tideOf 20 = .ok (.iload_n 1, 1) := by decide +kernel
theorem dX9_tideOf_21 : decode cX9_tideOf 21 = .ok (.aload_n 0, 1) := by decide +kernel
theorem dX9_tideOf_22 : decode cX9_tideOf 22 = .ok (.getfield 17, 3) := by decide +kernel
theorem dX9_tideOf_25 : decode cX9_tideOf 25 = .ok (.bipush 7, 2) := by decide +kernel
theorem dX9_tideOf_27 : decode cX9_tideOf 27 = .ok (.iaload, 1) := by decide +kernel
theorem dX9_tideOf_28 : decode cX9_tideOf 28 = .ok (.irem, 1) := by decide +kernel
theorem dX9_tideOf_29 : decode cX9_tideOf 29 = .ok (.iadd, 1) := by decide +kernel
theorem dX9_tideOf_30 : decode cX9_tideOf 30 = .ok (.iaload, 1) := by decide +kernel
theorem dX9_tideOf_31 : decode cX9_tideOf 31 = .ok (.bipush 20, 2) := by decide +kernel
theorem dX9_tideOf_33 : decode cX9_tideOf 33 = .ok (.isub, 1) := by decide +kernel
theorem dX9_tideOf_34 : decode cX9_tideOf 34 = .ok (.ireturn, 1) := by decide +kernel
theorem dX9_told_0 : decode cX9_told 0 = .ok (.aload_n 0, 1) := by decide +kernel
theorem dX9_told_1 : decode cX9_told 1 = .ok (.iconst 0, 1) := by decide +kernel
theorem dX9_told_2 : decode cX9_told 2 = .ok (.putfield 76, 3) := by decide +kernel
theorem dX9_told_5 : decode cX9_told 5 = .ok (.iload_n 1, 1) := by decide +kernel
theorem dX9_told_6 : decode cX9_told 6 = .ok (.iconst 0, 1) := by decide +kernel
theorem dX9_told_7 : decode cX9_told 7 = .ok (.bipush 12, 2) := by decide +kernel
theorem dX9_told_9 : decode cX9_told 9 = .ok (.invokestatic 82, 3) := by decide +kernel
theorem dX9_told_12 : decode cX9_told 12 = .ok (.ifCond .ne 6, 3) := by decide +kernel
theorem dX9_told_15 : decode cX9_told 15 = .ok (.ldc 86, 2) := by decide +kernel
theorem dX9_told_17 : decode cX9_told 17 = .ok (.ireturn, 1) := by decide +kernel
theorem dX9_told_18 : decode cX9_told 18 = .ok (.iload_n 1, 1) := by decide +kernel
theorem dX9_told_19 : decode cX9_told 19 = .ok (.bipush 6, 2) := by decide +kernel
theorem dX9_told_21 : decode cX9_told 21 = .ok (.if_icmp .ge 10, 3) := by decide +kernel
theorem dX9_told_24 : decode cX9_told 24 = .ok (.aload_n 0, 1) := by decide +kernel
theorem dX9_told_25 : decode cX9_told 25 = .ok (.getfield 17, 3) := by decide +kernel
theorem dX9_told_28 : decode cX9_told 28 = .ok (.iload_n 1, 1) := by decide +kernel
theorem dX9_told_29 : decode cX9_told 29 = .ok (.iaload, 1) := by decide +kernel
theorem dX9_told_30 : decode cX9_told 30 = .ok (.ireturn, 1) := by decide +kernel
theorem dX9_told_31 : decode cX9_told 31 = .ok (.iload_n 1, 1) := by decide +kernel
theorem dX9_told_32 : decode cX9_told 32 = .ok (.bipush 11, 2) := by decide +kernel
theorem dX9_told_34 : decode cX9_told 34 = .ok (.if_icmp .ge 69, 3) := by decide +kernel
theorem dX9_told_37 : decode cX9_told 37 = .ok (.iload_n 1, 1) := by decide +kernel
theorem dX9_told_38 : decode cX9_told 38 = .ok (.bipush 6, 2) := by decide +kernel
theorem dX9_told_40 : decode cX9_told 40 = .ok (.if_icmp .ne 10, 3) := by decide +kernel
theorem dX9_told_43 : decode cX9_told 43 = .ok (.aload_n 0, 1) := by decide +kernel
theorem dX9_told_44 : decode cX9_told 44 = .ok (.getfield 87, 3) := by decide +kernel
theorem dX9_told_47 : decode cX9_told 47 = .ok (.goto 55, 3) := by decide +kernel
theorem dX9_told_50 : decode cX9_told 50 = .ok (.iload_n 1, 1) := by decide +kernel
theorem dX9_told_51 : decode cX9_told 51 = .ok (.bipush 7, 2) := by decide +kernel
theorem dX9_told_53 : decode cX9_told 53 = .ok (.if_icmp .ne 13, 3) := by decide +kernel
theorem dX9_told_56 : decode cX9_told 56 = .ok (.aload_n 0, 1) := by decide +kernel
theorem dX9_told_57 : decode cX9_told 57 = .ok (.getfield 23, 3) := by decide +kernel
theorem dX9_told_60 : decode cX9_told 60 = .ok (.bipush 9, 2) := by decide +kernel
theorem dX9_told_62 : decode cX9_told 62 = .ok (.iaload, 1) := by decide +kernel
theorem dX9_told_63 : decode cX9_told 63 = .ok (.goto 39, 3) := by decide +kernel
theorem dX9_told_66 : decode cX9_told 66 = .ok (.iload_n 1, 1) := by decide +kernel
theorem dX9_told_67 : decode cX9_told 67 = .ok (.bipush 8, 2) := by decide +kernel
theorem dX9_told_69 : decode cX9_told 69 = .ok (.if_icmp .ne 13, 3) := by decide +kernel
theorem dX9_told_72 : decode cX9_told 72 = .ok (.aload_n 0, 1) := by decide +kernel
theorem dX9_told_73 : decode cX9_told 73 = .ok (.getfield 23, 3) := by decide +kernel
theorem dX9_told_76 : decode cX9_told 76 = .ok (.bipush 10, 2) := by decide +kernel
theorem dX9_told_78 : decode cX9_told 78 = .ok (.iaload, 1) := by decide +kernel
theorem dX9_told_79 : decode cX9_told 79 = .ok (.goto 23, 3) := by decide +kernel
theorem dX9_told_82 : decode cX9_told 82 = .ok (.iload_n 1, 1) := by decide +kernel
theorem dX9_told_83 : decode cX9_told 83 = .ok (.bipush 9, 2) := by decide +kernel
theorem dX9_told_85 : decode cX9_told 85 = .ok (.if_icmp .ne 13, 3) := by decide +kernel
theorem dX9_told_88 : decode cX9_told 88 = .ok (.aload_n 0, 1) := by decide +kernel
theorem dX9_told_89 : decode cX9_told 89 = .ok (.getfield 23, 3) := by decide +kernel
theorem dX9_told_92 : decode cX9_told 92 = .ok (.bipush 11, 2) := by decide +kernel
theorem dX9_told_94 : decode cX9_told 94 = .ok (.iaload, 1) := by decide +kernel
theorem dX9_told_95 : decode cX9_told 95 = .ok (.goto 7, 3) := by decide +kernel
theorem dX9_told_98 : decode cX9_told 98 = .ok (.aload_n 0, 1) := by decide +kernel
theorem dX9_told_99 : decode cX9_told 99 = .ok (.getfield 79, 3) := by decide +kernel
theorem dX9_told_102 : decode cX9_told 102 = .ok (.ireturn, 1) := by decide +kernel
theorem dX9_told_103 : decode cX9_told 103 = .ok (.iconst 0, 1) := by decide +kernel
theorem dX9_told_104 : decode cX9_told 104 = .ok (.istore_n 2, 1) := by decide +kernel
theorem dX9_told_105 : decode cX9_told 105 = .ok (.iconst 0, 1) := by decide +kernel
theorem dX9_told_106 : decode cX9_told 106 = .ok (.istore_n 3, 1) := by decide +kernel
theorem dX9_told_107 : decode cX9_told 107 = .ok (.iload_n 3, 1) := by decide +kernel
theorem dX9_told_108 : decode cX9_told 108 = .ok (.aload_n 0, 1) := by decide +kernel
theorem dX9_told_109 : decode cX9_told 109 = .ok (.getfield 17, 3) := by decide +kernel
theorem dX9_told_112 : decode cX9_told 112 = .ok (.iconst 3, 1) := by decide +kernel
theorem dX9_told_113 : decode cX9_told 113 = .ok (.iaload, 1) := by decide +kernel
theorem dX9_told_114 : decode cX9_told 114 = .ok (.if_icmp .ge 28, 3) := by decide +kernel
theorem dX9_told_117 : decode cX9_told 117 = .ok (.iload_n 2, 1) := by decide +kernel
theorem dX9_told_118 : decode cX9_told 118 = .ok (.aload_n 0, 1) := by decide +kernel
theorem dX9_told_119 : decode cX9_told 119 = .ok (.getfield 23, 3) := by decide +kernel
theorem dX9_told_122 : decode cX9_told 122 = .ok (.iload_n 3, 1) := by decide +kernel
theorem dX9_told_123 : decode cX9_told 123 = .ok (.iaload, 1) := by decide +kernel
theorem dX9_told_124 : decode cX9_told 124 = .ok (.ifCond .ne 9, 3) := by decide +kernel
theorem dX9_told_127 : decode cX9_told 127 = .ok (.iconst 1, 1) := by decide +kernel
theorem dX9_told_128 : decode cX9_told 128 = .ok (.iload_n 3, 1) := by decide +kernel
theorem dX9_told_129 : decode cX9_told 129 = .ok (.ishl, 1) := by decide +kernel
theorem dX9_told_130 : decode cX9_told 130 = .ok (.goto 4, 3) := by decide +kernel
theorem dX9_told_133 : decode cX9_told 133 = .ok (.iconst 0, 1) := by decide +kernel
theorem dX9_told_134 : decode cX9_told 134 = .ok (.ior, 1) := by decide +kernel
theorem dX9_told_135 : decode cX9_told 135 = .ok (.istore_n 2, 1) := by decide +kernel
theorem dX9_told_136 : decode cX9_told 136 = .ok (.iinc 3 1, 3) := by decide +kernel
theorem dX9_told_139 : decode cX9_told 139 = .ok (.goto (-32), 3) := by decide +kernel
theorem dX9_told_142 : decode cX9_told 142 = .ok (.iload_n 1, 1) := by decide +kernel
theorem dX9_told_143 : decode cX9_told 143 = .ok (.bipush 11, 2) := by decide +kernel
theorem dX9_told_145 : decode cX9_told 145 = .ok (.if_icmp .ne 17, 3) := by decide +kernel
theorem dX9_told_148 : decode cX9_told 148 = .ok (.aload_n 0, 1) := by decide +kernel
theorem dX9_told_149 : decode cX9_told 149 = .ok (.aload_n 0, 1) := by decide +kernel
theorem dX9_told_150 : decode cX9_told 150 = .ok (.getfield 23, 3) := by decide +kernel
theorem dX9_told_153 : decode cX9_told 153 = .ok (.bipush 9, 2) := by decide +kernel
theorem dX9_told_155 : decode cX9_told 155 = .ok (.iaload, 1) := by decide +kernel
theorem dX9_told_156 : decode cX9_told 156 = .ok (.invokevirtual 181, 3) := by decide +kernel
theorem dX9_told_159 : decode cX9_told 159 = .ok (.goto 4, 3) := by decide +kernel
theorem dX9_told_162 : decode cX9_told 162 = .ok (.iload_n 2, 1) := by decide +kernel
theorem dX9_told_163 : decode cX9_told 163 = .ok (.ireturn, 1) := by decide +kernel
theorem dX9_isHorse_0 : decode cX9_isHorse 0 = .ok (.iload_n 1, 1) := by decide +kernel
theorem dX9_isHorse_1 : decode cX9_isHorse 1 = .ok (.iconst 0, 1) := by decide +kernel
theorem dX9_isHorse_2 : decode cX9_isHorse 2 = .ok (.aload_n 0, 1) := by decide +kernel
theorem dX9_isHorse_3 : decode cX9_isHorse 3 = .ok (.getfield 17, 3) := by decide +kernel
theorem dX9_isHorse_6 : decode cX9_isHorse 6 = .ok (.iconst 3, 1) := by decide +kernel
theorem dX9_isHorse_7 : decode cX9_isHorse 7 = .ok (.iaload, 1) := by decide +kernel
theorem dX9_isHorse_8 : decode cX9_isHorse 8 = .ok (.iconst 1, 1) := by decide +kernel
theorem dX9_isHorse_9 : decode cX9_isHorse 9 = .ok (.isub, 1) := by decide +kernel
theorem dX9_isHorse_10 : decode cX9_isHorse 10 = .ok (.invokestatic 82, 3) := by decide +kernel
theorem dX9_isHorse_13 : decode cX9_isHorse 13 = .ok (.ireturn, 1) := by decide +kernel
theorem dX9_isPlace_0 : decode cX9_isPlace 0 = .ok (.iload_n 1, 1) := by decide +kernel
theorem dX9_isPlace_1 : decode cX9_isPlace 1 = .ok (.iconst 0, 1) := by decide +kernel
theorem dX9_isPlace_2 : decode cX9_isPlace 2 = .ok (.aload_n 0, 1) := by decide +kernel
theorem dX9_isPlace_3 : decode cX9_isPlace 3 = .ok (.getfield 17, 3) := by decide +kernel
theorem dX9_isPlace_6 : decode cX9_isPlace 6 = .ok (.iconst 0, 1) := by decide +kernel
theorem dX9_isPlace_7 : decode cX9_isPlace 7 = .ok (.iaload, 1) := by decide +kernel
theorem dX9_isPlace_8 : decode cX9_isPlace 8 = .ok (.iconst 1, 1) := by decide +kernel
theorem dX9_isPlace_9 : decode cX9_isPlace 9 = .ok (.isub, 1) := by decide +kernel
theorem dX9_isPlace_10 : decode cX9_isPlace 10 = .ok (.invokestatic 82, 3) := by decide +kernel
theorem dX9_isPlace_13 : decode cX9_isPlace 13 = .ok (.ireturn, 1) := by decide +kernel
theorem dX9_whereIs_0 : decode cX9_whereIs 0 = .ok (.iconst (-1), 1) := by decide +kernel
theorem dX9_whereIs_1 : decode cX9_whereIs 1 = .ok (.istore_n 2, 1) := by decide +kernel
theorem dX9_whereIs_2 : decode cX9_whereIs 2 = .ok (.iconst 0, 1) := by decide +kernel
theorem dX9_whereIs_3 : decode cX9_whereIs 3 = .ok (.istore_n 3, 1) := by decide +kernel
theorem dX9_whereIs_4 : decode cX9_whereIs 4 = .ok (.iload_n 3, 1) := by decide +kernel
theorem dX9_whereIs_5 : decode cX9_whereIs 5 = .ok (.iconst 3, 1) := by decide +kernel
theorem dX9_whereIs_6 : decode cX9_whereIs 6 = .ok (.if_icmp .ge 28, 3) := by decide +kernel
theorem dX9_whereIs_9 : decode cX9_whereIs 9 = .ok (.aload_n 0, 1) := by decide +kernel
theorem dX9_whereIs_10 : decode cX9_whereIs 10 = .ok (.getfield 23, 3) := by decide +kernel
theorem dX9_whereIs_13 : decode cX9_whereIs 13 = .ok (.bipush 6, 2) := by decide +kernel
theorem dX9_whereIs_15 : decode cX9_whereIs 15 = .ok (.iload_n 3, 1) := by decide +kernel
theorem dX9_whereIs_16 : decode cX9_whereIs 16 = .ok (.iadd, 1) := by decide +kernel
theorem dX9_whereIs_17 : decode cX9_whereIs 17 = .ok (.iaload, 1) := by decide +kernel
theorem dX9_whereIs_18 : decode cX9_whereIs 18 = .ok (.iload_n 1, 1) := by decide +kernel
theorem dX9_whereIs_19 : decode cX9_whereIs 19 = .ok (.if_icmp .ne 7, 3) := by decide +kernel
theorem dX9_whereIs_22 : decode cX9_whereIs 22 = .ok (.iload_n 3, 1) := by decide +kernel
theorem dX9_whereIs_23 : decode cX9_whereIs 23 = .ok (.goto 4, 3) := by decide +kernel
theorem dX9_whereIs_26 : decode cX9_whereIs 26 = .ok (.iload_n 2, 1) := by decide +kernel
theorem dX9_whereIs_27 : decode cX9_whereIs 27 = .ok (.istore_n 2, 1) := by decide +kernel
theorem dX9_whereIs_28 : decode cX9_whereIs 28 = .ok (.iinc 3 1, 3) := by decide +kernel
theorem dX9_whereIs_31 : decode cX9_whereIs 31 = .ok (.goto (-27), 3) := by decide +kernel
theorem dX9_whereIs_34 : decode cX9_whereIs 34 = .ok (.iload_n 2, 1) := by decide +kernel
theorem dX9_whereIs_35 : decode cX9_whereIs 35 = .ok (.ireturn, 1) := by decide +kernel
theorem dX9_asNow_0 : decode cX9_asNow 0 = .ok (.iconst 0, 1) := by decide +kernel
theorem dX9_asNow_1 : decode cX9_asNow 1 = .ok (.istore_n 1, 1) := by decide +kernel
theorem dX9_asNow_2 : decode cX9_asNow 2 = .ok (.iload_n 1, 1) := by decide +kernel
theorem dX9_asNow_3 : decode cX9_asNow 3 = .ok (.bipush 6, 2) := by decide +kernel
theorem dX9_asNow_5 : decode cX9_asNow 5 = .ok (.if_icmp .ge 21, 3) := by decide +kernel
theorem dX9_asNow_8 : decode cX9_asNow 8 = .ok (.aload_n 0, 1) := by decide +kernel
theorem dX9_asNow_9 : decode cX9_asNow 9 = .ok (.getfield 36, 3) := by decide +kernel
theorem dX9_asNow_12 : decode cX9_asNow 12 = .ok (.iload_n 1, 1) := by decide +kernel
theorem dX9_asNow_13 : decode cX9_asNow 13 = .ok (.aload_n 0, 1) := by decide +kernel
theorem dX9_asNow_14 : decode cX9_asNow 14 = .ok (.getfield 23, 3) := by decide +kernel
theorem dX9_asNow_17 : decode cX9_asNow 17 = .ok (.iload_n 1, 1) := by decide +kernel
theorem dX9_asNow_18 : decode cX9_asNow 18 = .ok (.iaload, 1) := by decide +kernel
theorem dX9_asNow_19 : decode cX9_asNow 19 = .ok (.iastore, 1) := by decide +kernel
theorem dX9_asNow_20 : decode cX9_asNow 20 = .ok (.iinc 1 1, 3) := by decide +kernel
theorem dX9_asNow_23 : decode cX9_asNow 23 = .ok (.goto (-21), 3) := by decide +kernel
theorem dX9_asNow_26 : decode cX9_asNow 26 = .ok (.iconst 0, 1) := by decide +kernel
theorem dX9_asNow_27 : decode cX9_asNow 27 = .ok (.istore_n 1, 1) := by decide +kernel
theorem dX9_asNow_28 : decode cX9_asNow 28 = .ok (.iload_n 1, 1) := by decide +kernel
theorem dX9_asNow_29 : decode cX9_asNow 29 = .ok (.iconst 3, 1) := by decide +kernel
theorem dX9_asNow_30 : decode cX9_asNow 30 = .ok (.if_icmp .ge 24, 3) := by decide +kernel
theorem dX9_asNow_33 : decode cX9_asNow 33 = .ok (.aload_n 0, 1) := by decide +kernel
theorem dX9_asNow_34 : decode cX9_asNow 34 = .ok (.getfield 39, 3) := by decide +kernel
theorem dX9_asNow_37 : decode cX9_asNow 37 = .ok (.iload_n 1, 1) := by decide +kernel
theorem dX9_asNow_38 : decode cX9_asNow 38 = .ok (.aload_n 0, 1) := by decide +kernel
theorem dX9_asNow_39 : decode cX9_asNow 39 = .ok (.getfield 23, 3) := by decide +kernel
theorem dX9_asNow_42 : decode cX9_asNow 42 = .ok (.bipush 6, 2) := by decide +kernel
theorem dX9_asNow_44 : decode cX9_asNow 44 = .ok (.iload_n 1, 1) := by decide +kernel
theorem dX9_asNow_45 : decode cX9_asNow 45 = .ok (.iadd, 1) := by decide +kernel
theorem dX9_asNow_46 : decode cX9_asNow 46 = .ok (.iaload, 1) := by decide +kernel
theorem dX9_asNow_47 : decode cX9_asNow 47 = .ok (.iastore, 1) := by decide +kernel
theorem dX9_asNow_48 : decode cX9_asNow 48 = .ok (.iinc 1 1, 3) := by decide +kernel
theorem dX9_asNow_51 : decode cX9_asNow 51 = .ok (.goto (-23), 3) := by decide +kernel
theorem dX9_asNow_54 : decode cX9_asNow 54 = .ok (.return_, 1) := by decide +kernel
theorem dX9_moodOf_0 : decode cX9_moodOf 0 = .ok (.iload_n 2, 1) := by decide +kernel
theorem dX9_moodOf_1 : decode cX9_moodOf 1 = .ok (.iconst 0, 1) := by decide +kernel
theorem dX9_moodOf_2 : decode cX9_moodOf 2 = .ok (.iconst 2, 1) := by decide +kernel
theorem dX9_moodOf_3 : decode cX9_moodOf 3 = .ok (.invokestatic 82, 3) := by decide +kernel
theorem dX9_moodOf_6 : decode cX9_moodOf 6 = .ok (.ifCond .eq 37, 3) := by decide +kernel
theorem dX9_moodOf_9 : decode cX9_moodOf 9 = .ok (.aload_n 0, 1) := by decide +kernel
theorem dX9_moodOf_10 : decode cX9_moodOf 10 = .ok (.getfield 39, 3) := by decide +kernel
theorem dX9_moodOf_13 : decode cX9_moodOf 13 = .ok (.iload_n 2, 1) := by decide +kernel
theorem dX9_moodOf_14 : decode cX9_moodOf 14 = .ok (.iaload, 1) := by decide +kernel
theorem dX9_moodOf_15 : decode cX9_moodOf 15 = .ok (.iconst (-1), 1) := by decide +kernel
theorem dX9_moodOf_16 : decode cX9_moodOf 16 = .ok (.if_icmp .eq 27, 3) := by decide +kernel
theorem dX9_moodOf_19 : decode cX9_moodOf 19 = .ok (.aload_n 0, 1) := by decide +kernel
theorem dX9_moodOf_20 : decode cX9_moodOf 20 = .ok (.getfield 17, 3) := by decide +kernel
theorem dX9_moodOf_23 : decode cX9_moodOf 23 = .ok (.bipush 32, 2) := by decide +kernel
theorem dX9_moodOf_25 : decode cX9_moodOf 25 = .ok (.bipush 6, 2) := by decide +kernel
theorem dX9_moodOf_27 : decode cX9_moodOf 27 = .ok (.iload_n 1, 1) := by decide +kernel
theorem dX9_moodOf_28 : decode cX9_moodOf 28 = .ok (.imul, 1) := by decide +kernel
theorem dX9_moodOf_29 : decode cX9_moodOf 29 = .ok (.iadd, 1) := by decide +kernel
theorem dX9_moodOf_30 : decode cX9_moodOf 30 = .ok (.aload_n 0, 1) := by decide +kernel
theorem dX9_moodOf_31 : decode cX9_moodOf 31 = .ok (.getfield 39, 3) := by decide +kernel
theorem dX9_moodOf_34 : decode cX9_moodOf 34 = .ok (.iload_n 2, 1) := by decide +kernel
theorem dX9_moodOf_35 : decode cX9_moodOf 35 = .ok (.iaload, 1) := by decide +kernel
theorem dX9_moodOf_36 : decode cX9_moodOf 36 = .ok (.iadd, 1) := by decide +kernel
theorem dX9_moodOf_37 : decode cX9_moodOf 37 = .ok (.iaload, 1) := by decide +kernel
theorem dX9_moodOf_38 : decode cX9_moodOf 38 = .ok (.iconst 5, 1) := by decide +kernel
theorem dX9_moodOf_39 : decode cX9_moodOf 39 = .ok (.isub, 1) := by decide +kernel
theorem dX9_moodOf_40 : decode cX9_moodOf 40 = .ok (.goto 4, 3) := by decide +kernel
theorem dX9_moodOf_43 : decode cX9_moodOf 43 = .ok (.iconst 0, 1) := by decide +kernel
theorem dX9_moodOf_44 : decode cX9_moodOf 44 = .ok (.ireturn, 1) := by decide +kernel
theorem dX9_pullAt_0 : decode cX9_pullAt 0 = .ok (.aload_n 0, 1) := by decide +kernel
theorem dX9_pullAt_1 : decode cX9_pullAt 1 = .ok (.getfield 39, 3) := by decide +kernel
theorem dX9_pullAt_4 : decode cX9_pullAt 4 = .ok (.iload_n 1, 1) := by decide +kernel
theorem dX9_pullAt_5 : decode cX9_pullAt 5 = .ok (.iaload, 1) := by decide +kernel
theorem dX9_pullAt_6 : decode cX9_pullAt 6 = .ok (.istore_n 2, 1) := by decide +kernel
theorem dX9_pullAt_7 : decode cX9_pullAt 7 = .ok (.iload_n 2, 1) := by decide +kernel
theorem dX9_pullAt_8 : decode cX9_pullAt 8 = .ok (.iconst (-1), 1) := by decide +kernel
theorem dX9_pullAt_9 : decode cX9_pullAt 9 = .ok (.if_icmp .eq 12, 3) := by decide +kernel
theorem dX9_pullAt_12 : decode cX9_pullAt 12 = .ok (.aload_n 0, 1) := by decide +kernel
theorem dX9_pullAt_13 : decode cX9_pullAt 13 = .ok (.getfield 36, 3) := by decide +kernel
theorem dX9_pullAt_16 : decode cX9_pullAt 16 = .ok (.iload_n 2, 1) := by decide +kernel
theorem dX9_pullAt_17 : decode cX9_pullAt 17 = .ok (.iaload, 1) := by decide +kernel
theorem dX9_pullAt_18 : decode cX9_pullAt 18 = .ok (.ifCond .ne 5, 3) := by decide +kernel
theorem dX9_pullAt_21 : decode cX9_pullAt 21 = .ok (.iconst 0, 1) := by decide +kernel
theorem dX9_pullAt_22 : decode cX9_pullAt 22 = .ok (.ireturn, 1) := by decide +kernel
theorem dX9_pullAt_23 : decode cX9_pullAt 23 = .ok (.aload_n 0, 1) := by decide +kernel
theorem dX9_pullAt_24 : decode cX9_pullAt 24 = .ok (.getfield 17, 3) := by decide +kernel
theorem dX9_pullAt_27 : decode cX9_pullAt 27 = .ok (.bipush 8, 2) := by decide +kernel
theorem dX9_pullAt_29 : decode cX9_pullAt 29 = .ok (.iconst 4, 1) := by decide +kernel
theorem dX9_pullAt_30 : decode cX9_pullAt 30 = .ok (.iload_n 2, 1) := by decide +kernel
theorem dX9_pullAt_31 : decode cX9_pullAt 31 = .ok (.imul, 1) := by decide +kernel
theorem dX9_pullAt_32 : decode cX9_pullAt 32 = .ok (.iadd, 1) := by decide +kernel
theorem dX9_pullAt_33 : decode cX9_pullAt 33 = .ok (.iaload, 1) := by decide +kernel
theorem dX9_pullAt_34 : decode cX9_pullAt 34 = .ok (.istore_n 3, 1) := by decide +kernel
theorem dX9_pullAt_35 : decode cX9_pullAt 35 = .ok (.aload_n 0, 1) := by decide +kernel
theorem dX9_pullAt_36 : decode cX9_pullAt 36 = .ok (.getfield 17, 3) := by decide +kernel
theorem dX9_pullAt_39 : decode cX9_pullAt 39 = .ok (.bipush 8, 2) := by decide +kernel
theorem dX9_pullAt_41 : decode cX9_pullAt 41 = .ok (.iconst 4, 1) := by decide +kernel
theorem dX9_pullAt_42 : decode cX9_pullAt 42 = .ok (.iload_n 2, 1) := by decide +kernel
theorem dX9_pullAt_43 : decode cX9_pullAt 43 = .ok (.imul, 1) := by decide +kernel
theorem dX9_pullAt_44 : decode cX9_pullAt 44 = .ok (.iadd, 1) := by decide +kernel
theorem dX9_pullAt_45 : decode cX9_pullAt 45 = .ok (.iconst 3, 1) := by decide +kernel
theorem dX9_pullAt_46 : decode cX9_pullAt 46 = .ok (.iadd, 1) := by decide +kernel
theorem dX9_pullAt_47 : decode cX9_pullAt 47 = .ok (.iaload, 1) := by decide +kernel
theorem dX9_pullAt_48 : decode cX9_pullAt 48 = .ok (.ifCond .ne 23, 3) := by decide +kernel
theorem dX9_pullAt_51 : decode cX9_pullAt 51 = .ok (.iload_n 3, 1) := by decide +kernel
theorem dX9_pullAt_52 : decode cX9_pullAt 52 = .ok (.aload_n 0, 1) := by decide +kernel
theorem dX9_pullAt_53 : decode cX9_pullAt 53 = .ok (.iload_n 2, 1) := by decide +kernel
theorem dX9_pullAt_54 : decode cX9_pullAt 54 = .ok (.iload_n 1, 1) := by decide +kernel
theorem dX9_pullAt_55 : decode cX9_pullAt 55 = .ok (.iconst 1, 1) := by decide +kernel
theorem dX9_pullAt_56 : decode cX9_pullAt 56 = .ok (.isub, 1) := by decide +kernel
theorem dX9_pullAt_57 : decode cX9_pullAt 57 = .ok (.invokevirtual 184, 3) := by decide +kernel
theorem dX9_pullAt_60 : decode cX9_pullAt 60 = .ok (.aload_n 0, 1) := by decide +kernel
theorem dX9_pullAt_61 : decode cX9_pullAt 61 = .ok (.iload_n 2, 1) := by decide +kernel
theorem dX9_pullAt_62 : decode cX9_pullAt 62 = .ok (.iload_n 1, 1) := by decide +kernel
theorem dX9_pullAt_63 : decode cX9_pullAt 63 = .ok (.iconst 1, 1) := by decide +kernel
theorem dX9_pullAt_64 : decode cX9_pullAt 64 = .ok (.iadd, 1) := by decide +kernel
theorem dX9_pullAt_65 : decode cX9_pullAt 65 = .ok (.invokevirtual 184, 3) := by decide +kernel
theorem dX9_pullAt_68 : decode cX9_pullAt 68 = .ok (.iadd, 1) := by decide +kernel
theorem dX9_pullAt_69 : decode cX9_pullAt 69 = .ok (.iadd, 1) := by decide +kernel
theorem dX9_pullAt_70 : decode cX9_pullAt 70 = .ok (.istore_n 3, 1) := by decide +kernel
theorem dX9_pullAt_71 : decode cX9_pullAt 71 = .ok (.iload_n 3, 1) := by decide +kernel
theorem dX9_pullAt_72 : decode cX9_pullAt 72 = .ok (.ifCond .ge 7, 3) := by decide +kernel
theorem dX9_pullAt_75 : decode cX9_pullAt 75 = .ok (.iconst 0, 1) := by decide +kernel
theorem dX9_pullAt_76 : decode cX9_pullAt 76 = .ok (.goto 4, 3) := by decide +kernel
theorem dX9_pullAt_79 : decode cX9_pullAt 79 = .ok (.iload_n 3, 1) := by decide +kernel
theorem dX9_pullAt_80 : decode cX9_pullAt 80 = .ok (.istore_n 3, 1) := by decide +kernel
theorem dX9_pullAt_81 : decode cX9_pullAt 81 = .ok (.iload_n 2, 1) := by decide +kernel
theorem dX9_pullAt_82 : decode cX9_pullAt 82 = .ok (.aload_n 0, 1) := by decide +kernel
theorem dX9_pullAt_83 : decode cX9_pullAt 83 = .ok (.getfield 45, 3) := by decide +kernel
theorem dX9_pullAt_86 : decode cX9_pullAt 86 = .ok (.if_icmp .ne 9, 3) := by decide +kernel
theorem dX9_pullAt_89 : decode cX9_pullAt 89 = .ok (.iload_n 3, 1) := by decide +kernel
theorem dX9_pullAt_90 : decode cX9_pullAt 90 = .ok (.iconst 2, 1) := by decide +kernel
theorem dX9_pullAt_91 : decode cX9_pullAt 91 = .ok (.idiv, 1) := by decide +kernel
theorem dX9_pullAt_92 : decode cX9_pullAt 92 = .ok (.goto 4, 3) := by decide +kernel
theorem dX9_pullAt_95 : decode cX9_pullAt 95 = .ok (.iload_n 3, 1) := by decide +kernel
theorem dX9_pullAt_96 : decode cX9_pullAt 96 = .ok (.ireturn, 1) := by decide +kernel
theorem dX9_horse__0 : decode cX9_horse_ 0 = .ok (.aload_n 0, 1) := by decide +kernel
theorem dX9_horse__1 : decode cX9_horse_ 1 = .ok (.iconst 0, 1) := by decide +kernel
theorem dX9_horse__2 : decode cX9_horse_ 2 = .ok (.putfield 76, 3) := by decide +kernel
theorem dX9_horse__5 : decode cX9_horse_ 5 = .ok (.aload_n 0, 1) := by decide +kernel
theorem dX9_horse__6 : decode cX9_horse_ 6 = .ok (.iload_n 1, 1) := by decide +kernel
theorem dX9_horse__7 : decode cX9_horse_ 7 = .ok (.invokevirtual 187, 3) := by decide +kernel
theorem dX9_horse__10 : decode cX9_horse_ 10 = .ok (.ifCond .ne 6, 3) := by decide +kernel
theorem dX9_horse__13 : decode cX9_horse_ 13 = .ok (.ldc 191, 2) := by decide +kernel
theorem dX9_horse__15 : decode cX9_horse_ 15 = .ok (.ireturn, 1) := by decide +kernel
theorem dX9_horse__16 : decode cX9_horse_ 16 = .ok (.iload_n 2, 1) := by decide +kernel
theorem dX9_horse__17 : decode cX9_horse_ 17 = .ok (.iconst 0, 1) := by decide +kernel
theorem dX9_horse__18 : decode cX9_horse_ 18 = .ok (.bipush 6, 2) := by decide +kernel
theorem dX9_horse__20 : decode cX9_horse_ 20 = .ok (.invokestatic 82, 3) := by decide +kernel
theorem dX9_horse__23 : decode cX9_horse_ 23 = .ok (.ifCond .ne 6, 3) := by decide +kernel
theorem dX9_horse__26 : decode cX9_horse_ 26 = .ok (.ldc 86, 2) := by decide +kernel
theorem dX9_horse__28 : decode cX9_horse_ 28 = .ok (.ireturn, 1) := by decide +kernel
theorem dX9_horse__29 : decode cX9_horse_ 29 = .ok (.iload_n 2, 1) := by decide +kernel
theorem dX9_horse__30 : decode cX9_horse_ 30 = .ok (.iconst 4, 1) := by decide +kernel
theorem dX9_horse__31 : decode cX9_horse_ 31 = .ok (.if_icmp .ge 17, 3) := by decide +kernel
theorem dX9_horse__34 : decode cX9_horse_ 34 = .ok (.aload_n 0, 1) := by decide +kernel
theorem dX9_horse__35 : decode cX9_horse_ 35 = .ok (.getfield 17, 3) := by decide +kernel
theorem dX9_horse__38 : decode cX9_horse_ 38 = .ok (.bipush 8, 2) := by decide +kernel
theorem dX9_horse__40 : decode cX9_horse_ 40 = .ok (.iconst 4, 1) := by decide +kernel
theorem dX9_horse__41 : decode cX9_horse_ 41 = .ok (.iload_n 1, 1) := by decide +kernel
theorem dX9_horse__42 : decode cX9_horse_ 42 = .ok (.imul, 1) := by decide +kernel
theorem dX9_horse__43 : decode cX9_horse_ 43 = .ok (.iadd, 1) := by decide +kernel
theorem dX9_horse__44 : decode cX9_horse_ 44 = .ok (.iload_n 2, 1) := by decide +kernel
theorem dX9_horse__45 : decode cX9_horse_ 45 = .ok (.iadd, 1) := by decide +kernel
theorem dX9_horse__46 : decode cX9_horse_ 46 = .ok (.iaload, 1) := by decide +kernel
theorem dX9_horse__47 : decode cX9_horse_ 47 = .ok (.ireturn, 1) := by decide +kernel
theorem dX9_horse__48 : decode cX9_horse_ 48 = .ok (.aload_n 0, 1) := by decide +kernel
theorem dX9_horse__49 : decode cX9_horse_ 49 = .ok (.iload_n 1, 1) := by decide +kernel
theorem dX9_horse__50 : decode cX9_horse_ 50 = .ok (.invokevirtual 192, 3) := by decide +kernel
theorem dX9_horse__53 : decode cX9_horse_ 53 = .ok (.istore_n 3, 1) := by decide +kernel
theorem dX9_horse__54 : decode cX9_horse_ 54 = .ok (.iload_n 2, 1) := by decide +kernel
theorem dX9_horse__55 : decode cX9_horse_ 55 = .ok (.bipush 6, 2) := by decide +kernel
theorem dX9_horse__57 : decode cX9_horse_ 57 = .ok (.if_icmp .ge 19, 3) := by decide +kernel
theorem dX9_horse__60 : decode cX9_horse_ 60 = .ok (.iload_n 2, 1) := by decide +kernel
theorem dX9_horse__61 : decode cX9_horse_ 61 = .ok (.iconst 4, 1) := by decide +kernel
theorem dX9_horse__62 : decode cX9_horse_ 62 = .ok (.if_icmp .ne 12, 3) := by decide +kernel
theorem dX9_horse__65 : decode cX9_horse_ 65 = .ok (.aload_n 0, 1) := by decide +kernel
theorem dX9_horse__66 : decode cX9_horse_ 66 = .ok (.getfield 23, 3) := by decide +kernel
theorem dX9_horse__69 : decode cX9_horse_ 69 = .ok (.iload_n 1, 1) := by decide +kernel
theorem dX9_horse__70 : decode cX9_horse_ 70 = .ok (.iaload, 1) := by decide +kernel
theorem dX9_horse__71 : decode cX9_horse_ 71 = .ok (.goto 4, 3) := by decide +kernel
theorem dX9_horse__74 : decode cX9_horse_ 74 = .ok (.iload_n 3, 1) := by decide +kernel
theorem dX9_horse__75 : decode cX9_horse_ 75 = .ok (.ireturn, 1) := by decide +kernel
theorem dX9_horse__76 : decode cX9_horse_ 76 = .ok (.aload_n 0, 1) := by decide +kernel
theorem dX9_horse__77 : decode cX9_horse_ 77 = .ok (.invokevirtual 195, 3) := by decide +kernel
theorem dX9_horse__80 : decode cX9_horse_ 80 = .ok (.iload_n 3, 1) := by decide +kernel
theorem dX9_horse__81 : decode cX9_horse_ 81 = .ok (.iconst (-1), 1) := by decide +kernel
theorem dX9_horse__82 : decode cX9_horse_ 82 = .ok (.if_icmp .ne 7, 3) := by decide +kernel
theorem dX9_horse__85 : decode cX9_horse_ 85 = .ok (.iconst 0, 1) := by decide +kernel
theorem dX9_horse__86 : decode cX9_horse_ 86 = .ok (.goto 8, 3) := by decide +kernel
theorem dX9_horse__89 : decode cX9_horse_ 89 = .ok (.aload_n 0, 1) := by decide +kernel
theorem dX9_horse__90 : decode cX9_horse_ 90 = .ok (.iload_n 3, 1) := by decide +kernel
theorem dX9_horse__91 : decode cX9_horse_ 91 = .ok (.invokevirtual 198, 3) := by decide +kernel
theorem dX9_horse__94 : decode cX9_horse_ 94 = .ok (.ireturn, 1) := by decide +kernel
theorem dX9_beside__0 : decode cX9_beside_ 0 = .ok (.aload_n 0, 1) := by decide +kernel
theorem dX9_beside__1 : decode cX9_beside_ 1 = .ok (.iconst 0, 1) := by decide +kernel
theorem dX9_beside__2 : decode cX9_beside_ 2 = .ok (.putfield 76, 3) := by decide +kernel
theorem dX9_beside__5 : decode cX9_beside_ 5 = .ok (.aload_n 0, 1) := by decide +kernel
theorem dX9_beside__6 : decode cX9_beside_ 6 = .ok (.iload_n 1, 1) := by decide +kernel
theorem dX9_beside__7 : decode cX9_beside_ 7 = .ok (.invokevirtual 187, 3) := by decide +kernel
theorem dX9_beside__10 : decode cX9_beside_ 10 = .ok (.ifCond .eq 16, 3) := by decide +kernel
theorem dX9_beside__13 : decode cX9_beside_ 13 = .ok (.aload_n 0, 1) := by decide +kernel
theorem dX9_beside__14 : decode cX9_beside_ 14 = .ok (.iload_n 2, 1) := by decide +kernel
theorem dX9_beside__15 : decode cX9_beside_ 15 = .ok (.invokevirtual 187, 3) := by decide +kernel
theorem dX9_beside__18 : decode cX9_beside_ 18 = .ok (.ifCond .eq 8, 3) := by decide +kernel
theorem dX9_beside__21 : decode cX9_beside_ 21 = .ok (.iload_n 1, 1) := by decide +kernel
theorem dX9_beside__22 : decode cX9_beside_ 22 = .ok (.iload_n 2, 1) := by decide +kernel
theorem dX9_beside__23 : decode cX9_beside_ 23 = .ok (.if_icmp .ne 8, 3) := by decide +kernel
theorem dX9_beside__26 : decode cX9_beside_ 26 = .ok (.ldc 191, 2) := by decide +kernel
theorem dX9_beside__28 : decode cX9_beside_ 28 = .ok (.goto 19, 3) := by decide +kernel
theorem dX9_beside__31 : decode cX9_beside_ 31 = .ok (.aload_n 0, 1) := by decide +kernel
theorem dX9_beside__32 : decode cX9_beside_ 32 = .ok (.getfield 17, 3) := by decide +kernel
theorem dX9_beside__35 : decode cX9_beside_ 35 = .ok (.bipush 32, 2) := by decide +kernel
theorem dX9_beside__37 : decode cX9_beside_ 37 = .ok (.bipush 6, 2) := by decide +kernel
theorem dX9_beside__39 : decode cX9_beside_ 39 = .ok (.iload_n 1, 1) := by decide +kernel
theorem dX9_beside__40 : decode cX9_beside_ 40 = .ok (.imul, 1) := by decide +kernel
theorem dX9_beside__41 : decode cX9_beside_ 41 = .ok (.iadd, 1) := by decide +kernel
theorem dX9_beside__42 : decode cX9_beside_ 42 = .ok (.iload_n 2, 1) := by decide +kernel
theorem dX9_beside__43 : decode cX9_beside_ 43 = .ok (.iadd, 1) := by decide +kernel
theorem dX9_beside__44 : decode cX9_beside_ 44 = .ok (.iaload, 1) := by decide +kernel
theorem dX9_beside__45 : decode cX9_beside_ 45 = .ok (.iconst 5, 1) := by decide +kernel
theorem dX9_beside__46 : decode cX9_beside_ 46 = .ok (.isub, 1) := by decide +kernel
theorem dX9_beside__47 : decode cX9_beside_ 47 = .ok (.ireturn, 1) := by decide +kernel
theorem dX9_cart_0 : decode cX9_cart 0 = .ok (.aload_n 0, 1) := by decide +kernel
theorem dX9_cart_1 : decode cX9_cart 1 = .ok (.iconst 0, 1) := by decide +kernel
theorem dX9_cart_2 : decode cX9_cart 2 = .ok (.putfield 76, 3) := by decide +kernel
theorem dX9_cart_5 : decode cX9_cart 5 = .ok (.iload_n 1, 1) := by decide +kernel
theorem dX9_cart_6 : decode cX9_cart 6 = .ok (.iconst 0, 1) := by decide +kernel
theorem dX9_cart_7 : decode cX9_cart 7 = .ok (.aload_n 0, 1) := by decide +kernel
theorem dX9_cart_8 : decode cX9_cart 8 = .ok (.getfield 17, 3) := by decide +kernel
theorem dX9_cart_11 : decode cX9_cart 11 = .ok (.iconst 4, 1) := by decide +kernel
theorem dX9_cart_12 : decode cX9_cart 12 = .ok (.iaload, 1) := by decide +kernel
theorem dX9_cart_13 : decode cX9_cart 13 = .ok (.iconst 1, 1) := by decide +kernel
theorem dX9_cart_14 : decode cX9_cart 14 = .ok (.isub, 1) := by decide +kernel
theorem dX9_cart_15 : decode cX9_cart 15 = .ok (.invokestatic 82, 3) := by decide +kernel
theorem dX9_cart_18 : decode cX9_cart 18 = .ok (.ifCond .eq 15, 3) := by decide +kernel
theorem dX9_cart_21 : decode cX9_cart 21 = .ok (.aload_n 0, 1) := by decide +kernel
theorem dX9_cart_22 : decode cX9_cart 22 = .ok (.getfield 17, 3) := by decide +kernel
theorem dX9_cart_25 : decode cX9_cart 25 = .ok (.bipush 80, 2) := by decide +kernel
theorem dX9_cart_27 : decode cX9_cart 27 = .ok (.iload_n 1, 1) := by decide +kernel
theorem dX9_cart_28 : decode cX9_cart 28 = .ok (.iadd, 1) := by decide +kernel
theorem dX9_cart_29 : decode cX9_cart 29 = .ok (.iaload, 1) := by decide +kernel
theorem dX9_cart_30 : decode cX9_cart 30 = .ok (.goto 5, 3) := by decide +kernel
theorem dX9_cart_33 : decode cX9_cart 33 = .ok (.ldc 191, 2) := by decide +kernel
theorem dX9_cart_35 : decode cX9_cart 35 = .ok (.ireturn, 1) := by decide +kernel
theorem dX9_put_0 : decode cX9_put 0 = .ok (.aload_n 0, 1) := by decide +kernel
theorem dX9_put_1 : decode cX9_put 1 = .ok (.iconst 0, 1) := by decide +kernel
theorem dX9_put_2 : decode cX9_put 2 = .ok (.putfield 76, 3) := by decide +kernel
theorem dX9_put_5 : decode cX9_put 5 = .ok (.aload_n 0, 1) := by decide +kernel
theorem dX9_put_6 : decode cX9_put 6 = .ok (.iload_n 1, 1) := by decide +kernel
theorem dX9_put_7 : decode cX9_put 7 = .ok (.invokevirtual 187, 3) := by decide +kernel
theorem dX9_put_10 : decode cX9_put 10 = .ok (.ifCond .eq 16, 3) := by decide +kernel
theorem dX9_put_13 : decode cX9_put 13 = .ok (.iload_n 2, 1) := by decide +kernel
theorem dX9_put_14 : decode cX9_put 14 = .ok (.iconst (-1), 1) := by decide +kernel
theorem dX9_put_15 : decode cX9_put 15 = .ok (.if_icmp .eq 14, 3) := by decide +kernel
theorem dX9_put_18 : decode cX9_put 18 = .ok (.aload_n 0, 1) := by decide +kernel
theorem dX9_put_19 : decode cX9_put 19 = .ok (.iload_n 2, 1) := by decide +kernel
theorem dX9_put_20 : decode cX9_put 20 = .ok (.invokevirtual 201, 3) := by decide +kernel
theorem dX9_put_23 : decode cX9_put 23 = .ok (.ifCond .ne 6, 3) := by decide +kernel
theorem dX9_put_26 : decode cX9_put 26 = .ok (.ldc 191, 2) := by decide +kernel
theorem dX9_put_28 : decode cX9_put 28 = .ok (.ireturn, 1) := by decide +kernel
theorem dX9_put_29 : decode cX9_put 29 = .ok (.iload_n 2, 1) := by decide +kernel
theorem dX9_put_30 : decode cX9_put 30 = .ok (.iconst (-1), 1) := by decide +kernel
theorem dX9_put_31 : decode cX9_put 31 = .ok (.if_icmp .eq 32, 3) := by decide +kernel
theorem dX9_put_34 : decode cX9_put 34 = .ok (.aload_n 0, 1) := by decide +kernel
theorem dX9_put_35 : decode cX9_put 35 = .ok (.getfield 23, 3) := by decide +kernel
theorem dX9_put_38 : decode cX9_put 38 = .ok (.bipush 6, 2) := by decide +kernel
theorem dX9_put_40 : decode cX9_put 40 = .ok (.iload_n 2, 1) := by decide +kernel
theorem dX9_put_41 : decode cX9_put 41 = .ok (.iadd, 1) := by decide +kernel
theorem dX9_put_42 : decode cX9_put 42 = .ok (.iaload, 1) := by decide +kernel
theorem dX9_put_43 : decode cX9_put 43 = .ok (.iconst (-1), 1) := by decide +kernel
theorem dX9_put_44 : decode cX9_put 44 = .ok (.if_icmp .eq 19, 3) := by decide +kernel
theorem dX9_put_47 : decode cX9_put 47 = .ok (.aload_n 0, 1) := by decide +kernel
theorem dX9_put_48 : decode cX9_put 48 = .ok (.getfield 23, 3) := by decide +kernel
theorem dX9_put_51 : decode cX9_put 51 = .ok (.bipush 6, 2) := by decide +kernel
theorem dX9_put_53 : decode cX9_put 53 = .ok (.iload_n 2, 1) := by decide +kernel
theorem dX9_put_54 : decode cX9_put 54 = .ok (.iadd, 1) := by decide +kernel
theorem dX9_put_55 : decode cX9_put 55 = .ok (.iaload, 1) := by decide +kernel
theorem dX9_put_56 : decode cX9_put 56 = .ok (.iload_n 1, 1) := by decide +kernel
theorem dX9_put_57 : decode cX9_put 57 = .ok (.if_icmp .eq 6, 3) := by decide +kernel
theorem dX9_put_60 : decode cX9_put 60 = .ok (.ldc 204, 2) := by decide +kernel
theorem dX9_put_62 : decode cX9_put 62 = .ok (.ireturn, 1) := by decide +kernel
theorem dX9_put_63 : decode cX9_put 63 = .ok (.aload_n 0, 1) := by decide +kernel
theorem dX9_put_64 : decode cX9_put 64 = .ok (.iload_n 1, 1) := by decide +kernel
theorem dX9_put_65 : decode cX9_put 65 = .ok (.invokevirtual 192, 3) := by decide +kernel
theorem dX9_put_68 : decode cX9_put 68 = .ok (.istore_n 3, 1) := by decide +kernel
theorem dX9_put_69 : decode cX9_put 69 = .ok (.iload_n 3, 1) := by decide +kernel
theorem dX9_put_70 : decode cX9_put 70 = .ok (.iconst (-1), 1) := by decide +kernel
theorem dX9_put_71 : decode cX9_put 71 = .ok (.if_icmp .eq 13, 3) := by decide +kernel
theorem dX9_put_74 : decode cX9_put 74 = .ok (.aload_n 0, 1) := by decide +kernel
theorem dX9_put_75 : decode cX9_put 75 = .ok (.getfield 23, 3) := by decide +kernel
theorem dX9_put_78 : decode cX9_put 78 = .ok (.bipush 6, 2) := by decide +kernel
theorem dX9_put_80 : decode cX9_put 80 = .ok (.iload_n 3, 1) := by decide +kernel
theorem dX9_put_81 : decode cX9_put 81 = .ok (.iadd, 1) := by decide +kernel
theorem dX9_put_82 : decode cX9_put 82 = .ok (.iconst (-1), 1) := by decide +kernel
theorem dX9_put_83 : decode cX9_put 83 = .ok (.iastore, 1) := by decide +kernel
theorem dX9_put_84 : decode cX9_put 84 = .ok (.iload_n 2, 1) := by decide +kernel
theorem dX9_put_85 : decode cX9_put 85 = .ok (.iconst (-1), 1) := by decide +kernel
theorem dX9_put_86 : decode cX9_put 86 = .ok (.if_icmp .eq 13, 3) := by decide +kernel
theorem dX9_put_89 : decode cX9_put 89 = .ok (.aload_n 0, 1) := by decide +kernel
theorem dX9_put_90 : decode cX9_put 90 = .ok (.getfield 23, 3) := by decide +kernel
theorem dX9_put_93 : decode cX9_put 93 = .ok (.bipush 6, 2) := by decide +kernel
theorem dX9_put_95 : decode cX9_put 95 = .ok (.iload_n 2, 1) := by decide +kernel
theorem dX9_put_96 : decode cX9_put 96 = .ok (.iadd, 1) := by decide +kernel
theorem dX9_put_97 : decode cX9_put 97 = .ok (.iload_n 1, 1) := by decide +kernel
theorem dX9_put_98 : decode cX9_put 98 = .ok (.iastore, 1) := by decide +kernel
theorem dX9_put_99 : decode cX9_put 99 = .ok (.iload_n 3, 1) := by decide +kernel
theorem dX9_put_100 : decode cX9_put 100 = .ok (.ireturn, 1) := by decide +kernel
theorem dX9_at_0 : decode cX9_at 0 = .ok (.aload_n 0, 1) := by decide +kernel
theorem dX9_at_1 : decode cX9_at 1 = .ok (.iconst 0, 1) := by decide +kernel
theorem dX9_at_2 : decode cX9_at 2 = .ok (.putfield 76, 3) := by decide +kernel
theorem dX9_at_5 : decode cX9_at 5 = .ok (.aload_n 0, 1) := by decide +kernel
theorem dX9_at_6 : decode cX9_at 6 = .ok (.iload_n 1, 1) := by decide +kernel
theorem dX9_at_7 : decode cX9_at 7 = .ok (.invokevirtual 201, 3) := by decide +kernel
theorem dX9_at_10 : decode cX9_at 10 = .ok (.ifCond .eq 15, 3) := by decide +kernel
theorem dX9_at_13 : decode cX9_at 13 = .ok (.aload_n 0, 1) := by decide +kernel
theorem dX9_at_14 : decode cX9_at 14 = .ok (.getfield 23, 3) := by decide +kernel
theorem dX9_at_17 : decode cX9_at 17 = .ok (.bipush 6, 2) := by decide +kernel
theorem dX9_at_19 : decode cX9_at 19 = .ok (.iload_n 1, 1) := by decide +kernel
theorem dX9_at_20 : decode cX9_at 20 = .ok (.iadd, 1) := by decide +kernel
theorem dX9_at_21 : decode cX9_at 21 = .ok (.iaload, 1) := by decide +kernel
theorem dX9_at_22 : decode cX9_at 22 = .ok (.goto 5, 3) := by decide +kernel
theorem dX9_at_25 : decode cX9_at 25 = .ok (.ldc 191, 2) := by decide +kernel
theorem dX9_at_27 : decode cX9_at 27 = .ok (.ireturn, 1) := by decide +kernel
theorem dX9_paceNow_0 : decode cX9_paceNow 0 = .ok (.iconst 0, 1) := by decide +kernel
theorem dX9_paceNow_1 : decode cX9_paceNow 1 = .ok (.istore_n 1, 1) := by decide +kernel
theorem dX9_paceNow_2 : decode cX9_paceNow 2 = .ok (.sipush 1000, 3) := by decide +kernel
theorem dX9_paceNow_5 : decode cX9_paceNow 5 = .ok (.istore_n 2, 1) := by decide +kernel
theorem dX9_paceNow_6 : decode cX9_paceNow 6 = .ok (.iconst 0, 1) := by decide +kernel
theorem dX9_paceNow_7 : decode cX9_paceNow 7 = .ok (.istore_n 3, 1) := by decide +kernel
theorem dX9_paceNow_8 : decode cX9_paceNow 8 = .ok (.iconst 0, 1) := by decide +kernel
theorem dX9_paceNow_9 : decode cX9_paceNow 9 = .ok (.istore 4, 2) := by decide +kernel
theorem dX9_paceNow_11 : decode cX9_paceNow 11 = .ok (.iload 4, 2) := by decide +kernel
theorem dX9_paceNow_13 : decode cX9_paceNow 13 = .ok (.iconst 3, 1) := by decide +kernel
theorem dX9_paceNow_14 : decode cX9_paceNow 14 = .ok (.if_icmp .ge 85, 3) := by decide +kernel
theorem dX9_paceNow_17 : decode cX9_paceNow 17 = .ok (.aload_n 0, 1) := by decide +kernel
theorem dX9_paceNow_18 : decode cX9_paceNow 18 = .ok (.getfield 42, 3) := by decide +kernel
theorem dX9_paceNow_21 : decode cX9_paceNow 21 = .ok (.iload 4, 2) := by decide +kernel
theorem dX9_paceNow_23 : decode cX9_paceNow 23 = .ok (.aload_n 0, 1) := by decide +kernel
theorem dX9_paceNow_24 : decode cX9_paceNow 24 = .ok (.iload 4, 2) := by decide +kernel
theorem dX9_paceNow_26 : decode cX9_paceNow 26 = .ok (.invokevirtual 198, 3) := by decide +kernel
theorem dX9_paceNow_29 : decode cX9_paceNow 29 = .ok (.iastore, 1) := by decide +kernel
theorem dX9_paceNow_30 : decode cX9_paceNow 30 = .ok (.iload_n 1, 1) := by decide +kernel
theorem dX9_paceNow_31 : decode cX9_paceNow 31 = .ok (.aload_n 0, 1) := by decide +kernel
theorem dX9_paceNow_32 : decode cX9_paceNow 32 = .ok (.getfield 42, 3) := by decide +kernel
theorem dX9_paceNow_35 : decode cX9_paceNow 35 = .ok (.iload 4, 2) := by decide +kernel
theorem dX9_paceNow_37 : decode cX9_paceNow 37 = .ok (.iaload, 1) := by decide +kernel
theorem dX9_paceNow_38 : decode cX9_paceNow 38 = .ok (.iadd, 1) := by decide +kernel
theorem dX9_paceNow_39 : decode cX9_paceNow 39 = .ok (.istore_n 1, 1) := by decide +kernel
theorem dX9_paceNow_40 : decode cX9_paceNow 40 = .ok (.aload_n 0, 1) := by decide +kernel
theorem dX9_paceNow_41 : decode cX9_paceNow 41 = .ok (.getfield 39, 3) := by decide +kernel
theorem dX9_paceNow_44 : decode cX9_paceNow 44 = .ok (.iload 4, 2) := by decide +kernel
theorem dX9_paceNow_46 : decode cX9_paceNow 46 = .ok (.iaload, 1) := by decide +kernel
theorem dX9_paceNow_47 : decode cX9_paceNow 47 = .ok (.iconst (-1), 1) := by decide +kernel
theorem dX9_paceNow_48 : decode cX9_paceNow 48 = .ok (.if_icmp .eq 24, 3) := by decide +kernel
theorem dX9_paceNow_51 : decode cX9_paceNow 51 = .ok (.aload_n 0, 1) := by decide +kernel
theorem dX9_paceNow_52 : decode cX9_paceNow 52 = .ok (.getfield 42, 3) := by decide +kernel
theorem dX9_paceNow_55 : decode cX9_paceNow 55 = .ok (.iload 4, 2) := by decide +kernel
theorem dX9_paceNow_57 : decode cX9_paceNow 57 = .ok (.iaload, 1) := by decide +kernel
theorem dX9_paceNow_58 : decode cX9_paceNow 58 = .ok (.iload_n 2, 1) := by decide +kernel
theorem dX9_paceNow_59 : decode cX9_paceNow 59 = .ok (.if_icmp .ge 13, 3) := by decide +kernel
theorem dX9_paceNow_62 : decode cX9_paceNow 62 = .ok (.aload_n 0, 1) := by decide +kernel
theorem dX9_paceNow_63 : decode cX9_paceNow 63 = .ok (.getfield 42, 3) := by decide +kernel
theorem dX9_paceNow_66 : decode cX9_paceNow 66 = .ok (.iload 4, 2) := by decide +kernel
theorem dX9_paceNow_68 : decode cX9_paceNow 68 = .ok (.iaload, 1) := by decide +kernel
