theorem dX8_init_34 : decode cX8_init 34 = .ok (.iconst 0, 1) := by decide +kernel
theorem dX8_init_35 : decode cX8_init 35 = .ok (.iastore, 1) := by decide +kernel
theorem dX8_init_36 : decode cX8_init 36 = .ok (.dup, 1) := by decide +kernel
theorem dX8_init_37 : decode cX8_init 37 = .ok (.iconst 1, 1) := by decide +kernel
theorem dX8_init_38 : decode cX8_init 38 = .ok (.bipush 16, 2) := by decide +kernel
theorem dX8_init_40 : decode cX8_init 40 = .ok (.iastore, 1) := by decide +kernel
theorem dX8_init_41 : decode cX8_init 41 = .ok (.dup, 1) := by decide +kernel
theorem dX8_init_42 : decode cX8_init 42 = .ok (.iconst 2, 1) := by decide +kernel
theorem dX8_init_43 : decode cX8_init 43 = .ok (.iconst 1, 1) := by decide +kernel
theorem dX8_init_44 : decode cX8_init 44 = .ok (.iastore, 1) := by decide +kernel
theorem dX8_init_45 : decode cX8_init 45 = .ok (.dup, 1) := by decide +kernel
theorem dX8_init_46 : decode cX8_init 46 = .ok (.iconst 3, 1) := by decide +kernel
theorem dX8_init_47 : decode cX8_init 47 = .ok (.iconst 0, 1) := by decide +kernel
theorem dX8_init_48 : decode cX8_init 48 = .ok (.iastore, 1) := by decide +kernel
theorem dX8_init_49 : decode cX8_init 49 = .ok (.putfield 19, 3) := by decide +kernel
theorem dX8_init_52 : decode cX8_init 52 = .ok (.aload_n 0, 1) := by decide +kernel
theorem dX8_init_53 : decode cX8_init 53 = .ok (.iconst 4, 1) := by decide +kernel
theorem dX8_init_54 : decode cX8_init 54 = .ok (.newarray .int, 2) := by decide +kernel
theorem dX8_init_56 : decode cX8_init 56 = .ok (.dup, 1) := by decide +kernel
theorem dX8_init_57 : decode cX8_init 57 = .ok (.iconst 0, 1) := by decide +kernel
theorem dX8_init_58 : decode cX8_init 58 = .ok (.sipush 400, 3) := by decide +kernel
theorem dX8_init_61 : decode cX8_init 61 = .ok (.iastore, 1) := by decide +kernel
theorem dX8_init_62 : decode cX8_init 62 = .ok (.dup, 1) := by decide +kernel
theorem dX8_init_63 : decode cX8_init 63 = .ok (.iconst 1, 1) := by decide +kernel
theorem dX8_init_64 : decode cX8_init 64 = .ok (.sipush 400, 3) := by decide +kernel
theorem dX8_init_67 : decode cX8_init 67 = .ok (.iastore, 1) := by decide +kernel
theorem dX8_init_68 : decode cX8_init 68 = .ok (.dup, 1) := by decide +kernel
theorem dX8_init_69 : decode cX8_init 69 = .ok (.iconst 2, 1) := by decide +kernel
theorem dX8_init_70 : decode cX8_init 70 = .ok (.bipush 7, 2) := by decide +kernel
theorem dX8_init_72 : decode cX8_init 72 = .ok (.iastore, 1) := by decide +kernel
theorem dX8_init_73 : decode cX8_init 73 = .ok (.dup, 1) := by decide +kernel
theorem dX8_init_74 : decode cX8_init 74 = .ok (.iconst 3, 1) := by decide +kernel
theorem dX8_init_75 : decode cX8_init 75 = .ok (.bipush 8, 2) := by decide +kernel
theorem dX8_init_77 : decode cX8_init 77 = .ok (.iastore, 1) := by decide +kernel
theorem dX8_init_78 : decode cX8_init 78 = .ok (.putfield 22, 3) := by decide +kernel
theorem dX8_init_81 : decode cX8_init 81 = .ok (.aload_n 0, 1) := by decide +kernel
theorem dX8_init_82 : decode cX8_init 82 = .ok (.sipush 14000, 3) := by decide +kernel
theorem dX8_init_85 : decode cX8_init 85 = .ok (.newarray .int, 2) := by decide +kernel
theorem dX8_init_87 : decode cX8_init 87 = .ok (.putfield 25, 3) := by decide +kernel
theorem dX8_init_90 : decode cX8_init 90 = .ok (.aload_n 0, 1) := by decide +kernel
theorem dX8_init_91 : decode cX8_init 91 = .ok (.sipush 14000, 3) := by decide +kernel
theorem dX8_init_94 : decode cX8_init 94 = .ok (.newarray .int, 2) := by decide +kernel
theorem dX8_init_96 : decode cX8_init 96 = .ok (.putfield 28, 3) := by decide +kernel
theorem dX8_init_99 : decode cX8_init 99 = .ok (.aload_n 0, 1) := by decide +kernel
theorem dX8_init_100 : decode cX8_init 100 = .ok (.bipush 32, 2) := by decide +kernel
theorem dX8_init_102 : decode cX8_init 102 = .ok (.newarray .int, 2) := by decide +kernel
theorem dX8_init_104 : decode cX8_init 104 = .ok (.putfield 31, 3) := by decide +kernel
theorem dX8_init_107 : decode cX8_init 107 = .ok (.aload_n 0, 1) := by decide +kernel
theorem dX8_init_108 : decode cX8_init 108 = .ok (.bipush 6, 2) := by decide +kernel
theorem dX8_init_110 : decode cX8_init 110 = .ok (.newarray .int, 2) := by decide +kernel
theorem dX8_init_112 : decode cX8_init 112 = .ok (.putfield 34, 3) := by decide +kernel
theorem dX8_init_115 : decode cX8_init 115 = .ok (.aload_n 0, 1) := by decide +kernel
theorem dX8_init_116 : decode cX8_init 116 = .ok (.bipush 6, 2) := by decide +kernel
theorem dX8_init_118 : decode cX8_init 118 = .ok (.newarray .int, 2) := by decide +kernel
theorem dX8_init_120 : decode cX8_init 120 = .ok (.putfield 37, 3) := by decide +kernel
theorem dX8_init_123 : decode cX8_init 123 = .ok (.aload_n 0, 1) := by decide +kernel
theorem dX8_init_124 : decode cX8_init 124 = .ok (.bipush 6, 2) := by decide +kernel
theorem dX8_init_126 : decode cX8_init 126 = .ok (.newarray .int, 2) := by decide +kernel
theorem dX8_init_128 : decode cX8_init 128 = .ok (.putfield 40, 3) := by decide +kernel
theorem dX8_init_131 : decode cX8_init 131 = .ok (.aload_n 0, 1) := by decide +kernel
theorem dX8_init_132 : decode cX8_init 132 = .ok (.bipush 6, 2) := by decide +kernel
theorem dX8_init_134 : decode cX8_init 134 = .ok (.newarray .int, 2) := by decide +kernel
theorem dX8_init_136 : decode cX8_init 136 = .ok (.putfield 43, 3) := by decide +kernel
theorem dX8_init_139 : decode cX8_init 139 = .ok (.aload_n 0, 1) := by decide +kernel
theorem dX8_init_140 : decode cX8_init 140 = .ok (.bipush 6, 2) := by decide +kernel
theorem dX8_init_142 : decode cX8_init 142 = .ok (.newarray .int, 2) := by decide +kernel
theorem dX8_init_144 : decode cX8_init 144 = .ok (.putfield 46, 3) := by decide +kernel
theorem dX8_init_147 : decode cX8_init 147 = .ok (.aload_n 0, 1) := by decide +kernel
theorem dX8_init_148 : decode cX8_init 148 = .ok (.bipush 6, 2) := by decide +kernel
theorem dX8_init_150 : decode cX8_init 150 = .ok (.newarray .int, 2) := by decide +kernel
theorem dX8_init_152 : decode cX8_init 152 = .ok (.putfield 49, 3) := by decide +kernel
theorem dX8_init_155 : decode cX8_init 155 = .ok (.aload_n 0, 1) := by decide +kernel
theorem dX8_init_156 : decode cX8_init 156 = .ok (.bipush 120, 2) := by decide +kernel
theorem dX8_init_158 : decode cX8_init 158 = .ok (.newarray .int, 2) := by decide +kernel
theorem dX8_init_160 : decode cX8_init 160 = .ok (.putfield 52, 3) := by decide +kernel
theorem dX8_init_163 : decode cX8_init 163 = .ok (.aload_n 0, 1) := by decide +kernel
theorem dX8_init_164 : decode cX8_init 164 = .ok (.bipush 6, 2) := by decide +kernel
theorem dX8_init_166 : decode cX8_init 166 = .ok (.anewarray 55, 3) := by decide +kernel
theorem dX8_init_169 : decode cX8_init 169 = .ok (.dup, 1) := by decide +kernel
theorem dX8_init_170 : decode cX8_init 170 = .ok (.iconst 0, 1) := by decide +kernel
theorem dX8_init_171 : decode cX8_init 171 = .ok (.ldc 57, 2) := by decide +kernel
theorem dX8_init_173 : decode cX8_init 173 = .ok (.aastore, 1) := by decide +kernel
theorem dX8_init_174 : decode cX8_init 174 = .ok (.dup, 1) := by decide +kernel
theorem dX8_init_175 : decode cX8_init 175 = .ok (.iconst 1, 1) := by decide +kernel
theorem dX8_init_176 : decode cX8_init 176 = .ok (.ldc 59, 2) := by decide +kernel
theorem dX8_init_178 : decode cX8_init 178 = .ok (.aastore, 1) := by decide +kernel
theorem dX8_init_179 : decode cX8_init 179 = .ok (.dup, 1) := by decide +kernel
theorem dX8_init_180 : decode cX8_init 180 = .ok (.iconst 2, 1) := by decide +kernel
theorem dX8_init_181 : decode cX8_init 181 = .ok (.ldc 61, 2) := by decide +kernel
theorem dX8_init_183 : decode cX8_init 183 = .ok (.aastore, 1) := by decide +kernel
theorem dX8_init_184 : decode cX8_init 184 = .ok (.dup, 1) := by decide +kernel
theorem dX8_init_185 : decode cX8_init 185 = .ok (.iconst 3, 1) := by decide +kernel
theorem dX8_init_186 : decode cX8_init 186 = .ok (.ldc 63, 2) := by decide +kernel
theorem dX8_init_188 : decode cX8_init 188 = .ok (.aastore, 1) := by decide +kernel
theorem dX8_init_189 : decode cX8_init 189 = .ok (.dup, 1) := by decide +kernel
theorem dX8_init_190 : decode cX8_init 190 = .ok (.iconst 4, 1) := by decide +kernel
theorem dX8_init_191 : decode cX8_init 191 = .ok (.ldc 65, 2) := by decide +kernel
theorem dX8_init_193 : decode cX8_init 193 = .ok (.aastore, 1) := by decide +kernel
theorem dX8_init_194 : decode cX8_init 194 = .ok (.dup, 1) := by decide +kernel
theorem dX8_init_195 : decode cX8_init 195 = .ok (.iconst 5, 1) := by decide +kernel
theorem dX8_init_196 : decode cX8_init 196 = .ok (.ldc 67, 2) := by decide +kernel
theorem dX8_init_198 : decode cX8_init 198 = .ok (.aastore, 1) := by decide +kernel
theorem dX8_init_199 : decode cX8_init 199 = .ok (.putfield 69, 3) := by decide +kernel
theorem dX8_init_202 : decode cX8_init 202 = .ok (.aload_n 0, 1) := by decide +kernel
theorem dX8_init_203 : decode cX8_init 203 = .ok (.iconst 3, 1) := by decide +kernel
theorem dX8_init_204 : decode cX8_init 204 = .ok (.anewarray 55, 3) := by decide +kernel
theorem dX8_init_207 : decode cX8_init 207 = .ok (.dup, 1) := by decide +kernel
theorem dX8_init_208 : decode cX8_init 208 = .ok (.iconst 0, 1) := by decide +kernel
theorem dX8_init_209 : decode cX8_init 209 = .ok (.ldc 73, 2) := by decide +kernel
theorem dX8_init_211 : decode cX8_init 211 = .ok (.aastore, 1) := by decide +kernel
theorem dX8_init_212 : decode cX8_init 212 = .ok (.dup, 1) := by decide +kernel
theorem dX8_init_213 : decode cX8_init 213 = .ok (.iconst 1, 1) := by decide +kernel
theorem dX8_init_214 : decode cX8_init 214 = .ok (.ldc 75, 2) := by decide +kernel
theorem dX8_init_216 : decode cX8_init 216 = .ok (.aastore, 1) := by decide +kernel
theorem dX8_init_217 : decode cX8_init 217 = .ok (.dup, 1) := by decide +kernel
theorem dX8_init_218 : decode cX8_init 218 = .ok (.iconst 2, 1) := by decide +kernel
theorem dX8_init_219 : decode cX8_init 219 = .ok (.ldc 77, 2) := by decide +kernel
theorem dX8_init_221 : decode cX8_init 221 = .ok (.aastore, 1) := by decide +kernel
theorem dX8_init_222 : decode cX8_init 222 = .ok (.putfield 79, 3) := by decide +kernel
theorem dX8_init_225 : decode cX8_init 225 = .ok (.aload_n 0, 1) := by decide +kernel
theorem dX8_init_226 : decode cX8_init 226 = .ok (.sipush 600, 3) := by decide +kernel
theorem dX8_init_229 : decode cX8_init 229 = .ok (.newarray .int, 2) := by decide +kernel
theorem dX8_init_231 : decode cX8_init 231 = .ok (.putfield 82, 3) := by decide +kernel
theorem dX8_init_234 : decode cX8_init 234 = .ok (.aload_n 0, 1) := by decide +kernel
theorem dX8_init_235 : decode cX8_init 235 = .ok (.iconst 4, 1) := by decide +kernel
theorem dX8_init_236 : decode cX8_init 236 = .ok (.newarray .int, 2) := by decide +kernel
theorem dX8_init_238 : decode cX8_init 238 = .ok (.putfield 85, 3) := by decide +kernel
theorem dX8_init_241 : decode cX8_init 241 = .ok (.aload_n 0, 1) := by decide +kernel
theorem dX8_init_242 : decode cX8_init 242 = .ok (.iconst 4, 1) := by decide +kernel
theorem dX8_init_243 : decode cX8_init 243 = .ok (.newarray .int, 2) := by decide +kernel
theorem dX8_init_245 : decode cX8_init 245 = .ok (.putfield 88, 3) := by decide +kernel
theorem dX8_init_248 : decode cX8_init 248 = .ok (.aload_n 0, 1) := by decide +kernel
theorem dX8_init_249 : decode cX8_init 249 = .ok (.sipush 160, 3) := by decide +kernel
theorem dX8_init_252 : decode cX8_init 252 = .ok (.newarray .long, 2) := by decide +kernel
theorem dX8_init_254 : decode cX8_init 254 = .ok (.putfield 91, 3) := by decide +kernel
theorem dX8_init_257 : decode cX8_init 257 = .ok (.aload_n 0, 1) := by decide +kernel
theorem dX8_init_258 : decode cX8_init 258 = .ok (.bipush 40, 2) := by decide +kernel
theorem dX8_init_260 : decode cX8_init 260 = .ok (.newarray .long, 2) := by decide +kernel
theorem dX8_init_262 : decode cX8_init 262 = .ok (.putfield 95, 3) := by decide +kernel
theorem dX8_init_265 : decode cX8_init 265 = .ok (.aload_n 0, 1) := by decide +kernel
theorem dX8_init_266 : decode cX8_init 266 = .ok (.getfield 9, 3) := by decide +kernel
theorem dX8_init_269 : decode cX8_init 269 = .ok (.iconst 0, 1) := by decide +kernel
theorem dX8_init_270 : decode cX8_init 270 = .ok (.bipush 20, 2) := by decide +kernel
theorem dX8_init_272 : decode cX8_init 272 = .ok (.iastore, 1) := by decide +kernel
theorem dX8_init_273 : decode cX8_init 273 = .ok (.aload_n 0, 1) := by decide +kernel
theorem dX8_init_274 : decode cX8_init 274 = .ok (.getfield 9, 3) := by decide +kernel
theorem dX8_init_277 : decode cX8_init 277 = .ok (.iconst 1, 1) := by decide +kernel
theorem dX8_init_278 : decode cX8_init 278 = .ok (.bipush 50, 2) := by decide +kernel
theorem dX8_init_280 : decode cX8_init 280 = .ok (.iastore, 1) := by decide +kernel
theorem dX8_init_281 : decode cX8_init 281 = .ok (.aload_n 0, 1) := by decide +kernel
theorem dX8_init_282 : decode cX8_init 282 = .ok (.getfield 9, 3) := by decide +kernel
theorem dX8_init_285 : decode cX8_init 285 = .ok (.iconst 2, 1) := by decide +kernel
theorem dX8_init_286 : decode cX8_init 286 = .ok (.iconst 3, 1) := by decide +kernel
theorem dX8_init_287 : decode cX8_init 287 = .ok (.iastore, 1) := by decide +kernel
theorem dX8_init_288 : decode cX8_init 288 = .ok (.aload_n 0, 1) := by decide +kernel
theorem dX8_init_289 : decode cX8_init 289 = .ok (.getfield 9, 3) := by decide +kernel
theorem dX8_init_292 : decode cX8_init 292 = .ok (.bipush 8, 2) := by decide +kernel
theorem dX8_init_294 : decode cX8_init 294 = .ok (.iconst 3, 1) := by decide +kernel
theorem dX8_init_295 : decode cX8_init 295 = .ok (.iastore, 1) := by decide +kernel
theorem dX8_init_296 : decode cX8_init 296 = .ok (.return_, 1) := by decide +kernel
theorem dX8_finding_0 : decode cX8_finding 0 = .ok (.aload_n 0, 1) := by decide +kernel
theorem dX8_finding_1 : decode cX8_finding 1 = .ok (.getfield 16, 3) := by decide +kernel
theorem dX8_finding_4 : decode cX8_finding 4 = .ok (.ldc 98, 2) := by decide +kernel
theorem dX8_finding_6 : decode cX8_finding 6 = .ok (.iload_n 1, 1) := by decide +kernel
theorem dX8_finding_7 : decode cX8_finding 7 = .ok (.isub, 1) := by decide +kernel
theorem dX8_finding_8 : decode cX8_finding 8 = .ok (.iconst 1, 1) := by decide +kernel
theorem dX8_finding_9 : decode cX8_finding 9 = .ok (.iadd, 1) := by decide +kernel
theorem dX8_finding_10 : decode cX8_finding 10 = .ok (.dup2, 1) := by decide +kernel
theorem dX8_finding_11 : decode cX8_finding 11 = .ok (.iaload, 1) := by decide +kernel
theorem dX8_finding_12 : decode cX8_finding 12 = .ok (.iconst 1, 1) := by decide +kernel
theorem dX8_finding_13 : decode cX8_finding 13 = .ok (.iadd, 1) := by decide +kernel
theorem dX8_finding_14 : decode cX8_finding 14 = .ok (.iastore, 1) := by decide +kernel
theorem dX8_finding_15 : decode cX8_finding 15 = .ok (.aload_n 0, 1) := by decide +kernel
theorem dX8_finding_16 : decode cX8_finding 16 = .ok (.getfield 16, 3) := by decide +kernel
theorem dX8_finding_19 : decode cX8_finding 19 = .ok (.iconst 0, 1) := by decide +kernel
theorem dX8_finding_20 : decode cX8_finding 20 = .ok (.dup2, 1) := by decide +kernel
theorem dX8_finding_21 : decode cX8_finding 21 = .ok (.iaload, 1) := by decide +kernel
theorem dX8_finding_22 : decode cX8_finding 22 = .ok (.iconst 1, 1) := by decide +kernel
theorem dX8_finding_23 : decode cX8_finding 23 = .ok (.iadd, 1) := by decide +kernel
theorem dX8_finding_24 : decode cX8_finding 24 = .ok (.iastore, 1) := by decide +kernel
theorem dX8_finding_25 : decode cX8_finding 25 = .ok (.iload_n 1, 1) := by decide +kernel
theorem dX8_finding_26 : decode cX8_finding 26 = .ok (.ireturn, 1) := by decide +kernel
theorem dX8_within_0 : decode cX8_within 0 = .ok (.iload_n 0, 1) := by decide +kernel
theorem dX8_within_1 : decode cX8_within 1 = .ok (.iload_n 1, 1) := by decide +kernel
theorem dX8_within_2 : decode cX8_within 2 = .ok (.if_icmp .lt 12, 3) := by decide +kernel
theorem dX8_within_5 : decode cX8_within 5 = .ok (.iload_n 0, 1) := by decide +kernel
theorem dX8_within_6 : decode cX8_within 6 = .ok (.iload_n 2, 1) := by decide +kernel
theorem dX8_within_7 : decode cX8_within 7 = .ok (.if_icmp .gt 7, 3) := by decide +kernel
theorem dX8_within_10 : decode cX8_within 10 = .ok (.iconst 1, 1) := by decide +kernel
theorem dX8_within_11 : decode cX8_within 11 = .ok (.goto 4, 3) := by decide +kernel
theorem dX8_within_14 : decode cX8_within 14 = .ok (.iconst 0, 1) := by decide +kernel
theorem dX8_within_15 : decode cX8_within 15 = .ok (.ireturn, 1) := by decide +kernel
theorem dX8_has_0 : decode cX8_has 0 = .ok (.iload_n 0, 1) := by decide +kernel
theorem dX8_has_1 : decode cX8_has 1 = .ok (.iload_n 1, 1) := by decide +kernel
theorem dX8_has_2 : decode cX8_has 2 = .ok (.ishr, 1) := by decide +kernel
theorem dX8_has_3 : decode cX8_has 3 = .ok (.iconst 1, 1) := by decide +kernel
theorem dX8_has_4 : decode cX8_has 4 = .ok (.iand, 1) := by decide +kernel
theorem dX8_has_5 : decode cX8_has 5 = .ok (.iconst 1, 1) := by decide +kernel
theorem dX8_has_6 : decode cX8_has 6 = .ok (.if_icmp .ne 7, 3) := by decide +kernel
theorem dX8_has_9 : decode cX8_has 9 = .ok (.iconst 1, 1) := by decide +kernel
theorem dX8_has_10 : decode cX8_has 10 = .ok (.goto 4, 3) := by decide +kernel
theorem dX8_has_13 : decode cX8_has 13 = .ok (.iconst 0, 1) := by decide +kernel
theorem dX8_has_14 : decode cX8_has 14 = .ok (.ireturn, 1) := by decide +kernel
theorem dX8_become_0 : decode cX8_become 0 = .ok (.aload_n 0, 1) := by decide +kernel
theorem dX8_become_1 : decode cX8_become 1 = .ok (.getfield 9, 3) := by decide +kernel
theorem dX8_become_4 : decode cX8_become 4 = .ok (.iload_n 1, 1) := by decide +kernel
theorem dX8_become_5 : decode cX8_become 5 = .ok (.iaload, 1) := by decide +kernel
theorem dX8_become_6 : decode cX8_become 6 = .ok (.istore_n 3, 1) := by decide +kernel
theorem dX8_become_7 : decode cX8_become 7 = .ok (.aload_n 0, 1) := by decide +kernel
theorem dX8_become_8 : decode cX8_become 8 = .ok (.getfield 9, 3) := by decide +kernel
theorem dX8_become_11 : decode cX8_become 11 = .ok (.iload_n 1, 1) := by decide +kernel
theorem dX8_become_12 : decode cX8_become 12 = .ok (.iload_n 2, 1) := by decide +kernel
theorem dX8_become_13 : decode cX8_become 13 = .ok (.iastore, 1) := by decide +kernel
theorem dX8_become_14 : decode cX8_become 14 = .ok (.iload_n 3, 1) := by decide +kernel
theorem dX8_become_15 : decode cX8_become 15 = .ok (.ireturn, 1) := by decide +kernel
theorem dX8_beginOf_0 : decode cX8_beginOf 0 = .ok (.aload_n 0, 1) := by decide +kernel
theorem dX8_beginOf_1 : decode cX8_beginOf 1 = .ok (.getfield 9, 3) := by decide +kernel
theorem dX8_beginOf_4 : decode cX8_beginOf 4 = .ok (.iconst 0, 1) := by decide +kernel
theorem dX8_beginOf_5 : decode cX8_beginOf 5 = .ok (.iaload, 1) := by decide +kernel
theorem dX8_beginOf_6 : decode cX8_beginOf 6 = .ok (.iload_n 1, 1) := by decide +kernel
theorem dX8_beginOf_7 : decode cX8_beginOf 7 = .ok (.aload_n 0, 1) := by decide +kernel
theorem dX8_beginOf_8 : decode cX8_beginOf 8 = .ok (.getfield 9, 3) := by decide +kernel
theorem dX8_beginOf_11 : decode cX8_beginOf 11 = .ok (.iconst 1, 1) := by decide +kernel
theorem dX8_beginOf_12 : decode cX8_beginOf 12 = .ok (.iaload, 1) := by decide +kernel
theorem dX8_beginOf_13 : decode cX8_beginOf 13 = .ok (.imul, 1) := by decide +kernel
theorem dX8_beginOf_14 : decode cX8_beginOf 14 = .ok (.iadd, 1) := by decide +kernel
theorem dX8_beginOf_15 : decode cX8_beginOf 15 = .ok (.iload_n 1, 1) := by decide +kernel
theorem dX8_beginOf_16 : decode cX8_beginOf 16 = .ok (.bipush 30, 2) := by decide +kernel
theorem dX8_beginOf_18 : decode cX8_beginOf 18 = .ok (.if_icmp .ge 25, 3) := by decide +kernel
theorem dX8_beginOf_21 : decode cX8_beginOf 21 = .ok (.aload_n 0, 1) := by decide +kernel
theorem dX8_beginOf_22 : decode cX8_beginOf 22 = .ok (.getfield 9, 3) := by decide +kernel
theorem dX8_beginOf_25 : decode cX8_beginOf 25 = .ok (.iconst 4, 1) := by decide +kernel
theorem dX8_beginOf_26 : decode cX8_beginOf 26 = .ok (.iaload, 1) := by decide +kernel
theorem dX8_beginOf_27 : decode cX8_beginOf 27 = .ok (.iload_n 1, 1) := by decide +kernel
theorem dX8_beginOf_28 : decode cX8_beginOf 28 = .ok (.invokestatic 99, 3) := by decide +kernel
theorem dX8_beginOf_31 : decode cX8_beginOf 31 = .ok (.ifCond .eq 12, 3) := by decide +kernel
theorem dX8_beginOf_34 : decode cX8_beginOf 34 = .ok (.aload_n 0, 1) := by decide +kernel
theorem dX8_beginOf_35 : decode cX8_beginOf 35 = .ok (.getfield 9, 3) := by decide +kernel
theorem dX8_beginOf_38 : decode cX8_beginOf 38 = .ok (.iconst 3, 1) := by decide +kernel
theorem dX8_beginOf_39 : decode cX8_beginOf 39 = .ok (.iaload, 1) := by decide +kernel
theorem dX8_beginOf_40 : decode cX8_beginOf 40 = .ok (.goto 4, 3) := by decide +kernel
theorem dX8_beginOf_43 : decode cX8_beginOf 43 = .ok (.iconst 0, 1) := by decide +kernel
theorem dX8_beginOf_44 : decode cX8_beginOf 44 = .ok (.iadd, 1) := by decide +kernel
theorem dX8_beginOf_45 : decode cX8_beginOf 45 = .ok (.ireturn, 1) := by decide +kernel
theorem dX8_isIn_0 : decode cX8_isIn 0 = .ok (.iload_n 2, 1) := by decide +kernel
theorem dX8_isIn_1 : decode cX8_isIn 1 = .ok (.bipush 30, 2) := by decide +kernel
theorem dX8_isIn_3 : decode cX8_isIn 3 = .ok (.if_icmp .ge 22, 3) := by decide +kernel
theorem dX8_isIn_6 : decode cX8_isIn 6 = .ok (.aload_n 0, 1) := by decide +kernel
theorem dX8_isIn_7 : decode cX8_isIn 7 = .ok (.getfield 9, 3) := by decide +kernel
theorem dX8_isIn_10 : decode cX8_isIn 10 = .ok (.iconst 4, 1) := by decide +kernel
theorem dX8_isIn_11 : decode cX8_isIn 11 = .ok (.iload_n 1, 1) := by decide +kernel
theorem dX8_isIn_12 : decode cX8_isIn 12 = .ok (.iadd, 1) := by decide +kernel
theorem dX8_isIn_13 : decode cX8_isIn 13 = .ok (.iaload, 1) := by decide +kernel
theorem dX8_isIn_14 : decode cX8_isIn 14 = .ok (.iload_n 2, 1) := by decide +kernel
theorem dX8_isIn_15 : decode cX8_isIn 15 = .ok (.invokestatic 99, 3) := by decide +kernel
theorem dX8_isIn_18 : decode cX8_isIn 18 = .ok (.ifCond .eq 7, 3) := by decide +kernel
theorem dX8_isIn_21 : decode cX8_isIn 21 = .ok (.iconst 1, 1) := by decide +kernel
theorem dX8_isIn_22 : decode cX8_isIn 22 = .ok (.goto 4, 3) := by decide +kernel
theorem dX8_isIn_25 : decode cX8_isIn 25 = .ok (.iconst 0, 1) := by decide +kernel
theorem dX8_isIn_26 : decode cX8_isIn 26 = .ok (.ireturn, 1) := by decide +kernel
theorem dX8_findTides_0 : decode cX8_findTides 0 = .ok (.iconst 0, 1) := by decide +kernel
theorem dX8_findTides_1 : decode cX8_findTides 1 = .ok (.istore_n 1, 1) := by decide +kernel
theorem dX8_findTides_2 : decode cX8_findTides 2 = .ok (.iconst 0, 1) := by decide +kernel
theorem dX8_findTides_3 : decode cX8_findTides 3 = .ok (.istore_n 2, 1) := by decide +kernel
theorem dX8_findTides_4 : decode cX8_findTides 4 = .ok (.iconst 0, 1) := by decide +kernel
theorem dX8_findTides_5 : decode cX8_findTides 5 = .ok (.istore_n 3, 1) := by decide +kernel
theorem dX8_findTides_6 : decode cX8_findTides 6 = .ok (.iconst 0, 1) := by decide +kernel
theorem dX8_findTides_7 : decode cX8_findTides 7 = .ok (.istore 4, 2) := by decide +kernel
theorem dX8_findTides_9 : decode cX8_findTides 9 = .ok (.iload_n 2, 1) := by decide +kernel
theorem dX8_findTides_10 : decode cX8_findTides 10 = .ok (.sipush 14000, 3) := by decide +kernel
theorem dX8_findTides_13 : decode cX8_findTides 13 = .ok (.if_icmp .ge 90, 3) := by decide +kernel
theorem dX8_findTides_16 : decode cX8_findTides 16 = .ok (.aload_n 0, 1) := by decide +kernel
theorem dX8_findTides_17 : decode cX8_findTides 17 = .ok (.iconst 1, 1) := by decide +kernel
theorem dX8_findTides_18 : decode cX8_findTides 18 = .ok (.iload 4, 2) := by decide +kernel
theorem dX8_findTides_20 : decode cX8_findTides 20 = .ok (.invokevirtual 103, 3) := by decide +kernel
theorem dX8_findTides_23 : decode cX8_findTides 23 = .ok (.ifCond .ne 74, 3) := by decide +kernel
theorem dX8_findTides_26 : decode cX8_findTides 26 = .ok (.aload_n 0, 1) := by decide +kernel
theorem dX8_findTides_27 : decode cX8_findTides 27 = .ok (.iload 4, 2) := by decide +kernel
theorem dX8_findTides_29 : decode cX8_findTides 29 = .ok (.invokevirtual 106, 3) := by decide +kernel
theorem dX8_findTides_32 : decode cX8_findTides 32 = .ok (.istore 5, 2) := by decide +kernel
theorem dX8_findTides_34 : decode cX8_findTides 34 = .ok (.iload 5, 2) := by decide +kernel
theorem dX8_findTides_36 : decode cX8_findTides 36 = .ok (.aload_n 0, 1) := by decide +kernel
theorem dX8_findTides_37 : decode cX8_findTides 37 = .ok (.getfield 9, 3) := by decide +kernel
theorem dX8_findTides_40 : decode cX8_findTides 40 = .ok (.iconst 2, 1) := by decide +kernel
theorem dX8_findTides_41 : decode cX8_findTides 41 = .ok (.iaload, 1) := by decide +kernel
theorem dX8_findTides_42 : decode cX8_findTides 42 = .ok (.iadd, 1) := by decide +kernel
theorem dX8_findTides_43 : decode cX8_findTides 43 = .ok (.istore 6, 2) := by decide +kernel
theorem dX8_findTides_45 : decode cX8_findTides 45 = .ok (.aload_n 0, 1) := by decide +kernel
theorem dX8_findTides_46 : decode cX8_findTides 46 = .ok (.iload_n 2, 1) := by decide +kernel
theorem dX8_findTides_47 : decode cX8_findTides 47 = .ok (.iload 5, 2) := by decide +kernel
theorem dX8_findTides_49 : decode cX8_findTides 49 = .ok (.iload_n 1, 1) := by decide +kernel
theorem dX8_findTides_50 : decode cX8_findTides 50 = .ok (.iload_n 3, 1) := by decide +kernel
theorem dX8_findTides_51 : decode cX8_findTides 51 = .ok (.ifCond .le 7, 3) := by decide +kernel
theorem dX8_findTides_54 : decode cX8_findTides 54 = .ok (.iconst 1, 1) := by decide +kernel
theorem dX8_findTides_55 : decode cX8_findTides 55 = .ok (.goto 4, 3) := by decide +kernel
theorem dX8_findTides_58 : decode cX8_findTides 58 = .ok (.iconst 0, 1) := by decide +kernel
theorem dX8_findTides_59 : decode cX8_findTides 59 = .ok (.invokevirtual 110, 3) := by decide +kernel
theorem dX8_findTides_62 : decode cX8_findTides 62 = .ok (.istore_n 2, 1) := by decide +kernel
theorem dX8_findTides_63 : decode cX8_findTides 63 = .ok (.aload_n 0, 1) := by decide +kernel
theorem dX8_findTides_64 : decode cX8_findTides 64 = .ok (.iconst 2, 1) := by decide +kernel
theorem dX8_findTides_65 : decode cX8_findTides 65 = .ok (.iload 4, 2) := by decide +kernel
theorem dX8_findTides_67 : decode cX8_findTides 67 = .ok (.invokevirtual 103, 3) := by decide +kernel
theorem dX8_findTides_70 : decode cX8_findTides 70 = .ok (.ifCond .eq 9, 3) := by decide +kernel
theorem dX8_findTides_73 : decode cX8_findTides 73 = .ok (.iinc 3 1, 3) := by decide +kernel
theorem dX8_findTides_76 : decode cX8_findTides 76 = .ok (.goto 21, 3) := by decide +kernel
theorem dX8_findTides_79 : decode cX8_findTides 79 = .ok (.aload_n 0, 1) := by decide +kernel
theorem dX8_findTides_80 : decode cX8_findTides 80 = .ok (.iload_n 2, 1) := by decide +kernel
theorem dX8_findTides_81 : decode cX8_findTides 81 = .ok (.iload 6, 2) := by decide +kernel
theorem dX8_findTides_83 : decode cX8_findTides 83 = .ok (.iload_n 1, 1) := by decide +kernel
theorem dX8_findTides_84 : decode cX8_findTides 84 = .ok (.iconst 1, 1) := by decide +kernel
theorem dX8_findTides_85 : decode cX8_findTides 85 = .ok (.invokevirtual 110, 3) := by decide +kernel
theorem dX8_findTides_88 : decode cX8_findTides 88 = .ok (.istore_n 2, 1) := by decide +kernel
theorem dX8_findTides_89 : decode cX8_findTides 89 = .ok (.iload_n 1, 1) := by decide +kernel
theorem dX8_findTides_90 : decode cX8_findTides 90 = .ok (.iconst 1, 1) := by decide +kernel
theorem dX8_findTides_91 : decode cX8_findTides 91 = .ok (.iload_n 3, 1) := by decide +kernel
theorem dX8_findTides_92 : decode cX8_findTides 92 = .ok (.iadd, 1) := by decide +kernel
theorem dX8_findTides_93 : decode cX8_findTides 93 = .ok (.iadd, 1) := by decide +kernel
theorem dX8_findTides_94 : decode cX8_findTides 94 = .ok (.istore_n 1, 1) := by decide +kernel
theorem dX8_findTides_95 : decode cX8_findTides 95 = .ok (.iconst 0, 1) := by decide +kernel
theorem dX8_findTides_96 : decode cX8_findTides 96 = .ok (.istore_n 3, 1) := by decide +kernel
theorem dX8_findTides_97 : decode cX8_findTides 97 = .ok (.iinc 4 1, 3) := by decide +kernel
theorem dX8_findTides_100 : decode cX8_findTides 100 = .ok (.goto (-91), 3) := by decide +kernel
theorem dX8_findTides_103 : decode cX8_findTides 103 = .ok (.iconst 0, 1) := by decide +kernel
theorem dX8_findTides_104 : decode cX8_findTides 104 = .ok (.istore 4, 2) := by decide +kernel
theorem dX8_findTides_106 : decode cX8_findTides 106 = .ok (.sipush 13999, 3) := by decide +kernel
theorem dX8_findTides_109 : decode cX8_findTides 109 = .ok (.istore 5, 2) := by decide +kernel
theorem dX8_findTides_111 : decode cX8_findTides 111 = .ok (.iload 5, 2) := by decide +kernel
theorem dX8_findTides_113 : decode cX8_findTides 113 = .ok (.ifCond .lt 38, 3) := by decide +kernel
theorem dX8_findTides_116 : decode cX8_findTides 116 = .ok (.aload_n 0, 1) := by decide +kernel
theorem dX8_findTides_117 : decode cX8_findTides 117 = .ok (.getfield 28, 3) := by decide +kernel
theorem dX8_findTides_120 : decode cX8_findTides 120 = .ok (.iload 5, 2) := by decide +kernel
theorem dX8_findTides_122 : decode cX8_findTides 122 = .ok (.iaload, 1) := by decide +kernel
theorem dX8_findTides_123 : decode cX8_findTides 123 = .ok (.ifCond .ne 7, 3) := by decide +kernel
theorem dX8_findTides_126 : decode cX8_findTides 126 = .ok (.iconst 0, 1) := by decide +kernel
theorem dX8_findTides_127 : decode cX8_findTides 127 = .ok (.goto 7, 3) := by decide +kernel
theorem dX8_findTides_130 : decode cX8_findTides 130 = .ok (.iload 4, 2) := by decide +kernel
theorem dX8_findTides_132 : decode cX8_findTides 132 = .ok (.iconst 1, 1) := by decide +kernel
theorem dX8_findTides_133 : decode cX8_findTides 133 = .ok (.iadd, 1) := by decide +kernel
theorem dX8_findTides_134 : decode cX8_findTides 134 = .ok (.istore 4, 2) := by decide +kernel
theorem dX8_findTides_136 : decode cX8_findTides 136 = .ok (.aload_n 0, 1) := by decide +kernel
theorem dX8_findTides_137 : decode cX8_findTides 137 = .ok (.getfield 28, 3) := by decide +kernel
theorem dX8_findTides_140 : decode cX8_findTides 140 = .ok (.iload 5, 2) := by decide +kernel
theorem dX8_findTides_142 : decode cX8_findTides 142 = .ok (.iload 4, 2) := by decide +kernel
theorem dX8_findTides_144 : decode cX8_findTides 144 = .ok (.iastore, 1) := by decide +kernel
theorem dX8_findTides_145 : decode cX8_findTides 145 = .ok (.iinc 5 (-1), 3) := by decide +kernel
theorem dX8_findTides_148 : decode cX8_findTides 148 = .ok (.goto (-37), 3) := by decide +kernel
theorem dX8_findTides_151 : decode cX8_findTides 151 = .ok (.aload_n 0, 1) := by decide +kernel
theorem dX8_findTides_152 : decode cX8_findTides 152 = .ok (.iconst 1, 1) := by decide +kernel
theorem dX8_findTides_153 : decode cX8_findTides 153 = .ok (.putfield 114, 3) := by decide +kernel
theorem dX8_findTides_156 : decode cX8_findTides 156 = .ok (.return_, 1) := by decide +kernel
theorem dX8_fills_0 : decode cX8_fills 0 = .ok (.iload_n 1, 1) := by decide +kernel
theorem dX8_fills_1 : decode cX8_fills 1 = .ok (.istore 5, 2) := by decide +kernel
theorem dX8_fills_3 : decode cX8_fills 3 = .ok (.iload 5, 2) := by decide +kernel
theorem dX8_fills_5 : decode cX8_fills 5 = .ok (.iload_n 2, 1) := by decide +kernel
theorem dX8_fills_6 : decode cX8_fills 6 = .ok (.if_icmp .ge 42, 3) := by decide +kernel
theorem dX8_fills_9 : decode cX8_fills 9 = .ok (.iload 5, 2) := by decide +kernel
theorem dX8_fills_11 : decode cX8_fills 11 = .ok (.sipush 14000, 3) := by decide +kernel
theorem dX8_fills_14 : decode cX8_fills 14 = .ok (.if_icmp .ge 34, 3) := by decide +kernel
theorem dX8_fills_17 : decode cX8_fills 17 = .ok (.aload_n 0, 1) := by decide +kernel
theorem dX8_fills_18 : decode cX8_fills 18 = .ok (.getfield 25, 3) := by decide +kernel
theorem dX8_fills_21 : decode cX8_fills 21 = .ok (.iload 5, 2) := by decide +kernel
theorem dX8_fills_23 : decode cX8_fills 23 = .ok (.iload_n 3, 1) := by decide +kernel
theorem dX8_fills_24 : decode cX8_fills 24 = .ok (.iastore, 1) := by decide +kernel
theorem dX8_fills_25 : decode cX8_fills 25 = .ok (.aload_n 0, 1) := by decide +kernel
theorem dX8_fills_26 : decode cX8_fills 26 = .ok (.getfield 28, 3) := by decide +kernel
theorem dX8_fills_29 : decode cX8_fills 29 = .ok (.iload 5, 2) := by decide +kernel
theorem dX8_fills_31 : decode cX8_fills 31 = .ok (.iload 4, 2) := by decide +kernel
theorem dX8_fills_33 : decode cX8_fills 33 = .ok (.ifCond .eq 7, 3) := by decide +kernel
theorem dX8_fills_36 : decode cX8_fills 36 = .ok (.iconst 0, 1) := by decide +kernel
theorem dX8_fills_37 : decode cX8_fills 37 = .ok (.goto 4, 3) := by decide +kernel
theorem dX8_fills_40 : decode cX8_fills 40 = .ok (.iconst 1, 1) := by decide +kernel
theorem dX8_fills_41 : decode cX8_fills 41 = .ok (.iastore, 1) := by decide +kernel
theorem dX8_fills_42 : decode cX8_fills 42 = .ok (.iinc 5 1, 3) := by decide +kernel
theorem dX8_fills_45 : decode cX8_fills 45 = .ok (.goto (-42), 3) := by decide +kernel
theorem dX8_fills_48 : decode cX8_fills 48 = .ok (.iload 5, 2) := by decide +kernel
theorem dX8_fills_50 : decode cX8_fills 50 = .ok (.ireturn, 1) := by decide +kernel
theorem dX8_turnedAt_0 : decode cX8_turnedAt 0 = .ok (.aload_n 0, 1) := by decide +kernel
theorem dX8_turnedAt_1 : decode cX8_turnedAt 1 = .ok (.getfield 114, 3) := by decide +kernel
theorem dX8_turnedAt_4 : decode cX8_turnedAt 4 = .ok (.ifCond .ne 7, 3) := by decide +kernel
theorem dX8_turnedAt_7 : decode cX8_turnedAt 7 = .ok (.aload_n 0, 1) := by decide +kernel
theorem dX8_turnedAt_8 : decode cX8_turnedAt 8 = .ok (.invokevirtual 118, 3) := by decide +kernel
theorem dX8_turnedAt_11 : decode cX8_turnedAt 11 = .ok (.aload_n 0, 1) := by decide +kernel
theorem dX8_turnedAt_12 : decode cX8_turnedAt 12 = .ok (.getfield 25, 3) := by decide +kernel
theorem dX8_turnedAt_15 : decode cX8_turnedAt 15 = .ok (.iload_n 1, 1) := by decide +kernel
theorem dX8_turnedAt_16 : decode cX8_turnedAt 16 = .ok (.iaload, 1) := by decide +kernel
theorem dX8_turnedAt_17 : decode cX8_turnedAt 17 = .ok (.ireturn, 1) := by decide +kernel
theorem dX8_stillAt_0 : decode cX8_stillAt 0 = .ok (.aload_n 0, 1) := by decide +kernel
theorem dX8_stillAt_1 : decode cX8_stillAt 1 = .ok (.getfield 114, 3) := by decide +kernel
theorem dX8_stillAt_4 : decode cX8_stillAt 4 = .ok (.ifCond .ne 7, 3) := by decide +kernel
theorem dX8_stillAt_7 : decode cX8_stillAt 7 = .ok (.aload_n 0, 1) := by decide +kernel
theorem dX8_stillAt_8 : decode cX8_stillAt 8 = .ok (.invokevirtual 118, 3) := by decide +kernel
theorem dX8_stillAt_11 : decode cX8_stillAt 11 = .ok (.aload_n 0, 1) := by decide +kernel
theorem dX8_stillAt_12 : decode cX8_stillAt 12 = .ok (.getfield 28, 3) := by decide +kernel
theorem dX8_stillAt_15 : decode cX8_stillAt 15 = .ok (.iload_n 1, 1) := by decide +kernel
theorem dX8_stillAt_16 : decode cX8_stillAt 16 = .ok (.iaload, 1) := by decide +kernel
theorem dX8_stillAt_17 : decode cX8_stillAt 17 = .ok (.ireturn, 1) := by decide +kernel
theorem dX8_tides_0 : decode cX8_tides 0 = .ok (.iload_n 1, 1) := by decide +kernel
theorem dX8_tides_1 : decode cX8_tides 1 = .ok (.iconst 0, 1) := by decide +kernel
theorem dX8_tides_2 : decode cX8_tides 2 = .ok (.iconst 3, 1) := by decide +kernel
theorem dX8_tides_3 : decode cX8_tides 3 = .ok (.invokestatic 121, 3) := by decide +kernel
theorem dX8_tides_6 : decode cX8_tides 6 = .ok (.ifCond .eq 22, 3) := by decide +kernel
theorem dX8_tides_9 : decode cX8_tides 9 = .ok (.iload_n 2, 1) := by decide +kernel
theorem dX8_tides_10 : decode cX8_tides 10 = .ok (.aload_n 0, 1) := by decide +kernel
theorem dX8_tides_11 : decode cX8_tides 11 = .ok (.getfield 19, 3) := by decide +kernel
theorem dX8_tides_14 : decode cX8_tides 14 = .ok (.iload_n 1, 1) := by decide +kernel
theorem dX8_tides_15 : decode cX8_tides 15 = .ok (.iaload, 1) := by decide +kernel
theorem dX8_tides_16 : decode cX8_tides 16 = .ok (.aload_n 0, 1) := by decide +kernel
theorem dX8_tides_17 : decode cX8_tides 17 = .ok (.getfield 22, 3) := by decide +kernel
theorem dX8_tides_20 : decode cX8_tides 20 = .ok (.iload_n 1, 1) := by decide +kernel
theorem dX8_tides_21 : decode cX8_tides 21 = .ok (.iaload, 1) := by decide +kernel
theorem dX8_tides_22 : decode cX8_tides 22 = .ok (.invokestatic 121, 3) := by decide +kernel
theorem dX8_tides_25 : decode cX8_tides 25 = .ok (.ifCond .ne 10, 3) := by decide +kernel
theorem dX8_tides_28 : decode cX8_tides 28 = .ok (.aload_n 0, 1) := by decide +kernel
theorem dX8_tides_29 : decode cX8_tides 29 = .ok (.ldc 98, 2) := by decide +kernel
theorem dX8_tides_31 : decode cX8_tides 31 = .ok (.invokevirtual 125, 3) := by decide +kernel
theorem dX8_tides_34 : decode cX8_tides 34 = .ok (.ireturn, 1) := by decide +kernel
theorem dX8_tides_35 : decode cX8_tides 35 = .ok (.aload_n 0, 1) := by decide +kernel
theorem dX8_tides_36 : decode cX8_tides 36 = .ok (.iconst 0, 1) := by decide +kernel
theorem dX8_tides_37 : decode cX8_tides 37 = .ok (.putfield 114, 3) := by decide +kernel
theorem dX8_tides_40 : decode cX8_tides 40 = .ok (.aload_n 0, 1) := by decide +kernel
theorem dX8_tides_41 : decode cX8_tides 41 = .ok (.iconst 0, 1) := by decide +kernel
theorem dX8_tides_42 : decode cX8_tides 42 = .ok (.iload_n 1, 1) := by decide +kernel
theorem dX8_tides_43 : decode cX8_tides 43 = .ok (.iadd, 1) := by decide +kernel
theorem dX8_tides_44 : decode cX8_tides 44 = .ok (.iload_n 2, 1) := by decide +kernel
theorem dX8_tides_45 : decode cX8_tides 45 = .ok (.invokevirtual 128, 3) := by decide +kernel
theorem dX8_tides_48 : decode cX8_tides 48 = .ok (.ireturn, 1) := by decide +kernel
theorem dX8_sets_0 : decode cX8_sets 0 = .ok (.iload_n 1, 1) := by decide +kernel
theorem dX8_sets_1 : decode cX8_sets 1 = .ok (.iconst 0, 1) := by decide +kernel
theorem dX8_sets_2 : decode cX8_sets 2 = .ok (.iconst 2, 1) := by decide +kernel
theorem dX8_sets_3 : decode cX8_sets 3 = .ok (.invokestatic 121, 3) := by decide +kernel
theorem dX8_sets_6 : decode cX8_sets 6 = .ok (.ifCond .eq 13, 3) := by decide +kernel
theorem dX8_sets_9 : decode cX8_sets 9 = .ok (.iload_n 2, 1) := by decide +kernel
theorem dX8_sets_10 : decode cX8_sets 10 = .ok (.iconst 0, 1) := by decide +kernel
theorem dX8_sets_11 : decode cX8_sets 11 = .ok (.ldc 132, 2) := by decide +kernel
theorem dX8_sets_13 : decode cX8_sets 13 = .ok (.invokestatic 121, 3) := by decide +kernel
theorem dX8_sets_16 : decode cX8_sets 16 = .ok (.ifCond .ne 10, 3) := by decide +kernel
theorem dX8_sets_19 : decode cX8_sets 19 = .ok (.aload_n 0, 1) := by decide +kernel
theorem dX8_sets_20 : decode cX8_sets 20 = .ok (.ldc 98, 2) := by decide +kernel
theorem dX8_sets_22 : decode cX8_sets 22 = .ok (.invokevirtual 125, 3) := by decide +kernel
theorem dX8_sets_25 : decode cX8_sets 25 = .ok (.ireturn, 1) := by decide +kernel
theorem dX8_sets_26 : decode cX8_sets 26 = .ok (.aload_n 0, 1) := by decide +kernel
theorem dX8_sets_27 : decode cX8_sets 27 = .ok (.iconst 0, 1) := by decide +kernel
theorem dX8_sets_28 : decode cX8_sets 28 = .ok (.putfield 114, 3) := by decide +kernel
theorem dX8_sets_31 : decode cX8_sets 31 = .ok (.aload_n 0, 1) := by decide +kernel
theorem dX8_sets_32 : decode cX8_sets 32 = .ok (.iconst 4, 1) := by decide +kernel
theorem dX8_sets_33 : decode cX8_sets 33 = .ok (.iload_n 1, 1) := by decide +kernel
theorem dX8_sets_34 : decode cX8_sets 34 = .ok (.iadd, 1) := by decide +kernel
theorem dX8_sets_35 : decode cX8_sets 35 = .ok (.iload_n 2, 1) := by decide +kernel
theorem dX8_sets_36 : decode cX8_sets 36 = .ok (.invokevirtual 128, 3) := by decide +kernel
theorem dX8_sets_39 : decode cX8_sets 39 = .ok (.ireturn, 1) := by decide +kernel
theorem dX8_isSide_0 : decode cX8_isSide 0 = .ok (.iload_n 0, 1) := by decide +kernel
theorem dX8_isSide_1 : decode cX8_isSide 1 = .ok (.iconst 0, 1) := by decide +kernel
theorem dX8_isSide_2 : decode cX8_isSide 2 = .ok (.iconst 3, 1) := by decide +kernel
theorem dX8_isSide_3 : decode cX8_isSide 3 = .ok (.invokestatic 121, 3) := by decide +kernel
theorem dX8_isSide_6 : decode cX8_isSide 6 = .ok (.ireturn, 1) := by decide +kernel
theorem dX8_isTick_0 : decode cX8_isTick 0 = .ok (.iload_n 0, 1) := by decide +kernel
theorem dX8_isTick_1 : decode cX8_isTick 1 = .ok (.iconst 0, 1) := by decide +kernel
theorem dX8_isTick_2 : decode cX8_isTick 2 = .ok (.sipush 9999, 3) := by decide +kernel
theorem dX8_isTick_5 : decode cX8_isTick 5 = .ok (.invokestatic 121, 3) := by decide +kernel
theorem dX8_isTick_8 : decode cX8_isTick 8 = .ok (.ireturn, 1) := by decide +kernel
theorem dX8_isSpan_0 : decode cX8_isSpan 0 = .ok (.iload_n 0, 1) := by decide +kernel
theorem dX8_isSpan_1 : decode cX8_isSpan 1 = .ok (.iconst 1, 1) := by decide +kernel
theorem dX8_isSpan_2 : decode cX8_isSpan 2 = .ok (.sipush 960, 3) := by decide +kernel
theorem dX8_isSpan_5 : decode cX8_isSpan 5 = .ok (.invokestatic 121, 3) := by decide +kernel
theorem dX8_isSpan_8 : decode cX8_isSpan 8 = .ok (.ireturn, 1) := by decide +kernel
theorem dX8_wind_0 : decode cX8_wind 0 = .ok (.iload_n 1, 1) := by decide +kernel
theorem dX8_wind_1 : decode cX8_wind 1 = .ok (.invokestatic 133, 3) := by decide +kernel
theorem dX8_wind_4 : decode cX8_wind 4 = .ok (.ifCond .eq 13, 3) := by decide +kernel
theorem dX8_wind_7 : decode cX8_wind 7 = .ok (.iload_n 2, 1) := by decide +kernel
theorem dX8_wind_8 : decode cX8_wind 8 = .ok (.iconst 0, 1) := by decide +kernel
theorem dX8_wind_9 : decode cX8_wind 9 = .ok (.bipush 9, 2) := by decide +kernel
theorem dX8_wind_11 : decode cX8_wind 11 = .ok (.invokestatic 121, 3) := by decide +kernel
theorem dX8_wind_14 : decode cX8_wind 14 = .ok (.ifCond .ne 10, 3) := by decide +kernel
theorem dX8_wind_17 : decode cX8_wind 17 = .ok (.aload_n 0, 1) := by decide +kernel
theorem dX8_wind_18 : decode cX8_wind 18 = .ok (.ldc 98, 2) := by decide +kernel
theorem dX8_wind_20 : decode cX8_wind 20 = .ok (.invokevirtual 125, 3) := by decide +kernel
theorem dX8_wind_23 : decode cX8_wind 23 = .ok (.ireturn, 1) := by decide +kernel
theorem dX8_wind_24 : decode cX8_wind 24 = .ok (.aload_n 0, 1) := by decide +kernel
theorem dX8_wind_25 : decode cX8_wind 25 = .ok (.getfield 9, 3) := by decide +kernel
theorem dX8_wind_28 : decode cX8_wind 28 = .ok (.bipush 7, 2) := by decide +kernel
theorem dX8_wind_30 : decode cX8_wind 30 = .ok (.iload_n 1, 1) := by decide +kernel
theorem dX8_wind_31 : decode cX8_wind 31 = .ok (.iastore, 1) := by decide +kernel
theorem dX8_wind_32 : decode cX8_wind 32 = .ok (.aload_n 0, 1) := by decide +kernel
theorem dX8_wind_33 : decode cX8_wind 33 = .ok (.bipush 8, 2) := by decide +kernel
theorem dX8_wind_35 : decode cX8_wind 35 = .ok (.iload_n 2, 1) := by decide +kernel
theorem dX8_wind_36 : decode cX8_wind 36 = .ok (.invokevirtual 128, 3) := by decide +kernel
theorem dX8_wind_39 : decode cX8_wind 39 = .ok (.ireturn, 1) := by decide +kernel
theorem dX8_tide_0 : decode cX8_tide 0 = .ok (.iload_n 1, 1) := by decide +kernel
theorem dX8_tide_1 : decode cX8_tide 1 = .ok (.iconst 0, 1) := by decide +kernel
theorem dX8_tide_2 : decode cX8_tide 2 = .ok (.sipush 199, 3) := by decide +kernel
theorem dX8_tide_5 : decode cX8_tide 5 = .ok (.invokestatic 121, 3) := by decide +kernel
theorem dX8_tide_8 : decode cX8_tide 8 = .ok (.ifCond .eq 12, 3) := by decide +kernel
theorem dX8_tide_11 : decode cX8_tide 11 = .ok (.iload_n 2, 1) := by decide +kernel
theorem dX8_tide_12 : decode cX8_tide 12 = .ok (.iconst 0, 1) := by decide +kernel
theorem dX8_tide_13 : decode cX8_tide 13 = .ok (.iconst 1, 1) := by decide +kernel
theorem dX8_tide_14 : decode cX8_tide 14 = .ok (.invokestatic 121, 3) := by decide +kernel
theorem dX8_tide_17 : decode cX8_tide 17 = .ok (.ifCond .ne 10, 3) := by decide +kernel
theorem dX8_tide_20 : decode cX8_tide 20 = .ok (.aload_n 0, 1) := by decide +kernel
theorem dX8_tide_21 : decode cX8_tide 21 = .ok (.ldc 98, 2) := by decide +kernel
theorem dX8_tide_23 : decode cX8_tide 23 = .ok (.invokevirtual 125, 3) := by decide +kernel
theorem dX8_tide_26 : decode cX8_tide 26 = .ok (.ireturn, 1) := by decide +kernel
theorem dX8_tide_27 : decode cX8_tide 27 = .ok (.aload_n 0, 1) := by decide +kernel
theorem dX8_tide_28 : decode cX8_tide 28 = .ok (.iload_n 1, 1) := by decide +kernel
theorem dX8_tide_29 : decode cX8_tide 29 = .ok (.invokevirtual 106, 3) := by decide +kernel
theorem dX8_tide_32 : decode cX8_tide 32 = .ok (.iload_n 2, 1) := by decide +kernel
theorem dX8_tide_33 : decode cX8_tide 33 = .ok (.aload_n 0, 1) := by decide +kernel
theorem dX8_tide_34 : decode cX8_tide 34 = .ok (.getfield 9, 3) := by decide +kernel
theorem dX8_tide_37 : decode cX8_tide 37 = .ok (.iconst 2, 1) := by decide +kernel
theorem dX8_tide_38 : decode cX8_tide 38 = .ok (.iaload, 1) := by decide +kernel
theorem dX8_tide_39 : decode cX8_tide 39 = .ok (.imul, 1) := by decide +kernel
theorem dX8_tide_40 : decode cX8_tide 40 = .ok (.iadd, 1) := by decide +kernel
theorem dX8_tide_41 : decode cX8_tide 41 = .ok (.ireturn, 1) := by decide +kernel
theorem dX8_turned_0 : decode cX8_turned 0 = .ok (.iload_n 1, 1) := by decide +kernel
theorem dX8_turned_1 : decode cX8_turned 1 = .ok (.invokestatic 137, 3) := by decide +kernel
theorem dX8_turned_4 : decode cX8_turned 4 = .ok (.ifCond .eq 11, 3) := by decide +kernel
theorem dX8_turned_7 : decode cX8_turned 7 = .ok (.aload_n 0, 1) := by decide +kernel
theorem dX8_turned_8 : decode cX8_turned 8 = .ok (.iload_n 1, 1) := by decide +kernel
theorem dX8_turned_9 : decode cX8_turned 9 = .ok (.invokevirtual 140, 3) := by decide +kernel
theorem dX8_turned_12 : decode cX8_turned 12 = .ok (.goto 9, 3) := by decide +kernel
theorem dX8_turned_15 : decode cX8_turned 15 = .ok (.aload_n 0, 1) := by decide +kernel
theorem dX8_turned_16 : decode cX8_turned 16 = .ok (.ldc 98, 2) := by decide +kernel
theorem dX8_turned_18 : decode cX8_turned 18 = .ok (.invokevirtual 125, 3) := by decide +kernel
theorem dX8_turned_21 : decode cX8_turned 21 = .ok (.ireturn, 1) := by decide +kernel
theorem dX8_between_0 : decode cX8_between 0 = .ok (.iload_n 1, 1) := by decide +kernel
theorem dX8_between_1 : decode cX8_between 1 = .ok (.invokestatic 137, 3) := by decide +kernel
theorem dX8_between_4 : decode cX8_between 4 = .ok (.ifCond .eq 19, 3) := by decide +kernel
theorem dX8_between_7 : decode cX8_between 7 = .ok (.aload_n 0, 1) := by decide +kernel
theorem dX8_between_8 : decode cX8_between 8 = .ok (.iload_n 1, 1) := by decide +kernel
theorem dX8_between_9 : decode cX8_between 9 = .ok (.invokevirtual 143, 3) := by decide +kernel
theorem dX8_between_12 : decode cX8_between 12 = .ok (.ifCond .ne 7, 3) := by decide +kernel
theorem dX8_between_15 : decode cX8_between 15 = .ok (.iconst 1, 1) := by decide +kernel
theorem dX8_between_16 : decode cX8_between 16 = .ok (.goto 13, 3) := by decide +kernel
theorem dX8_between_19 : decode cX8_between 19 = .ok (.iconst 0, 1) := by decide +kernel
theorem dX8_between_20 : decode cX8_between 20 = .ok (.goto 9, 3) := by decide +kernel
theorem dX8_between_23 : decode cX8_between 23 = .ok (.aload_n 0, 1) := by decide +kernel
theorem dX8_between_24 : decode cX8_between 24 = .ok (.ldc 98, 2) := by decide +kernel
theorem dX8_between_26 : decode cX8_between 26 = .ok (.invokevirtual 125, 3) := by decide +kernel
theorem dX8_between_29 : decode cX8_between 29 = .ok (.ireturn, 1) := by decide +kernel
theorem dX8_sideOf_0 : decode cX8_sideOf 0 = .ok (.aload_n 0, 1) := by decide +kernel
theorem dX8_sideOf_1 : decode cX8_sideOf 1 = .ok (.iload_n 2, 1) := by decide +kernel
theorem dX8_sideOf_2 : decode cX8_sideOf 2 = .ok (.invokevirtual 143, 3) := by decide +kernel
theorem dX8_sideOf_5 : decode cX8_sideOf 5 = .ok (.ifCond .ne 7, 3) := by decide +kernel
theorem dX8_sideOf_8 : decode cX8_sideOf 8 = .ok (.iconst (-1), 1) := by decide +kernel
theorem dX8_sideOf_9 : decode cX8_sideOf 9 = .ok (.goto 12, 3) := by decide +kernel
theorem dX8_sideOf_12 : decode cX8_sideOf 12 = .ok (.iload_n 1, 1) := by decide +kernel
theorem dX8_sideOf_13 : decode cX8_sideOf 13 = .ok (.aload_n 0, 1) := by decide +kernel
theorem dX8_sideOf_14 : decode cX8_sideOf 14 = .ok (.iload_n 2, 1) := by decide +kernel
theorem dX8_sideOf_15 : decode cX8_sideOf 15 = .ok (.invokevirtual 140, 3) := by decide +kernel
theorem dX8_sideOf_18 : decode cX8_sideOf 18 = .ok (.iadd, 1) := by decide +kernel
theorem dX8_sideOf_19 : decode cX8_sideOf 19 = .ok (.iconst 4, 1) := by decide +kernel
theorem dX8_sideOf_20 : decode cX8_sideOf 20 = .ok (.irem, 1) := by decide +kernel
theorem dX8_sideOf_21 : decode cX8_sideOf 21 = .ok (.ireturn, 1) := by decide +kernel
theorem dX8_frontTo_0 : decode cX8_frontTo 0 = .ok (.iload_n 1, 1) := by decide +kernel
theorem dX8_frontTo_1 : decode cX8_frontTo 1 = .ok (.iconst 4, 1) := by decide +kernel
theorem dX8_frontTo_2 : decode cX8_frontTo 2 = .ok (.iadd, 1) := by decide +kernel
theorem dX8_frontTo_3 : decode cX8_frontTo 3 = .ok (.aload_n 0, 1) := by decide +kernel
theorem dX8_frontTo_4 : decode cX8_frontTo 4 = .ok (.iload_n 2, 1) := by decide +kernel
theorem dX8_frontTo_5 : decode cX8_frontTo 5 = .ok (.invokevirtual 140, 3) := by decide +kernel
theorem dX8_frontTo_8 : decode cX8_frontTo 8 = .ok (.iconst 4, 1) := by decide +kernel
theorem dX8_frontTo_9 : decode cX8_frontTo 9 = .ok (.irem, 1) := by decide +kernel
theorem dX8_frontTo_10 : decode cX8_frontTo 10 = .ok (.isub, 1) := by decide +kernel
theorem dX8_frontTo_11 : decode cX8_frontTo 11 = .ok (.iconst 4, 1) := by decide +kernel
theorem dX8_frontTo_12 : decode cX8_frontTo 12 = .ok (.irem, 1) := by decide +kernel
theorem dX8_frontTo_13 : decode cX8_frontTo 13 = .ok (.ireturn, 1) := by decide +kernel
theorem dX8_looks_0 : decode cX8_looks 0 = .ok (.iload_n 1, 1) := by decide +kernel
theorem dX8_looks_1 : decode cX8_looks 1 = .ok (.invokestatic 133, 3) := by decide +kernel
theorem dX8_looks_4 : decode cX8_looks 4 = .ok (.ifCond .eq 19, 3) := by decide +kernel
theorem dX8_looks_7 : decode cX8_looks 7 = .ok (.iload_n 2, 1) := by decide +kernel
theorem dX8_looks_8 : decode cX8_looks 8 = .ok (.invokestatic 137, 3) := by decide +kernel
theorem dX8_looks_11 : decode cX8_looks 11 = .ok (.ifCond .eq 12, 3) := by decide +kernel
theorem dX8_looks_14 : decode cX8_looks 14 = .ok (.aload_n 0, 1) := by decide +kernel
theorem dX8_looks_15 : decode cX8_looks 15 = .ok (.iload_n 1, 1) := by decide +kernel
theorem dX8_looks_16 : decode cX8_looks 16 = .ok (.iload_n 2, 1) := by decide +kernel
theorem dX8_looks_17 : decode cX8_looks 17 = .ok (.invokevirtual 146, 3) := by decide +kernel
theorem dX8_looks_20 : decode cX8_looks 20 = .ok (.goto 9, 3) := by decide +kernel
theorem dX8_looks_23 : decode cX8_looks 23 = .ok (.aload_n 0, 1) := by decide +kernel
theorem dX8_looks_24 : decode cX8_looks 24 = .ok (.ldc 98, 2) := by decide +kernel
theorem dX8_looks_26 : decode cX8_looks 26 = .ok (.invokevirtual 125, 3) := by decide +kernel
theorem dX8_looks_29 : decode cX8_looks 29 = .ok (.ireturn, 1) := by decide +kernel
theorem dX8_front_0 : decode cX8_front 0 = .ok (.iload_n 1, 1) := by decide +kernel
theorem dX8_front_1 : decode cX8_front 1 = .ok (.invokestatic 133, 3) := by decide +kernel
theorem dX8_front_4 : decode cX8_front 4 = .ok (.ifCond .eq 10, 3) := by decide +kernel
theorem dX8_front_7 : decode cX8_front 7 = .ok (.iload_n 2, 1) := by decide +kernel
theorem dX8_front_8 : decode cX8_front 8 = .ok (.invokestatic 137, 3) := by decide +kernel
theorem dX8_front_11 : decode cX8_front 11 = .ok (.ifCond .ne 10, 3) := by decide +kernel
theorem dX8_front_14 : decode cX8_front 14 = .ok (.aload_n 0, 1) := by decide +kernel
theorem dX8_front_15 : decode cX8_front 15 = .ok (.ldc 98, 2) := by decide +kernel
theorem dX8_front_17 : decode cX8_front 17 = .ok (.invokevirtual 125, 3) := by decide +kernel
theorem dX8_front_20 : decode cX8_front 20 = .ok (.ireturn, 1) := by decide +kernel
theorem dX8_front_21 : decode cX8_front 21 = .ok (.aload_n 0, 1) := by decide +kernel
theorem dX8_front_22 : decode cX8_front 22 = .ok (.iload_n 2, 1) := by decide +kernel
theorem dX8_front_23 : decode cX8_front 23 = .ok (.invokevirtual 143, 3) := by decide +kernel
theorem dX8_front_26 : decode cX8_front 26 = .ok (.ifCond .ne 12, 3) := by decide +kernel
theorem dX8_front_29 : decode cX8_front 29 = .ok (.aload_n 0, 1) := by decide +kernel
theorem dX8_front_30 : decode cX8_front 30 = .ok (.ldc 149, 2) := by decide +kernel
theorem dX8_front_32 : decode cX8_front 32 = .ok (.invokevirtual 125, 3) := by decide +kernel
theorem dX8_front_35 : decode cX8_front 35 = .ok (.goto 9, 3) := by decide +kernel
theorem dX8_front_38 : decode cX8_front 38 = .ok (.aload_n 0, 1) := by decide +kernel
theorem dX8_front_39 : decode cX8_front 39 = .ok (.iload_n 1, 1) := by decide +kernel
theorem dX8_front_40 : decode cX8_front 40 = .ok (.iload_n 2, 1) := by decide +kernel
theorem dX8_front_41 : decode cX8_front 41 = .ok (.invokevirtual 150, 3) := by decide +kernel
theorem dX8_front_44 : decode cX8_front 44 = .ok (.ireturn, 1) := by decide +kernel
theorem dX8_when_0 : decode cX8_when 0 = .ok (.iload_n 1, 1) := by decide +kernel
theorem dX8_when_1 : decode cX8_when 1 = .ok (.invokestatic 133, 3) := by decide +kernel
theorem dX8_when_4 : decode cX8_when 4 = .ok (.ifCond .eq 17, 3) := by decide +kernel
theorem dX8_when_7 : decode cX8_when 7 = .ok (.iload_n 2, 1) := by decide +kernel
theorem dX8_when_8 : decode cX8_when 8 = .ok (.invokestatic 133, 3) := by decide +kernel
theorem dX8_when_11 : decode cX8_when 11 = .ok (.ifCond .eq 10, 3) := by decide +kernel
theorem dX8_when_14 : decode cX8_when 14 = .ok (.iload_n 3, 1) := by decide +kernel
theorem dX8_when_15 : decode cX8_when 15 = .ok (.invokestatic 137, 3) := by decide +kernel
theorem dX8_when_18 : decode cX8_when 18 = .ok (.ifCond .ne 10, 3) := by decide +kernel
theorem dX8_when_21 : decode cX8_when 21 = .ok (.aload_n 0, 1) := by decide +kernel
theorem dX8_when_22 : decode cX8_when 22 = .ok (.ldc 98, 2) := by decide +kernel
theorem dX8_when_24 : decode cX8_when 24 = .ok (.invokevirtual 125, 3) := by decide +kernel
theorem dX8_when_27 : decode cX8_when 27 = .ok (.ireturn, 1) := by decide +kernel
theorem dX8_when_28 : decode cX8_when 28 = .ok (.iload_n 3, 1) := by decide +kernel
theorem dX8_when_29 : decode cX8_when 29 = .ok (.istore 4, 2) := by decide +kernel
theorem dX8_when_31 : decode cX8_when 31 = .ok (.iload 4, 2) := by decide +kernel
theorem dX8_when_33 : decode cX8_when 33 = .ok (.iload_n 3, 1) := by decide +kernel
theorem dX8_when_34 : decode cX8_when 34 = .ok (.sipush 960, 3) := by decide +kernel
theorem dX8_when_37 : decode cX8_when 37 = .ok (.iadd, 1) := by decide +kernel
theorem dX8_when_38 : decode cX8_when 38 = .ok (.if_icmp .ge 23, 3) := by decide +kernel
theorem dX8_when_41 : decode cX8_when 41 = .ok (.aload_n 0, 1) := by decide +kernel
theorem dX8_when_42 : decode cX8_when 42 = .ok (.iload_n 1, 1) := by decide +kernel
theorem dX8_when_43 : decode cX8_when 43 = .ok (.iload 4, 2) := by decide +kernel
theorem dX8_when_45 : decode cX8_when 45 = .ok (.invokevirtual 146, 3) := by decide +kernel
theorem dX8_when_48 : decode cX8_when 48 = .ok (.iload_n 2, 1) := by decide +kernel
theorem dX8_when_49 : decode cX8_when 49 = .ok (.if_icmp .ne 6, 3) := by decide +kernel
theorem dX8_when_52 : decode cX8_when 52 = .ok (.iload 4, 2) := by decide +kernel
theorem dX8_when_54 : decode cX8_when 54 = .ok (.ireturn, 1) := by decide +kernel
theorem dX8_when_55 : decode cX8_when 55 = .ok (.iinc 4 1, 3) := by decide +kernel
theorem dX8_when_58 : decode cX8_when 58 = .ok (.goto (-27), 3) := by decide +kernel
theorem dX8_when_61 : decode cX8_when 61 = .ok (.aload_n 0, 1) := by decide +kernel
theorem dX8_when_62 : decode cX8_when 62 = .ok (.ldc 149, 2) := by decide +kernel
theorem dX8_when_64 : decode cX8_when 64 = .ok (.invokevirtual 125, 3) := by decide +kernel
theorem dX8_when_67 : decode cX8_when 67 = .ok (.ireturn, 1) := by decide +kernel
theorem dX8_isHouse_0 : decode cX8_isHouse 0 = .ok (.iload_n 1, 1) := by decide +kernel
theorem dX8_isHouse_1 : decode cX8_isHouse 1 = .ok (.iconst 0, 1) := by decide +kernel
theorem dX8_isHouse_2 : decode cX8_isHouse 2 = .ok (.aload_n 0, 1) := by decide +kernel
theorem dX8_isHouse_3 : decode cX8_isHouse 3 = .ok (.getfield 9, 3) := by decide +kernel
theorem dX8_isHouse_6 : decode cX8_isHouse 6 = .ok (.bipush 9, 2) := by decide +kernel
theorem dX8_isHouse_8 : decode cX8_isHouse 8 = .ok (.iaload, 1) := by decide +kernel
theorem dX8_isHouse_9 : decode cX8_isHouse 9 = .ok (.iconst 1, 1) := by decide +kernel
theorem dX8_isHouse_10 : decode cX8_isHouse 10 = .ok (.isub, 1) := by decide +kernel
theorem dX8_isHouse_11 : decode cX8_isHouse 11 = .ok (.invokestatic 121, 3) := by decide +kernel
theorem dX8_isHouse_14 : decode cX8_isHouse 14 = .ok (.ireturn, 1) := by decide +kernel
theorem dX8_kindOf_0 : decode cX8_kindOf 0 = .ok (.aload_n 0, 1) := by decide +kernel
theorem dX8_kindOf_1 : decode cX8_kindOf 1 = .ok (.getfield 9, 3) := by decide +kernel
theorem dX8_kindOf_4 : decode cX8_kindOf 4 = .ok (.bipush 11, 2) := by decide +kernel
theorem dX8_kindOf_6 : decode cX8_kindOf 6 = .ok (.iconst 2, 1) := by decide +kernel
theorem dX8_kindOf_7 : decode cX8_kindOf 7 = .ok (.iload_n 1, 1) := by decide +kernel
theorem dX8_kindOf_8 : decode cX8_kindOf 8 = .ok (.imul, 1) := by decide +kernel
theorem dX8_kindOf_9 : decode cX8_kindOf 9 = .ok (.iadd, 1) := by decide +kernel
theorem dX8_kindOf_10 : decode cX8_kindOf 10 = .ok (.iaload, 1) := by decide +kernel
theorem dX8_kindOf_11 : decode cX8_kindOf 11 = .ok (.ireturn, 1) := by decide +kernel
theorem dX8_frontOf_0 : decode cX8_frontOf 0 = .ok (.aload_n 0, 1) := by decide +kernel
theorem dX8_frontOf_1 : decode cX8_frontOf 1 = .ok (.getfield 9, 3) := by decide +kernel
theorem dX8_frontOf_4 : decode cX8_frontOf 4 = .ok (.bipush 11, 2) := by decide +kernel
theorem dX8_frontOf_6 : decode cX8_frontOf 6 = .ok (.iconst 2, 1) := by decide +kernel
theorem dX8_frontOf_7 : decode cX8_frontOf 7 = .ok (.iload_n 1, 1) := by decide +kernel
theorem dX8_frontOf_8 : decode cX8_frontOf 8 = .ok (.imul, 1) := by decide +kernel
theorem dX8_frontOf_9 : decode cX8_frontOf 9 = .ok (.iadd, 1) := by decide +kernel
theorem dX8_frontOf_10 : decode cX8_frontOf 10 = .ok (.iconst 1, 1) := by decide +kernel
theorem dX8_frontOf_11 : decode cX8_frontOf 11 = .ok (.iadd, 1) := by decide +kernel
theorem dX8_frontOf_12 : decode cX8_frontOf 12 = .ok (.iaload, 1) := by decide +kernel
theorem dX8_frontOf_13 : decode cX8_frontOf 13 = .ok (.ireturn, 1) := by decide +kernel
theorem dX8_built_0 : decode cX8_built 0 = .ok (.aload_n 0, 1) := by decide +kernel
theorem dX8_built_1 : decode cX8_built 1 = .ok (.getfield 9, 3) := by decide +kernel
theorem dX8_built_4 : decode cX8_built 4 = .ok (.bipush 9, 2) := by decide +kernel
theorem dX8_built_6 : decode cX8_built 6 = .ok (.iaload, 1) := by decide +kernel
theorem dX8_built_7 : decode cX8_built 7 = .ok (.istore_n 3, 1) := by decide +kernel
theorem dX8_built_8 : decode cX8_built 8 = .ok (.aload_n 0, 1) := by decide +kernel
theorem dX8_built_9 : decode cX8_built 9 = .ok (.getfield 9, 3) := by decide +kernel
theorem dX8_built_12 : decode cX8_built 12 = .ok (.bipush 11, 2) := by decide +kernel
theorem dX8_built_14 : decode cX8_built 14 = .ok (.iconst 2, 1) := by decide +kernel
theorem dX8_built_15 : decode cX8_built 15 = .ok (.iload_n 3, 1) := by decide +kernel
theorem dX8_built_16 : decode cX8_built 16 = .ok (.imul, 1) := by decide +kernel
theorem dX8_built_17 : decode cX8_built 17 = .ok (.iadd, 1) := by decide +kernel
theorem dX8_built_18 : decode cX8_built 18 = .ok (.iload_n 1, 1) := by decide +kernel
theorem dX8_built_19 : decode cX8_built 19 = .ok (.iastore, 1) := by decide +kernel
theorem dX8_built_20 : decode cX8_built 20 = .ok (.aload_n 0, 1) := by decide +kernel
theorem dX8_built_21 : decode cX8_built 21 = .ok (.getfield 9, 3) := by decide +kernel
theorem dX8_built_24 : decode cX8_built 24 = .ok (.bipush 11, 2) := by decide +kernel
theorem dX8_built_26 : decode cX8_built 26 = .ok (.iconst 2, 1) := by decide +kernel
theorem dX8_built_27 : decode cX8_built 27 = .ok (.iload_n 3, 1) := by decide +kernel
theorem dX8_built_28 : decode cX8_built 28 = .ok (.imul, 1) := by decide +kernel
theorem dX8_built_29 : decode cX8_built 29 = .ok (.iadd, 1) := by decide +kernel
theorem dX8_built_30 : decode cX8_built 30 = .ok (.iconst 1, 1) := by decide +kernel
theorem dX8_built_31 : decode cX8_built 31 = .ok (.iadd, 1) := by decide +kernel
theorem dX8_built_32 : decode cX8_built 32 = .ok (.iload_n 2, 1) := by decide +kernel
theorem dX8_built_33 : decode cX8_built 33 = .ok (.iastore, 1) := by decide +kernel
theorem dX8_built_34 : decode cX8_built 34 = .ok (.aload_n 0, 1) := by decide +kernel
theorem dX8_built_35 : decode cX8_built 35 = .ok (.getfield 9, 3) := by decide +kernel
theorem dX8_built_38 : decode cX8_built 38 = .ok (.bipush 9, 2) := by decide +kernel
theorem dX8_built_40 : decode cX8_built 40 = .ok (.dup2, 1) := by decide +kernel
theorem dX8_built_41 : decode cX8_built 41 = .ok (.iaload, 1) := by decide +kernel
theorem dX8_built_42 : decode cX8_built 42 = .ok (.iconst 1, 1) := by decide +kernel
theorem dX8_built_43 : decode cX8_built 43 = .ok (.iadd, 1) := by decide +kernel
theorem dX8_built_44 : decode cX8_built 44 = .ok (.iastore, 1) := by decide +kernel
theorem dX8_built_45 : decode cX8_built 45 = .ok (.iload_n 3, 1) := by decide +kernel
theorem dX8_built_46 : decode cX8_built 46 = .ok (.ireturn, 1) := by decide +kernel
theorem dX8_house_0 : decode cX8_house 0 = .ok (.iload_n 1, 1) := by decide +kernel
theorem dX8_house_1 : decode cX8_house 1 = .ok (.iconst 0, 1) := by decide +kernel
theorem dX8_house_2 : decode cX8_house 2 = .ok (.iconst 5, 1) := by decide +kernel
theorem dX8_house_3 : decode cX8_house 3 = .ok (.invokestatic 121, 3) := by decide +kernel
theorem dX8_house_6 : decode cX8_house 6 = .ok (.ifCond .eq 10, 3) := by decide +kernel
theorem dX8_house_9 : decode cX8_house 9 = .ok (.iload_n 2, 1) := by decide +kernel
theorem dX8_house_10 : decode cX8_house 10 = .ok (.invokestatic 133, 3) := by decide +kernel
theorem dX8_house_13 : decode cX8_house 13 = .ok (.ifCond .ne 10, 3) := by decide +kernel
theorem dX8_house_16 : decode cX8_house 16 = .ok (.aload_n 0, 1) := by decide +kernel
theorem dX8_house_17 : decode cX8_house 17 = .ok (.ldc 98, 2) := by decide +kernel
theorem dX8_house_19 : decode cX8_house 19 = .ok (.invokevirtual 125, 3) := by decide +kernel
theorem dX8_house_22 : decode cX8_house 22 = .ok (.ireturn, 1) := by decide +kernel
theorem dX8_house_23 : decode cX8_house 23 = .ok (.aload_n 0, 1) := by decide +kernel
theorem dX8_house_24 : decode cX8_house 24 = .ok (.getfield 9, 3) := by decide +kernel
theorem dX8_house_27 : decode cX8_house 27 = .ok (.bipush 9, 2) := by decide +kernel
theorem dX8_house_29 : decode cX8_house 29 = .ok (.iaload, 1) := by decide +kernel
theorem dX8_house_30 : decode cX8_house 30 = .ok (.bipush 8, 2) := by decide +kernel
theorem dX8_house_32 : decode cX8_house 32 = .ok (.if_icmp .ne 12, 3) := by decide +kernel
theorem dX8_house_35 : decode cX8_house 35 = .ok (.aload_n 0, 1) := by decide +kernel
theorem dX8_house_36 : decode cX8_house 36 = .ok (.ldc 153, 2) := by decide +kernel
theorem dX8_house_38 : decode cX8_house 38 = .ok (.invokevirtual 125, 3) := by decide +kernel
theorem dX8_house_41 : decode cX8_house 41 = .ok (.goto 9, 3) := by decide +kernel
theorem dX8_house_44 : decode cX8_house 44 = .ok (.aload_n 0, 1) := by decide +kernel
theorem dX8_house_45 : decode cX8_house 45 = .ok (.iload_n 1, 1) := by decide +kernel
theorem dX8_house_46 : decode cX8_house 46 = .ok (.iload_n 2, 1) := by decide +kernel
theorem dX8_house_47 : decode cX8_house 47 = .ok (.invokevirtual 154, 3) := by decide +kernel
theorem dX8_house_50 : decode cX8_house 50 = .ok (.ireturn, 1) := by decide +kernel
theorem dX8_houseOf_0 : decode cX8_houseOf 0 = .ok (.aload_n 0, 1) := by decide +kernel
theorem dX8_houseOf_1 : decode cX8_houseOf 1 = .ok (.iload_n 1, 1) := by decide +kernel
theorem dX8_houseOf_2 : decode cX8_houseOf 2 = .ok (.invokevirtual 157, 3) := by decide +kernel
theorem dX8_houseOf_5 : decode cX8_houseOf 5 = .ok (.ifCond .eq 28, 3) := by decide +kernel
theorem dX8_houseOf_8 : decode cX8_houseOf 8 = .ok (.iload_n 2, 1) := by decide +kernel
theorem dX8_houseOf_9 : decode cX8_houseOf 9 = .ok (.iconst 0, 1) := by decide +kernel
theorem dX8_houseOf_10 : decode cX8_houseOf 10 = .ok (.iconst 1, 1) := by decide +kernel
theorem dX8_houseOf_11 : decode cX8_houseOf 11 = .ok (.invokestatic 121, 3) := by decide +kernel
theorem dX8_houseOf_14 : decode cX8_houseOf 14 = .ok (.ifCond .eq 19, 3) := by decide +kernel
theorem dX8_houseOf_17 : decode cX8_houseOf 17 = .ok (.aload_n 0, 1) := by decide +kernel
theorem dX8_houseOf_18 : decode cX8_houseOf 18 = .ok (.getfield 9, 3) := by decide +kernel
theorem dX8_houseOf_21 : decode cX8_houseOf 21 = .ok (.bipush 11, 2) := by decide +kernel
theorem dX8_houseOf_23 : decode cX8_houseOf 23 = .ok (.iconst 2, 1) := by decide +kernel
theorem dX8_houseOf_24 : decode cX8_houseOf 24 = .ok (.iload_n 1, 1) := by decide +kernel
theorem dX8_houseOf_25 : decode cX8_houseOf 25 = .ok (.imul, 1) := by decide +kernel
theorem dX8_houseOf_26 : decode cX8_houseOf 26 = .ok (.iadd, 1) := by decide +kernel
theorem dX8_houseOf_27 : decode cX8_houseOf 27 = .ok (.iload_n 2, 1) := by decide +kernel
theorem dX8_houseOf_28 : decode cX8_houseOf 28 = .ok (.iadd, 1) := by decide +kernel
theorem dX8_houseOf_29 : decode cX8_houseOf 29 = .ok (.iaload, 1) := by decide +kernel
theorem dX8_houseOf_30 : decode cX8_houseOf 30 = .ok (.goto 9, 3) := by decide +kernel
theorem dX8_houseOf_33 : decode cX8_houseOf 33 = .ok (.aload_n 0, 1) := by decide +kernel
theorem dX8_houseOf_34 : decode cX8_houseOf 34 = .ok (.ldc 98, 2) := by decide +kernel
theorem dX8_houseOf_36 : decode cX8_houseOf 36 = .ok (.invokevirtual 125, 3) := by decide +kernel
theorem dX8_houseOf_39 : decode cX8_houseOf 39 = .ok (.ireturn, 1) := by decide +kernel
theorem dX8_turn_0 : decode cX8_turn 0 = .ok (.aload_n 0, 1) := by decide +kernel
theorem dX8_turn_1 : decode cX8_turn 1 = .ok (.iload_n 1, 1) := by decide +kernel
theorem dX8_turn_2 : decode cX8_turn 2 = .ok (.invokevirtual 157, 3) := by decide +kernel
theorem dX8_turn_5 : decode cX8_turn 5 = .ok (.ifCond .eq 26, 3) := by decide +kernel
theorem dX8_turn_8 : decode cX8_turn 8 = .ok (.iload_n 2, 1) := by decide +kernel
theorem dX8_turn_9 : decode cX8_turn 9 = .ok (.invokestatic 133, 3) := by decide +kernel
theorem dX8_turn_12 : decode cX8_turn 12 = .ok (.ifCond .eq 19, 3) := by decide +kernel
theorem dX8_turn_15 : decode cX8_turn 15 = .ok (.aload_n 0, 1) := by decide +kernel
theorem dX8_turn_16 : decode cX8_turn 16 = .ok (.bipush 11, 2) := by decide +kernel
theorem dX8_turn_18 : decode cX8_turn 18 = .ok (.iconst 2, 1) := by decide +kernel
theorem dX8_turn_19 : decode cX8_turn 19 = .ok (.iload_n 1, 1) := by decide +kernel
theorem dX8_turn_20 : decode cX8_turn 20 = .ok (.imul, 1) := by decide +kernel
theorem dX8_turn_21 : decode cX8_turn 21 = .ok (.iadd, 1) := by decide +kernel
theorem dX8_turn_22 : decode cX8_turn 22 = .ok (.iconst 1, 1) := by decide +kernel
theorem dX8_turn_23 : decode cX8_turn 23 = .ok (.iadd, 1) := by decide +kernel
theorem dX8_turn_24 : decode cX8_turn 24 = .ok (.iload_n 2, 1) := by decide +kernel
theorem dX8_turn_25 : decode cX8_turn 25 = .ok (.invokevirtual 128, 3) := by decide +kernel
theorem dX8_turn_28 : decode cX8_turn 28 = .ok (.goto 9, 3) := by decide +kernel
theorem dX8_turn_31 : decode cX8_turn 31 = .ok (.aload_n 0, 1) := by decide +kernel
theorem dX8_turn_32 : decode cX8_turn 32 = .ok (.ldc 98, 2) := by decide +kernel
theorem dX8_turn_34 : decode cX8_turn 34 = .ok (.invokevirtual 125, 3) := by decide +kernel
theorem dX8_turn_37 : decode cX8_turn 37 = .ok (.ireturn, 1) := by decide +kernel
theorem dX8_above_0 : decode cX8_above 0 = .ok (.iload_n 0, 1) := by decide +kernel
theorem dX8_above_1 : decode cX8_above 1 = .ok (.ifCond .ne 7, 3) := by decide +kernel
theorem dX8_above_4 : decode cX8_above 4 = .ok (.iconst (-1), 1) := by decide +kernel
theorem dX8_above_5 : decode cX8_above 5 = .ok (.goto 22, 3) := by decide +kernel
theorem dX8_above_8 : decode cX8_above 8 = .ok (.iload_n 0, 1) := by decide +kernel
theorem dX8_above_9 : decode cX8_above 9 = .ok (.iconst 4, 1) := by decide +kernel
theorem dX8_above_10 : decode cX8_above 10 = .ok (.if_icmp .ne 7, 3) := by decide +kernel
theorem dX8_above_13 : decode cX8_above 13 = .ok (.iconst 1, 1) := by decide +kernel
theorem dX8_above_14 : decode cX8_above 14 = .ok (.goto 13, 3) := by decide +kernel
theorem dX8_above_17 : decode cX8_above 17 = .ok (.iload_n 0, 1) := by decide +kernel
theorem dX8_above_18 : decode cX8_above 18 = .ok (.iconst 5, 1) := by decide +kernel
theorem dX8_above_19 : decode cX8_above 19 = .ok (.if_icmp .ne 7, 3) := by decide +kernel
theorem dX8_above_22 : decode cX8_above 22 = .ok (.iconst 3, 1) := by decide +kernel
theorem dX8_above_23 : decode cX8_above 23 = .ok (.goto 4, 3) := by decide +kernel
theorem dX8_above_26 : decode cX8_above 26 = .ok (.iconst 0, 1) := by decide +kernel
theorem dX8_above_27 : decode cX8_above 27 = .ok (.ireturn, 1) := by decide +kernel
theorem dX8_as_0 : decode cX8_as 0 = .ok (.aload_n 0, 1) := by decide +kernel
theorem dX8_as_1 : decode cX8_as 1 = .ok (.iload_n 1, 1) := by decide +kernel
theorem dX8_as_2 : decode cX8_as 2 = .ok (.invokevirtual 157, 3) := by decide +kernel
theorem dX8_as_5 : decode cX8_as 5 = .ok (.ifCond .eq 12, 3) := by decide +kernel
theorem dX8_as_8 : decode cX8_as 8 = .ok (.iload_n 2, 1) := by decide +kernel
theorem dX8_as_9 : decode cX8_as 9 = .ok (.iconst 0, 1) := by decide +kernel
theorem dX8_as_10 : decode cX8_as 10 = .ok (.iconst 5, 1) := by decide +kernel
theorem dX8_as_11 : decode cX8_as 11 = .ok (.invokestatic 121, 3) := by decide +kernel
theorem dX8_as_14 : decode cX8_as 14 = .ok (.ifCond .ne 10, 3) := by decide +kernel
theorem dX8_as_17 : decode cX8_as 17 = .ok (.aload_n 0, 1) := by decide +kernel
theorem dX8_as_18 : decode cX8_as 18 = .ok (.ldc 98, 2) := by decide +kernel
theorem dX8_as_20 : decode cX8_as 20 = .ok (.invokevirtual 125, 3) := by decide +kernel
theorem dX8_as_23 : decode cX8_as 23 = .ok (.ireturn, 1) := by decide +kernel
theorem dX8_as_24 : decode cX8_as 24 = .ok (.aload_n 0, 1) := by decide +kernel
theorem dX8_as_25 : decode cX8_as 25 = .ok (.iload_n 1, 1) := by decide +kernel
theorem dX8_as_26 : decode cX8_as 26 = .ok (.invokevirtual 160, 3) := by decide +kernel
theorem dX8_as_29 : decode cX8_as 29 = .ok (.istore_n 3, 1) := by decide +kernel
theorem dX8_as_30 : decode cX8_as 30 = .ok (.iload_n 3, 1) := by decide +kernel
theorem dX8_as_31 : decode cX8_as 31 = .ok (.ifCond .lt 16, 3) := by decide +kernel
theorem dX8_as_34 : decode cX8_as 34 = .ok (.iload_n 3, 1) := by decide +kernel
theorem dX8_as_35 : decode cX8_as 35 = .ok (.iload_n 2, 1) := by decide +kernel
theorem dX8_as_36 : decode cX8_as 36 = .ok (.if_icmp .eq 11, 3) := by decide +kernel
theorem dX8_as_39 : decode cX8_as 39 = .ok (.iload_n 3, 1) := by decide +kernel
theorem dX8_as_40 : decode cX8_as 40 = .ok (.invokestatic 163, 3) := by decide +kernel
theorem dX8_as_43 : decode cX8_as 43 = .ok (.istore_n 3, 1) := by decide +kernel
theorem dX8_as_44 : decode cX8_as 44 = .ok (.goto (-14), 3) := by decide +kernel
theorem dX8_as_47 : decode cX8_as 47 = .ok (.iload_n 3, 1) := by decide +kernel
theorem dX8_as_48 : decode cX8_as 48 = .ok (.ifCond .ge 12, 3) := by decide +kernel
theorem dX8_as_51 : decode cX8_as 51 = .ok (.aload_n 0, 1) := by decide +kernel
theorem dX8_as_52 : decode cX8_as 52 = .ok (.ldc 166, 2) := by decide +kernel
theorem dX8_as_54 : decode cX8_as 54 = .ok (.invokevirtual 125, 3) := by decide +kernel
theorem dX8_as_57 : decode cX8_as 57 = .ok (.goto 8, 3) := by decide +kernel
theorem dX8_as_60 : decode cX8_as 60 = .ok (.aload_n 0, 1) := by decide +kernel
theorem dX8_as_61 : decode cX8_as 61 = .ok (.iload_n 1, 1) := by decide +kernel
theorem dX8_as_62 : decode cX8_as 62 = .ok (.invokevirtual 167, 3) := by decide +kernel
theorem dX8_as_65 : decode cX8_as 65 = .ok (.ireturn, 1) := by decide +kernel
theorem dX8_hourOf_0 : decode cX8_hourOf 0 = .ok (.iload_n 0, 1) := by decide +kernel
theorem dX8_hourOf_1 : decode cX8_hourOf 1 = .ok (.bipush 96, 2) := by decide +kernel
theorem dX8_hourOf_3 : decode cX8_hourOf 3 = .ok (.irem, 1) := by decide +kernel
theorem dX8_hourOf_4 : decode cX8_hourOf 4 = .ok (.iconst 4, 1) := by decide +kernel
theorem dX8_hourOf_5 : decode cX8_hourOf 5 = .ok (.idiv, 1) := by decide +kernel
theorem dX8_hourOf_6 : decode cX8_hourOf 6 = .ok (.ireturn, 1) := by decide +kernel
theorem dX8_sun_0 : decode cX8_sun 0 = .ok (.iload_n 0, 1) := by decide +kernel
theorem dX8_sun_1 : decode cX8_sun 1 = .ok (.iconst 1, 1) := by decide +kernel
theorem dX8_sun_2 : decode cX8_sun 2 = .ok (.if_icmp .ne 14, 3) := by decide +kernel
theorem dX8_sun_5 : decode cX8_sun 5 = .ok (.iload_n 1, 1) := by decide +kernel
theorem dX8_sun_6 : decode cX8_sun 6 = .ok (.bipush 6, 2) := by decide +kernel
theorem dX8_sun_8 : decode cX8_sun 8 = .ok (.bipush 11, 2) := by decide +kernel
theorem dX8_sun_10 : decode cX8_sun 10 = .ok (.invokestatic 121, 3) := by decide +kernel
theorem dX8_sun_13 : decode cX8_sun 13 = .ok (.ifCond .ne 35, 3) := by decide +kernel
theorem dX8_sun_16 : decode cX8_sun 16 = .ok (.iload_n 0, 1) := by decide +kernel
theorem dX8_sun_17 : decode cX8_sun 17 = .ok (.iconst 2, 1) := by decide +kernel
theorem dX8_sun_18 : decode cX8_sun 18 = .ok (.if_icmp .ne 14, 3) := by decide +kernel
theorem dX8_sun_21 : decode cX8_sun 21 = .ok (.iload_n 1, 1) := by decide +kernel
theorem dX8_sun_22 : decode cX8_sun 22 = .ok (.bipush 9, 2) := by decide +kernel
theorem dX8_sun_24 : decode cX8_sun 24 = .ok (.bipush 15, 2) := by decide +kernel
theorem dX8_sun_26 : decode cX8_sun 26 = .ok (.invokestatic 121, 3) := by decide +kernel
theorem dX8_sun_29 : decode cX8_sun 29 = .ok (.ifCond .ne 19, 3) := by decide +kernel
theorem dX8_sun_32 : decode cX8_sun 32 = .ok (.iload_n 0, 1) := by decide +kernel
theorem dX8_sun_33 : decode cX8_sun 33 = .ok (.iconst 3, 1) := by decide +kernel
theorem dX8_sun_34 : decode cX8_sun 34 = .ok (.if_icmp .ne 18, 3) := by decide +kernel
theorem dX8_sun_37 : decode cX8_sun 37 = .ok (.iload_n 1, 1) := by decide +kernel
theorem dX8_sun_38 : decode cX8_sun 38 = .ok (.bipush 12, 2) := by decide +kernel
theorem dX8_sun_40 : decode cX8_sun 40 = .ok (.bipush 18, 2) := by decide +kernel
theorem dX8_sun_42 : decode cX8_sun 42 = .ok (.invokestatic 121, 3) := by decide +kernel
theorem dX8_sun_45 : decode cX8_sun 45 = .ok (.ifCond .eq 7, 3) := by decide +kernel
theorem dX8_sun_48 : decode cX8_sun 48 = .ok (.iconst 1, 1) := by decide +kernel
theorem dX8_sun_49 : decode cX8_sun 49 = .ok (.goto 4, 3) := by decide +kernel
theorem dX8_sun_52 : decode cX8_sun 52 = .ok (.iconst 0, 1) := by decide +kernel
theorem dX8_sun_53 : decode cX8_sun 53 = .ok (.istore_n 2, 1) := by decide +kernel
theorem dX8_sun_54 : decode cX8_sun 54 = .ok (.iload_n 2, 1) := by decide +kernel
theorem dX8_sun_55 : decode cX8_sun 55 = .ok (.ifCond .eq 7, 3) := by decide +kernel
theorem dX8_sun_58 : decode cX8_sun 58 = .ok (.iconst 1, 1) := by decide +kernel
theorem dX8_sun_59 : decode cX8_sun 59 = .ok (.goto 4, 3) := by decide +kernel
theorem dX8_sun_62 : decode cX8_sun 62 = .ok (.iconst 0, 1) := by decide +kernel
theorem dX8_sun_63 : decode cX8_sun 63 = .ok (.ireturn, 1) := by decide +kernel
theorem dX8_gainOf_0 : decode cX8_gainOf 0 = .ok (.aload_n 0, 1) := by decide +kernel
theorem dX8_gainOf_1 : decode cX8_gainOf 1 = .ok (.iload_n 2, 1) := by decide +kernel
theorem dX8_gainOf_2 : decode cX8_gainOf 2 = .ok (.iload_n 3, 1) := by decide +kernel
theorem dX8_gainOf_3 : decode cX8_gainOf 3 = .ok (.invokevirtual 146, 3) := by decide +kernel
theorem dX8_gainOf_6 : decode cX8_gainOf 6 = .ok (.istore 4, 2) := by decide +kernel
theorem dX8_gainOf_8 : decode cX8_gainOf 8 = .ok (.iload_n 3, 1) := by decide +kernel
theorem dX8_gainOf_9 : decode cX8_gainOf 9 = .ok (.invokestatic 170, 3) := by decide +kernel
theorem dX8_gainOf_12 : decode cX8_gainOf 12 = .ok (.istore 5, 2) := by decide +kernel
theorem dX8_gainOf_14 : decode cX8_gainOf 14 = .ok (.iload 4, 2) := by decide +kernel
theorem dX8_gainOf_16 : decode cX8_gainOf 16 = .ok (.iload 5, 2) := by decide +kernel
theorem dX8_gainOf_18 : decode cX8_gainOf 18 = .ok (.invokestatic 173, 3) := by decide +kernel
theorem dX8_gainOf_21 : decode cX8_gainOf 21 = .ok (.istore 6, 2) := by decide +kernel
theorem dX8_gainOf_23 : decode cX8_gainOf 23 = .ok (.iload 6, 2) := by decide +kernel
theorem dX8_gainOf_25 : decode cX8_gainOf 25 = .ok (.ifCond .le 17, 3) := by decide +kernel
theorem dX8_gainOf_28 : decode cX8_gainOf 28 = .ok (.iload 5, 2) := by decide +kernel
theorem dX8_gainOf_30 : decode cX8_gainOf 30 = .ok (.bipush 12, 2) := by decide +kernel
theorem dX8_gainOf_32 : decode cX8_gainOf 32 = .ok (.if_icmp .lt 10, 3) := by decide +kernel
theorem dX8_gainOf_35 : decode cX8_gainOf 35 = .ok (.iload 6, 2) := by decide +kernel
theorem dX8_gainOf_37 : decode cX8_gainOf 37 = .ok (.iconst 1, 1) := by decide +kernel
theorem dX8_gainOf_38 : decode cX8_gainOf 38 = .ok (.iadd, 1) := by decide +kernel
theorem dX8_gainOf_39 : decode cX8_gainOf 39 = .ok (.goto 5, 3) := by decide +kernel
theorem dX8_gainOf_42 : decode cX8_gainOf 42 = .ok (.iload 6, 2) := by decide +kernel
theorem dX8_gainOf_44 : decode cX8_gainOf 44 = .ok (.istore 7, 2) := by decide +kernel
theorem dX8_gainOf_46 : decode cX8_gainOf 46 = .ok (.iload 4, 2) := by decide +kernel
theorem dX8_gainOf_48 : decode cX8_gainOf 48 = .ok (.aload_n 0, 1) := by decide +kernel
theorem dX8_gainOf_49 : decode cX8_gainOf 49 = .ok (.getfield 9, 3) := by decide +kernel
theorem dX8_gainOf_52 : decode cX8_gainOf 52 = .ok (.bipush 7, 2) := by decide +kernel
theorem dX8_gainOf_54 : decode cX8_gainOf 54 = .ok (.iaload, 1) := by decide +kernel
theorem dX8_gainOf_55 : decode cX8_gainOf 55 = .ok (.if_icmp .ne 7, 3) := by decide +kernel
theorem dX8_gainOf_58 : decode cX8_gainOf 58 = .ok (.iconst 2, 1) := by decide +kernel
theorem dX8_gainOf_59 : decode cX8_gainOf 59 = .ok (.goto 4, 3) := by decide +kernel
theorem dX8_gainOf_62 : decode cX8_gainOf 62 = .ok (.iconst 0, 1) := by decide +kernel
theorem dX8_gainOf_63 : decode cX8_gainOf 63 = .ok (.istore 8, 2) := by decide +kernel
theorem dX8_gainOf_65 : decode cX8_gainOf 65 = .ok (.iload_n 1, 1) := by decide +kernel
theorem dX8_gainOf_66 : decode cX8_gainOf 66 = .ok (.tableswitch 72 1 5 #[34, 37, 42, 45, 56], 34) := by decide +kernel
theorem dX8_gainOf_100 : decode cX8_gainOf 100 = .ok (.iload 8, 2) := by decide +kernel
theorem dX8_gainOf_102 : decode cX8_gainOf 102 = .ok (.ireturn, 1) := by decide +kernel
theorem dX8_gainOf_103 : decode cX8_gainOf 103 = .ok (.iconst 1, 1) := by decide +kernel
theorem dX8_gainOf_104 : decode cX8_gainOf 104 = .ok (.iload 6, 2) := by decide +kernel
theorem dX8_gainOf_106 : decode cX8_gainOf 106 = .ok (.isub, 1) := by decide +kernel
theorem dX8_gainOf_107 : decode cX8_gainOf 107 = .ok (.ireturn, 1) := by decide +kernel
theorem dX8_gainOf_108 : decode cX8_gainOf 108 = .ok (.iload 7, 2) := by decide +kernel
theorem dX8_gainOf_110 : decode cX8_gainOf 110 = .ok (.ireturn, 1) := by decide +kernel
theorem dX8_gainOf_111 : decode cX8_gainOf 111 = .ok (.aload_n 0, 1) := by decide +kernel
theorem dX8_gainOf_112 : decode cX8_gainOf 112 = .ok (.getfield 9, 3) := by decide +kernel
theorem dX8_gainOf_115 : decode cX8_gainOf 115 = .ok (.bipush 8, 2) := by decide +kernel
theorem dX8_gainOf_117 : decode cX8_gainOf 117 = .ok (.iaload, 1) := by decide +kernel
theorem dX8_gainOf_118 : decode cX8_gainOf 118 = .ok (.iload 8, 2) := by decide +kernel
theorem dX8_gainOf_120 : decode cX8_gainOf 120 = .ok (.imul, 1) := by decide +kernel
theorem dX8_gainOf_121 : decode cX8_gainOf 121 = .ok (.ireturn, 1) := by decide +kernel
theorem dX8_gainOf_122 : decode cX8_gainOf 122 = .ok (.iload 5, 2) := by decide +kernel
theorem dX8_gainOf_124 : decode cX8_gainOf 124 = .ok (.bipush 9, 2) := by decide +kernel
theorem dX8_gainOf_126 : decode cX8_gainOf 126 = .ok (.if_icmp .ge 10, 3) := by decide +kernel
theorem dX8_gainOf_129 : decode cX8_gainOf 129 = .ok (.iconst 3, 1) := by decide +kernel
theorem dX8_gainOf_130 : decode cX8_gainOf 130 = .ok (.iload 7, 2) := by decide +kernel
theorem dX8_gainOf_132 : decode cX8_gainOf 132 = .ok (.imul, 1) := by decide +kernel
theorem dX8_gainOf_133 : decode cX8_gainOf 133 = .ok (.goto 4, 3) := by decide +kernel
theorem dX8_gainOf_136 : decode cX8_gainOf 136 = .ok (.iconst 0, 1) := by decide +kernel
theorem dX8_gainOf_137 : decode cX8_gainOf 137 = .ok (.ireturn, 1) := by decide +kernel
theorem dX8_gainOf_138 : decode cX8_gainOf 138 = .ok (.iload 6, 2) := by decide +kernel
theorem dX8_gainOf_140 : decode cX8_gainOf 140 = .ok (.ireturn, 1) := by decide +kernel
theorem dX8_gain_0 : decode cX8_gain 0 = .ok (.aload_n 0, 1) := by decide +kernel
theorem dX8_gain_1 : decode cX8_gain 1 = .ok (.iload_n 1, 1) := by decide +kernel
theorem dX8_gain_2 : decode cX8_gain 2 = .ok (.invokevirtual 157, 3) := by decide +kernel
theorem dX8_gain_5 : decode cX8_gain 5 = .ok (.ifCond .eq 28, 3) := by decide +kernel
theorem dX8_gain_8 : decode cX8_gain 8 = .ok (.iload_n 2, 1) := by decide +kernel
theorem dX8_gain_9 : decode cX8_gain 9 = .ok (.invokestatic 137, 3) := by decide +kernel
theorem dX8_gain_12 : decode cX8_gain 12 = .ok (.ifCond .eq 21, 3) := by decide +kernel
theorem dX8_gain_15 : decode cX8_gain 15 = .ok (.aload_n 0, 1) := by decide +kernel
theorem dX8_gain_16 : decode cX8_gain 16 = .ok (.aload_n 0, 1) := by decide +kernel
theorem dX8_gain_17 : decode cX8_gain 17 = .ok (.iload_n 1, 1) := by decide +kernel
theorem dX8_gain_18 : decode cX8_gain 18 = .ok (.invokevirtual 160, 3) := by decide +kernel
theorem dX8_gain_21 : decode cX8_gain 21 = .ok (.aload_n 0, 1) := by decide +kernel
theorem dX8_gain_22 : decode cX8_gain 22 = .ok (.iload_n 1, 1) := by decide +kernel
theorem dX8_gain_23 : decode cX8_gain 23 = .ok (.invokevirtual 167, 3) := by decide +kernel
theorem dX8_gain_26 : decode cX8_gain 26 = .ok (.iload_n 2, 1) := by decide +kernel
theorem dX8_gain_27 : decode cX8_gain 27 = .ok (.invokevirtual 176, 3) := by decide +kernel
theorem dX8_gain_30 : decode cX8_gain 30 = .ok (.goto 9, 3) := by decide +kernel
theorem dX8_gain_33 : decode cX8_gain 33 = .ok (.aload_n 0, 1) := by decide +kernel
theorem dX8_gain_34 : decode cX8_gain 34 = .ok (.ldc 98, 2) := by decide +kernel
theorem dX8_gain_36 : decode cX8_gain 36 = .ok (.invokevirtual 125, 3) := by decide +kernel
theorem dX8_gain_39 : decode cX8_gain 39 = .ok (.ireturn, 1) := by decide +kernel
theorem dX8_sumOf_0 : decode cX8_sumOf 0 = .ok (.iconst 0, 1) := by decide +kernel
theorem dX8_sumOf_1 : decode cX8_sumOf 1 = .ok (.istore 5, 2) := by decide +kernel
theorem dX8_sumOf_3 : decode cX8_sumOf 3 = .ok (.iload_n 3, 1) := by decide +kernel
theorem dX8_sumOf_4 : decode cX8_sumOf 4 = .ok (.istore 6, 2) := by decide +kernel
theorem dX8_sumOf_6 : decode cX8_sumOf 6 = .ok (.iload 6, 2) := by decide +kernel
theorem dX8_sumOf_8 : decode cX8_sumOf 8 = .ok (.iload_n 3, 1) := by decide +kernel
theorem dX8_sumOf_9 : decode cX8_sumOf 9 = .ok (.iload 4, 2) := by decide +kernel
theorem dX8_sumOf_11 : decode cX8_sumOf 11 = .ok (.iadd, 1) := by decide +kernel
theorem dX8_sumOf_12 : decode cX8_sumOf 12 = .ok (.if_icmp .ge 26, 3) := by decide +kernel
theorem dX8_sumOf_15 : decode cX8_sumOf 15 = .ok (.iload 5, 2) := by decide +kernel
theorem dX8_sumOf_17 : decode cX8_sumOf 17 = .ok (.aload_n 0, 1) := by decide +kernel
theorem dX8_sumOf_18 : decode cX8_sumOf 18 = .ok (.aload_n 0, 1) := by decide +kernel
theorem dX8_sumOf_19 : decode cX8_sumOf 19 = .ok (.iload_n 1, 1) := by decide +kernel
theorem dX8_sumOf_20 : decode cX8_sumOf 20 = .ok (.invokevirtual 160, 3) := by decide +kernel
theorem dX8_sumOf_23 : decode cX8_sumOf 23 = .ok (.iload_n 2, 1) := by decide +kernel
theorem dX8_sumOf_24 : decode cX8_sumOf 24 = .ok (.iload 6, 2) := by decide +kernel
theorem dX8_sumOf_26 : decode cX8_sumOf 26 = .ok (.invokevirtual 176, 3) := by decide +kernel
theorem dX8_sumOf_29 : decode cX8_sumOf 29 = .ok (.iadd, 1) := by decide +kernel
theorem dX8_sumOf_30 : decode cX8_sumOf 30 = .ok (.istore 5, 2) := by decide +kernel
theorem dX8_sumOf_32 : decode cX8_sumOf 32 = .ok (.iinc 6 1, 3) := by decide +kernel
theorem dX8_sumOf_35 : decode cX8_sumOf 35 = .ok (.goto (-29), 3) := by decide +kernel
theorem dX8_sumOf_38 : decode cX8_sumOf 38 = .ok (.iload 5, 2) := by decide +kernel
theorem dX8_sumOf_40 : decode cX8_sumOf 40 = .ok (.ireturn, 1) := by decide +kernel
theorem dX8_sum_0 : decode cX8_sum 0 = .ok (.aload_n 0, 1) := by decide +kernel
theorem dX8_sum_1 : decode cX8_sum 1 = .ok (.iload_n 1, 1) := by decide +kernel
theorem dX8_sum_2 : decode cX8_sum 2 = .ok (.invokevirtual 157, 3) := by decide +kernel
theorem dX8_sum_5 : decode cX8_sum 5 = .ok (.ifCond .eq 32, 3) := by decide +kernel
theorem dX8_sum_8 : decode cX8_sum 8 = .ok (.iload_n 2, 1) := by decide +kernel
theorem dX8_sum_9 : decode cX8_sum 9 = .ok (.invokestatic 137, 3) := by decide +kernel
theorem dX8_sum_12 : decode cX8_sum 12 = .ok (.ifCond .eq 25, 3) := by decide +kernel
theorem dX8_sum_15 : decode cX8_sum 15 = .ok (.iload_n 3, 1) := by decide +kernel
theorem dX8_sum_16 : decode cX8_sum 16 = .ok (.invokestatic 180, 3) := by decide +kernel
theorem dX8_sum_19 : decode cX8_sum 19 = .ok (.ifCond .eq 18, 3) := by decide +kernel
theorem dX8_sum_22 : decode cX8_sum 22 = .ok (.aload_n 0, 1) := by decide +kernel
theorem dX8_sum_23 : decode cX8_sum 23 = .ok (.iload_n 1, 1) := by decide +kernel
theorem dX8_sum_24 : decode cX8_sum 24 = .ok (.aload_n 0, 1) := by decide +kernel
theorem dX8_sum_25 : decode cX8_sum 25 = .ok (.iload_n 1, 1) := by decide +kernel
theorem dX8_sum_26 : decode cX8_sum 26 = .ok (.invokevirtual 167, 3) := by decide +kernel
theorem dX8_sum_29 : decode cX8_sum 29 = .ok (.iload_n 2, 1) := by decide +kernel
theorem dX8_sum_30 : decode cX8_sum 30 = .ok (.iload_n 3, 1) := by decide +kernel
theorem dX8_sum_31 : decode cX8_sum 31 = .ok (.invokevirtual 183, 3) := by decide +kernel
theorem dX8_sum_34 : decode cX8_sum 34 = .ok (.goto 9, 3) := by decide +kernel
theorem dX8_sum_37 : decode cX8_sum 37 = .ok (.aload_n 0, 1) := by decide +kernel
theorem dX8_sum_38 : decode cX8_sum 38 = .ok (.ldc 98, 2) := by decide +kernel
theorem dX8_sum_40 : decode cX8_sum 40 = .ok (.invokevirtual 125, 3) := by decide +kernel
theorem dX8_sum_43 : decode cX8_sum 43 = .ok (.ireturn, 1) := by decide +kernel
theorem dX8_best_0 : decode cX8_best 0 = .ok (.aload_n 0, 1) := by decide +kernel
theorem dX8_best_1 : decode cX8_best 1 = .ok (.iload_n 1, 1) := by decide +kernel
theorem dX8_best_2 : decode cX8_best 2 = .ok (.invokevirtual 157, 3) := by decide +kernel
theorem dX8_best_5 : decode cX8_best 5 = .ok (.ifCond .eq 17, 3) := by decide +kernel
theorem dX8_best_8 : decode cX8_best 8 = .ok (.iload_n 2, 1) := by decide +kernel
theorem dX8_best_9 : decode cX8_best 9 = .ok (.invokestatic 137, 3) := by decide +kernel
theorem dX8_best_12 : decode cX8_best 12 = .ok (.ifCond .eq 10, 3) := by decide +kernel
theorem dX8_best_15 : decode cX8_best 15 = .ok (.iload_n 3, 1) := by decide +kernel
theorem dX8_best_16 : decode cX8_best 16 = .ok (.invokestatic 180, 3) := by decide +kernel
theorem dX8_best_19 : decode cX8_best 19 = .ok (.ifCond .ne 10, 3) := by decide +kernel
theorem dX8_best_22 : decode cX8_best 22 = .ok (.aload_n 0, 1) := by decide +kernel
theorem dX8_best_23 : decode cX8_best 23 = .ok (.ldc 98, 2) := by decide +kernel
theorem dX8_best_25 : decode cX8_best 25 = .ok (.invokevirtual 125, 3) := by decide +kernel
theorem dX8_best_28 : decode cX8_best 28 = .ok (.ireturn, 1) := by decide +kernel
theorem dX8_best_29 : decode cX8_best 29 = .ok (.iconst 0, 1) := by decide +kernel
theorem dX8_best_30 : decode cX8_best 30 = .ok (.istore 4, 2) := by decide +kernel
theorem dX8_best_32 : decode cX8_best 32 = .ok (.iconst 1, 1) := by decide +kernel
theorem dX8_best_33 : decode cX8_best 33 = .ok (.istore 5, 2) := by decide +kernel
theorem dX8_best_35 : decode cX8_best 35 = .ok (.iload 5, 2) := by decide +kernel
theorem dX8_best_37 : decode cX8_best 37 = .ok (.iconst 4, 1) := by decide +kernel
theorem dX8_best_38 : decode cX8_best 38 = .ok (.if_icmp .ge 39, 3) := by decide +kernel
theorem dX8_best_41 : decode cX8_best 41 = .ok (.aload_n 0, 1) := by decide +kernel
theorem dX8_best_42 : decode cX8_best 42 = .ok (.iload_n 1, 1) := by decide +kernel
theorem dX8_best_43 : decode cX8_best 43 = .ok (.iload 5, 2) := by decide +kernel
theorem dX8_best_45 : decode cX8_best 45 = .ok (.iload_n 2, 1) := by decide +kernel
theorem dX8_best_46 : decode cX8_best 46 = .ok (.iload_n 3, 1) := by decide +kernel
theorem dX8_best_47 : decode cX8_best 47 = .ok (.invokevirtual 183, 3) := by decide +kernel
theorem dX8_best_50 : decode cX8_best 50 = .ok (.aload_n 0, 1) := by decide +kernel
theorem dX8_best_51 : decode cX8_best 51 = .ok (.iload_n 1, 1) := by decide +kernel
theorem dX8_best_52 : decode cX8_best 52 = .ok (.iload 4, 2) := by decide +kernel
theorem dX8_best_54 : decode cX8_best 54 = .ok (.iload_n 2, 1) := by decide +kernel
theorem dX8_best_55 : decode cX8_best 55 = .ok (.iload_n 3, 1) := by decide +kernel
theorem dX8_best_56 : decode cX8_best 56 = .ok (.invokevirtual 183, 3) := by decide +kernel
theorem dX8_best_59 : decode cX8_best 59 = .ok (.if_icmp .le 8, 3) := by decide +kernel
theorem dX8_best_62 : decode cX8_best 62 = .ok (.iload 5, 2) := by decide +kernel
theorem dX8_best_64 : decode cX8_best 64 = .ok (.goto 5, 3) := by decide +kernel
theorem dX8_best_67 : decode cX8_best 67 = .ok (.iload 4, 2) := by decide +kernel
theorem dX8_best_69 : decode cX8_best 69 = .ok (.istore 4, 2) := by decide +kernel
theorem dX8_best_71 : decode cX8_best 71 = .ok (.iinc 5 1, 3) := by decide +kernel
theorem dX8_best_74 : decode cX8_best 74 = .ok (.goto (-39), 3) := by decide +kernel
theorem dX8_best_77 : decode cX8_best 77 = .ok (.iload 4, 2) := by decide +kernel
theorem dX8_best_79 : decode cX8_best 79 = .ok (.ireturn, 1) := by decide +kernel
theorem dX8_sunniest_0 : decode cX8_sunniest 0 = .ok (.iload_n 1, 1) := by decide +kernel
theorem dX8_sunniest_1 : decode cX8_sunniest 1 = .ok (.invokestatic 137, 3) := by decide +kernel
theorem dX8_sunniest_4 : decode cX8_sunniest 4 = .ok (.ifCond .eq 10, 3) := by decide +kernel
theorem dX8_sunniest_7 : decode cX8_sunniest 7 = .ok (.iload_n 2, 1) := by decide +kernel
theorem dX8_sunniest_8 : decode cX8_sunniest 8 = .ok (.invokestatic 180, 3) := by decide +kernel
theorem dX8_sunniest_11 : decode cX8_sunniest 11 = .ok (.ifCond .ne 10, 3) := by decide +kernel
theorem dX8_sunniest_14 : decode cX8_sunniest 14 = .ok (.aload_n 0, 1) := by decide +kernel
theorem dX8_sunniest_15 : decode cX8_sunniest 15 = .ok (.ldc 98, 2) := by decide +kernel
theorem dX8_sunniest_17 : decode cX8_sunniest 17 = .ok (.invokevirtual 125, 3) := by decide +kernel
theorem dX8_sunniest_20 : decode cX8_sunniest 20 = .ok (.ireturn, 1) := by decide +kernel
theorem dX8_sunniest_21 : decode cX8_sunniest 21 = .ok (.iconst (-1), 1) := by decide +kernel
theorem dX8_sunniest_22 : decode cX8_sunniest 22 = .ok (.istore_n 3, 1) := by decide +kernel
theorem dX8_sunniest_23 : decode cX8_sunniest 23 = .ok (.iconst 0, 1) := by decide +kernel
theorem dX8_sunniest_24 : decode cX8_sunniest 24 = .ok (.istore 4, 2) := by decide +kernel
theorem dX8_sunniest_26 : decode cX8_sunniest 26 = .ok (.iconst 0, 1) := by decide +kernel
theorem dX8_sunniest_27 : decode cX8_sunniest 27 = .ok (.istore 5, 2) := by decide +kernel
theorem dX8_sunniest_29 : decode cX8_sunniest 29 = .ok (.iload 5, 2) := by decide +kernel
theorem dX8_sunniest_31 : decode cX8_sunniest 31 = .ok (.aload_n 0, 1) := by decide +kernel
theorem dX8_sunniest_32 : decode cX8_sunniest 32 = .ok (.getfield 9, 3) := by decide +kernel
theorem dX8_sunniest_35 : decode cX8_sunniest 35 = .ok (.bipush 9, 2) := by decide +kernel
theorem dX8_sunniest_37 : decode cX8_sunniest 37 = .ok (.iaload, 1) := by decide +kernel
theorem dX8_sunniest_38 : decode cX8_sunniest 38 = .ok (.if_icmp .ge 43, 3) := by decide +kernel
theorem dX8_sunniest_41 : decode cX8_sunniest 41 = .ok (.aload_n 0, 1) := by decide +kernel
theorem dX8_sunniest_42 : decode cX8_sunniest 42 = .ok (.iload 5, 2) := by decide +kernel
theorem dX8_sunniest_44 : decode cX8_sunniest 44 = .ok (.aload_n 0, 1) := by decide +kernel
theorem dX8_sunniest_45 : decode cX8_sunniest 45 = .ok (.iload 5, 2) := by decide +kernel
theorem dX8_sunniest_47 : decode cX8_sunniest 47 = .ok (.invokevirtual 167, 3) := by decide +kernel
theorem dX8_sunniest_50 : decode cX8_sunniest 50 = .ok (.iload_n 1, 1) := by decide +kernel
theorem dX8_sunniest_51 : decode cX8_sunniest 51 = .ok (.iload_n 2, 1) := by decide +kernel
theorem dX8_sunniest_52 : decode cX8_sunniest 52 = .ok (.invokevirtual 183, 3) := by decide +kernel
theorem dX8_sunniest_55 : decode cX8_sunniest 55 = .ok (.istore 6, 2) := by decide +kernel
theorem dX8_sunniest_57 : decode cX8_sunniest 57 = .ok (.iload_n 3, 1) := by decide +kernel
theorem dX8_sunniest_58 : decode cX8_sunniest 58 = .ok (.ifCond .lt 10, 3) := by decide +kernel
theorem dX8_sunniest_61 : decode cX8_sunniest 61 = .ok (.iload 6, 2) := by decide +kernel
theorem dX8_sunniest_63 : decode cX8_sunniest 63 = .ok (.iload 4, 2) := by decide +kernel
theorem dX8_sunniest_65 : decode cX8_sunniest 65 = .ok (.if_icmp .le 10, 3) := by decide +kernel
theorem dX8_sunniest_68 : decode cX8_sunniest 68 = .ok (.iload 5, 2) := by decide +kernel
theorem dX8_sunniest_70 : decode cX8_sunniest 70 = .ok (.istore_n 3, 1) := by decide +kernel
theorem dX8_sunniest_71 : decode cX8_sunniest 71 = .ok (.iload 6, 2) := by decide +kernel
theorem dX8_sunniest_73 : decode cX8_sunniest 73 = .ok (.istore 4, 2) := by decide +kernel
theorem dX8_sunniest_75 : decode cX8_sunniest 75 = .ok (.iinc 5 1, 3) := by decide +kernel
theorem dX8_sunniest_78 : decode cX8_sunniest 78 = .ok (.goto (-49), 3) := by decide +kernel
theorem dX8_sunniest_81 : decode cX8_sunniest 81 = .ok (.iload_n 3, 1) := by decide +kernel
theorem dX8_sunniest_82 : decode cX8_sunniest 82 = .ok (.ifCond .ge 12, 3) := by decide +kernel
theorem dX8_sunniest_85 : decode cX8_sunniest 85 = .ok (.aload_n 0, 1) := by decide +kernel
theorem dX8_sunniest_86 : decode cX8_sunniest 86 = .ok (.ldc 149, 2) := by decide +kernel
theorem dX8_sunniest_88 : decode cX8_sunniest 88 = .ok (.invokevirtual 125, 3) := by decide +kernel
theorem dX8_sunniest_91 : decode cX8_sunniest 91 = .ok (.goto 4, 3) := by decide +kernel
theorem dX8_sunniest_94 : decode cX8_sunniest 94 = .ok (.iload_n 3, 1) := by decide +kernel
theorem dX8_sunniest_95 : decode cX8_sunniest 95 = .ok (.ireturn, 1) := by decide +kernel
theorem dX8_days_0 : decode cX8_days 0 = .ok (.aload_n 0, 1) := by decide +kernel
theorem dX8_days_1 : decode cX8_days 1 = .ok (.iload_n 1, 1) := by decide +kernel
theorem dX8_days_2 : decode cX8_days 2 = .ok (.invokevirtual 157, 3) := by decide +kernel
theorem dX8_days_5 : decode cX8_days 5 = .ok (.ifCond .eq 28, 3) := by decide +kernel
theorem dX8_days_8 : decode cX8_days 8 = .ok (.iload_n 2, 1) := by decide +kernel
theorem dX8_days_9 : decode cX8_days 9 = .ok (.invokestatic 133, 3) := by decide +kernel
theorem dX8_days_12 : decode cX8_days 12 = .ok (.ifCond .eq 21, 3) := by decide +kernel
theorem dX8_days_15 : decode cX8_days 15 = .ok (.iload_n 3, 1) := by decide +kernel
theorem dX8_days_16 : decode cX8_days 16 = .ok (.iconst 0, 1) := by decide +kernel
theorem dX8_days_17 : decode cX8_days 17 = .ok (.bipush 23, 2) := by decide +kernel
theorem dX8_days_19 : decode cX8_days 19 = .ok (.invokestatic 121, 3) := by decide +kernel
theorem dX8_days_22 : decode cX8_days 22 = .ok (.ifCond .eq 11, 3) := by decide +kernel
theorem dX8_days_25 : decode cX8_days 25 = .ok (.iload 4, 2) := by decide +kernel
theorem dX8_days_27 : decode cX8_days 27 = .ok (.invokestatic 137, 3) := by decide +kernel
theorem dX8_days_30 : decode cX8_days 30 = .ok (.ifCond .ne 10, 3) := by decide +kernel
theorem dX8_days_33 : decode cX8_days 33 = .ok (.aload_n 0, 1) := by decide +kernel
theorem dX8_days_34 : decode cX8_days 34 = .ok (.ldc 98, 2) := by decide +kernel
theorem dX8_days_36 : decode cX8_days 36 = .ok (.invokevirtual 125, 3) := by decide +kernel
theorem dX8_days_39 : decode cX8_days 39 = .ok (.ireturn, 1) := by decide +kernel
theorem dX8_days_40 : decode cX8_days 40 = .ok (.iload 4, 2) := by decide +kernel
theorem dX8_days_42 : decode cX8_days 42 = .ok (.iload 4, 2) := by decide +kernel
theorem dX8_days_44 : decode cX8_days 44 = .ok (.bipush 96, 2) := by decide +kernel
theorem dX8_days_46 : decode cX8_days 46 = .ok (.irem, 1) := by decide +kernel
theorem dX8_days_47 : decode cX8_days 47 = .ok (.isub, 1) := by decide +kernel
theorem dX8_days_48 : decode cX8_days 48 = .ok (.iconst 4, 1) := by decide +kernel
theorem dX8_days_49 : decode cX8_days 49 = .ok (.iload_n 3, 1) := by decide +kernel
theorem dX8_days_50 : decode cX8_days 50 = .ok (.imul, 1) := by decide +kernel
theorem dX8_days_51 : decode cX8_days 51 = .ok (.iadd, 1) := by decide +kernel
theorem dX8_days_52 : decode cX8_days 52 = .ok (.istore 5, 2) := by decide +kernel
theorem dX8_days_54 : decode cX8_days 54 = .ok (.iconst 0, 1) := by decide +kernel
theorem dX8_days_55 : decode cX8_days 55 = .ok (.istore 6, 2) := by decide +kernel
theorem dX8_days_57 : decode cX8_days 57 = .ok (.iconst 0, 1) := by decide +kernel
theorem dX8_days_58 : decode cX8_days 58 = .ok (.istore 7, 2) := by decide +kernel
theorem dX8_days_60 : decode cX8_days 60 = .ok (.iload 7, 2) := by decide +kernel
theorem dX8_days_62 : decode cX8_days 62 = .ok (.bipush 30, 2) := by decide +kernel
theorem dX8_days_64 : decode cX8_days 64 = .ok (.if_icmp .ge 85, 3) := by decide +kernel
theorem dX8_days_67 : decode cX8_days 67 = .ok (.iconst 0, 1) := by decide +kernel
theorem dX8_days_68 : decode cX8_days 68 = .ok (.istore 8, 2) := by decide +kernel
theorem dX8_days_70 : decode cX8_days 70 = .ok (.iload 5, 2) := by decide +kernel
theorem dX8_days_72 : decode cX8_days 72 = .ok (.bipush 96, 2) := by decide +kernel
theorem dX8_days_74 : decode cX8_days 74 = .ok (.iload 7, 2) := by decide +kernel
theorem dX8_days_76 : decode cX8_days 76 = .ok (.imul, 1) := by decide +kernel
theorem dX8_days_77 : decode cX8_days 77 = .ok (.iadd, 1) := by decide +kernel
theorem dX8_days_78 : decode cX8_days 78 = .ok (.istore 9, 2) := by decide +kernel
theorem dX8_days_80 : decode cX8_days 80 = .ok (.iload 9, 2) := by decide +kernel
theorem dX8_days_82 : decode cX8_days 82 = .ok (.iload 5, 2) := by decide +kernel
theorem dX8_days_84 : decode cX8_days 84 = .ok (.bipush 96, 2) := by decide +kernel
theorem dX8_days_86 : decode cX8_days 86 = .ok (.iload 7, 2) := by decide +kernel
theorem dX8_days_88 : decode cX8_days 88 = .ok (.imul, 1) := by decide +kernel
theorem dX8_days_89 : decode cX8_days 89 = .ok (.iadd, 1) := by decide +kernel
theorem dX8_days_90 : decode cX8_days 90 = .ok (.iconst 4, 1) := by decide +kernel
theorem dX8_days_91 : decode cX8_days 91 = .ok (.iadd, 1) := by decide +kernel
theorem dX8_days_92 : decode cX8_days 92 = .ok (.if_icmp .ge 36, 3) := by decide +kernel
theorem dX8_days_95 : decode cX8_days 95 = .ok (.iload 8, 2) := by decide +kernel
theorem dX8_days_97 : decode cX8_days 97 = .ok (.ifCond .ne 18, 3) := by decide +kernel
theorem dX8_days_100 : decode cX8_days 100 = .ok (.aload_n 0, 1) := by decide +kernel
theorem dX8_days_101 : decode cX8_days 101 = .ok (.aload_n 0, 1) := by decide +kernel
theorem dX8_days_102 : decode cX8_days 102 = .ok (.iload_n 1, 1) := by decide +kernel
theorem dX8_days_103 : decode cX8_days 103 = .ok (.invokevirtual 167, 3) := by decide +kernel
theorem dX8_days_106 : decode cX8_days 106 = .ok (.iload 9, 2) := by decide +kernel
theorem dX8_days_108 : decode cX8_days 108 = .ok (.invokevirtual 146, 3) := by decide +kernel
theorem dX8_days_111 : decode cX8_days 111 = .ok (.iload_n 2, 1) := by decide +kernel
theorem dX8_days_112 : decode cX8_days 112 = .ok (.if_icmp .ne 7, 3) := by decide +kernel
theorem dX8_days_115 : decode cX8_days 115 = .ok (.iconst 1, 1) := by decide +kernel
theorem dX8_days_116 : decode cX8_days 116 = .ok (.goto 4, 3) := by decide +kernel
theorem dX8_days_119 : decode cX8_days 119 = .ok (.iconst 0, 1) := by decide +kernel
theorem dX8_days_120 : decode cX8_days 120 = .ok (.istore 8, 2) := by decide +kernel
theorem dX8_days_122 : decode cX8_days 122 = .ok (.iinc 9 1, 3) := by decide +kernel
theorem dX8_days_125 : decode cX8_days 125 = .ok (.goto (-45), 3) := by decide +kernel
theorem dX8_days_128 : decode cX8_days 128 = .ok (.iload 6, 2) := by decide +kernel
theorem dX8_days_130 : decode cX8_days 130 = .ok (.iload 8, 2) := by decide +kernel
theorem dX8_days_132 : decode cX8_days 132 = .ok (.ifCond .eq 7, 3) := by decide +kernel
theorem dX8_days_135 : decode cX8_days 135 = .ok (.iconst 1, 1) := by decide +kernel
theorem dX8_days_136 : decode cX8_days 136 = .ok (.goto 4, 3) := by decide +kernel
theorem dX8_days_139 : decode cX8_days 139 = .ok (.iconst 0, 1) := by decide +kernel
theorem dX8_days_140 : decode cX8_days 140 = .ok (.iadd, 1) := by decide +kernel
theorem dX8_days_141 : decode cX8_days 141 = .ok (.istore 6, 2) := by decide +kernel
theorem dX8_days_143 : decode cX8_days 143 = .ok (.iinc 7 1, 3) := by decide +kernel
theorem dX8_days_146 : decode cX8_days 146 = .ok (.goto (-86), 3) := by decide +kernel
theorem dX8_days_149 : decode cX8_days 149 = .ok (.iload 6, 2) := by decide +kernel
theorem dX8_days_151 : decode cX8_days 151 = .ok (.ireturn, 1) := by decide +kernel
theorem dX8_exchange_0 : decode cX8_exchange 0 = .ok (.iload_n 1, 1) := by decide +kernel
theorem dX8_exchange_1 : decode cX8_exchange 1 = .ok (.invokestatic 137, 3) := by decide +kernel
theorem dX8_exchange_4 : decode cX8_exchange 4 = .ok (.ifCond .eq 10, 3) := by decide +kernel
theorem dX8_exchange_7 : decode cX8_exchange 7 = .ok (.iload_n 2, 1) := by decide +kernel
theorem dX8_exchange_8 : decode cX8_exchange 8 = .ok (.invokestatic 180, 3) := by decide +kernel
theorem dX8_exchange_11 : decode cX8_exchange 11 = .ok (.ifCond .ne 10, 3) := by decide +kernel
theorem dX8_exchange_14 : decode cX8_exchange 14 = .ok (.aload_n 0, 1) := by decide +kernel
theorem dX8_exchange_15 : decode cX8_exchange 15 = .ok (.ldc 98, 2) := by decide +kernel
theorem dX8_exchange_17 : decode cX8_exchange 17 = .ok (.invokevirtual 125, 3) := by decide +kernel
theorem dX8_exchange_20 : decode cX8_exchange 20 = .ok (.ireturn, 1) := by decide +kernel
theorem dX8_exchange_21 : decode cX8_exchange 21 = .ok (.iconst 0, 1) := by decide +kernel
theorem dX8_exchange_22 : decode cX8_exchange 22 = .ok (.istore_n 3, 1) := by decide +kernel
theorem dX8_exchange_23 : decode cX8_exchange 23 = .ok (.iload_n 3, 1) := by decide +kernel
theorem dX8_exchange_24 : decode cX8_exchange 24 = .ok (.iconst 4, 1) := by decide +kernel
theorem dX8_exchange_25 : decode cX8_exchange 25 = .ok (.aload_n 0, 1) := by decide +kernel
theorem dX8_exchange_26 : decode cX8_exchange 26 = .ok (.getfield 9, 3) := by decide +kernel
theorem dX8_exchange_29 : decode cX8_exchange 29 = .ok (.bipush 9, 2) := by decide +kernel
theorem dX8_exchange_31 : decode cX8_exchange 31 = .ok (.iaload, 1) := by decide +kernel
theorem dX8_exchange_32 : decode cX8_exchange 32 = .ok (.imul, 1) := by decide +kernel
theorem dX8_exchange_33 : decode cX8_exchange 33 = .ok (.if_icmp .ge 27, 3) := by decide +kernel
theorem dX8_exchange_36 : decode cX8_exchange 36 = .ok (.aload_n 0, 1) := by decide +kernel
theorem dX8_exchange_37 : decode cX8_exchange 37 = .ok (.getfield 31, 3) := by decide +kernel
theorem dX8_exchange_40 : decode cX8_exchange 40 = .ok (.iload_n 3, 1) := by decide +kernel
theorem dX8_exchange_41 : decode cX8_exchange 41 = .ok (.aload_n 0, 1) := by decide +kernel
theorem dX8_exchange_42 : decode cX8_exchange 42 = .ok (.iload_n 3, 1) := by decide +kernel
theorem dX8_exchange_43 : decode cX8_exchange 43 = .ok (.iconst 4, 1) := by decide +kernel
theorem dX8_exchange_44 : decode cX8_exchange 44 = .ok (.idiv, 1) := by decide +kernel
theorem dX8_exchange_45 : decode cX8_exchange 45 = .ok (.iload_n 3, 1) := by decide +kernel
theorem dX8_exchange_46 : decode cX8_exchange 46 = .ok (.iconst 4, 1) := by decide +kernel
theorem dX8_exchange_47 : decode cX8_exchange 47 = .ok (.irem, 1) := by decide +kernel
theorem dX8_exchange_48 : decode cX8_exchange 48 = .ok (.iload_n 1, 1) := by decide +kernel
theorem dX8_exchange_49 : decode cX8_exchange 49 = .ok (.iload_n 2, 1) := by decide +kernel
theorem dX8_exchange_50 : decode cX8_exchange 50 = .ok (.invokevirtual 183, 3) := by decide +kernel
theorem dX8_exchange_53 : decode cX8_exchange 53 = .ok (.iastore, 1) := by decide +kernel
theorem dX8_exchange_54 : decode cX8_exchange 54 = .ok (.iinc 3 1, 3) := by decide +kernel
theorem dX8_exchange_57 : decode cX8_exchange 57 = .ok (.goto (-34), 3) := by decide +kernel
theorem dX8_exchange_60 : decode cX8_exchange 60 = .ok (.iconst (-1), 1) := by decide +kernel
theorem dX8_exchange_61 : decode cX8_exchange 61 = .ok (.istore_n 3, 1) := by decide +kernel
theorem dX8_exchange_62 : decode cX8_exchange 62 = .ok (.iconst 0, 1) := by decide +kernel
theorem dX8_exchange_63 : decode cX8_exchange 63 = .ok (.istore 4, 2) := by decide +kernel
theorem dX8_exchange_65 : decode cX8_exchange 65 = .ok (.iconst 0, 1) := by decide +kernel
theorem dX8_exchange_66 : decode cX8_exchange 66 = .ok (.istore 5, 2) := by decide +kernel
theorem dX8_exchange_68 : decode cX8_exchange 68 = .ok (.iload 5, 2) := by decide +kernel
theorem dX8_exchange_70 : decode cX8_exchange 70 = .ok (.aload_n 0, 1) := by decide +kernel
theorem dX8_exchange_71 : decode cX8_exchange 71 = .ok (.getfield 9, 3) := by decide +kernel
theorem dX8_exchange_74 : decode cX8_exchange 74 = .ok (.bipush 9, 2) := by decide +kernel
theorem dX8_exchange_76 : decode cX8_exchange 76 = .ok (.iaload, 1) := by decide +kernel
theorem dX8_exchange_77 : decode cX8_exchange 77 = .ok (.if_icmp .ge 152, 3) := by decide +kernel
theorem dX8_exchange_80 : decode cX8_exchange 80 = .ok (.iload 5, 2) := by decide +kernel
theorem dX8_exchange_82 : decode cX8_exchange 82 = .ok (.iconst 1, 1) := by decide +kernel
theorem dX8_exchange_83 : decode cX8_exchange 83 = .ok (.iadd, 1) := by decide +kernel
theorem dX8_exchange_84 : decode cX8_exchange 84 = .ok (.istore 6, 2) := by decide +kernel
theorem dX8_exchange_86 : decode cX8_exchange 86 = .ok (.iload 6, 2) := by decide +kernel
theorem dX8_exchange_88 : decode cX8_exchange 88 = .ok (.aload_n 0, 1) := by decide +kernel
theorem dX8_exchange_89 : decode cX8_exchange 89 = .ok (.getfield 9, 3) := by decide +kernel
theorem dX8_exchange_92 : decode cX8_exchange 92 = .ok (.bipush 9, 2) := by decide +kernel
theorem dX8_exchange_94 : decode cX8_exchange 94 = .ok (.iaload, 1) := by decide +kernel
theorem dX8_exchange_95 : decode cX8_exchange 95 = .ok (.if_icmp .ge 128, 3) := by decide +kernel
theorem dX8_exchange_98 : decode cX8_exchange 98 = .ok (.aload_n 0, 1) := by decide +kernel
theorem dX8_exchange_99 : decode cX8_exchange 99 = .ok (.getfield 31, 3) := by decide +kernel
theorem dX8_exchange_102 : decode cX8_exchange 102 = .ok (.iconst 4, 1) := by decide +kernel
theorem dX8_exchange_103 : decode cX8_exchange 103 = .ok (.iload 5, 2) := by decide +kernel
theorem dX8_exchange_105 : decode cX8_exchange 105 = .ok (.imul, 1) := by decide +kernel
theorem dX8_exchange_106 : decode cX8_exchange 106 = .ok (.aload_n 0, 1) := by decide +kernel
theorem dX8_exchange_107 : decode cX8_exchange 107 = .ok (.iload 5, 2) := by decide +kernel
theorem dX8_exchange_109 : decode cX8_exchange 109 = .ok (.invokevirtual 167, 3) := by decide +kernel
theorem dX8_exchange_112 : decode cX8_exchange 112 = .ok (.iadd, 1) := by decide +kernel
theorem dX8_exchange_113 : decode cX8_exchange 113 = .ok (.iaload, 1) := by decide +kernel
theorem dX8_exchange_114 : decode cX8_exchange 114 = .ok (.istore 7, 2) := by decide +kernel
theorem dX8_exchange_116 : decode cX8_exchange 116 = .ok (.aload_n 0, 1) := by decide +kernel
theorem dX8_exchange_117 : decode cX8_exchange 117 = .ok (.getfield 31, 3) := by decide +kernel
theorem dX8_exchange_120 : decode cX8_exchange 120 = .ok (.iconst 4, 1) := by decide +kernel
theorem dX8_exchange_121 : decode cX8_exchange 121 = .ok (.iload 6, 2) := by decide +kernel
theorem dX8_exchange_123 : decode cX8_exchange 123 = .ok (.imul, 1) := by decide +kernel
theorem dX8_exchange_124 : decode cX8_exchange 124 = .ok (.aload_n 0, 1) := by decide +kernel
theorem dX8_exchange_125 : decode cX8_exchange 125 = .ok (.iload 6, 2) := by decide +kernel
theorem dX8_exchange_127 : decode cX8_exchange 127 = .ok (.invokevirtual 167, 3) := by decide +kernel
theorem dX8_exchange_130 : decode cX8_exchange 130 = .ok (.iadd, 1) := by decide +kernel
theorem dX8_exchange_131 : decode cX8_exchange 131 = .ok (.iaload, 1) := by decide +kernel
theorem dX8_exchange_132 : decode cX8_exchange 132 = .ok (.istore 8, 2) := by decide +kernel
theorem dX8_exchange_134 : decode cX8_exchange 134 = .ok (.aload_n 0, 1) := by decide +kernel
theorem dX8_exchange_135 : decode cX8_exchange 135 = .ok (.getfield 31, 3) := by decide +kernel
theorem dX8_exchange_138 : decode cX8_exchange 138 = .ok (.iconst 4, 1) := by decide +kernel
theorem dX8_exchange_139 : decode cX8_exchange 139 = .ok (.iload 5, 2) := by decide +kernel
theorem dX8_exchange_141 : decode cX8_exchange 141 = .ok (.imul, 1) := by decide +kernel
theorem dX8_exchange_142 : decode cX8_exchange 142 = .ok (.aload_n 0, 1) := by decide +kernel
theorem dX8_exchange_143 : decode cX8_exchange 143 = .ok (.iload 6, 2) := by decide +kernel
theorem dX8_exchange_145 : decode cX8_exchange 145 = .ok (.invokevirtual 167, 3) := by decide +kernel
theorem dX8_exchange_148 : decode cX8_exchange 148 = .ok (.iadd, 1) := by decide +kernel
theorem dX8_exchange_149 : decode cX8_exchange 149 = .ok (.iaload, 1) := by decide +kernel
theorem dX8_exchange_150 : decode cX8_exchange 150 = .ok (.istore 9, 2) := by decide +kernel
theorem dX8_exchange_152 : decode cX8_exchange 152 = .ok (.aload_n 0, 1) := by decide +kernel
theorem dX8_exchange_153 : decode cX8_exchange 153 = .ok (.getfield 31, 3) := by decide +kernel
theorem dX8_exchange_156 : decode cX8_exchange 156 = .ok (.iconst 4, 1) := by decide +kernel
theorem dX8_exchange_157 : decode cX8_exchange 157 = .ok (.iload 6, 2) := by decide +kernel
theorem dX8_exchange_159 : decode cX8_exchange 159 = .ok (.imul, 1) := by decide +kernel
theorem dX8_exchange_160 : decode cX8_exchange 160 = .ok (.aload_n 0, 1) := by decide +kernel
theorem dX8_exchange_161 : decode cX8_exchange 161 = .ok (.iload 5, 2) := by decide +kernel
theorem dX8_exchange_163 : decode cX8_exchange 163 = .ok (.invokevirtual 167, 3) := by decide +kernel
theorem dX8_exchange_166 : decode cX8_exchange 166 = .ok (.iadd, 1) := by decide +kernel
theorem dX8_exchange_167 : decode cX8_exchange 167 = .ok (.iaload, 1) := by decide +kernel
theorem dX8_exchange_168 : decode cX8_exchange 168 = .ok (.istore 10, 2) := by decide +kernel
theorem dX8_exchange_170 : decode cX8_exchange 170 = .ok (.iload 9, 2) := by decide +kernel
theorem dX8_exchange_172 : decode cX8_exchange 172 = .ok (.iload 10, 2) := by decide +kernel
theorem dX8_exchange_174 : decode cX8_exchange 174 = .ok (.iadd, 1) := by decide +kernel
theorem dX8_exchange_175 : decode cX8_exchange 175 = .ok (.iload 7, 2) := by decide +kernel
theorem dX8_exchange_177 : decode cX8_exchange 177 = .ok (.isub, 1) := by decide +kernel
theorem dX8_exchange_178 : decode cX8_exchange 178 = .ok (.iload 8, 2) := by decide +kernel
theorem dX8_exchange_180 : decode cX8_exchange 180 = .ok (.isub, 1) := by decide +kernel
theorem dX8_exchange_181 : decode cX8_exchange 181 = .ok (.istore 11, 2) := by decide +kernel
theorem dX8_exchange_183 : decode cX8_exchange 183 = .ok (.iload 9, 2) := by decide +kernel
theorem dX8_exchange_185 : decode cX8_exchange 185 = .ok (.iload 7, 2) := by decide +kernel
theorem dX8_exchange_187 : decode cX8_exchange 187 = .ok (.if_icmp .lt 30, 3) := by decide +kernel
theorem dX8_exchange_190 : decode cX8_exchange 190 = .ok (.iload 10, 2) := by decide +kernel
theorem dX8_exchange_192 : decode cX8_exchange 192 = .ok (.iload 8, 2) := by decide +kernel
theorem dX8_exchange_194 : decode cX8_exchange 194 = .ok (.if_icmp .lt 23, 3) := by decide +kernel
theorem dX8_exchange_197 : decode cX8_exchange 197 = .ok (.iload 11, 2) := by decide +kernel
theorem dX8_exchange_199 : decode cX8_exchange 199 = .ok (.iload 4, 2) := by decide +kernel
theorem dX8_exchange_201 : decode cX8_exchange 201 = .ok (.if_icmp .le 16, 3) := by decide +kernel
theorem dX8_exchange_204 : decode cX8_exchange 204 = .ok (.bipush 10, 2) := by decide +kernel
theorem dX8_exchange_206 : decode cX8_exchange 206 = .ok (.iload 5, 2) := by decide +kernel
theorem dX8_exchange_208 : decode cX8_exchange 208 = .ok (.imul, 1) := by decide +kernel
theorem dX8_exchange_209 : decode cX8_exchange 209 = .ok (.iload 6, 2) := by decide +kernel
theorem dX8_exchange_211 : decode cX8_exchange 211 = .ok (.iadd, 1) := by decide +kernel
theorem dX8_exchange_212 : decode cX8_exchange 212 = .ok (.istore_n 3, 1) := by decide +kernel
theorem dX8_exchange_213 : decode cX8_exchange 213 = .ok (.iload 11, 2) := by decide +kernel
theorem dX8_exchange_215 : decode cX8_exchange 215 = .ok (.istore 4, 2) := by decide +kernel
theorem dX8_exchange_217 : decode cX8_exchange 217 = .ok (.iinc 6 1, 3) := by decide +kernel
theorem dX8_exchange_220 : decode cX8_exchange 220 = .ok (.goto (-134), 3) := by decide +kernel
theorem dX8_exchange_223 : decode cX8_exchange 223 = .ok (.iinc 5 1, 3) := by decide +kernel
theorem dX8_exchange_226 : decode cX8_exchange 226 = .ok (.goto (-158), 3) := by decide +kernel
theorem dX8_exchange_229 : decode cX8_exchange 229 = .ok (.iload_n 3, 1) := by decide +kernel
theorem dX8_exchange_230 : decode cX8_exchange 230 = .ok (.ifCond .ge 12, 3) := by decide +kernel
theorem dX8_exchange_233 : decode cX8_exchange 233 = .ok (.aload_n 0, 1) := by decide +kernel
theorem dX8_exchange_234 : decode cX8_exchange 234 = .ok (.ldc 149, 2) := by decide +kernel
theorem dX8_exchange_236 : decode cX8_exchange 236 = .ok (.invokevirtual 125, 3) := by decide +kernel
theorem dX8_exchange_239 : decode cX8_exchange 239 = .ok (.goto 4, 3) := by decide +kernel
theorem dX8_exchange_242 : decode cX8_exchange 242 = .ok (.iload_n 3, 1) := by decide +kernel
theorem dX8_exchange_243 : decode cX8_exchange 243 = .ok (.ireturn, 1) := by decide +kernel
theorem dX8_isShip_0 : decode cX8_isShip 0 = .ok (.iload_n 1, 1) := by decide +kernel
theorem dX8_isShip_1 : decode cX8_isShip 1 = .ok (.iconst 0, 1) := by decide +kernel
theorem dX8_isShip_2 : decode cX8_isShip 2 = .ok (.aload_n 0, 1) := by decide +kernel
theorem dX8_isShip_3 : decode cX8_isShip 3 = .ok (.getfield 9, 3) := by decide +kernel
theorem dX8_isShip_6 : decode cX8_isShip 6 = .ok (.bipush 10, 2) := by decide +kernel
theorem dX8_isShip_8 : decode cX8_isShip 8 = .ok (.iaload, 1) := by decide +kernel
theorem dX8_isShip_9 : decode cX8_isShip 9 = .ok (.iconst 1, 1) := by decide +kernel
theorem dX8_isShip_10 : decode cX8_isShip 10 = .ok (.isub, 1) := by decide +kernel
theorem dX8_isShip_11 : decode cX8_isShip 11 = .ok (.invokestatic 121, 3) := by decide +kernel
theorem dX8_isShip_14 : decode cX8_isShip 14 = .ok (.ireturn, 1) := by decide +kernel
theorem dX8_shipIs_0 : decode cX8_shipIs 0 = .ok (.aload_n 0, 1) := by decide +kernel
theorem dX8_shipIs_1 : decode cX8_shipIs 1 = .ok (.getfield 9, 3) := by decide +kernel
theorem dX8_shipIs_4 : decode cX8_shipIs 4 = .ok (.bipush 27, 2) := by decide +kernel
theorem dX8_shipIs_6 : decode cX8_shipIs 6 = .ok (.iconst 4, 1) := by decide +kernel
theorem dX8_shipIs_7 : decode cX8_shipIs 7 = .ok (.iload_n 1, 1) := by decide +kernel
theorem dX8_shipIs_8 : decode cX8_shipIs 8 = .ok (.imul, 1) := by decide +kernel
theorem dX8_shipIs_9 : decode cX8_shipIs 9 = .ok (.iadd, 1) := by decide +kernel
theorem dX8_shipIs_10 : decode cX8_shipIs 10 = .ok (.iload_n 2, 1) := by decide +kernel
theorem dX8_shipIs_11 : decode cX8_shipIs 11 = .ok (.iadd, 1) := by decide +kernel
theorem dX8_shipIs_12 : decode cX8_shipIs 12 = .ok (.iaload, 1) := by decide +kernel
theorem dX8_shipIs_13 : decode cX8_shipIs 13 = .ok (.ireturn, 1) := by decide +kernel
theorem dX8_sails_0 : decode cX8_sails 0 = .ok (.aload_n 0, 1) := by decide +kernel
theorem dX8_sails_1 : decode cX8_sails 1 = .ok (.getfield 9, 3) := by decide +kernel
theorem dX8_sails_4 : decode cX8_sails 4 = .ok (.bipush 10, 2) := by decide +kernel
theorem dX8_sails_6 : decode cX8_sails 6 = .ok (.iaload, 1) := by decide +kernel
theorem dX8_sails_7 : decode cX8_sails 7 = .ok (.istore 5, 2) := by decide +kernel
theorem dX8_sails_9 : decode cX8_sails 9 = .ok (.bipush 27, 2) := by decide +kernel
theorem dX8_sails_11 : decode cX8_sails 11 = .ok (.iconst 4, 1) := by decide +kernel
theorem dX8_sails_12 : decode cX8_sails 12 = .ok (.iload 5, 2) := by decide +kernel
theorem dX8_sails_14 : decode cX8_sails 14 = .ok (.imul, 1) := by decide +kernel
theorem dX8_sails_15 : decode cX8_sails 15 = .ok (.iadd, 1) := by decide +kernel
theorem dX8_sails_16 : decode cX8_sails 16 = .ok (.istore 6, 2) := by decide +kernel
theorem dX8_sails_18 : decode cX8_sails 18 = .ok (.aload_n 0, 1) := by decide +kernel
theorem dX8_sails_19 : decode cX8_sails 19 = .ok (.getfield 9, 3) := by decide +kernel
theorem dX8_sails_22 : decode cX8_sails 22 = .ok (.iload 6, 2) := by decide +kernel
theorem dX8_sails_24 : decode cX8_sails 24 = .ok (.iconst 0, 1) := by decide +kernel
theorem dX8_sails_25 : decode cX8_sails 25 = .ok (.iadd, 1) := by decide +kernel
theorem dX8_sails_26 : decode cX8_sails 26 = .ok (.iload_n 1, 1) := by decide +kernel
theorem dX8_sails_27 : decode cX8_sails 27 = .ok (.iastore, 1) := by decide +kernel
theorem dX8_sails_28 : decode cX8_sails 28 = .ok (.aload_n 0, 1) := by decide +kernel
theorem dX8_sails_29 : decode cX8_sails 29 = .ok (.getfield 9, 3) := by decide +kernel
theorem dX8_sails_32 : decode cX8_sails 32 = .ok (.iload 6, 2) := by decide +kernel
theorem dX8_sails_34 : decode cX8_sails 34 = .ok (.iconst 1, 1) := by decide +kernel
theorem dX8_sails_35 : decode cX8_sails 35 = .ok (.iadd, 1) := by decide +kernel
theorem dX8_sails_36 : decode cX8_sails 36 = .ok (.iload_n 2, 1) := by decide +kernel
theorem dX8_sails_37 : decode cX8_sails 37 = .ok (.iastore, 1) := by decide +kernel
theorem dX8_sails_38 : decode cX8_sails 38 = .ok (.aload_n 0, 1) := by decide +kernel
theorem dX8_sails_39 : decode cX8_sails 39 = .ok (.getfield 9, 3) := by decide +kernel
theorem dX8_sails_42 : decode cX8_sails 42 = .ok (.iload 6, 2) := by decide +kernel
theorem dX8_sails_44 : decode cX8_sails 44 = .ok (.iconst 2, 1) := by decide +kernel
theorem dX8_sails_45 : decode cX8_sails 45 = .ok (.iadd, 1) := by decide +kernel
theorem dX8_sails_46 : decode cX8_sails 46 = .ok (.iload_n 3, 1) := by decide +kernel
theorem dX8_sails_47 : decode cX8_sails 47 = .ok (.iastore, 1) := by decide +kernel
theorem dX8_sails_48 : decode cX8_sails 48 = .ok (.aload_n 0, 1) := by decide +kernel
theorem dX8_sails_49 : decode cX8_sails 49 = .ok (.getfield 9, 3) := by decide +kernel
theorem dX8_sails_52 : decode cX8_sails 52 = .ok (.iload 6, 2) := by decide +kernel
theorem dX8_sails_54 : decode cX8_sails 54 = .ok (.iconst 3, 1) := by decide +kernel
theorem dX8_sails_55 : decode cX8_sails 55 = .ok (.iadd, 1) := by decide +kernel
theorem dX8_sails_56 : decode cX8_sails 56 = .ok (.iload 4, 2) := by decide +kernel
theorem dX8_sails_58 : decode cX8_sails 58 = .ok (.iastore, 1) := by decide +kernel
theorem dX8_sails_59 : decode cX8_sails 59 = .ok (.aload_n 0, 1) := by decide +kernel
theorem dX8_sails_60 : decode cX8_sails 60 = .ok (.getfield 9, 3) := by decide +kernel
theorem dX8_sails_63 : decode cX8_sails 63 = .ok (.bipush 10, 2) := by decide +kernel
theorem dX8_sails_65 : decode cX8_sails 65 = .ok (.dup2, 1) := by decide +kernel
theorem dX8_sails_66 : decode cX8_sails 66 = .ok (.iaload, 1) := by decide +kernel
theorem dX8_sails_67 : decode cX8_sails 67 = .ok (.iconst 1, 1) := by decide +kernel
theorem dX8_sails_68 : decode cX8_sails 68 = .ok (.iadd, 1) := by decide +kernel
theorem dX8_sails_69 : decode cX8_sails 69 = .ok (.iastore, 1) := by decide +kernel
theorem dX8_sails_70 : decode cX8_sails 70 = .ok (.iload 5, 2) := by decide +kernel
theorem dX8_sails_72 : decode cX8_sails 72 = .ok (.ireturn, 1) := by decide +kernel
theorem dX8_ship_0 : decode cX8_ship 0 = .ok (.iload_n 1, 1) := by decide +kernel
theorem dX8_ship_1 : decode cX8_ship 1 = .ok (.invokestatic 133, 3) := by decide +kernel
theorem dX8_ship_4 : decode cX8_ship 4 = .ok (.ifCond .eq 20, 3) := by decide +kernel
theorem dX8_ship_7 : decode cX8_ship 7 = .ok (.iload_n 2, 1) := by decide +kernel
theorem dX8_ship_8 : decode cX8_ship 8 = .ok (.invokestatic 137, 3) := by decide +kernel
theorem dX8_ship_11 : decode cX8_ship 11 = .ok (.ifCond .eq 13, 3) := by decide +kernel
theorem dX8_ship_14 : decode cX8_ship 14 = .ok (.iload_n 3, 1) := by decide +kernel
theorem dX8_ship_15 : decode cX8_ship 15 = .ok (.iconst 1, 1) := by decide +kernel
theorem dX8_ship_16 : decode cX8_ship 16 = .ok (.bipush 40, 2) := by decide +kernel
theorem dX8_ship_18 : decode cX8_ship 18 = .ok (.invokestatic 121, 3) := by decide +kernel
theorem dX8_ship_21 : decode cX8_ship 21 = .ok (.ifCond .ne 10, 3) := by decide +kernel
theorem dX8_ship_24 : decode cX8_ship 24 = .ok (.aload_n 0, 1) := by decide +kernel
theorem dX8_ship_25 : decode cX8_ship 25 = .ok (.ldc 98, 2) := by decide +kernel
theorem dX8_ship_27 : decode cX8_ship 27 = .ok (.invokevirtual 125, 3) := by decide +kernel
theorem dX8_ship_30 : decode cX8_ship 30 = .ok (.ireturn, 1) := by decide +kernel
theorem dX8_ship_31 : decode cX8_ship 31 = .ok (.aload_n 0, 1) := by decide +kernel
theorem dX8_ship_32 : decode cX8_ship 32 = .ok (.getfield 9, 3) := by decide +kernel
theorem dX8_ship_35 : decode cX8_ship 35 = .ok (.bipush 10, 2) := by decide +kernel
theorem dX8_ship_37 : decode cX8_ship 37 = .ok (.iaload, 1) := by decide +kernel
theorem dX8_ship_38 : decode cX8_ship 38 = .ok (.bipush 6, 2) := by decide +kernel
theorem dX8_ship_40 : decode cX8_ship 40 = .ok (.if_icmp .ne 12, 3) := by decide +kernel
theorem dX8_ship_43 : decode cX8_ship 43 = .ok (.aload_n 0, 1) := by decide +kernel
theorem dX8_ship_44 : decode cX8_ship 44 = .ok (.ldc 153, 2) := by decide +kernel
theorem dX8_ship_46 : decode cX8_ship 46 = .ok (.invokevirtual 125, 3) := by decide +kernel
theorem dX8_ship_49 : decode cX8_ship 49 = .ok (.goto 11, 3) := by decide +kernel
theorem dX8_ship_52 : decode cX8_ship 52 = .ok (.aload_n 0, 1) := by decide +kernel
theorem dX8_ship_53 : decode cX8_ship 53 = .ok (.iload_n 1, 1) := by decide +kernel
theorem dX8_ship_54 : decode cX8_ship 54 = .ok (.iload_n 2, 1) := by decide +kernel
theorem dX8_ship_55 : decode cX8_ship 55 = .ok (.iload_n 3, 1) := by decide +kernel
theorem dX8_ship_56 : decode cX8_ship 56 = .ok (.iconst (-1), 1) := by decide +kernel
theorem dX8_ship_57 : decode cX8_ship 57 = .ok (.invokevirtual 187, 3) := by decide +kernel
theorem dX8_ship_60 : decode cX8_ship 60 = .ok (.ireturn, 1) := by decide +kernel
theorem dX8_shipOf_0 : decode cX8_shipOf 0 = .ok (.aload_n 0, 1) := by decide +kernel
theorem dX8_shipOf_1 : decode cX8_shipOf 1 = .ok (.iload_n 1, 1) := by decide +kernel
theorem dX8_shipOf_2 : decode cX8_shipOf 2 = .ok (.invokevirtual 189, 3) := by decide +kernel
theorem dX8_shipOf_5 : decode cX8_shipOf 5 = .ok (.ifCond .eq 21, 3) := by decide +kernel
theorem dX8_shipOf_8 : decode cX8_shipOf 8 = .ok (.iload_n 2, 1) := by decide +kernel
theorem dX8_shipOf_9 : decode cX8_shipOf 9 = .ok (.iconst 0, 1) := by decide +kernel
theorem dX8_shipOf_10 : decode cX8_shipOf 10 = .ok (.iconst 3, 1) := by decide +kernel
theorem dX8_shipOf_11 : decode cX8_shipOf 11 = .ok (.invokestatic 121, 3) := by decide +kernel
theorem dX8_shipOf_14 : decode cX8_shipOf 14 = .ok (.ifCond .eq 12, 3) := by decide +kernel
theorem dX8_shipOf_17 : decode cX8_shipOf 17 = .ok (.aload_n 0, 1) := by decide +kernel
theorem dX8_shipOf_18 : decode cX8_shipOf 18 = .ok (.iload_n 1, 1) := by decide +kernel
theorem dX8_shipOf_19 : decode cX8_shipOf 19 = .ok (.iload_n 2, 1) := by decide +kernel
theorem dX8_shipOf_20 : decode cX8_shipOf 20 = .ok (.invokevirtual 192, 3) := by decide +kernel
theorem dX8_shipOf_23 : decode cX8_shipOf 23 = .ok (.goto 9, 3) := by decide +kernel
theorem dX8_shipOf_26 : decode cX8_shipOf 26 = .ok (.aload_n 0, 1) := by decide +kernel
theorem dX8_shipOf_27 : decode cX8_shipOf 27 = .ok (.ldc 98, 2) := by decide +kernel
theorem dX8_shipOf_29 : decode cX8_shipOf 29 = .ok (.invokevirtual 125, 3) := by decide +kernel
theorem dX8_shipOf_32 : decode cX8_shipOf 32 = .ok (.ireturn, 1) := by decide +kernel
theorem dX8_quay_0 : decode cX8_quay 0 = .ok (.aload_n 0, 1) := by decide +kernel
theorem dX8_quay_1 : decode cX8_quay 1 = .ok (.iload_n 1, 1) := by decide +kernel
theorem dX8_quay_2 : decode cX8_quay 2 = .ok (.invokevirtual 189, 3) := by decide +kernel
theorem dX8_quay_5 : decode cX8_quay 5 = .ok (.ifCond .eq 28, 3) := by decide +kernel
theorem dX8_quay_8 : decode cX8_quay 8 = .ok (.iload_n 2, 1) := by decide +kernel
theorem dX8_quay_9 : decode cX8_quay 9 = .ok (.iconst (-1), 1) := by decide +kernel
theorem dX8_quay_10 : decode cX8_quay 10 = .ok (.iconst 3, 1) := by decide +kernel
theorem dX8_quay_11 : decode cX8_quay 11 = .ok (.invokestatic 121, 3) := by decide +kernel
theorem dX8_quay_14 : decode cX8_quay 14 = .ok (.ifCond .eq 19, 3) := by decide +kernel
theorem dX8_quay_17 : decode cX8_quay 17 = .ok (.aload_n 0, 1) := by decide +kernel
theorem dX8_quay_18 : decode cX8_quay 18 = .ok (.bipush 27, 2) := by decide +kernel
theorem dX8_quay_20 : decode cX8_quay 20 = .ok (.iconst 4, 1) := by decide +kernel
theorem dX8_quay_21 : decode cX8_quay 21 = .ok (.iload_n 1, 1) := by decide +kernel
theorem dX8_quay_22 : decode cX8_quay 22 = .ok (.imul, 1) := by decide +kernel
theorem dX8_quay_23 : decode cX8_quay 23 = .ok (.iadd, 1) := by decide +kernel
theorem dX8_quay_24 : decode cX8_quay 24 = .ok (.iconst 3, 1) := by decide +kernel
theorem dX8_quay_25 : decode cX8_quay 25 = .ok (.iadd, 1) := by decide +kernel
theorem dX8_quay_26 : decode cX8_quay 26 = .ok (.iload_n 2, 1) := by decide +kernel
theorem dX8_quay_27 : decode cX8_quay 27 = .ok (.invokevirtual 128, 3) := by decide +kernel
theorem dX8_quay_30 : decode cX8_quay 30 = .ok (.goto 9, 3) := by decide +kernel
theorem dX8_quay_33 : decode cX8_quay 33 = .ok (.aload_n 0, 1) := by decide +kernel
theorem dX8_quay_34 : decode cX8_quay 34 = .ok (.ldc 98, 2) := by decide +kernel
theorem dX8_quay_36 : decode cX8_quay 36 = .ok (.invokevirtual 125, 3) := by decide +kernel
theorem dX8_quay_39 : decode cX8_quay 39 = .ok (.ireturn, 1) := by decide +kernel
theorem dX8_clear_0 : decode cX8_clear 0 = .ok (.aload_n 0, 1) := by decide +kernel
theorem dX8_clear_1 : decode cX8_clear 1 = .ok (.bipush 10, 2) := by decide +kernel
theorem dX8_clear_3 : decode cX8_clear 3 = .ok (.iconst 0, 1) := by decide +kernel
theorem dX8_clear_4 : decode cX8_clear 4 = .ok (.invokevirtual 128, 3) := by decide +kernel
theorem dX8_clear_7 : decode cX8_clear 7 = .ok (.ireturn, 1) := by decide +kernel
theorem dX8_canLie_0 : decode cX8_canLie 0 = .ok (.aload_n 0, 1) := by decide +kernel
theorem dX8_canLie_1 : decode cX8_canLie 1 = .ok (.iload_n 2, 1) := by decide +kernel
theorem dX8_canLie_2 : decode cX8_canLie 2 = .ok (.iload_n 3, 1) := by decide +kernel
theorem dX8_canLie_3 : decode cX8_canLie 3 = .ok (.invokevirtual 146, 3) := by decide +kernel
theorem dX8_canLie_6 : decode cX8_canLie 6 = .ok (.aload_n 0, 1) := by decide +kernel
theorem dX8_canLie_7 : decode cX8_canLie 7 = .ok (.iload_n 1, 1) := by decide +kernel
theorem dX8_canLie_8 : decode cX8_canLie 8 = .ok (.iconst 0, 1) := by decide +kernel
theorem dX8_canLie_9 : decode cX8_canLie 9 = .ok (.invokevirtual 192, 3) := by decide +kernel
theorem dX8_canLie_12 : decode cX8_canLie 12 = .ok (.if_icmp .ne 21, 3) := by decide +kernel
theorem dX8_canLie_15 : decode cX8_canLie 15 = .ok (.aload_n 0, 1) := by decide +kernel
theorem dX8_canLie_16 : decode cX8_canLie 16 = .ok (.iload_n 3, 1) := by decide +kernel
theorem dX8_canLie_17 : decode cX8_canLie 17 = .ok (.invokevirtual 143, 3) := by decide +kernel
theorem dX8_canLie_20 : decode cX8_canLie 20 = .ok (.aload_n 0, 1) := by decide +kernel
theorem dX8_canLie_21 : decode cX8_canLie 21 = .ok (.iload_n 1, 1) := by decide +kernel
theorem dX8_canLie_22 : decode cX8_canLie 22 = .ok (.iconst 2, 1) := by decide +kernel
theorem dX8_canLie_23 : decode cX8_canLie 23 = .ok (.invokevirtual 192, 3) := by decide +kernel
theorem dX8_canLie_26 : decode cX8_canLie 26 = .ok (.if_icmp .lt 7, 3) := by decide +kernel
theorem dX8_canLie_29 : decode cX8_canLie 29 = .ok (.iconst 1, 1) := by decide +kernel
theorem dX8_canLie_30 : decode cX8_canLie 30 = .ok (.goto 4, 3) := by decide +kernel
theorem dX8_canLie_33 : decode cX8_canLie 33 = .ok (.iconst 0, 1) := by decide +kernel
theorem dX8_canLie_34 : decode cX8_canLie 34 = .ok (.ireturn, 1) := by decide +kernel
theorem dX8_lies_0 : decode cX8_lies 0 = .ok (.aload_n 0, 1) := by decide +kernel
theorem dX8_lies_1 : decode cX8_lies 1 = .ok (.iload_n 1, 1) := by decide +kernel
theorem dX8_lies_2 : decode cX8_lies 2 = .ok (.invokevirtual 189, 3) := by decide +kernel
theorem dX8_lies_5 : decode cX8_lies 5 = .ok (.ifCond .eq 17, 3) := by decide +kernel
theorem dX8_lies_8 : decode cX8_lies 8 = .ok (.iload_n 2, 1) := by decide +kernel
theorem dX8_lies_9 : decode cX8_lies 9 = .ok (.invokestatic 133, 3) := by decide +kernel
theorem dX8_lies_12 : decode cX8_lies 12 = .ok (.ifCond .eq 10, 3) := by decide +kernel
theorem dX8_lies_15 : decode cX8_lies 15 = .ok (.iload_n 3, 1) := by decide +kernel
theorem dX8_lies_16 : decode cX8_lies 16 = .ok (.invokestatic 137, 3) := by decide +kernel
theorem dX8_lies_19 : decode cX8_lies 19 = .ok (.ifCond .ne 10, 3) := by decide +kernel
theorem dX8_lies_22 : decode cX8_lies 22 = .ok (.aload_n 0, 1) := by decide +kernel
theorem dX8_lies_23 : decode cX8_lies 23 = .ok (.ldc 98, 2) := by decide +kernel
theorem dX8_lies_25 : decode cX8_lies 25 = .ok (.invokevirtual 125, 3) := by decide +kernel
theorem dX8_lies_28 : decode cX8_lies 28 = .ok (.ireturn, 1) := by decide +kernel
theorem dX8_lies_29 : decode cX8_lies 29 = .ok (.aload_n 0, 1) := by decide +kernel
theorem dX8_lies_30 : decode cX8_lies 30 = .ok (.iload_n 1, 1) := by decide +kernel
theorem dX8_lies_31 : decode cX8_lies 31 = .ok (.iload_n 2, 1) := by decide +kernel
theorem dX8_lies_32 : decode cX8_lies 32 = .ok (.iload_n 3, 1) := by decide +kernel
theorem dX8_lies_33 : decode cX8_lies 33 = .ok (.invokevirtual 195, 3) := by decide +kernel
theorem dX8_lies_36 : decode cX8_lies 36 = .ok (.ifCond .eq 7, 3) := by decide +kernel
theorem dX8_lies_39 : decode cX8_lies 39 = .ok (.iconst 1, 1) := by decide +kernel
theorem dX8_lies_40 : decode cX8_lies 40 = .ok (.goto 4, 3) := by decide +kernel
theorem dX8_lies_43 : decode cX8_lies 43 = .ok (.iconst 0, 1) := by decide +kernel
theorem dX8_lies_44 : decode cX8_lies 44 = .ok (.ireturn, 1) := by decide +kernel
