abbrev c_w_law : ByteArray := code
def y_w_law : MethodName := ⟨"ShortBridgeLaw", "law", "([I)Z"⟩
theorem d_w_law_0 : decode c_w_law 0 = .ok (.new 8, 3) := by decide +kernel
theorem d_w_law_3 : decode c_w_law 3 = .ok (.dup, 1) := by decide +kernel
theorem d_w_law_4 : decode c_w_law 4 = .ok (.invokespecial 44, 3) := by decide +kernel
theorem d_w_law_7 : decode c_w_law 7 = .ok (.astore_n 1, 1) := by decide +kernel
theorem d_w_law_8 : decode c_w_law 8 = .ok (.new 45, 3) := by decide +kernel
theorem d_w_law_11 : decode c_w_law 11 = .ok (.dup, 1) := by decide +kernel
theorem d_w_law_12 : decode c_w_law 12 = .ok (.invokespecial 47, 3) := by decide +kernel
theorem d_w_law_15 : decode c_w_law 15 = .ok (.astore_n 2, 1) := by decide +kernel
theorem d_w_law_16 : decode c_w_law 16 = .ok (.iconst 1, 1) := by decide +kernel
theorem d_w_law_17 : decode c_w_law 17 = .ok (.newarray .long, 2) := by decide +kernel
theorem d_w_law_19 : decode c_w_law 19 = .ok (.astore_n 3, 1) := by decide +kernel
theorem d_w_law_20 : decode c_w_law 20 = .ok (.iconst 0, 1) := by decide +kernel
theorem d_w_law_21 : decode c_w_law 21 = .ok (.istore 4, 2) := by decide +kernel
theorem d_w_law_23 : decode c_w_law 23 = .ok (.iload 4, 2) := by decide +kernel
theorem d_w_law_25 : decode c_w_law 25 = .ok (.aload_n 0, 1) := by decide +kernel
theorem d_w_law_26 : decode c_w_law 26 = .ok (.arraylength, 1) := by decide +kernel
theorem d_w_law_27 : decode c_w_law 27 = .ok (.iconst 5, 1) := by decide +kernel
theorem d_w_law_28 : decode c_w_law 28 = .ok (.isub, 1) := by decide +kernel
theorem d_w_law_29 : decode c_w_law 29 = .ok (.if_icmp .gt 753, 3) := by decide +kernel
theorem d_w_law_32 : decode c_w_law 32 = .ok (.aload_n 0, 1) := by decide +kernel
theorem d_w_law_33 : decode c_w_law 33 = .ok (.iload 4, 2) := by decide +kernel
theorem d_w_law_35 : decode c_w_law 35 = .ok (.iaload, 1) := by decide +kernel
theorem d_w_law_36 : decode c_w_law 36 = .ok (.bipush 31, 2) := by decide +kernel
theorem d_w_law_38 : decode c_w_law 38 = .ok (.iand, 1) := by decide +kernel
theorem d_w_law_39 : decode c_w_law 39 = .ok (.tableswitch 737 0 16 #[81, 162, 244, 258, 271, 284, 321, 357, 393, 406, 431, 456, 481, 525, 569, 613, 681], 81) := by decide +kernel
theorem d_w_law_120 : decode c_w_law 120 = .ok (.aload_n 1, 1) := by decide +kernel
theorem d_w_law_121 : decode c_w_law 121 = .ok (.aload_n 0, 1) := by decide +kernel
theorem d_w_law_122 : decode c_w_law 122 = .ok (.iload 4, 2) := by decide +kernel
theorem d_w_law_124 : decode c_w_law 124 = .ok (.iconst 1, 1) := by decide +kernel
theorem d_w_law_125 : decode c_w_law 125 = .ok (.iadd, 1) := by decide +kernel
theorem d_w_law_126 : decode c_w_law 126 = .ok (.iaload, 1) := by decide +kernel
theorem d_w_law_127 : decode c_w_law 127 = .ok (.i2l, 1) := by decide +kernel
theorem d_w_law_128 : decode c_w_law 128 = .ok (.bipush 32, 2) := by decide +kernel
theorem d_w_law_130 : decode c_w_law 130 = .ok (.lshl, 1) := by decide +kernel
theorem d_w_law_131 : decode c_w_law 131 = .ok (.aload_n 0, 1) := by decide +kernel
theorem d_w_law_132 : decode c_w_law 132 = .ok (.iload 4, 2) := by decide +kernel
theorem d_w_law_134 : decode c_w_law 134 = .ok (.iconst 2, 1) := by decide +kernel
theorem d_w_law_135 : decode c_w_law 135 = .ok (.iadd, 1) := by decide +kernel
theorem d_w_law_136 : decode c_w_law 136 = .ok (.iaload, 1) := by decide +kernel
theorem d_w_law_137 : decode c_w_law 137 = .ok (.i2l, 1) := by decide +kernel
theorem d_w_law_138 : decode c_w_law 138 = .ok (.ldc2_w 48, 3) := by decide +kernel
theorem d_w_law_141 : decode c_w_law 141 = .ok (.land, 1) := by decide +kernel
theorem d_w_law_142 : decode c_w_law 142 = .ok (.lor, 1) := by decide +kernel
theorem d_w_law_143 : decode c_w_law 143 = .ok (.aload_n 0, 1) := by decide +kernel
theorem d_w_law_144 : decode c_w_law 144 = .ok (.iload 4, 2) := by decide +kernel
theorem d_w_law_146 : decode c_w_law 146 = .ok (.iconst 3, 1) := by decide +kernel
theorem d_w_law_147 : decode c_w_law 147 = .ok (.iadd, 1) := by decide +kernel
theorem d_w_law_148 : decode c_w_law 148 = .ok (.iaload, 1) := by decide +kernel
theorem d_w_law_149 : decode c_w_law 149 = .ok (.aload_n 0, 1) := by decide +kernel
theorem d_w_law_150 : decode c_w_law 150 = .ok (.iload 4, 2) := by decide +kernel
theorem d_w_law_152 : decode c_w_law 152 = .ok (.iconst 4, 1) := by decide +kernel
theorem d_w_law_153 : decode c_w_law 153 = .ok (.iadd, 1) := by decide +kernel
theorem d_w_law_154 : decode c_w_law 154 = .ok (.iaload, 1) := by decide +kernel
theorem d_w_law_155 : decode c_w_law 155 = .ok (.invokevirtual 50, 3) := by decide +kernel
theorem d_w_law_158 : decode c_w_law 158 = .ok (.aload_n 2, 1) := by decide +kernel
theorem d_w_law_159 : decode c_w_law 159 = .ok (.aload_n 0, 1) := by decide +kernel
theorem d_w_law_160 : decode c_w_law 160 = .ok (.iload 4, 2) := by decide +kernel
theorem d_w_law_162 : decode c_w_law 162 = .ok (.iconst 1, 1) := by decide +kernel
theorem d_w_law_163 : decode c_w_law 163 = .ok (.iadd, 1) := by decide +kernel
theorem d_w_law_164 : decode c_w_law 164 = .ok (.iaload, 1) := by decide +kernel
theorem d_w_law_165 : decode c_w_law 165 = .ok (.i2l, 1) := by decide +kernel
theorem d_w_law_166 : decode c_w_law 166 = .ok (.bipush 32, 2) := by decide +kernel
theorem d_w_law_168 : decode c_w_law 168 = .ok (.lshl, 1) := by decide +kernel
theorem d_w_law_169 : decode c_w_law 169 = .ok (.aload_n 0, 1) := by decide +kernel
theorem d_w_law_170 : decode c_w_law 170 = .ok (.iload 4, 2) := by decide +kernel
theorem d_w_law_172 : decode c_w_law 172 = .ok (.iconst 2, 1) := by decide +kernel
theorem d_w_law_173 : decode c_w_law 173 = .ok (.iadd, 1) := by decide +kernel
theorem d_w_law_174 : decode c_w_law 174 = .ok (.iaload, 1) := by decide +kernel
theorem d_w_law_175 : decode c_w_law 175 = .ok (.i2l, 1) := by decide +kernel
theorem d_w_law_176 : decode c_w_law 176 = .ok (.ldc2_w 48, 3) := by decide +kernel
theorem d_w_law_179 : decode c_w_law 179 = .ok (.land, 1) := by decide +kernel
theorem d_w_law_180 : decode c_w_law 180 = .ok (.lor, 1) := by decide +kernel
theorem d_w_law_181 : decode c_w_law 181 = .ok (.aload_n 0, 1) := by decide +kernel
theorem d_w_law_182 : decode c_w_law 182 = .ok (.iload 4, 2) := by decide +kernel
theorem d_w_law_184 : decode c_w_law 184 = .ok (.iconst 3, 1) := by decide +kernel
theorem d_w_law_185 : decode c_w_law 185 = .ok (.iadd, 1) := by decide +kernel
theorem d_w_law_186 : decode c_w_law 186 = .ok (.iaload, 1) := by decide +kernel
theorem d_w_law_187 : decode c_w_law 187 = .ok (.aload_n 0, 1) := by decide +kernel
theorem d_w_law_188 : decode c_w_law 188 = .ok (.iload 4, 2) := by decide +kernel
theorem d_w_law_190 : decode c_w_law 190 = .ok (.iconst 4, 1) := by decide +kernel
theorem d_w_law_191 : decode c_w_law 191 = .ok (.iadd, 1) := by decide +kernel
theorem d_w_law_192 : decode c_w_law 192 = .ok (.iaload, 1) := by decide +kernel
theorem d_w_law_193 : decode c_w_law 193 = .ok (.invokevirtual 54, 3) := by decide +kernel
theorem d_w_law_196 : decode c_w_law 196 = .ok (.if_icmp .eq 580, 3) := by decide +kernel
theorem d_w_law_199 : decode c_w_law 199 = .ok (.iconst 0, 1) := by decide +kernel
theorem d_w_law_200 : decode c_w_law 200 = .ok (.ireturn, 1) := by decide +kernel
theorem d_w_law_201 : decode c_w_law 201 = .ok (.aload_n 1, 1) := by decide +kernel
theorem d_w_law_202 : decode c_w_law 202 = .ok (.aload_n 0, 1) := by decide +kernel
theorem d_w_law_203 : decode c_w_law 203 = .ok (.iload 4, 2) := by decide +kernel
theorem d_w_law_205 : decode c_w_law 205 = .ok (.iconst 1, 1) := by decide +kernel
theorem d_w_law_206 : decode c_w_law 206 = .ok (.iadd, 1) := by decide +kernel
theorem d_w_law_207 : decode c_w_law 207 = .ok (.iaload, 1) := by decide +kernel
theorem d_w_law_208 : decode c_w_law 208 = .ok (.i2l, 1) := by decide +kernel
theorem d_w_law_209 : decode c_w_law 209 = .ok (.bipush 32, 2) := by decide +kernel
theorem d_w_law_211 : decode c_w_law 211 = .ok (.lshl, 1) := by decide +kernel
theorem d_w_law_212 : decode c_w_law 212 = .ok (.aload_n 0, 1) := by decide +kernel
theorem d_w_law_213 : decode c_w_law 213 = .ok (.iload 4, 2) := by decide +kernel
theorem d_w_law_215 : decode c_w_law 215 = .ok (.iconst 2, 1) := by decide +kernel
theorem d_w_law_216 : decode c_w_law 216 = .ok (.iadd, 1) := by decide +kernel
theorem d_w_law_217 : decode c_w_law 217 = .ok (.iaload, 1) := by decide +kernel
theorem d_w_law_218 : decode c_w_law 218 = .ok (.i2l, 1) := by decide +kernel
theorem d_w_law_219 : decode c_w_law 219 = .ok (.ldc2_w 48, 3) := by decide +kernel
theorem d_w_law_222 : decode c_w_law 222 = .ok (.land, 1) := by decide +kernel
theorem d_w_law_223 : decode c_w_law 223 = .ok (.lor, 1) := by decide +kernel
theorem d_w_law_224 : decode c_w_law 224 = .ok (.aload_n 0, 1) := by decide +kernel
theorem d_w_law_225 : decode c_w_law 225 = .ok (.iload 4, 2) := by decide +kernel
theorem d_w_law_227 : decode c_w_law 227 = .ok (.iconst 3, 1) := by decide +kernel
theorem d_w_law_228 : decode c_w_law 228 = .ok (.iadd, 1) := by decide +kernel
theorem d_w_law_229 : decode c_w_law 229 = .ok (.iaload, 1) := by decide +kernel
theorem d_w_law_230 : decode c_w_law 230 = .ok (.aload_n 0, 1) := by decide +kernel
theorem d_w_law_231 : decode c_w_law 231 = .ok (.iload 4, 2) := by decide +kernel
theorem d_w_law_233 : decode c_w_law 233 = .ok (.iconst 4, 1) := by decide +kernel
theorem d_w_law_234 : decode c_w_law 234 = .ok (.iadd, 1) := by decide +kernel
theorem d_w_law_235 : decode c_w_law 235 = .ok (.iaload, 1) := by decide +kernel
theorem d_w_law_236 : decode c_w_law 236 = .ok (.invokevirtual 55, 3) := by decide +kernel
theorem d_w_law_239 : decode c_w_law 239 = .ok (.aload_n 2, 1) := by decide +kernel
theorem d_w_law_240 : decode c_w_law 240 = .ok (.aload_n 0, 1) := by decide +kernel
theorem d_w_law_241 : decode c_w_law 241 = .ok (.iload 4, 2) := by decide +kernel
theorem d_w_law_243 : decode c_w_law 243 = .ok (.iconst 1, 1) := by decide +kernel
theorem d_w_law_244 : decode c_w_law 244 = .ok (.iadd, 1) := by decide +kernel
theorem d_w_law_245 : decode c_w_law 245 = .ok (.iaload, 1) := by decide +kernel
theorem d_w_law_246 : decode c_w_law 246 = .ok (.i2l, 1) := by decide +kernel
theorem d_w_law_247 : decode c_w_law 247 = .ok (.bipush 32, 2) := by decide +kernel
theorem d_w_law_249 : decode c_w_law 249 = .ok (.lshl, 1) := by decide +kernel
theorem d_w_law_250 : decode c_w_law 250 = .ok (.aload_n 0, 1) := by decide +kernel
theorem d_w_law_251 : decode c_w_law 251 = .ok (.iload 4, 2) := by decide +kernel
theorem d_w_law_253 : decode c_w_law 253 = .ok (.iconst 2, 1) := by decide +kernel
theorem d_w_law_254 : decode c_w_law 254 = .ok (.iadd, 1) := by decide +kernel
theorem d_w_law_255 : decode c_w_law 255 = .ok (.iaload, 1) := by decide +kernel
theorem d_w_law_256 : decode c_w_law 256 = .ok (.i2l, 1) := by decide +kernel
theorem d_w_law_257 : decode c_w_law 257 = .ok (.ldc2_w 48, 3) := by decide +kernel
theorem d_w_law_260 : decode c_w_law 260 = .ok (.land, 1) := by decide +kernel
theorem d_w_law_261 : decode c_w_law 261 = .ok (.lor, 1) := by decide +kernel
theorem d_w_law_262 : decode c_w_law 262 = .ok (.aload_n 0, 1) := by decide +kernel
theorem d_w_law_263 : decode c_w_law 263 = .ok (.iload 4, 2) := by decide +kernel
theorem d_w_law_265 : decode c_w_law 265 = .ok (.iconst 3, 1) := by decide +kernel
theorem d_w_law_266 : decode c_w_law 266 = .ok (.iadd, 1) := by decide +kernel
theorem d_w_law_267 : decode c_w_law 267 = .ok (.iaload, 1) := by decide +kernel
theorem d_w_law_268 : decode c_w_law 268 = .ok (.aload_n 0, 1) := by decide +kernel
theorem d_w_law_269 : decode c_w_law 269 = .ok (.iload 4, 2) := by decide +kernel
theorem d_w_law_271 : decode c_w_law 271 = .ok (.iconst 4, 1) := by decide +kernel
theorem d_w_law_272 : decode c_w_law 272 = .ok (.iadd, 1) := by decide +kernel
theorem d_w_law_273 : decode c_w_law 273 = .ok (.iaload, 1) := by decide +kernel
theorem d_w_law_274 : decode c_w_law 274 = .ok (.invokevirtual 59, 3) := by decide +kernel
theorem d_w_law_277 : decode c_w_law 277 = .ok (.lcmp, 1) := by decide +kernel
theorem d_w_law_278 : decode c_w_law 278 = .ok (.ifCond .eq 498, 3) := by decide +kernel
theorem d_w_law_281 : decode c_w_law 281 = .ok (.iconst 0, 1) := by decide +kernel
theorem d_w_law_282 : decode c_w_law 282 = .ok (.ireturn, 1) := by decide +kernel
theorem d_w_law_283 : decode c_w_law 283 = .ok (.aload_n 1, 1) := by decide +kernel
theorem d_w_law_284 : decode c_w_law 284 = .ok (.invokevirtual 60, 3) := by decide +kernel
theorem d_w_law_287 : decode c_w_law 287 = .ok (.aload_n 2, 1) := by decide +kernel
theorem d_w_law_288 : decode c_w_law 288 = .ok (.invokevirtual 64, 3) := by decide +kernel
theorem d_w_law_291 : decode c_w_law 291 = .ok (.lcmp, 1) := by decide +kernel
theorem d_w_law_292 : decode c_w_law 292 = .ok (.ifCond .eq 484, 3) := by decide +kernel
theorem d_w_law_295 : decode c_w_law 295 = .ok (.iconst 0, 1) := by decide +kernel
theorem d_w_law_296 : decode c_w_law 296 = .ok (.ireturn, 1) := by decide +kernel
theorem d_w_law_297 : decode c_w_law 297 = .ok (.aload_n 1, 1) := by decide +kernel
theorem d_w_law_298 : decode c_w_law 298 = .ok (.invokevirtual 65, 3) := by decide +kernel
theorem d_w_law_301 : decode c_w_law 301 = .ok (.aload_n 2, 1) := by decide +kernel
theorem d_w_law_302 : decode c_w_law 302 = .ok (.invokevirtual 68, 3) := by decide +kernel
theorem d_w_law_305 : decode c_w_law 305 = .ok (.if_icmp .eq 471, 3) := by decide +kernel
theorem d_w_law_308 : decode c_w_law 308 = .ok (.iconst 0, 1) := by decide +kernel
theorem d_w_law_309 : decode c_w_law 309 = .ok (.ireturn, 1) := by decide +kernel
theorem d_w_law_310 : decode c_w_law 310 = .ok (.aload_n 1, 1) := by decide +kernel
theorem d_w_law_311 : decode c_w_law 311 = .ok (.invokevirtual 69, 3) := by decide +kernel
theorem d_w_law_314 : decode c_w_law 314 = .ok (.aload_n 2, 1) := by decide +kernel
theorem d_w_law_315 : decode c_w_law 315 = .ok (.invokevirtual 72, 3) := by decide +kernel
theorem d_w_law_318 : decode c_w_law 318 = .ok (.if_icmp .eq 458, 3) := by decide +kernel
theorem d_w_law_321 : decode c_w_law 321 = .ok (.iconst 0, 1) := by decide +kernel
theorem d_w_law_322 : decode c_w_law 322 = .ok (.ireturn, 1) := by decide +kernel
theorem d_w_law_323 : decode c_w_law 323 = .ok (.aload_n 1, 1) := by decide +kernel
theorem d_w_law_324 : decode c_w_law 324 = .ok (.aload_n 0, 1) := by decide +kernel
theorem d_w_law_325 : decode c_w_law 325 = .ok (.iload 4, 2) := by decide +kernel
theorem d_w_law_327 : decode c_w_law 327 = .ok (.iconst 1, 1) := by decide +kernel
theorem d_w_law_328 : decode c_w_law 328 = .ok (.iadd, 1) := by decide +kernel
theorem d_w_law_329 : decode c_w_law 329 = .ok (.iaload, 1) := by decide +kernel
theorem d_w_law_330 : decode c_w_law 330 = .ok (.aload_n 0, 1) := by decide +kernel
theorem d_w_law_331 : decode c_w_law 331 = .ok (.iload 4, 2) := by decide +kernel
theorem d_w_law_333 : decode c_w_law 333 = .ok (.iconst 2, 1) := by decide +kernel
theorem d_w_law_334 : decode c_w_law 334 = .ok (.iadd, 1) := by decide +kernel
theorem d_w_law_335 : decode c_w_law 335 = .ok (.iaload, 1) := by decide +kernel
theorem d_w_law_336 : decode c_w_law 336 = .ok (.invokevirtual 73, 3) := by decide +kernel
theorem d_w_law_339 : decode c_w_law 339 = .ok (.aload_n 2, 1) := by decide +kernel
theorem d_w_law_340 : decode c_w_law 340 = .ok (.aload_n 0, 1) := by decide +kernel
theorem d_w_law_341 : decode c_w_law 341 = .ok (.iload 4, 2) := by decide +kernel
theorem d_w_law_343 : decode c_w_law 343 = .ok (.iconst 1, 1) := by decide +kernel
theorem d_w_law_344 : decode c_w_law 344 = .ok (.iadd, 1) := by decide +kernel
theorem d_w_law_345 : decode c_w_law 345 = .ok (.iaload, 1) := by decide +kernel
theorem d_w_law_346 : decode c_w_law 346 = .ok (.aload_n 0, 1) := by decide +kernel
theorem d_w_law_347 : decode c_w_law 347 = .ok (.iload 4, 2) := by decide +kernel
theorem d_w_law_349 : decode c_w_law 349 = .ok (.iconst 2, 1) := by decide +kernel
theorem d_w_law_350 : decode c_w_law 350 = .ok (.iadd, 1) := by decide +kernel
theorem d_w_law_351 : decode c_w_law 351 = .ok (.iaload, 1) := by decide +kernel
theorem d_w_law_352 : decode c_w_law 352 = .ok (.invokevirtual 77, 3) := by decide +kernel
theorem d_w_law_355 : decode c_w_law 355 = .ok (.if_icmp .eq 421, 3) := by decide +kernel
theorem d_w_law_358 : decode c_w_law 358 = .ok (.iconst 0, 1) := by decide +kernel
theorem d_w_law_359 : decode c_w_law 359 = .ok (.ireturn, 1) := by decide +kernel
theorem d_w_law_360 : decode c_w_law 360 = .ok (.aload_n 1, 1) := by decide +kernel
theorem d_w_law_361 : decode c_w_law 361 = .ok (.aload_n 0, 1) := by decide +kernel
theorem d_w_law_362 : decode c_w_law 362 = .ok (.iload 4, 2) := by decide +kernel
theorem d_w_law_364 : decode c_w_law 364 = .ok (.iconst 1, 1) := by decide +kernel
theorem d_w_law_365 : decode c_w_law 365 = .ok (.iadd, 1) := by decide +kernel
theorem d_w_law_366 : decode c_w_law 366 = .ok (.iaload, 1) := by decide +kernel
theorem d_w_law_367 : decode c_w_law 367 = .ok (.invokestatic 78, 3) := by decide +kernel
theorem d_w_law_370 : decode c_w_law 370 = .ok (.istore 5, 2) := by decide +kernel
theorem d_w_law_372 : decode c_w_law 372 = .ok (.aload_n 2, 1) := by decide +kernel
theorem d_w_law_373 : decode c_w_law 373 = .ok (.aload_n 0, 1) := by decide +kernel
theorem d_w_law_374 : decode c_w_law 374 = .ok (.iload 4, 2) := by decide +kernel
theorem d_w_law_376 : decode c_w_law 376 = .ok (.iconst 1, 1) := by decide +kernel
theorem d_w_law_377 : decode c_w_law 377 = .ok (.iadd, 1) := by decide +kernel
theorem d_w_law_378 : decode c_w_law 378 = .ok (.iaload, 1) := by decide +kernel
theorem d_w_law_379 : decode c_w_law 379 = .ok (.invokevirtual 83, 3) := by decide +kernel
theorem d_w_law_382 : decode c_w_law 382 = .ok (.aload_n 2, 1) := by decide +kernel
theorem d_w_law_383 : decode c_w_law 383 = .ok (.invokevirtual 84, 3) := by decide +kernel
theorem d_w_law_386 : decode c_w_law 386 = .ok (.iload 5, 2) := by decide +kernel
theorem d_w_law_388 : decode c_w_law 388 = .ok (.if_icmp .eq 5, 3) := by decide +kernel
theorem d_w_law_391 : decode c_w_law 391 = .ok (.iconst 0, 1) := by decide +kernel
theorem d_w_law_392 : decode c_w_law 392 = .ok (.ireturn, 1) := by decide +kernel
theorem d_w_law_393 : decode c_w_law 393 = .ok (.goto 383, 3) := by decide +kernel
theorem d_w_law_396 : decode c_w_law 396 = .ok (.aload_n 1, 1) := by decide +kernel
theorem d_w_law_397 : decode c_w_law 397 = .ok (.aload_n 0, 1) := by decide +kernel
theorem d_w_law_398 : decode c_w_law 398 = .ok (.iload 4, 2) := by decide +kernel
theorem d_w_law_400 : decode c_w_law 400 = .ok (.iconst 1, 1) := by decide +kernel
theorem d_w_law_401 : decode c_w_law 401 = .ok (.iadd, 1) := by decide +kernel
theorem d_w_law_402 : decode c_w_law 402 = .ok (.iaload, 1) := by decide +kernel
theorem d_w_law_403 : decode c_w_law 403 = .ok (.invokestatic 87, 3) := by decide +kernel
theorem d_w_law_406 : decode c_w_law 406 = .ok (.istore 5, 2) := by decide +kernel
theorem d_w_law_408 : decode c_w_law 408 = .ok (.aload_n 2, 1) := by decide +kernel
theorem d_w_law_409 : decode c_w_law 409 = .ok (.aload_n 0, 1) := by decide +kernel
theorem d_w_law_410 : decode c_w_law 410 = .ok (.iload 4, 2) := by decide +kernel
theorem d_w_law_412 : decode c_w_law 412 = .ok (.iconst 1, 1) := by decide +kernel
theorem d_w_law_413 : decode c_w_law 413 = .ok (.iadd, 1) := by decide +kernel
theorem d_w_law_414 : decode c_w_law 414 = .ok (.iaload, 1) := by decide +kernel
theorem d_w_law_415 : decode c_w_law 415 = .ok (.invokevirtual 89, 3) := by decide +kernel
theorem d_w_law_418 : decode c_w_law 418 = .ok (.aload_n 2, 1) := by decide +kernel
theorem d_w_law_419 : decode c_w_law 419 = .ok (.invokevirtual 84, 3) := by decide +kernel
theorem d_w_law_422 : decode c_w_law 422 = .ok (.iload 5, 2) := by decide +kernel
theorem d_w_law_424 : decode c_w_law 424 = .ok (.if_icmp .eq 5, 3) := by decide +kernel
theorem d_w_law_427 : decode c_w_law 427 = .ok (.iconst 0, 1) := by decide +kernel
theorem d_w_law_428 : decode c_w_law 428 = .ok (.ireturn, 1) := by decide +kernel
theorem d_w_law_429 : decode c_w_law 429 = .ok (.goto 347, 3) := by decide +kernel
theorem d_w_law_432 : decode c_w_law 432 = .ok (.aload_n 1, 1) := by decide +kernel
theorem d_w_law_433 : decode c_w_law 433 = .ok (.invokevirtual 90, 3) := by decide +kernel
theorem d_w_law_436 : decode c_w_law 436 = .ok (.aload_n 2, 1) := by decide +kernel
theorem d_w_law_437 : decode c_w_law 437 = .ok (.invokevirtual 94, 3) := by decide +kernel
theorem d_w_law_440 : decode c_w_law 440 = .ok (.if_icmp .eq 336, 3) := by decide +kernel
theorem d_w_law_443 : decode c_w_law 443 = .ok (.iconst 0, 1) := by decide +kernel
theorem d_w_law_444 : decode c_w_law 444 = .ok (.ireturn, 1) := by decide +kernel
theorem d_w_law_445 : decode c_w_law 445 = .ok (.aload_n 1, 1) := by decide +kernel
theorem d_w_law_446 : decode c_w_law 446 = .ok (.aload_n 0, 1) := by decide +kernel
theorem d_w_law_447 : decode c_w_law 447 = .ok (.iload 4, 2) := by decide +kernel
theorem d_w_law_449 : decode c_w_law 449 = .ok (.iconst 1, 1) := by decide +kernel
theorem d_w_law_450 : decode c_w_law 450 = .ok (.iadd, 1) := by decide +kernel
theorem d_w_law_451 : decode c_w_law 451 = .ok (.iaload, 1) := by decide +kernel
theorem d_w_law_452 : decode c_w_law 452 = .ok (.invokevirtual 95, 3) := by decide +kernel
theorem d_w_law_455 : decode c_w_law 455 = .ok (.aload_n 2, 1) := by decide +kernel
theorem d_w_law_456 : decode c_w_law 456 = .ok (.aload_n 0, 1) := by decide +kernel
theorem d_w_law_457 : decode c_w_law 457 = .ok (.iload 4, 2) := by decide +kernel
theorem d_w_law_459 : decode c_w_law 459 = .ok (.iconst 1, 1) := by decide +kernel
theorem d_w_law_460 : decode c_w_law 460 = .ok (.iadd, 1) := by decide +kernel
theorem d_w_law_461 : decode c_w_law 461 = .ok (.iaload, 1) := by decide +kernel
theorem d_w_law_462 : decode c_w_law 462 = .ok (.invokevirtual 98, 3) := by decide +kernel
theorem d_w_law_465 : decode c_w_law 465 = .ok (.if_icmp .eq 311, 3) := by decide +kernel
theorem d_w_law_468 : decode c_w_law 468 = .ok (.iconst 0, 1) := by decide +kernel
theorem d_w_law_469 : decode c_w_law 469 = .ok (.ireturn, 1) := by decide +kernel
theorem d_w_law_470 : decode c_w_law 470 = .ok (.aload_n 1, 1) := by decide +kernel
theorem d_w_law_471 : decode c_w_law 471 = .ok (.aload_n 0, 1) := by decide +kernel
theorem d_w_law_472 : decode c_w_law 472 = .ok (.iload 4, 2) := by decide +kernel
theorem d_w_law_474 : decode c_w_law 474 = .ok (.iconst 1, 1) := by decide +kernel
theorem d_w_law_475 : decode c_w_law 475 = .ok (.iadd, 1) := by decide +kernel
theorem d_w_law_476 : decode c_w_law 476 = .ok (.iaload, 1) := by decide +kernel
theorem d_w_law_477 : decode c_w_law 477 = .ok (.invokevirtual 99, 3) := by decide +kernel
theorem d_w_law_480 : decode c_w_law 480 = .ok (.aload_n 2, 1) := by decide +kernel
theorem d_w_law_481 : decode c_w_law 481 = .ok (.aload_n 0, 1) := by decide +kernel
theorem d_w_law_482 : decode c_w_law 482 = .ok (.iload 4, 2) := by decide +kernel
theorem d_w_law_484 : decode c_w_law 484 = .ok (.iconst 1, 1) := by decide +kernel
theorem d_w_law_485 : decode c_w_law 485 = .ok (.iadd, 1) := by decide +kernel
theorem d_w_law_486 : decode c_w_law 486 = .ok (.iaload, 1) := by decide +kernel
theorem d_w_law_487 : decode c_w_law 487 = .ok (.invokevirtual 102, 3) := by decide +kernel
theorem d_w_law_490 : decode c_w_law 490 = .ok (.if_icmp .eq 286, 3) := by decide +kernel
theorem d_w_law_493 : decode c_w_law 493 = .ok (.iconst 0, 1) := by decide +kernel
theorem d_w_law_494 : decode c_w_law 494 = .ok (.ireturn, 1) := by decide +kernel
theorem d_w_law_495 : decode c_w_law 495 = .ok (.aload_n 1, 1) := by decide +kernel
theorem d_w_law_496 : decode c_w_law 496 = .ok (.aload_n 0, 1) := by decide +kernel
theorem d_w_law_497 : decode c_w_law 497 = .ok (.iload 4, 2) := by decide +kernel
theorem d_w_law_499 : decode c_w_law 499 = .ok (.iconst 1, 1) := by decide +kernel
theorem d_w_law_500 : decode c_w_law 500 = .ok (.iadd, 1) := by decide +kernel
theorem d_w_law_501 : decode c_w_law 501 = .ok (.iaload, 1) := by decide +kernel
theorem d_w_law_502 : decode c_w_law 502 = .ok (.invokevirtual 103, 3) := by decide +kernel
theorem d_w_law_505 : decode c_w_law 505 = .ok (.aload_n 2, 1) := by decide +kernel
theorem d_w_law_506 : decode c_w_law 506 = .ok (.aload_n 0, 1) := by decide +kernel
theorem d_w_law_507 : decode c_w_law 507 = .ok (.iload 4, 2) := by decide +kernel
theorem d_w_law_509 : decode c_w_law 509 = .ok (.iconst 1, 1) := by decide +kernel
theorem d_w_law_510 : decode c_w_law 510 = .ok (.iadd, 1) := by decide +kernel
theorem d_w_law_511 : decode c_w_law 511 = .ok (.iaload, 1) := by decide +kernel
theorem d_w_law_512 : decode c_w_law 512 = .ok (.invokevirtual 106, 3) := by decide +kernel
theorem d_w_law_515 : decode c_w_law 515 = .ok (.if_icmp .eq 261, 3) := by decide +kernel
theorem d_w_law_518 : decode c_w_law 518 = .ok (.iconst 0, 1) := by decide +kernel
theorem d_w_law_519 : decode c_w_law 519 = .ok (.ireturn, 1) := by decide +kernel
theorem d_w_law_520 : decode c_w_law 520 = .ok (.aload_n 1, 1) := by decide +kernel
theorem d_w_law_521 : decode c_w_law 521 = .ok (.aload_n 3, 1) := by decide +kernel
theorem d_w_law_522 : decode c_w_law 522 = .ok (.invokestatic 107, 3) := by decide +kernel
theorem d_w_law_525 : decode c_w_law 525 = .ok (.istore 5, 2) := by decide +kernel
theorem d_w_law_527 : decode c_w_law 527 = .ok (.aload_n 2, 1) := by decide +kernel
theorem d_w_law_528 : decode c_w_law 528 = .ok (.invokevirtual 110, 3) := by decide +kernel
theorem d_w_law_531 : decode c_w_law 531 = .ok (.istore 6, 2) := by decide +kernel
theorem d_w_law_533 : decode c_w_law 533 = .ok (.aload_n 2, 1) := by decide +kernel
theorem d_w_law_534 : decode c_w_law 534 = .ok (.invokevirtual 84, 3) := by decide +kernel
theorem d_w_law_537 : decode c_w_law 537 = .ok (.iload 5, 2) := by decide +kernel
theorem d_w_law_539 : decode c_w_law 539 = .ok (.if_icmp .eq 5, 3) := by decide +kernel
theorem d_w_law_542 : decode c_w_law 542 = .ok (.iconst 0, 1) := by decide +kernel
theorem d_w_law_543 : decode c_w_law 543 = .ok (.ireturn, 1) := by decide +kernel
theorem d_w_law_544 : decode c_w_law 544 = .ok (.iload 5, 2) := by decide +kernel
theorem d_w_law_546 : decode c_w_law 546 = .ok (.ifCond .ne 15, 3) := by decide +kernel
theorem d_w_law_549 : decode c_w_law 549 = .ok (.aload_n 3, 1) := by decide +kernel
theorem d_w_law_550 : decode c_w_law 550 = .ok (.iconst 0, 1) := by decide +kernel
theorem d_w_law_551 : decode c_w_law 551 = .ok (.laload, 1) := by decide +kernel
theorem d_w_law_552 : decode c_w_law 552 = .ok (.iload 6, 2) := by decide +kernel
theorem d_w_law_554 : decode c_w_law 554 = .ok (.i2l, 1) := by decide +kernel
theorem d_w_law_555 : decode c_w_law 555 = .ok (.lcmp, 1) := by decide +kernel
theorem d_w_law_556 : decode c_w_law 556 = .ok (.ifCond .eq 5, 3) := by decide +kernel
theorem d_w_law_559 : decode c_w_law 559 = .ok (.iconst 0, 1) := by decide +kernel
theorem d_w_law_560 : decode c_w_law 560 = .ok (.ireturn, 1) := by decide +kernel
theorem d_w_law_561 : decode c_w_law 561 = .ok (.goto 215, 3) := by decide +kernel
theorem d_w_law_564 : decode c_w_law 564 = .ok (.aload_n 1, 1) := by decide +kernel
theorem d_w_law_565 : decode c_w_law 565 = .ok (.aload_n 3, 1) := by decide +kernel
theorem d_w_law_566 : decode c_w_law 566 = .ok (.invokestatic 111, 3) := by decide +kernel
theorem d_w_law_569 : decode c_w_law 569 = .ok (.istore 5, 2) := by decide +kernel
theorem d_w_law_571 : decode c_w_law 571 = .ok (.aload_n 2, 1) := by decide +kernel
theorem d_w_law_572 : decode c_w_law 572 = .ok (.invokevirtual 113, 3) := by decide +kernel
theorem d_w_law_575 : decode c_w_law 575 = .ok (.istore 6, 2) := by decide +kernel
theorem d_w_law_577 : decode c_w_law 577 = .ok (.aload_n 2, 1) := by decide +kernel
theorem d_w_law_578 : decode c_w_law 578 = .ok (.invokevirtual 84, 3) := by decide +kernel
theorem d_w_law_581 : decode c_w_law 581 = .ok (.iload 5, 2) := by decide +kernel
theorem d_w_law_583 : decode c_w_law 583 = .ok (.if_icmp .eq 5, 3) := by decide +kernel
theorem d_w_law_586 : decode c_w_law 586 = .ok (.iconst 0, 1) := by decide +kernel
theorem d_w_law_587 : decode c_w_law 587 = .ok (.ireturn, 1) := by decide +kernel
theorem d_w_law_588 : decode c_w_law 588 = .ok (.iload 5, 2) := by decide +kernel
theorem d_w_law_590 : decode c_w_law 590 = .ok (.ifCond .ne 15, 3) := by decide +kernel
theorem d_w_law_593 : decode c_w_law 593 = .ok (.aload_n 3, 1) := by decide +kernel
theorem d_w_law_594 : decode c_w_law 594 = .ok (.iconst 0, 1) := by decide +kernel
theorem d_w_law_595 : decode c_w_law 595 = .ok (.laload, 1) := by decide +kernel
theorem d_w_law_596 : decode c_w_law 596 = .ok (.iload 6, 2) := by decide +kernel
theorem d_w_law_598 : decode c_w_law 598 = .ok (.i2l, 1) := by decide +kernel
theorem d_w_law_599 : decode c_w_law 599 = .ok (.lcmp, 1) := by decide +kernel
theorem d_w_law_600 : decode c_w_law 600 = .ok (.ifCond .eq 5, 3) := by decide +kernel
theorem d_w_law_603 : decode c_w_law 603 = .ok (.iconst 0, 1) := by decide +kernel
theorem d_w_law_604 : decode c_w_law 604 = .ok (.ireturn, 1) := by decide +kernel
theorem d_w_law_605 : decode c_w_law 605 = .ok (.goto 171, 3) := by decide +kernel
theorem d_w_law_608 : decode c_w_law 608 = .ok (.aload_n 1, 1) := by decide +kernel
theorem d_w_law_609 : decode c_w_law 609 = .ok (.aload_n 3, 1) := by decide +kernel
theorem d_w_law_610 : decode c_w_law 610 = .ok (.invokestatic 114, 3) := by decide +kernel
theorem d_w_law_613 : decode c_w_law 613 = .ok (.istore 5, 2) := by decide +kernel
theorem d_w_law_615 : decode c_w_law 615 = .ok (.aload_n 2, 1) := by decide +kernel
theorem d_w_law_616 : decode c_w_law 616 = .ok (.invokevirtual 116, 3) := by decide +kernel
theorem d_w_law_619 : decode c_w_law 619 = .ok (.istore 6, 2) := by decide +kernel
theorem d_w_law_621 : decode c_w_law 621 = .ok (.aload_n 2, 1) := by decide +kernel
theorem d_w_law_622 : decode c_w_law 622 = .ok (.invokevirtual 84, 3) := by decide +kernel
theorem d_w_law_625 : decode c_w_law 625 = .ok (.iload 5, 2) := by decide +kernel
theorem d_w_law_627 : decode c_w_law 627 = .ok (.if_icmp .eq 5, 3) := by decide +kernel
theorem d_w_law_630 : decode c_w_law 630 = .ok (.iconst 0, 1) := by decide +kernel
theorem d_w_law_631 : decode c_w_law 631 = .ok (.ireturn, 1) := by decide +kernel
theorem d_w_law_632 : decode c_w_law 632 = .ok (.iload 5, 2) := by decide +kernel
theorem d_w_law_634 : decode c_w_law 634 = .ok (.ifCond .ne 15, 3) := by decide +kernel
theorem d_w_law_637 : decode c_w_law 637 = .ok (.aload_n 3, 1) := by decide +kernel
theorem d_w_law_638 : decode c_w_law 638 = .ok (.iconst 0, 1) := by decide +kernel
theorem d_w_law_639 : decode c_w_law 639 = .ok (.laload, 1) := by decide +kernel
theorem d_w_law_640 : decode c_w_law 640 = .ok (.iload 6, 2) := by decide +kernel
theorem d_w_law_642 : decode c_w_law 642 = .ok (.i2l, 1) := by decide +kernel
theorem d_w_law_643 : decode c_w_law 643 = .ok (.lcmp, 1) := by decide +kernel
theorem d_w_law_644 : decode c_w_law 644 = .ok (.ifCond .eq 5, 3) := by decide +kernel
theorem d_w_law_647 : decode c_w_law 647 = .ok (.iconst 0, 1) := by decide +kernel
theorem d_w_law_648 : decode c_w_law 648 = .ok (.ireturn, 1) := by decide +kernel
theorem d_w_law_649 : decode c_w_law 649 = .ok (.goto 127, 3) := by decide +kernel
theorem d_w_law_652 : decode c_w_law 652 = .ok (.aload_n 1, 1) := by decide +kernel
theorem d_w_law_653 : decode c_w_law 653 = .ok (.aload_n 0, 1) := by decide +kernel
theorem d_w_law_654 : decode c_w_law 654 = .ok (.iload 4, 2) := by decide +kernel
theorem d_w_law_656 : decode c_w_law 656 = .ok (.iconst 1, 1) := by decide +kernel
theorem d_w_law_657 : decode c_w_law 657 = .ok (.iadd, 1) := by decide +kernel
theorem d_w_law_658 : decode c_w_law 658 = .ok (.iaload, 1) := by decide +kernel
theorem d_w_law_659 : decode c_w_law 659 = .ok (.aload_n 0, 1) := by decide +kernel
theorem d_w_law_660 : decode c_w_law 660 = .ok (.iload 4, 2) := by decide +kernel
theorem d_w_law_662 : decode c_w_law 662 = .ok (.iconst 2, 1) := by decide +kernel
theorem d_w_law_663 : decode c_w_law 663 = .ok (.iadd, 1) := by decide +kernel
theorem d_w_law_664 : decode c_w_law 664 = .ok (.iaload, 1) := by decide +kernel
theorem d_w_law_665 : decode c_w_law 665 = .ok (.aload_n 3, 1) := by decide +kernel
theorem d_w_law_666 : decode c_w_law 666 = .ok (.invokestatic 117, 3) := by decide +kernel
theorem d_w_law_669 : decode c_w_law 669 = .ok (.istore 5, 2) := by decide +kernel
theorem d_w_law_671 : decode c_w_law 671 = .ok (.aload_n 2, 1) := by decide +kernel
theorem d_w_law_672 : decode c_w_law 672 = .ok (.aload_n 0, 1) := by decide +kernel
theorem d_w_law_673 : decode c_w_law 673 = .ok (.iload 4, 2) := by decide +kernel
theorem d_w_law_675 : decode c_w_law 675 = .ok (.iconst 1, 1) := by decide +kernel
theorem d_w_law_676 : decode c_w_law 676 = .ok (.iadd, 1) := by decide +kernel
theorem d_w_law_677 : decode c_w_law 677 = .ok (.iaload, 1) := by decide +kernel
theorem d_w_law_678 : decode c_w_law 678 = .ok (.aload_n 0, 1) := by decide +kernel
theorem d_w_law_679 : decode c_w_law 679 = .ok (.iload 4, 2) := by decide +kernel
theorem d_w_law_681 : decode c_w_law 681 = .ok (.iconst 2, 1) := by decide +kernel
theorem d_w_law_682 : decode c_w_law 682 = .ok (.iadd, 1) := by decide +kernel
theorem d_w_law_683 : decode c_w_law 683 = .ok (.iaload, 1) := by decide +kernel
theorem d_w_law_684 : decode c_w_law 684 = .ok (.invokevirtual 120, 3) := by decide +kernel
theorem d_w_law_687 : decode c_w_law 687 = .ok (.istore 6, 2) := by decide +kernel
theorem d_w_law_689 : decode c_w_law 689 = .ok (.aload_n 2, 1) := by decide +kernel
theorem d_w_law_690 : decode c_w_law 690 = .ok (.invokevirtual 84, 3) := by decide +kernel
theorem d_w_law_693 : decode c_w_law 693 = .ok (.iload 5, 2) := by decide +kernel
theorem d_w_law_695 : decode c_w_law 695 = .ok (.if_icmp .eq 5, 3) := by decide +kernel
theorem d_w_law_698 : decode c_w_law 698 = .ok (.iconst 0, 1) := by decide +kernel
theorem d_w_law_699 : decode c_w_law 699 = .ok (.ireturn, 1) := by decide +kernel
theorem d_w_law_700 : decode c_w_law 700 = .ok (.iload 5, 2) := by decide +kernel
theorem d_w_law_702 : decode c_w_law 702 = .ok (.ifCond .ne 15, 3) := by decide +kernel
theorem d_w_law_705 : decode c_w_law 705 = .ok (.aload_n 3, 1) := by decide +kernel
theorem d_w_law_706 : decode c_w_law 706 = .ok (.iconst 0, 1) := by decide +kernel
theorem d_w_law_707 : decode c_w_law 707 = .ok (.laload, 1) := by decide +kernel
theorem d_w_law_708 : decode c_w_law 708 = .ok (.iload 6, 2) := by decide +kernel
theorem d_w_law_710 : decode c_w_law 710 = .ok (.i2l, 1) := by decide +kernel
theorem d_w_law_711 : decode c_w_law 711 = .ok (.lcmp, 1) := by decide +kernel
theorem d_w_law_712 : decode c_w_law 712 = .ok (.ifCond .eq 5, 3) := by decide +kernel
theorem d_w_law_715 : decode c_w_law 715 = .ok (.iconst 0, 1) := by decide +kernel
theorem d_w_law_716 : decode c_w_law 716 = .ok (.ireturn, 1) := by decide +kernel
theorem d_w_law_717 : decode c_w_law 717 = .ok (.goto 59, 3) := by decide +kernel
theorem d_w_law_720 : decode c_w_law 720 = .ok (.aload_n 1, 1) := by decide +kernel
theorem d_w_law_721 : decode c_w_law 721 = .ok (.aload_n 0, 1) := by decide +kernel
theorem d_w_law_722 : decode c_w_law 722 = .ok (.iload 4, 2) := by decide +kernel
theorem d_w_law_724 : decode c_w_law 724 = .ok (.iconst 1, 1) := by decide +kernel
theorem d_w_law_725 : decode c_w_law 725 = .ok (.iadd, 1) := by decide +kernel
theorem d_w_law_726 : decode c_w_law 726 = .ok (.iaload, 1) := by decide +kernel
theorem d_w_law_727 : decode c_w_law 727 = .ok (.aload_n 3, 1) := by decide +kernel
theorem d_w_law_728 : decode c_w_law 728 = .ok (.invokestatic 121, 3) := by decide +kernel
theorem d_w_law_731 : decode c_w_law 731 = .ok (.istore 5, 2) := by decide +kernel
theorem d_w_law_733 : decode c_w_law 733 = .ok (.aload_n 2, 1) := by decide +kernel
theorem d_w_law_734 : decode c_w_law 734 = .ok (.aload_n 0, 1) := by decide +kernel
theorem d_w_law_735 : decode c_w_law 735 = .ok (.iload 4, 2) := by decide +kernel
theorem d_w_law_737 : decode c_w_law 737 = .ok (.iconst 1, 1) := by decide +kernel
theorem d_w_law_738 : decode c_w_law 738 = .ok (.iadd, 1) := by decide +kernel
theorem d_w_law_739 : decode c_w_law 739 = .ok (.iaload, 1) := by decide +kernel
theorem d_w_law_740 : decode c_w_law 740 = .ok (.invokevirtual 124, 3) := by decide +kernel
theorem d_w_law_743 : decode c_w_law 743 = .ok (.istore 6, 2) := by decide +kernel
theorem d_w_law_745 : decode c_w_law 745 = .ok (.aload_n 2, 1) := by decide +kernel
theorem d_w_law_746 : decode c_w_law 746 = .ok (.invokevirtual 84, 3) := by decide +kernel
theorem d_w_law_749 : decode c_w_law 749 = .ok (.iload 5, 2) := by decide +kernel
theorem d_w_law_751 : decode c_w_law 751 = .ok (.if_icmp .eq 5, 3) := by decide +kernel
theorem d_w_law_754 : decode c_w_law 754 = .ok (.iconst 0, 1) := by decide +kernel
theorem d_w_law_755 : decode c_w_law 755 = .ok (.ireturn, 1) := by decide +kernel
theorem d_w_law_756 : decode c_w_law 756 = .ok (.iload 5, 2) := by decide +kernel
theorem d_w_law_758 : decode c_w_law 758 = .ok (.ifCond .ne 15, 3) := by decide +kernel
theorem d_w_law_761 : decode c_w_law 761 = .ok (.aload_n 3, 1) := by decide +kernel
theorem d_w_law_762 : decode c_w_law 762 = .ok (.iconst 0, 1) := by decide +kernel
theorem d_w_law_763 : decode c_w_law 763 = .ok (.laload, 1) := by decide +kernel
theorem d_w_law_764 : decode c_w_law 764 = .ok (.iload 6, 2) := by decide +kernel
theorem d_w_law_766 : decode c_w_law 766 = .ok (.i2l, 1) := by decide +kernel
theorem d_w_law_767 : decode c_w_law 767 = .ok (.lcmp, 1) := by decide +kernel
theorem d_w_law_768 : decode c_w_law 768 = .ok (.ifCond .eq 5, 3) := by decide +kernel
theorem d_w_law_771 : decode c_w_law 771 = .ok (.iconst 0, 1) := by decide +kernel
theorem d_w_law_772 : decode c_w_law 772 = .ok (.ireturn, 1) := by decide +kernel
theorem d_w_law_773 : decode c_w_law 773 = .ok (.goto 3, 3) := by decide +kernel
theorem d_w_law_776 : decode c_w_law 776 = .ok (.iinc 4 5, 3) := by decide +kernel
theorem d_w_law_779 : decode c_w_law 779 = .ok (.goto (-756), 3) := by decide +kernel
theorem d_w_law_782 : decode c_w_law 782 = .ok (.iconst 1, 1) := by decide +kernel
theorem d_w_law_783 : decode c_w_law 783 = .ok (.ireturn, 1) := by decide +kernel
