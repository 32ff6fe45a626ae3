abbrev c_Law_law : ByteArray := code
theorem d_Law_law_0 : decode c_Law_law 0 = .ok (.new 7, 3) := by decide +kernel
theorem d_Law_law_3 : decode c_Law_law 3 = .ok (.dup, 1) := by decide +kernel
theorem d_Law_law_4 : decode c_Law_law 4 = .ok (.invokespecial 9, 3) := by decide +kernel
theorem d_Law_law_7 : decode c_Law_law 7 = .ok (.astore_n 1, 1) := by decide +kernel
theorem d_Law_law_8 : decode c_Law_law 8 = .ok (.new 10, 3) := by decide +kernel
theorem d_Law_law_11 : decode c_Law_law 11 = .ok (.dup, 1) := by decide +kernel
theorem d_Law_law_12 : decode c_Law_law 12 = .ok (.invokespecial 12, 3) := by decide +kernel
theorem d_Law_law_15 : decode c_Law_law 15 = .ok (.astore_n 2, 1) := by decide +kernel
theorem d_Law_law_16 : decode c_Law_law 16 = .ok (.iconst 0, 1) := by decide +kernel
theorem d_Law_law_17 : decode c_Law_law 17 = .ok (.istore_n 3, 1) := by decide +kernel
theorem d_Law_law_18 : decode c_Law_law 18 = .ok (.iload_n 3, 1) := by decide +kernel
theorem d_Law_law_19 : decode c_Law_law 19 = .ok (.aload_n 0, 1) := by decide +kernel
theorem d_Law_law_20 : decode c_Law_law 20 = .ok (.arraylength, 1) := by decide +kernel
theorem d_Law_law_21 : decode c_Law_law 21 = .ok (.bipush 6, 2) := by decide +kernel
theorem d_Law_law_23 : decode c_Law_law 23 = .ok (.isub, 1) := by decide +kernel
theorem d_Law_law_24 : decode c_Law_law 24 = .ok (.if_icmp .gt 610, 3) := by decide +kernel
theorem d_Law_law_27 : decode c_Law_law 27 = .ok (.aload_n 0, 1) := by decide +kernel
theorem d_Law_law_28 : decode c_Law_law 28 = .ok (.iload_n 3, 1) := by decide +kernel
theorem d_Law_law_29 : decode c_Law_law 29 = .ok (.iaload, 1) := by decide +kernel
theorem d_Law_law_30 : decode c_Law_law 30 = .ok (.bipush 15, 2) := by decide +kernel
theorem d_Law_law_32 : decode c_Law_law 32 = .ok (.iand, 1) := by decide +kernel
theorem d_Law_law_33 : decode c_Law_law 33 = .ok (.tableswitch 595 0 15 #[79, 104, 143, 206, 259, 292, 355, 388, 421, 464, 477, 490, 513, 546, 559, 572], 79) := by decide +kernel
theorem d_Law_law_112 : decode c_Law_law 112 = .ok (.aload_n 1, 1) := by decide +kernel
theorem d_Law_law_113 : decode c_Law_law 113 = .ok (.aload_n 0, 1) := by decide +kernel
theorem d_Law_law_114 : decode c_Law_law 114 = .ok (.iload_n 3, 1) := by decide +kernel
theorem d_Law_law_115 : decode c_Law_law 115 = .ok (.iconst 1, 1) := by decide +kernel
theorem d_Law_law_116 : decode c_Law_law 116 = .ok (.iadd, 1) := by decide +kernel
theorem d_Law_law_117 : decode c_Law_law 117 = .ok (.iaload, 1) := by decide +kernel
theorem d_Law_law_118 : decode c_Law_law 118 = .ok (.i2c, 1) := by decide +kernel
theorem d_Law_law_119 : decode c_Law_law 119 = .ok (.invokevirtual 13, 3) := by decide +kernel
theorem d_Law_law_122 : decode c_Law_law 122 = .ok (.aload_n 2, 1) := by decide +kernel
theorem d_Law_law_123 : decode c_Law_law 123 = .ok (.aload_n 0, 1) := by decide +kernel
theorem d_Law_law_124 : decode c_Law_law 124 = .ok (.iload_n 3, 1) := by decide +kernel
theorem d_Law_law_125 : decode c_Law_law 125 = .ok (.iconst 1, 1) := by decide +kernel
theorem d_Law_law_126 : decode c_Law_law 126 = .ok (.iadd, 1) := by decide +kernel
theorem d_Law_law_127 : decode c_Law_law 127 = .ok (.iaload, 1) := by decide +kernel
theorem d_Law_law_128 : decode c_Law_law 128 = .ok (.i2c, 1) := by decide +kernel
theorem d_Law_law_129 : decode c_Law_law 129 = .ok (.invokevirtual 17, 3) := by decide +kernel
theorem d_Law_law_132 : decode c_Law_law 132 = .ok (.if_icmp .eq 496, 3) := by decide +kernel
theorem d_Law_law_135 : decode c_Law_law 135 = .ok (.iconst 0, 1) := by decide +kernel
theorem d_Law_law_136 : decode c_Law_law 136 = .ok (.ireturn, 1) := by decide +kernel
theorem d_Law_law_137 : decode c_Law_law 137 = .ok (.aload_n 1, 1) := by decide +kernel
theorem d_Law_law_138 : decode c_Law_law 138 = .ok (.aload_n 0, 1) := by decide +kernel
theorem d_Law_law_139 : decode c_Law_law 139 = .ok (.iload_n 3, 1) := by decide +kernel
theorem d_Law_law_140 : decode c_Law_law 140 = .ok (.iconst 1, 1) := by decide +kernel
theorem d_Law_law_141 : decode c_Law_law 141 = .ok (.iadd, 1) := by decide +kernel
theorem d_Law_law_142 : decode c_Law_law 142 = .ok (.iaload, 1) := by decide +kernel
theorem d_Law_law_143 : decode c_Law_law 143 = .ok (.ifCond .eq 7, 3) := by decide +kernel
theorem d_Law_law_146 : decode c_Law_law 146 = .ok (.iconst 1, 1) := by decide +kernel
theorem d_Law_law_147 : decode c_Law_law 147 = .ok (.goto 4, 3) := by decide +kernel
theorem d_Law_law_150 : decode c_Law_law 150 = .ok (.iconst 0, 1) := by decide +kernel
theorem d_Law_law_151 : decode c_Law_law 151 = .ok (.invokevirtual 18, 3) := by decide +kernel
theorem d_Law_law_154 : decode c_Law_law 154 = .ok (.aload_n 2, 1) := by decide +kernel
theorem d_Law_law_155 : decode c_Law_law 155 = .ok (.aload_n 0, 1) := by decide +kernel
theorem d_Law_law_156 : decode c_Law_law 156 = .ok (.iload_n 3, 1) := by decide +kernel
theorem d_Law_law_157 : decode c_Law_law 157 = .ok (.iconst 1, 1) := by decide +kernel
theorem d_Law_law_158 : decode c_Law_law 158 = .ok (.iadd, 1) := by decide +kernel
theorem d_Law_law_159 : decode c_Law_law 159 = .ok (.iaload, 1) := by decide +kernel
theorem d_Law_law_160 : decode c_Law_law 160 = .ok (.ifCond .eq 7, 3) := by decide +kernel
theorem d_Law_law_163 : decode c_Law_law 163 = .ok (.iconst 1, 1) := by decide +kernel
theorem d_Law_law_164 : decode c_Law_law 164 = .ok (.goto 4, 3) := by decide +kernel
theorem d_Law_law_167 : decode c_Law_law 167 = .ok (.iconst 0, 1) := by decide +kernel
theorem d_Law_law_168 : decode c_Law_law 168 = .ok (.invokevirtual 22, 3) := by decide +kernel
theorem d_Law_law_171 : decode c_Law_law 171 = .ok (.if_icmp .eq 457, 3) := by decide +kernel
theorem d_Law_law_174 : decode c_Law_law 174 = .ok (.iconst 0, 1) := by decide +kernel
theorem d_Law_law_175 : decode c_Law_law 175 = .ok (.ireturn, 1) := by decide +kernel
theorem d_Law_law_176 : decode c_Law_law 176 = .ok (.aload_n 1, 1) := by decide +kernel
theorem d_Law_law_177 : decode c_Law_law 177 = .ok (.aload_n 0, 1) := by decide +kernel
theorem d_Law_law_178 : decode c_Law_law 178 = .ok (.iload_n 3, 1) := by decide +kernel
theorem d_Law_law_179 : decode c_Law_law 179 = .ok (.iconst 1, 1) := by decide +kernel
theorem d_Law_law_180 : decode c_Law_law 180 = .ok (.iadd, 1) := by decide +kernel
theorem d_Law_law_181 : decode c_Law_law 181 = .ok (.iaload, 1) := by decide +kernel
theorem d_Law_law_182 : decode c_Law_law 182 = .ok (.aload_n 0, 1) := by decide +kernel
theorem d_Law_law_183 : decode c_Law_law 183 = .ok (.iload_n 3, 1) := by decide +kernel
theorem d_Law_law_184 : decode c_Law_law 184 = .ok (.iconst 2, 1) := by decide +kernel
theorem d_Law_law_185 : decode c_Law_law 185 = .ok (.iadd, 1) := by decide +kernel
theorem d_Law_law_186 : decode c_Law_law 186 = .ok (.iaload, 1) := by decide +kernel
theorem d_Law_law_187 : decode c_Law_law 187 = .ok (.aload_n 0, 1) := by decide +kernel
theorem d_Law_law_188 : decode c_Law_law 188 = .ok (.iload_n 3, 1) := by decide +kernel
theorem d_Law_law_189 : decode c_Law_law 189 = .ok (.iconst 3, 1) := by decide +kernel
theorem d_Law_law_190 : decode c_Law_law 190 = .ok (.iadd, 1) := by decide +kernel
theorem d_Law_law_191 : decode c_Law_law 191 = .ok (.iaload, 1) := by decide +kernel
theorem d_Law_law_192 : decode c_Law_law 192 = .ok (.aload_n 0, 1) := by decide +kernel
theorem d_Law_law_193 : decode c_Law_law 193 = .ok (.iload_n 3, 1) := by decide +kernel
theorem d_Law_law_194 : decode c_Law_law 194 = .ok (.iconst 4, 1) := by decide +kernel
theorem d_Law_law_195 : decode c_Law_law 195 = .ok (.iadd, 1) := by decide +kernel
theorem d_Law_law_196 : decode c_Law_law 196 = .ok (.iaload, 1) := by decide +kernel
theorem d_Law_law_197 : decode c_Law_law 197 = .ok (.aload_n 0, 1) := by decide +kernel
theorem d_Law_law_198 : decode c_Law_law 198 = .ok (.iload_n 3, 1) := by decide +kernel
theorem d_Law_law_199 : decode c_Law_law 199 = .ok (.iconst 5, 1) := by decide +kernel
theorem d_Law_law_200 : decode c_Law_law 200 = .ok (.iadd, 1) := by decide +kernel
theorem d_Law_law_201 : decode c_Law_law 201 = .ok (.iaload, 1) := by decide +kernel
theorem d_Law_law_202 : decode c_Law_law 202 = .ok (.invokevirtual 23, 3) := by decide +kernel
theorem d_Law_law_205 : decode c_Law_law 205 = .ok (.aload_n 2, 1) := by decide +kernel
theorem d_Law_law_206 : decode c_Law_law 206 = .ok (.aload_n 0, 1) := by decide +kernel
theorem d_Law_law_207 : decode c_Law_law 207 = .ok (.iload_n 3, 1) := by decide +kernel
theorem d_Law_law_208 : decode c_Law_law 208 = .ok (.iconst 1, 1) := by decide +kernel
theorem d_Law_law_209 : decode c_Law_law 209 = .ok (.iadd, 1) := by decide +kernel
theorem d_Law_law_210 : decode c_Law_law 210 = .ok (.iaload, 1) := by decide +kernel
theorem d_Law_law_211 : decode c_Law_law 211 = .ok (.aload_n 0, 1) := by decide +kernel
theorem d_Law_law_212 : decode c_Law_law 212 = .ok (.iload_n 3, 1) := by decide +kernel
theorem d_Law_law_213 : decode c_Law_law 213 = .ok (.iconst 2, 1) := by decide +kernel
theorem d_Law_law_214 : decode c_Law_law 214 = .ok (.iadd, 1) := by decide +kernel
theorem d_Law_law_215 : decode c_Law_law 215 = .ok (.iaload, 1) := by decide +kernel
theorem d_Law_law_216 : decode c_Law_law 216 = .ok (.aload_n 0, 1) := by decide +kernel
theorem d_Law_law_217 : decode c_Law_law 217 = .ok (.iload_n 3, 1) := by decide +kernel
theorem d_Law_law_218 : decode c_Law_law 218 = .ok (.iconst 3, 1) := by decide +kernel
theorem d_Law_law_219 : decode c_Law_law 219 = .ok (.iadd, 1) := by decide +kernel
theorem d_Law_law_220 : decode c_Law_law 220 = .ok (.iaload, 1) := by decide +kernel
theorem d_Law_law_221 : decode c_Law_law 221 = .ok (.aload_n 0, 1) := by decide +kernel
theorem d_Law_law_222 : decode c_Law_law 222 = .ok (.iload_n 3, 1) := by decide +kernel
theorem d_Law_law_223 : decode c_Law_law 223 = .ok (.iconst 4, 1) := by decide +kernel
theorem d_Law_law_224 : decode c_Law_law 224 = .ok (.iadd, 1) := by decide +kernel
theorem d_Law_law_225 : decode c_Law_law 225 = .ok (.iaload, 1) := by decide +kernel
theorem d_Law_law_226 : decode c_Law_law 226 = .ok (.aload_n 0, 1) := by decide +kernel
theorem d_Law_law_227 : decode c_Law_law 227 = .ok (.iload_n 3, 1) := by decide +kernel
theorem d_Law_law_228 : decode c_Law_law 228 = .ok (.iconst 5, 1) := by decide +kernel
theorem d_Law_law_229 : decode c_Law_law 229 = .ok (.iadd, 1) := by decide +kernel
theorem d_Law_law_230 : decode c_Law_law 230 = .ok (.iaload, 1) := by decide +kernel
theorem d_Law_law_231 : decode c_Law_law 231 = .ok (.invokevirtual 27, 3) := by decide +kernel
theorem d_Law_law_234 : decode c_Law_law 234 = .ok (.if_icmp .eq 394, 3) := by decide +kernel
theorem d_Law_law_237 : decode c_Law_law 237 = .ok (.iconst 0, 1) := by decide +kernel
theorem d_Law_law_238 : decode c_Law_law 238 = .ok (.ireturn, 1) := by decide +kernel
theorem d_Law_law_239 : decode c_Law_law 239 = .ok (.aload_n 1, 1) := by decide +kernel
theorem d_Law_law_240 : decode c_Law_law 240 = .ok (.aload_n 0, 1) := by decide +kernel
theorem d_Law_law_241 : decode c_Law_law 241 = .ok (.iload_n 3, 1) := by decide +kernel
theorem d_Law_law_242 : decode c_Law_law 242 = .ok (.iconst 1, 1) := by decide +kernel
theorem d_Law_law_243 : decode c_Law_law 243 = .ok (.iadd, 1) := by decide +kernel
theorem d_Law_law_244 : decode c_Law_law 244 = .ok (.iaload, 1) := by decide +kernel
theorem d_Law_law_245 : decode c_Law_law 245 = .ok (.aload_n 0, 1) := by decide +kernel
theorem d_Law_law_246 : decode c_Law_law 246 = .ok (.iload_n 3, 1) := by decide +kernel
theorem d_Law_law_247 : decode c_Law_law 247 = .ok (.iconst 2, 1) := by decide +kernel
theorem d_Law_law_248 : decode c_Law_law 248 = .ok (.iadd, 1) := by decide +kernel
theorem d_Law_law_249 : decode c_Law_law 249 = .ok (.iaload, 1) := by decide +kernel
theorem d_Law_law_250 : decode c_Law_law 250 = .ok (.aload_n 0, 1) := by decide +kernel
theorem d_Law_law_251 : decode c_Law_law 251 = .ok (.iload_n 3, 1) := by decide +kernel
theorem d_Law_law_252 : decode c_Law_law 252 = .ok (.iconst 3, 1) := by decide +kernel
theorem d_Law_law_253 : decode c_Law_law 253 = .ok (.iadd, 1) := by decide +kernel
theorem d_Law_law_254 : decode c_Law_law 254 = .ok (.iaload, 1) := by decide +kernel
theorem d_Law_law_255 : decode c_Law_law 255 = .ok (.aload_n 0, 1) := by decide +kernel
theorem d_Law_law_256 : decode c_Law_law 256 = .ok (.iload_n 3, 1) := by decide +kernel
theorem d_Law_law_257 : decode c_Law_law 257 = .ok (.iconst 4, 1) := by decide +kernel
theorem d_Law_law_258 : decode c_Law_law 258 = .ok (.iadd, 1) := by decide +kernel
theorem d_Law_law_259 : decode c_Law_law 259 = .ok (.iaload, 1) := by decide +kernel
theorem d_Law_law_260 : decode c_Law_law 260 = .ok (.invokevirtual 28, 3) := by decide +kernel
theorem d_Law_law_263 : decode c_Law_law 263 = .ok (.aload_n 2, 1) := by decide +kernel
theorem d_Law_law_264 : decode c_Law_law 264 = .ok (.aload_n 0, 1) := by decide +kernel
theorem d_Law_law_265 : decode c_Law_law 265 = .ok (.iload_n 3, 1) := by decide +kernel
theorem d_Law_law_266 : decode c_Law_law 266 = .ok (.iconst 1, 1) := by decide +kernel
theorem d_Law_law_267 : decode c_Law_law 267 = .ok (.iadd, 1) := by decide +kernel
theorem d_Law_law_268 : decode c_Law_law 268 = .ok (.iaload, 1) := by decide +kernel
theorem d_Law_law_269 : decode c_Law_law 269 = .ok (.aload_n 0, 1) := by decide +kernel
theorem d_Law_law_270 : decode c_Law_law 270 = .ok (.iload_n 3, 1) := by decide +kernel
theorem d_Law_law_271 : decode c_Law_law 271 = .ok (.iconst 2, 1) := by decide +kernel
theorem d_Law_law_272 : decode c_Law_law 272 = .ok (.iadd, 1) := by decide +kernel
theorem d_Law_law_273 : decode c_Law_law 273 = .ok (.iaload, 1) := by decide +kernel
theorem d_Law_law_274 : decode c_Law_law 274 = .ok (.aload_n 0, 1) := by decide +kernel
theorem d_Law_law_275 : decode c_Law_law 275 = .ok (.iload_n 3, 1) := by decide +kernel
theorem d_Law_law_276 : decode c_Law_law 276 = .ok (.iconst 3, 1) := by decide +kernel
theorem d_Law_law_277 : decode c_Law_law 277 = .ok (.iadd, 1) := by decide +kernel
theorem d_Law_law_278 : decode c_Law_law 278 = .ok (.iaload, 1) := by decide +kernel
theorem d_Law_law_279 : decode c_Law_law 279 = .ok (.aload_n 0, 1) := by decide +kernel
theorem d_Law_law_280 : decode c_Law_law 280 = .ok (.iload_n 3, 1) := by decide +kernel
theorem d_Law_law_281 : decode c_Law_law 281 = .ok (.iconst 4, 1) := by decide +kernel
theorem d_Law_law_282 : decode c_Law_law 282 = .ok (.iadd, 1) := by decide +kernel
theorem d_Law_law_283 : decode c_Law_law 283 = .ok (.iaload, 1) := by decide +kernel
theorem d_Law_law_284 : decode c_Law_law 284 = .ok (.invokevirtual 32, 3) := by decide +kernel
theorem d_Law_law_287 : decode c_Law_law 287 = .ok (.if_icmp .eq 341, 3) := by decide +kernel
theorem d_Law_law_290 : decode c_Law_law 290 = .ok (.iconst 0, 1) := by decide +kernel
theorem d_Law_law_291 : decode c_Law_law 291 = .ok (.ireturn, 1) := by decide +kernel
theorem d_Law_law_292 : decode c_Law_law 292 = .ok (.aload_n 1, 1) := by decide +kernel
theorem d_Law_law_293 : decode c_Law_law 293 = .ok (.aload_n 0, 1) := by decide +kernel
theorem d_Law_law_294 : decode c_Law_law 294 = .ok (.iload_n 3, 1) := by decide +kernel
theorem d_Law_law_295 : decode c_Law_law 295 = .ok (.iconst 1, 1) := by decide +kernel
theorem d_Law_law_296 : decode c_Law_law 296 = .ok (.iadd, 1) := by decide +kernel
theorem d_Law_law_297 : decode c_Law_law 297 = .ok (.iaload, 1) := by decide +kernel
theorem d_Law_law_298 : decode c_Law_law 298 = .ok (.aload_n 0, 1) := by decide +kernel
theorem d_Law_law_299 : decode c_Law_law 299 = .ok (.iload_n 3, 1) := by decide +kernel
theorem d_Law_law_300 : decode c_Law_law 300 = .ok (.iconst 2, 1) := by decide +kernel
theorem d_Law_law_301 : decode c_Law_law 301 = .ok (.iadd, 1) := by decide +kernel
theorem d_Law_law_302 : decode c_Law_law 302 = .ok (.iaload, 1) := by decide +kernel
theorem d_Law_law_303 : decode c_Law_law 303 = .ok (.invokevirtual 33, 3) := by decide +kernel
theorem d_Law_law_306 : decode c_Law_law 306 = .ok (.aload_n 2, 1) := by decide +kernel
theorem d_Law_law_307 : decode c_Law_law 307 = .ok (.aload_n 0, 1) := by decide +kernel
theorem d_Law_law_308 : decode c_Law_law 308 = .ok (.iload_n 3, 1) := by decide +kernel
theorem d_Law_law_309 : decode c_Law_law 309 = .ok (.iconst 1, 1) := by decide +kernel
theorem d_Law_law_310 : decode c_Law_law 310 = .ok (.iadd, 1) := by decide +kernel
theorem d_Law_law_311 : decode c_Law_law 311 = .ok (.iaload, 1) := by decide +kernel
theorem d_Law_law_312 : decode c_Law_law 312 = .ok (.aload_n 0, 1) := by decide +kernel
theorem d_Law_law_313 : decode c_Law_law 313 = .ok (.iload_n 3, 1) := by decide +kernel
theorem d_Law_law_314 : decode c_Law_law 314 = .ok (.iconst 2, 1) := by decide +kernel
theorem d_Law_law_315 : decode c_Law_law 315 = .ok (.iadd, 1) := by decide +kernel
theorem d_Law_law_316 : decode c_Law_law 316 = .ok (.iaload, 1) := by decide +kernel
theorem d_Law_law_317 : decode c_Law_law 317 = .ok (.invokevirtual 37, 3) := by decide +kernel
theorem d_Law_law_320 : decode c_Law_law 320 = .ok (.if_icmp .eq 308, 3) := by decide +kernel
theorem d_Law_law_323 : decode c_Law_law 323 = .ok (.iconst 0, 1) := by decide +kernel
theorem d_Law_law_324 : decode c_Law_law 324 = .ok (.ireturn, 1) := by decide +kernel
theorem d_Law_law_325 : decode c_Law_law 325 = .ok (.aload_n 1, 1) := by decide +kernel
theorem d_Law_law_326 : decode c_Law_law 326 = .ok (.aload_n 0, 1) := by decide +kernel
theorem d_Law_law_327 : decode c_Law_law 327 = .ok (.iload_n 3, 1) := by decide +kernel
theorem d_Law_law_328 : decode c_Law_law 328 = .ok (.iconst 1, 1) := by decide +kernel
theorem d_Law_law_329 : decode c_Law_law 329 = .ok (.iadd, 1) := by decide +kernel
theorem d_Law_law_330 : decode c_Law_law 330 = .ok (.iaload, 1) := by decide +kernel
theorem d_Law_law_331 : decode c_Law_law 331 = .ok (.aload_n 0, 1) := by decide +kernel
theorem d_Law_law_332 : decode c_Law_law 332 = .ok (.iload_n 3, 1) := by decide +kernel
theorem d_Law_law_333 : decode c_Law_law 333 = .ok (.iconst 2, 1) := by decide +kernel
theorem d_Law_law_334 : decode c_Law_law 334 = .ok (.iadd, 1) := by decide +kernel
theorem d_Law_law_335 : decode c_Law_law 335 = .ok (.iaload, 1) := by decide +kernel
theorem d_Law_law_336 : decode c_Law_law 336 = .ok (.aload_n 0, 1) := by decide +kernel
theorem d_Law_law_337 : decode c_Law_law 337 = .ok (.iload_n 3, 1) := by decide +kernel
theorem d_Law_law_338 : decode c_Law_law 338 = .ok (.iconst 3, 1) := by decide +kernel
theorem d_Law_law_339 : decode c_Law_law 339 = .ok (.iadd, 1) := by decide +kernel
theorem d_Law_law_340 : decode c_Law_law 340 = .ok (.iaload, 1) := by decide +kernel
theorem d_Law_law_341 : decode c_Law_law 341 = .ok (.aload_n 0, 1) := by decide +kernel
theorem d_Law_law_342 : decode c_Law_law 342 = .ok (.iload_n 3, 1) := by decide +kernel
theorem d_Law_law_343 : decode c_Law_law 343 = .ok (.iconst 4, 1) := by decide +kernel
theorem d_Law_law_344 : decode c_Law_law 344 = .ok (.iadd, 1) := by decide +kernel
theorem d_Law_law_345 : decode c_Law_law 345 = .ok (.iaload, 1) := by decide +kernel
theorem d_Law_law_346 : decode c_Law_law 346 = .ok (.aload_n 0, 1) := by decide +kernel
theorem d_Law_law_347 : decode c_Law_law 347 = .ok (.iload_n 3, 1) := by decide +kernel
theorem d_Law_law_348 : decode c_Law_law 348 = .ok (.iconst 5, 1) := by decide +kernel
theorem d_Law_law_349 : decode c_Law_law 349 = .ok (.iadd, 1) := by decide +kernel
theorem d_Law_law_350 : decode c_Law_law 350 = .ok (.iaload, 1) := by decide +kernel
theorem d_Law_law_351 : decode c_Law_law 351 = .ok (.invokevirtual 38, 3) := by decide +kernel
theorem d_Law_law_354 : decode c_Law_law 354 = .ok (.aload_n 2, 1) := by decide +kernel
theorem d_Law_law_355 : decode c_Law_law 355 = .ok (.aload_n 0, 1) := by decide +kernel
theorem d_Law_law_356 : decode c_Law_law 356 = .ok (.iload_n 3, 1) := by decide +kernel
theorem d_Law_law_357 : decode c_Law_law 357 = .ok (.iconst 1, 1) := by decide +kernel
theorem d_Law_law_358 : decode c_Law_law 358 = .ok (.iadd, 1) := by decide +kernel
theorem d_Law_law_359 : decode c_Law_law 359 = .ok (.iaload, 1) := by decide +kernel
theorem d_Law_law_360 : decode c_Law_law 360 = .ok (.aload_n 0, 1) := by decide +kernel
theorem d_Law_law_361 : decode c_Law_law 361 = .ok (.iload_n 3, 1) := by decide +kernel
theorem d_Law_law_362 : decode c_Law_law 362 = .ok (.iconst 2, 1) := by decide +kernel
theorem d_Law_law_363 : decode c_Law_law 363 = .ok (.iadd, 1) := by decide +kernel
theorem d_Law_law_364 : decode c_Law_law 364 = .ok (.iaload, 1) := by decide +kernel
theorem d_Law_law_365 : decode c_Law_law 365 = .ok (.aload_n 0, 1) := by decide +kernel
theorem d_Law_law_366 : decode c_Law_law 366 = .ok (.iload_n 3, 1) := by decide +kernel
theorem d_Law_law_367 : decode c_Law_law 367 = .ok (.iconst 3, 1) := by decide +kernel
theorem d_Law_law_368 : decode c_Law_law 368 = .ok (.iadd, 1) := by decide +kernel
theorem d_Law_law_369 : decode c_Law_law 369 = .ok (.iaload, 1) := by decide +kernel
theorem d_Law_law_370 : decode c_Law_law 370 = .ok (.aload_n 0, 1) := by decide +kernel
theorem d_Law_law_371 : decode c_Law_law 371 = .ok (.iload_n 3, 1) := by decide +kernel
theorem d_Law_law_372 : decode c_Law_law 372 = .ok (.iconst 4, 1) := by decide +kernel
theorem d_Law_law_373 : decode c_Law_law 373 = .ok (.iadd, 1) := by decide +kernel
theorem d_Law_law_374 : decode c_Law_law 374 = .ok (.iaload, 1) := by decide +kernel
theorem d_Law_law_375 : decode c_Law_law 375 = .ok (.aload_n 0, 1) := by decide +kernel
theorem d_Law_law_376 : decode c_Law_law 376 = .ok (.iload_n 3, 1) := by decide +kernel
theorem d_Law_law_377 : decode c_Law_law 377 = .ok (.iconst 5, 1) := by decide +kernel
theorem d_Law_law_378 : decode c_Law_law 378 = .ok (.iadd, 1) := by decide +kernel
theorem d_Law_law_379 : decode c_Law_law 379 = .ok (.iaload, 1) := by decide +kernel
theorem d_Law_law_380 : decode c_Law_law 380 = .ok (.invokevirtual 41, 3) := by decide +kernel
theorem d_Law_law_383 : decode c_Law_law 383 = .ok (.if_icmp .eq 245, 3) := by decide +kernel
theorem d_Law_law_386 : decode c_Law_law 386 = .ok (.iconst 0, 1) := by decide +kernel
theorem d_Law_law_387 : decode c_Law_law 387 = .ok (.ireturn, 1) := by decide +kernel
theorem d_Law_law_388 : decode c_Law_law 388 = .ok (.aload_n 1, 1) := by decide +kernel
theorem d_Law_law_389 : decode c_Law_law 389 = .ok (.aload_n 0, 1) := by decide +kernel
theorem d_Law_law_390 : decode c_Law_law 390 = .ok (.iload_n 3, 1) := by decide +kernel
theorem d_Law_law_391 : decode c_Law_law 391 = .ok (.iconst 1, 1) := by decide +kernel
theorem d_Law_law_392 : decode c_Law_law 392 = .ok (.iadd, 1) := by decide +kernel
theorem d_Law_law_393 : decode c_Law_law 393 = .ok (.iaload, 1) := by decide +kernel
theorem d_Law_law_394 : decode c_Law_law 394 = .ok (.aload_n 0, 1) := by decide +kernel
theorem d_Law_law_395 : decode c_Law_law 395 = .ok (.iload_n 3, 1) := by decide +kernel
theorem d_Law_law_396 : decode c_Law_law 396 = .ok (.iconst 2, 1) := by decide +kernel
theorem d_Law_law_397 : decode c_Law_law 397 = .ok (.iadd, 1) := by decide +kernel
theorem d_Law_law_398 : decode c_Law_law 398 = .ok (.iaload, 1) := by decide +kernel
theorem d_Law_law_399 : decode c_Law_law 399 = .ok (.invokevirtual 42, 3) := by decide +kernel
theorem d_Law_law_402 : decode c_Law_law 402 = .ok (.aload_n 2, 1) := by decide +kernel
theorem d_Law_law_403 : decode c_Law_law 403 = .ok (.aload_n 0, 1) := by decide +kernel
theorem d_Law_law_404 : decode c_Law_law 404 = .ok (.iload_n 3, 1) := by decide +kernel
theorem d_Law_law_405 : decode c_Law_law 405 = .ok (.iconst 1, 1) := by decide +kernel
theorem d_Law_law_406 : decode c_Law_law 406 = .ok (.iadd, 1) := by decide +kernel
theorem d_Law_law_407 : decode c_Law_law 407 = .ok (.iaload, 1) := by decide +kernel
theorem d_Law_law_408 : decode c_Law_law 408 = .ok (.aload_n 0, 1) := by decide +kernel
theorem d_Law_law_409 : decode c_Law_law 409 = .ok (.iload_n 3, 1) := by decide +kernel
theorem d_Law_law_410 : decode c_Law_law 410 = .ok (.iconst 2, 1) := by decide +kernel
theorem d_Law_law_411 : decode c_Law_law 411 = .ok (.iadd, 1) := by decide +kernel
theorem d_Law_law_412 : decode c_Law_law 412 = .ok (.iaload, 1) := by decide +kernel
theorem d_Law_law_413 : decode c_Law_law 413 = .ok (.invokevirtual 46, 3) := by decide +kernel
theorem d_Law_law_416 : decode c_Law_law 416 = .ok (.if_icmp .eq 212, 3) := by decide +kernel
theorem d_Law_law_419 : decode c_Law_law 419 = .ok (.iconst 0, 1) := by decide +kernel
theorem d_Law_law_420 : decode c_Law_law 420 = .ok (.ireturn, 1) := by decide +kernel
theorem d_Law_law_421 : decode c_Law_law 421 = .ok (.aload_n 1, 1) := by decide +kernel
theorem d_Law_law_422 : decode c_Law_law 422 = .ok (.aload_n 0, 1) := by decide +kernel
theorem d_Law_law_423 : decode c_Law_law 423 = .ok (.iload_n 3, 1) := by decide +kernel
theorem d_Law_law_424 : decode c_Law_law 424 = .ok (.iconst 1, 1) := by decide +kernel
theorem d_Law_law_425 : decode c_Law_law 425 = .ok (.iadd, 1) := by decide +kernel
theorem d_Law_law_426 : decode c_Law_law 426 = .ok (.iaload, 1) := by decide +kernel
theorem d_Law_law_427 : decode c_Law_law 427 = .ok (.aload_n 0, 1) := by decide +kernel
theorem d_Law_law_428 : decode c_Law_law 428 = .ok (.iload_n 3, 1) := by decide +kernel
theorem d_Law_law_429 : decode c_Law_law 429 = .ok (.iconst 2, 1) := by decide +kernel
theorem d_Law_law_430 : decode c_Law_law 430 = .ok (.iadd, 1) := by decide +kernel
theorem d_Law_law_431 : decode c_Law_law 431 = .ok (.iaload, 1) := by decide +kernel
theorem d_Law_law_432 : decode c_Law_law 432 = .ok (.invokevirtual 47, 3) := by decide +kernel
theorem d_Law_law_435 : decode c_Law_law 435 = .ok (.aload_n 2, 1) := by decide +kernel
theorem d_Law_law_436 : decode c_Law_law 436 = .ok (.aload_n 0, 1) := by decide +kernel
theorem d_Law_law_437 : decode c_Law_law 437 = .ok (.iload_n 3, 1) := by decide +kernel
theorem d_Law_law_438 : decode c_Law_law 438 = .ok (.iconst 1, 1) := by decide +kernel
theorem d_Law_law_439 : decode c_Law_law 439 = .ok (.iadd, 1) := by decide +kernel
theorem d_Law_law_440 : decode c_Law_law 440 = .ok (.iaload, 1) := by decide +kernel
theorem d_Law_law_441 : decode c_Law_law 441 = .ok (.aload_n 0, 1) := by decide +kernel
theorem d_Law_law_442 : decode c_Law_law 442 = .ok (.iload_n 3, 1) := by decide +kernel
theorem d_Law_law_443 : decode c_Law_law 443 = .ok (.iconst 2, 1) := by decide +kernel
theorem d_Law_law_444 : decode c_Law_law 444 = .ok (.iadd, 1) := by decide +kernel
theorem d_Law_law_445 : decode c_Law_law 445 = .ok (.iaload, 1) := by decide +kernel
theorem d_Law_law_446 : decode c_Law_law 446 = .ok (.invokevirtual 50, 3) := by decide +kernel
theorem d_Law_law_449 : decode c_Law_law 449 = .ok (.if_icmp .eq 179, 3) := by decide +kernel
theorem d_Law_law_452 : decode c_Law_law 452 = .ok (.iconst 0, 1) := by decide +kernel
theorem d_Law_law_453 : decode c_Law_law 453 = .ok (.ireturn, 1) := by decide +kernel
theorem d_Law_law_454 : decode c_Law_law 454 = .ok (.aload_n 1, 1) := by decide +kernel
theorem d_Law_law_455 : decode c_Law_law 455 = .ok (.aload_n 0, 1) := by decide +kernel
theorem d_Law_law_456 : decode c_Law_law 456 = .ok (.iload_n 3, 1) := by decide +kernel
theorem d_Law_law_457 : decode c_Law_law 457 = .ok (.iconst 1, 1) := by decide +kernel
theorem d_Law_law_458 : decode c_Law_law 458 = .ok (.iadd, 1) := by decide +kernel
theorem d_Law_law_459 : decode c_Law_law 459 = .ok (.iaload, 1) := by decide +kernel
theorem d_Law_law_460 : decode c_Law_law 460 = .ok (.aload_n 0, 1) := by decide +kernel
theorem d_Law_law_461 : decode c_Law_law 461 = .ok (.iload_n 3, 1) := by decide +kernel
theorem d_Law_law_462 : decode c_Law_law 462 = .ok (.iconst 2, 1) := by decide +kernel
theorem d_Law_law_463 : decode c_Law_law 463 = .ok (.iadd, 1) := by decide +kernel
theorem d_Law_law_464 : decode c_Law_law 464 = .ok (.iaload, 1) := by decide +kernel
theorem d_Law_law_465 : decode c_Law_law 465 = .ok (.aload_n 0, 1) := by decide +kernel
theorem d_Law_law_466 : decode c_Law_law 466 = .ok (.iload_n 3, 1) := by decide +kernel
theorem d_Law_law_467 : decode c_Law_law 467 = .ok (.iconst 3, 1) := by decide +kernel
theorem d_Law_law_468 : decode c_Law_law 468 = .ok (.iadd, 1) := by decide +kernel
theorem d_Law_law_469 : decode c_Law_law 469 = .ok (.iaload, 1) := by decide +kernel
theorem d_Law_law_470 : decode c_Law_law 470 = .ok (.invokevirtual 51, 3) := by decide +kernel
theorem d_Law_law_473 : decode c_Law_law 473 = .ok (.aload_n 2, 1) := by decide +kernel
theorem d_Law_law_474 : decode c_Law_law 474 = .ok (.aload_n 0, 1) := by decide +kernel
theorem d_Law_law_475 : decode c_Law_law 475 = .ok (.iload_n 3, 1) := by decide +kernel
theorem d_Law_law_476 : decode c_Law_law 476 = .ok (.iconst 1, 1) := by decide +kernel
theorem d_Law_law_477 : decode c_Law_law 477 = .ok (.iadd, 1) := by decide +kernel
theorem d_Law_law_478 : decode c_Law_law 478 = .ok (.iaload, 1) := by decide +kernel
theorem d_Law_law_479 : decode c_Law_law 479 = .ok (.aload_n 0, 1) := by decide +kernel
theorem d_Law_law_480 : decode c_Law_law 480 = .ok (.iload_n 3, 1) := by decide +kernel
theorem d_Law_law_481 : decode c_Law_law 481 = .ok (.iconst 2, 1) := by decide +kernel
theorem d_Law_law_482 : decode c_Law_law 482 = .ok (.iadd, 1) := by decide +kernel
theorem d_Law_law_483 : decode c_Law_law 483 = .ok (.iaload, 1) := by decide +kernel
theorem d_Law_law_484 : decode c_Law_law 484 = .ok (.aload_n 0, 1) := by decide +kernel
theorem d_Law_law_485 : decode c_Law_law 485 = .ok (.iload_n 3, 1) := by decide +kernel
theorem d_Law_law_486 : decode c_Law_law 486 = .ok (.iconst 3, 1) := by decide +kernel
theorem d_Law_law_487 : decode c_Law_law 487 = .ok (.iadd, 1) := by decide +kernel
theorem d_Law_law_488 : decode c_Law_law 488 = .ok (.iaload, 1) := by decide +kernel
theorem d_Law_law_489 : decode c_Law_law 489 = .ok (.invokevirtual 55, 3) := by decide +kernel
theorem d_Law_law_492 : decode c_Law_law 492 = .ok (.if_icmp .eq 136, 3) := by decide +kernel
theorem d_Law_law_495 : decode c_Law_law 495 = .ok (.iconst 0, 1) := by decide +kernel
theorem d_Law_law_496 : decode c_Law_law 496 = .ok (.ireturn, 1) := by decide +kernel
theorem d_Law_law_497 : decode c_Law_law 497 = .ok (.aload_n 1, 1) := by decide +kernel
theorem d_Law_law_498 : decode c_Law_law 498 = .ok (.invokevirtual 56, 3) := by decide +kernel
theorem d_Law_law_501 : decode c_Law_law 501 = .ok (.aload_n 2, 1) := by decide +kernel
theorem d_Law_law_502 : decode c_Law_law 502 = .ok (.invokevirtual 60, 3) := by decide +kernel
theorem d_Law_law_505 : decode c_Law_law 505 = .ok (.if_icmp .eq 123, 3) := by decide +kernel
theorem d_Law_law_508 : decode c_Law_law 508 = .ok (.iconst 0, 1) := by decide +kernel
theorem d_Law_law_509 : decode c_Law_law 509 = .ok (.ireturn, 1) := by decide +kernel
theorem d_Law_law_510 : decode c_Law_law 510 = .ok (.aload_n 1, 1) := by decide +kernel
theorem d_Law_law_511 : decode c_Law_law 511 = .ok (.invokevirtual 61, 3) := by decide +kernel
theorem d_Law_law_514 : decode c_Law_law 514 = .ok (.aload_n 2, 1) := by decide +kernel
theorem d_Law_law_515 : decode c_Law_law 515 = .ok (.invokevirtual 64, 3) := by decide +kernel
theorem d_Law_law_518 : decode c_Law_law 518 = .ok (.if_icmp .eq 110, 3) := by decide +kernel
theorem d_Law_law_521 : decode c_Law_law 521 = .ok (.iconst 0, 1) := by decide +kernel
theorem d_Law_law_522 : decode c_Law_law 522 = .ok (.ireturn, 1) := by decide +kernel
theorem d_Law_law_523 : decode c_Law_law 523 = .ok (.aload_n 1, 1) := by decide +kernel
theorem d_Law_law_524 : decode c_Law_law 524 = .ok (.aload_n 0, 1) := by decide +kernel
theorem d_Law_law_525 : decode c_Law_law 525 = .ok (.iload_n 3, 1) := by decide +kernel
theorem d_Law_law_526 : decode c_Law_law 526 = .ok (.iconst 1, 1) := by decide +kernel
theorem d_Law_law_527 : decode c_Law_law 527 = .ok (.iadd, 1) := by decide +kernel
theorem d_Law_law_528 : decode c_Law_law 528 = .ok (.iaload, 1) := by decide +kernel
theorem d_Law_law_529 : decode c_Law_law 529 = .ok (.invokevirtual 65, 3) := by decide +kernel
theorem d_Law_law_532 : decode c_Law_law 532 = .ok (.aload_n 2, 1) := by decide +kernel
theorem d_Law_law_533 : decode c_Law_law 533 = .ok (.aload_n 0, 1) := by decide +kernel
theorem d_Law_law_534 : decode c_Law_law 534 = .ok (.iload_n 3, 1) := by decide +kernel
theorem d_Law_law_535 : decode c_Law_law 535 = .ok (.iconst 1, 1) := by decide +kernel
theorem d_Law_law_536 : decode c_Law_law 536 = .ok (.iadd, 1) := by decide +kernel
theorem d_Law_law_537 : decode c_Law_law 537 = .ok (.iaload, 1) := by decide +kernel
theorem d_Law_law_538 : decode c_Law_law 538 = .ok (.invokevirtual 69, 3) := by decide +kernel
theorem d_Law_law_541 : decode c_Law_law 541 = .ok (.if_icmp .eq 87, 3) := by decide +kernel
theorem d_Law_law_544 : decode c_Law_law 544 = .ok (.iconst 0, 1) := by decide +kernel
theorem d_Law_law_545 : decode c_Law_law 545 = .ok (.ireturn, 1) := by decide +kernel
theorem d_Law_law_546 : decode c_Law_law 546 = .ok (.aload_n 1, 1) := by decide +kernel
theorem d_Law_law_547 : decode c_Law_law 547 = .ok (.aload_n 0, 1) := by decide +kernel
theorem d_Law_law_548 : decode c_Law_law 548 = .ok (.iload_n 3, 1) := by decide +kernel
theorem d_Law_law_549 : decode c_Law_law 549 = .ok (.iconst 1, 1) := by decide +kernel
theorem d_Law_law_550 : decode c_Law_law 550 = .ok (.iadd, 1) := by decide +kernel
theorem d_Law_law_551 : decode c_Law_law 551 = .ok (.iaload, 1) := by decide +kernel
theorem d_Law_law_552 : decode c_Law_law 552 = .ok (.aload_n 0, 1) := by decide +kernel
theorem d_Law_law_553 : decode c_Law_law 553 = .ok (.iload_n 3, 1) := by decide +kernel
theorem d_Law_law_554 : decode c_Law_law 554 = .ok (.iconst 2, 1) := by decide +kernel
theorem d_Law_law_555 : decode c_Law_law 555 = .ok (.iadd, 1) := by decide +kernel
theorem d_Law_law_556 : decode c_Law_law 556 = .ok (.iaload, 1) := by decide +kernel
theorem d_Law_law_557 : decode c_Law_law 557 = .ok (.invokevirtual 70, 3) := by decide +kernel
theorem d_Law_law_560 : decode c_Law_law 560 = .ok (.aload_n 2, 1) := by decide +kernel
theorem d_Law_law_561 : decode c_Law_law 561 = .ok (.aload_n 0, 1) := by decide +kernel
theorem d_Law_law_562 : decode c_Law_law 562 = .ok (.iload_n 3, 1) := by decide +kernel
theorem d_Law_law_563 : decode c_Law_law 563 = .ok (.iconst 1, 1) := by decide +kernel
theorem d_Law_law_564 : decode c_Law_law 564 = .ok (.iadd, 1) := by decide +kernel
theorem d_Law_law_565 : decode c_Law_law 565 = .ok (.iaload, 1) := by decide +kernel
theorem d_Law_law_566 : decode c_Law_law 566 = .ok (.aload_n 0, 1) := by decide +kernel
theorem d_Law_law_567 : decode c_Law_law 567 = .ok (.iload_n 3, 1) := by decide +kernel
theorem d_Law_law_568 : decode c_Law_law 568 = .ok (.iconst 2, 1) := by decide +kernel
theorem d_Law_law_569 : decode c_Law_law 569 = .ok (.iadd, 1) := by decide +kernel
theorem d_Law_law_570 : decode c_Law_law 570 = .ok (.iaload, 1) := by decide +kernel
theorem d_Law_law_571 : decode c_Law_law 571 = .ok (.invokevirtual 73, 3) := by decide +kernel
theorem d_Law_law_574 : decode c_Law_law 574 = .ok (.if_icmp .eq 54, 3) := by decide +kernel
theorem d_Law_law_577 : decode c_Law_law 577 = .ok (.iconst 0, 1) := by decide +kernel
theorem d_Law_law_578 : decode c_Law_law 578 = .ok (.ireturn, 1) := by decide +kernel
theorem d_Law_law_579 : decode c_Law_law 579 = .ok (.aload_n 1, 1) := by decide +kernel
theorem d_Law_law_580 : decode c_Law_law 580 = .ok (.invokevirtual 74, 3) := by decide +kernel
theorem d_Law_law_583 : decode c_Law_law 583 = .ok (.aload_n 2, 1) := by decide +kernel
theorem d_Law_law_584 : decode c_Law_law 584 = .ok (.invokevirtual 77, 3) := by decide +kernel
theorem d_Law_law_587 : decode c_Law_law 587 = .ok (.if_icmp .eq 41, 3) := by decide +kernel
theorem d_Law_law_590 : decode c_Law_law 590 = .ok (.iconst 0, 1) := by decide +kernel
theorem d_Law_law_591 : decode c_Law_law 591 = .ok (.ireturn, 1) := by decide +kernel
theorem d_Law_law_592 : decode c_Law_law 592 = .ok (.aload_n 1, 1) := by decide +kernel
theorem d_Law_law_593 : decode c_Law_law 593 = .ok (.invokevirtual 78, 3) := by decide +kernel
theorem d_Law_law_596 : decode c_Law_law 596 = .ok (.aload_n 2, 1) := by decide +kernel
theorem d_Law_law_597 : decode c_Law_law 597 = .ok (.invokevirtual 81, 3) := by decide +kernel
theorem d_Law_law_600 : decode c_Law_law 600 = .ok (.if_icmp .eq 28, 3) := by decide +kernel
theorem d_Law_law_603 : decode c_Law_law 603 = .ok (.iconst 0, 1) := by decide +kernel
theorem d_Law_law_604 : decode c_Law_law 604 = .ok (.ireturn, 1) := by decide +kernel
theorem d_Law_law_605 : decode c_Law_law 605 = .ok (.aload_n 1, 1) := by decide +kernel
theorem d_Law_law_606 : decode c_Law_law 606 = .ok (.aload_n 0, 1) := by decide +kernel
theorem d_Law_law_607 : decode c_Law_law 607 = .ok (.iload_n 3, 1) := by decide +kernel
theorem d_Law_law_608 : decode c_Law_law 608 = .ok (.iconst 1, 1) := by decide +kernel
theorem d_Law_law_609 : decode c_Law_law 609 = .ok (.iadd, 1) := by decide +kernel
theorem d_Law_law_610 : decode c_Law_law 610 = .ok (.iaload, 1) := by decide +kernel
theorem d_Law_law_611 : decode c_Law_law 611 = .ok (.invokevirtual 82, 3) := by decide +kernel
theorem d_Law_law_614 : decode c_Law_law 614 = .ok (.aload_n 2, 1) := by decide +kernel
theorem d_Law_law_615 : decode c_Law_law 615 = .ok (.aload_n 0, 1) := by decide +kernel
theorem d_Law_law_616 : decode c_Law_law 616 = .ok (.iload_n 3, 1) := by decide +kernel
theorem d_Law_law_617 : decode c_Law_law 617 = .ok (.iconst 1, 1) := by decide +kernel
theorem d_Law_law_618 : decode c_Law_law 618 = .ok (.iadd, 1) := by decide +kernel
theorem d_Law_law_619 : decode c_Law_law 619 = .ok (.iaload, 1) := by decide +kernel
theorem d_Law_law_620 : decode c_Law_law 620 = .ok (.invokevirtual 85, 3) := by decide +kernel
theorem d_Law_law_623 : decode c_Law_law 623 = .ok (.if_icmp .eq 5, 3) := by decide +kernel
theorem d_Law_law_626 : decode c_Law_law 626 = .ok (.iconst 0, 1) := by decide +kernel
theorem d_Law_law_627 : decode c_Law_law 627 = .ok (.ireturn, 1) := by decide +kernel
theorem d_Law_law_628 : decode c_Law_law 628 = .ok (.iinc 3 6, 3) := by decide +kernel
theorem d_Law_law_631 : decode c_Law_law 631 = .ok (.goto (-613), 3) := by decide +kernel
theorem d_Law_law_634 : decode c_Law_law 634 = .ok (.iconst 1, 1) := by decide +kernel
theorem d_Law_law_635 : decode c_Law_law 635 = .ok (.ireturn, 1) := by decide +kernel
set_option maxHeartbeats 4000000 in
set_option maxRecDepth 100000 in
theorem sn_Law_law_628 {l : Launch} {Γ : gk_G} {p : Program} {e : Env} {s : State} {m : MethodId} {b : Nat} {below : List Frame} {meth : Method} {c : Code} {xs : Nat → Int32} {ln : Nat} (B : gk_B p s m #[Value.ref b] meth c gk_Y Γ code 4 "StageDispatcherLaw") (hr : meth.sig.returnType = ret) (hX : va_X b ln xs s s.heap) (hb : b < s.heap.size) (hlo : Γ.2.2 = s.heap.size) {k n : Nat} (hk : k + 3 ≤ 600000) (hn : n + 38 ≤ 7302250) {k18 : Option Nat → Option Nat → Int32 → gk_M → Option (Unit)} (H18 : ∀ (a1 : Option Nat) (a2 : Option Nat) (x3 : Int32) (M : gk_M), k18 a1 a2 x3 M = some () → Gk p l e room_1 s m #[Value.ref b] below meth c gk_Y Γ 4 (lw_Z below #[Value.ref b] s) (k + 3) (n + 38) M 18 [some (va_rf (some b)), some (va_rf a1), some (va_rf a2), some (.int x3)] []) {a1 : Option Nat} {a2 : Option Nat} {x3 : Int32} {M : gk_M} (h : fn_Law_law_628 xs ln k18 a1 a2 x3 M = some ()) : Gk p l e room_1 s m #[Value.ref b] below meth c gk_Y Γ 4 (lw_Z below #[Value.ref b] s) (k + 3) (n + 38) M 628 [some (va_rf (some b)), some (va_rf a1), some (va_rf a2), some (.int x3)] [] := by
  unfold fn_Law_law_628 at h
  refine Gk_iinc (x := x3) (v := (x3 + 6)) (L' := [some (va_rf (some b)), some (va_rf a1), some (va_rf a2), some (.int (x3 + 6))]) B d_Law_law_628 rfl (congrArg (fun z => x3 + z) (by decide : Int32.ofInt 6 = 6)) (by decide) (gk_c1_r rfl) rfl ?_
  refine Gk_goto (tgt := 18) B d_Law_law_631 rfl ?_
  refine Gk_widen (k' := k + 3) (n' := n + 38) (by omega) (by omega) ?_
  exact H18 a1 a2 (x3 + 6) M h
set_option maxHeartbeats 4000000 in
set_option maxRecDepth 100000 in
theorem sn_Law_law_168 {l : Launch} {Γ : gk_G} {p : Program} {e : Env} {s : State} {m : MethodId} {b : Nat} {below : List Frame} {meth : Method} {c : Code} {xs : Nat → Int32} {ln : Nat} (B : gk_B p s m #[Value.ref b] meth c gk_Y Γ code 4 "StageDispatcherLaw") (hr : meth.sig.returnType = ret) (hX : va_X b ln xs s s.heap) (hb : b < s.heap.size) (hlo : Γ.2.2 = s.heap.size) {k n : Nat} (hk : k + 3 ≤ 600000) (hn : n + 38 ≤ 7302250) {k18 : Option Nat → Option Nat → Int32 → gk_M → Option (Unit)} (H18 : ∀ (a1 : Option Nat) (a2 : Option Nat) (x3 : Int32) (M : gk_M), k18 a1 a2 x3 M = some () → Gk p l e room_1 s m #[Value.ref b] below meth c gk_Y Γ 4 (lw_Z below #[Value.ref b] s) (k + 3) (n + 38) M 18 [some (va_rf (some b)), some (va_rf a1), some (va_rf a2), some (.int x3)] []) {a1 : Option Nat} {a2 : Option Nat} {x3 : Int32} {s0 : Int32} {s1 : Option Nat} {s2 : Int32} {M : gk_M} (h : fn_Law_law_168 xs ln k18 a1 a2 x3 s0 s1 s2 M = some ()) : Gk p l e room_1 s m #[Value.ref b] below meth c gk_Y Γ 4 (lw_Z below #[Value.ref b] s) (k + 2) (n + 29) M 168 [some (va_rf (some b)), some (va_rf a1), some (va_rf a2), some (.int x3)] [.int s2, va_rf s1, .int s0] := by
  unfold fn_Law_law_168 at h
  obtain ⟨o168, g168, h⟩ := gk_bind h
  obtain ⟨w168, h168, h⟩ := gk_bind h
  refine Gk_callV (As := [.int s2]) (rest := [.int s0]) (st1 := [.int w168.1, .int s0]) (k1 := (k + 2)) (n1 := (n + 29)) B gk_hG d_Law_law_168 (sn_Mo_resource h168) g168 cl_Mo tw_935 tw_932 tw_933 tw_934 tw_48 nm_Mo_resource rfl (by simp [gk_rc, gk_ic, gk_jc]) ⟨by decide, by decide⟩ ⟨by show (k + 2) + 0 ≤ 600000; omega, by show (n + 29) + 0 ≤ 7302250; omega⟩ rfl rfl rfl rfl ?_
  refine Gk_icmp_eq (tgt := 628) B d_Law_law_171 rfl (fun c171 => ?_) (fun c171 => ?_)
  · rw [if_pos c171] at h
    refine Gk_widen (k' := (k + 3)) (n' := (n + 38)) (by omega) (by omega) ?_
    exact sn_Law_law_628 B hr hX hb hlo hk hn H18 h
  rw [if_neg c171] at h
  refine Gk_iconst (v := 0) B d_Law_law_174 (by decide) ?_
  cases h
set_option maxHeartbeats 4000000 in
set_option maxRecDepth 100000 in
theorem sn_Law_law_151 {l : Launch} {Γ : gk_G} {p : Program} {e : Env} {s : State} {m : MethodId} {b : Nat} {below : List Frame} {meth : Method} {c : Code} {xs : Nat → Int32} {ln : Nat} (B : gk_B p s m #[Value.ref b] meth c gk_Y Γ code 4 "StageDispatcherLaw") (hr : meth.sig.returnType = ret) (hX : va_X b ln xs s s.heap) (hb : b < s.heap.size) (hlo : Γ.2.2 = s.heap.size) {k n : Nat} (hk : k + 3 ≤ 600000) (hn : n + 38 ≤ 7302250) {k18 : Option Nat → Option Nat → Int32 → gk_M → Option (Unit)} (H18 : ∀ (a1 : Option Nat) (a2 : Option Nat) (x3 : Int32) (M : gk_M), k18 a1 a2 x3 M = some () → Gk p l e room_1 s m #[Value.ref b] below meth c gk_Y Γ 4 (lw_Z below #[Value.ref b] s) (k + 3) (n + 38) M 18 [some (va_rf (some b)), some (va_rf a1), some (va_rf a2), some (.int x3)] []) {a1 : Option Nat} {a2 : Option Nat} {x3 : Int32} {s0 : Option Nat} {s1 : Int32} {M : gk_M} (h : fn_Law_law_151 xs ln k18 a1 a2 x3 s0 s1 M = some ()) : Gk p l e room_1 s m #[Value.ref b] below meth c gk_Y Γ 4 (lw_Z below #[Value.ref b] s) k n M 151 [some (va_rf (some b)), some (va_rf a1), some (va_rf a2), some (.int x3)] [.int s1, va_rf s0] := by
  unfold fn_Law_law_151 at h
  obtain ⟨o151, g151, h⟩ := gk_bind h
  obtain ⟨w151, h151, h⟩ := gk_bind h
  refine Gk_callV (As := [.int s1]) (rest := []) (st1 := [.int w151.1]) (k1 := (k + 2)) (n1 := (n + 29)) B gk_hG d_Law_law_151 (sn_SD_resource h151) g151 cl_SD tw_311 tw_308 tw_309 tw_310 tw_40 nm_SD_resource rfl (by decide) ⟨by decide, by decide⟩ ⟨by show k + 2 ≤ 600000; omega, by show n + 29 ≤ 7302250; omega⟩ rfl rfl rfl rfl ?_
  refine Gk_aload_n (i := 2) (r := a2) B d_Law_law_154 rfl rfl ?_
  refine Gk_aload_n (i := 0) (r := (some b)) B d_Law_law_155 rfl rfl ?_
  refine Gk_iload_n (i := 3) (x := x3) B d_Law_law_156 rfl rfl ?_
  refine Gk_iconst (v := 1) B d_Law_law_157 (by decide) ?_
  refine Gk_iadd B d_Law_law_158 ?_
  obtain ⟨v159, h159, h⟩ := gk_bind h
  refine Gk_sload B hX hb hlo d_Law_law_159 h159 ?_
  refine Gk_if_eq (tgt := 167) B d_Law_law_160 rfl (fun c160 => ?_) (fun c160 => ?_)
  · rw [if_pos c160] at h
    refine Gk_iconst (v := 0) B d_Law_law_167 (by decide) ?_
    exact sn_Law_law_168 B hr hX hb hlo hk hn H18 h
  rw [if_neg c160] at h
  refine Gk_iconst (v := 1) B d_Law_law_163 (by decide) ?_
  refine Gk_goto (tgt := 168) B d_Law_law_164 rfl ?_
  exact sn_Law_law_168 B hr hX hb hlo hk hn H18 h
set_option maxHeartbeats 4000000 in
set_option maxRecDepth 100000 in
theorem sn_Law_law_18_bd {l : Launch} {Γ : gk_G} {p : Program} {e : Env} {s : State} {m : MethodId} {b : Nat} {below : List Frame} {meth : Method} {c : Code} {xs : Nat → Int32} {ln : Nat} (B : gk_B p s m #[Value.ref b] meth c gk_Y Γ code 4 "StageDispatcherLaw") (hr : meth.sig.returnType = ret) (hX : va_X b ln xs s s.heap) (hb : b < s.heap.size) (hlo : Γ.2.2 = s.heap.size) {k n : Nat} (hk : k + 3 ≤ 600000) (hn : n + 38 ≤ 7302250) {k18 : Option Nat → Option Nat → Int32 → gk_M → Option (Unit)} (H18 : ∀ (a1 : Option Nat) (a2 : Option Nat) (x3 : Int32) (M : gk_M), k18 a1 a2 x3 M = some () → Gk p l e room_1 s m #[Value.ref b] below meth c gk_Y Γ 4 (lw_Z below #[Value.ref b] s) (k + 3) (n + 38) M 18 [some (va_rf (some b)), some (va_rf a1), some (va_rf a2), some (.int x3)] []) {a1 : Option Nat} {a2 : Option Nat} {x3 : Int32} {M : gk_M} (h : fn_Law_law_18_bd xs ln k18 a1 a2 x3 M = some ()) : Gk p l e room_1 s m #[Value.ref b] below meth c gk_Y Γ 4 (lw_Z below #[Value.ref b] s) k n M 18 [some (va_rf (some b)), some (va_rf a1), some (va_rf a2), some (.int x3)] [] := by
  unfold fn_Law_law_18_bd at h
  refine Gk_iload_n (i := 3) (x := x3) B d_Law_law_18 rfl rfl ?_
  refine Gk_aload_n (i := 0) (r := (some b)) B d_Law_law_19 rfl rfl ?_
  refine Gk_slen B hX hb hlo d_Law_law_20 ?_
  refine Gk_bipush (v := 6) B d_Law_law_21 (by decide) ?_
  refine Gk_isub B d_Law_law_23 ?_
  refine Gk_icmp_gt (tgt := 634) B d_Law_law_24 rfl (fun c24 => ?_) (fun c24 => ?_)
  · rw [if_pos c24] at h
    refine Gk_iconst (v := 1) B d_Law_law_634 (by decide) ?_
    exact Gk_lret B hr hlo d_Law_law_635 (by omega) (by omega)
  rw [if_neg c24] at h
  refine Gk_aload_n (i := 0) (r := (some b)) B d_Law_law_27 rfl rfl ?_
  refine Gk_iload_n (i := 3) (x := x3) B d_Law_law_28 rfl rfl ?_
  obtain ⟨v29, h29, h⟩ := gk_bind h
  refine Gk_sload B hX hb hlo d_Law_law_29 h29 ?_
  refine Gk_bipush (v := 15) B d_Law_law_30 (by decide) ?_
  refine Gk_iand B d_Law_law_32 ?_
  by_cases c33_0 : (v29 &&& (15 : Int32)) = 0
  · rw [if_pos c33_0] at h
    refine Gk_tabIn (off := 79) (tgt := 112) B d_Law_law_33 (by rw [c33_0]; decide) (by rw [c33_0]; decide) (by rw [c33_0]; rfl) rfl ?_
    refine Gk_aload_n (i := 1) (r := a1) B d_Law_law_112 rfl rfl ?_
    refine Gk_aload_n (i := 0) (r := (some b)) B d_Law_law_113 rfl rfl ?_
    refine Gk_iload_n (i := 3) (x := x3) B d_Law_law_114 rfl rfl ?_
    refine Gk_iconst (v := 1) B d_Law_law_115 (by decide) ?_
    refine Gk_iadd B d_Law_law_116 ?_
    obtain ⟨v117, h117, h⟩ := gk_bind h
    refine Gk_sload B hX hb hlo d_Law_law_117 h117 ?_
    refine Gk_i2c (v := (((v117).toUInt32 % 65536).toInt32)) B d_Law_law_118 rfl ?_
    obtain ⟨o119, g119, h⟩ := gk_bind h
    obtain ⟨w119, h119, h⟩ := gk_bind h
    refine Gk_callV (As := [.int (((v117).toUInt32 % 65536).toInt32)]) (rest := []) (st1 := [.int w119.1]) (k1 := k) (n1 := n) B gk_hG d_Law_law_119 (sn_SD_put h119) g119 cl_SD tw_303 tw_300 tw_301 tw_302 tw_40 nm_SD_put rfl (by decide) ⟨by decide, by decide⟩ ⟨by show k + 0 ≤ 600000; omega, by show n + 0 ≤ 7302250; omega⟩ rfl rfl rfl rfl ?_
    refine Gk_aload_n (i := 2) (r := a2) B d_Law_law_122 rfl rfl ?_
    refine Gk_aload_n (i := 0) (r := (some b)) B d_Law_law_123 rfl rfl ?_
    refine Gk_iload_n (i := 3) (x := x3) B d_Law_law_124 rfl rfl ?_
    refine Gk_iconst (v := 1) B d_Law_law_125 (by decide) ?_
    refine Gk_iadd B d_Law_law_126 ?_
    obtain ⟨v127, h127, h⟩ := gk_bind h
    refine Gk_sload B hX hb hlo d_Law_law_127 h127 ?_
    refine Gk_i2c (v := (((v127).toUInt32 % 65536).toInt32)) B d_Law_law_128 rfl ?_
    obtain ⟨o129, g129, h⟩ := gk_bind h
    obtain ⟨w129, h129, h⟩ := gk_bind h
    refine Gk_callV (As := [.int (((v127).toUInt32 % 65536).toInt32)]) (rest := [.int w119.1]) (st1 := [.int w129.1, .int w119.1]) (k1 := k) (n1 := n) B gk_hG d_Law_law_129 (sn_Mo_put h129) g129 cl_Mo tw_931 tw_928 tw_929 tw_930 tw_48 nm_Mo_put rfl (by simp [gk_rc, gk_ic, gk_jc]) ⟨by decide, by decide⟩ ⟨by show k + 0 ≤ 600000; omega, by show n + 0 ≤ 7302250; omega⟩ rfl rfl rfl rfl ?_
    refine Gk_icmp_eq (tgt := 628) B d_Law_law_132 rfl (fun c132 => ?_) (fun c132 => ?_)
    · rw [if_pos c132] at h
      refine Gk_widen (k' := (k + 3)) (n' := (n + 38)) (by omega) (by omega) ?_
      exact sn_Law_law_628 B hr hX hb hlo hk hn H18 h
    rw [if_neg c132] at h
    refine Gk_iconst (v := 0) B d_Law_law_135 (by decide) ?_
    cases h
  rw [if_neg c33_0] at h
  by_cases c33_1 : (v29 &&& (15 : Int32)) = 1
  · rw [if_pos c33_1] at h
    refine Gk_tabIn (off := 104) (tgt := 137) B d_Law_law_33 (by rw [c33_1]; decide) (by rw [c33_1]; decide) (by rw [c33_1]; rfl) rfl ?_
    refine Gk_aload_n (i := 1) (r := a1) B d_Law_law_137 rfl rfl ?_
    refine Gk_aload_n (i := 0) (r := (some b)) B d_Law_law_138 rfl rfl ?_
    refine Gk_iload_n (i := 3) (x := x3) B d_Law_law_139 rfl rfl ?_
    refine Gk_iconst (v := 1) B d_Law_law_140 (by decide) ?_
    refine Gk_iadd B d_Law_law_141 ?_
    obtain ⟨v142, h142, h⟩ := gk_bind h
    refine Gk_sload B hX hb hlo d_Law_law_142 h142 ?_
    refine Gk_if_eq (tgt := 150) B d_Law_law_143 rfl (fun c143 => ?_) (fun c143 => ?_)
    · rw [if_pos c143] at h
      refine Gk_iconst (v := 0) B d_Law_law_150 (by decide) ?_
      exact sn_Law_law_151 B hr hX hb hlo hk hn H18 h
    rw [if_neg c143] at h
    refine Gk_iconst (v := 1) B d_Law_law_146 (by decide) ?_
    refine Gk_goto (tgt := 151) B d_Law_law_147 rfl ?_
    exact sn_Law_law_151 B hr hX hb hlo hk hn H18 h
  rw [if_neg c33_1] at h
  by_cases c33_2 : (v29 &&& (15 : Int32)) = 2
  · rw [if_pos c33_2] at h
    refine Gk_tabIn (off := 143) (tgt := 176) B d_Law_law_33 (by rw [c33_2]; decide) (by rw [c33_2]; decide) (by rw [c33_2]; rfl) rfl ?_
    refine Gk_aload_n (i := 1) (r := a1) B d_Law_law_176 rfl rfl ?_
    refine Gk_aload_n (i := 0) (r := (some b)) B d_Law_law_177 rfl rfl ?_
    refine Gk_iload_n (i := 3) (x := x3) B d_Law_law_178 rfl rfl ?_
    refine Gk_iconst (v := 1) B d_Law_law_179 (by decide) ?_
    refine Gk_iadd B d_Law_law_180 ?_
    obtain ⟨v181, h181, h⟩ := gk_bind h
    refine Gk_sload B hX hb hlo d_Law_law_181 h181 ?_
    refine Gk_aload_n (i := 0) (r := (some b)) B d_Law_law_182 rfl rfl ?_
    refine Gk_iload_n (i := 3) (x := x3) B d_Law_law_183 rfl rfl ?_
    refine Gk_iconst (v := 2) B d_Law_law_184 (by decide) ?_
    refine Gk_iadd B d_Law_law_185 ?_
    obtain ⟨v186, h186, h⟩ := gk_bind h
    refine Gk_sload B hX hb hlo d_Law_law_186 h186 ?_
    refine Gk_aload_n (i := 0) (r := (some b)) B d_Law_law_187 rfl rfl ?_
    refine Gk_iload_n (i := 3) (x := x3) B d_Law_law_188 rfl rfl ?_
    refine Gk_iconst (v := 3) B d_Law_law_189 (by decide) ?_
    refine Gk_iadd B d_Law_law_190 ?_
    obtain ⟨v191, h191, h⟩ := gk_bind h
    refine Gk_sload B hX hb hlo d_Law_law_191 h191 ?_
    refine Gk_aload_n (i := 0) (r := (some b)) B d_Law_law_192 rfl rfl ?_
    refine Gk_iload_n (i := 3) (x := x3) B d_Law_law_193 rfl rfl ?_
    refine Gk_iconst (v := 4) B d_Law_law_194 (by decide) ?_
    refine Gk_iadd B d_Law_law_195 ?_
    obtain ⟨v196, h196, h⟩ := gk_bind h
    refine Gk_sload B hX hb hlo d_Law_law_196 h196 ?_
    refine Gk_aload_n (i := 0) (r := (some b)) B d_Law_law_197 rfl rfl ?_
    refine Gk_iload_n (i := 3) (x := x3) B d_Law_law_198 rfl rfl ?_
    refine Gk_iconst (v := 5) B d_Law_law_199 (by decide) ?_
    refine Gk_iadd B d_Law_law_200 ?_
    obtain ⟨v201, h201, h⟩ := gk_bind h
    refine Gk_sload B hX hb hlo d_Law_law_201 h201 ?_
    obtain ⟨o202, g202, h⟩ := gk_bind h
    obtain ⟨w202, h202, h⟩ := gk_bind h
    refine Gk_callV (As := [.int v181, .int v186, .int v191, .int v196, .int v201]) (rest := []) (st1 := [.int w202.1]) (k1 := (k + 3)) (n1 := (n + 38)) B gk_hG d_Law_law_202 (sn_SD_method h202) g202 cl_SD tw_366 tw_363 tw_364 tw_365 tw_40 nm_SD_method rfl (by decide) ⟨by decide, by decide⟩ ⟨by show k + 3 ≤ 600000; omega, by show n + 38 ≤ 7302250; omega⟩ rfl rfl rfl rfl ?_
    refine Gk_aload_n (i := 2) (r := a2) B d_Law_law_205 rfl rfl ?_
    refine Gk_aload_n (i := 0) (r := (some b)) B d_Law_law_206 rfl rfl ?_
    refine Gk_iload_n (i := 3) (x := x3) B d_Law_law_207 rfl rfl ?_
    refine Gk_iconst (v := 1) B d_Law_law_208 (by decide) ?_
    refine Gk_iadd B d_Law_law_209 ?_
    obtain ⟨v210, h210, h⟩ := gk_bind h
    refine Gk_sload B hX hb hlo d_Law_law_210 h210 ?_
    refine Gk_aload_n (i := 0) (r := (some b)) B d_Law_law_211 rfl rfl ?_
    refine Gk_iload_n (i := 3) (x := x3) B d_Law_law_212 rfl rfl ?_
    refine Gk_iconst (v := 2) B d_Law_law_213 (by decide) ?_
    refine Gk_iadd B d_Law_law_214 ?_
    obtain ⟨v215, h215, h⟩ := gk_bind h
    refine Gk_sload B hX hb hlo d_Law_law_215 h215 ?_
    refine Gk_aload_n (i := 0) (r := (some b)) B d_Law_law_216 rfl rfl ?_
    refine Gk_iload_n (i := 3) (x := x3) B d_Law_law_217 rfl rfl ?_
    refine Gk_iconst (v := 3) B d_Law_law_218 (by decide) ?_
    refine Gk_iadd B d_Law_law_219 ?_
    obtain ⟨v220, h220, h⟩ := gk_bind h
    refine Gk_sload B hX hb hlo d_Law_law_220 h220 ?_
    refine Gk_aload_n (i := 0) (r := (some b)) B d_Law_law_221 rfl rfl ?_
    refine Gk_iload_n (i := 3) (x := x3) B d_Law_law_222 rfl rfl ?_
    refine Gk_iconst (v := 4) B d_Law_law_223 (by decide) ?_
    refine Gk_iadd B d_Law_law_224 ?_
    obtain ⟨v225, h225, h⟩ := gk_bind h
    refine Gk_sload B hX hb hlo d_Law_law_225 h225 ?_
    refine Gk_aload_n (i := 0) (r := (some b)) B d_Law_law_226 rfl rfl ?_
    refine Gk_iload_n (i := 3) (x := x3) B d_Law_law_227 rfl rfl ?_
    refine Gk_iconst (v := 5) B d_Law_law_228 (by decide) ?_
    refine Gk_iadd B d_Law_law_229 ?_
    obtain ⟨v230, h230, h⟩ := gk_bind h
    refine Gk_sload B hX hb hlo d_Law_law_230 h230 ?_
    obtain ⟨o231, g231, h⟩ := gk_bind h
    obtain ⟨w231, h231, h⟩ := gk_bind h
    refine Gk_callV (As := [.int v210, .int v215, .int v220, .int v225, .int v230]) (rest := [.int w202.1]) (st1 := [.int w231.1, .int w202.1]) (k1 := (k + 3)) (n1 := (n + 38)) B gk_hG d_Law_law_231 (sn_Mo_method h231) g231 cl_Mo tw_951 tw_948 tw_949 tw_950 tw_48 nm_Mo_method rfl (by simp [gk_rc, gk_ic, gk_jc]) ⟨by decide, by decide⟩ ⟨by show (k + 3) + 0 ≤ 600000; omega, by show (n + 38) + 0 ≤ 7302250; omega⟩ rfl rfl rfl rfl ?_
    refine Gk_icmp_eq (tgt := 628) B d_Law_law_234 rfl (fun c234 => ?_) (fun c234 => ?_)
    · rw [if_pos c234] at h
      exact sn_Law_law_628 B hr hX hb hlo hk hn H18 h
    rw [if_neg c234] at h
    refine Gk_iconst (v := 0) B d_Law_law_237 (by decide) ?_
    cases h
  rw [if_neg c33_2] at h
  by_cases c33_3 : (v29 &&& (15 : Int32)) = 3
  · rw [if_pos c33_3] at h
    refine Gk_tabIn (off := 206) (tgt := 239) B d_Law_law_33 (by rw [c33_3]; decide) (by rw [c33_3]; decide) (by rw [c33_3]; rfl) rfl ?_
    refine Gk_aload_n (i := 1) (r := a1) B d_Law_law_239 rfl rfl ?_
    refine Gk_aload_n (i := 0) (r := (some b)) B d_Law_law_240 rfl rfl ?_
    refine Gk_iload_n (i := 3) (x := x3) B d_Law_law_241 rfl rfl ?_
    refine Gk_iconst (v := 1) B d_Law_law_242 (by decide) ?_
    refine Gk_iadd B d_Law_law_243 ?_
    obtain ⟨v244, h244, h⟩ := gk_bind h
    refine Gk_sload B hX hb hlo d_Law_law_244 h244 ?_
    refine Gk_aload_n (i := 0) (r := (some b)) B d_Law_law_245 rfl rfl ?_
    refine Gk_iload_n (i := 3) (x := x3) B d_Law_law_246 rfl rfl ?_
    refine Gk_iconst (v := 2) B d_Law_law_247 (by decide) ?_
    refine Gk_iadd B d_Law_law_248 ?_
    obtain ⟨v249, h249, h⟩ := gk_bind h
    refine Gk_sload B hX hb hlo d_Law_law_249 h249 ?_
    refine Gk_aload_n (i := 0) (r := (some b)) B d_Law_law_250 rfl rfl ?_
    refine Gk_iload_n (i := 3) (x := x3) B d_Law_law_251 rfl rfl ?_
    refine Gk_iconst (v := 3) B d_Law_law_252 (by decide) ?_
    refine Gk_iadd B d_Law_law_253 ?_
    obtain ⟨v254, h254, h⟩ := gk_bind h
    refine Gk_sload B hX hb hlo d_Law_law_254 h254 ?_
    refine Gk_aload_n (i := 0) (r := (some b)) B d_Law_law_255 rfl rfl ?_
    refine Gk_iload_n (i := 3) (x := x3) B d_Law_law_256 rfl rfl ?_
    refine Gk_iconst (v := 4) B d_Law_law_257 (by decide) ?_
    refine Gk_iadd B d_Law_law_258 ?_
    obtain ⟨v259, h259, h⟩ := gk_bind h
    refine Gk_sload B hX hb hlo d_Law_law_259 h259 ?_
    obtain ⟨o260, g260, h⟩ := gk_bind h
    obtain ⟨w260, h260, h⟩ := gk_bind h
    refine Gk_callV (As := [.int v244, .int v249, .int v254, .int v259]) (rest := []) (st1 := [.int w260.1]) (k1 := k) (n1 := n) B gk_hG d_Law_law_260 (sn_SD_detail h260) g260 cl_SD tw_435 tw_432 tw_433 tw_434 tw_40 nm_SD_detail rfl (by decide) ⟨by decide, by decide⟩ ⟨by show k + 0 ≤ 600000; omega, by show n + 0 ≤ 7302250; omega⟩ rfl rfl rfl rfl ?_
    refine Gk_aload_n (i := 2) (r := a2) B d_Law_law_263 rfl rfl ?_
    refine Gk_aload_n (i := 0) (r := (some b)) B d_Law_law_264 rfl rfl ?_
    refine Gk_iload_n (i := 3) (x := x3) B d_Law_law_265 rfl rfl ?_
    refine Gk_iconst (v := 1) B d_Law_law_266 (by decide) ?_
    refine Gk_iadd B d_Law_law_267 ?_
    obtain ⟨v268, h268, h⟩ := gk_bind h
    refine Gk_sload B hX hb hlo d_Law_law_268 h268 ?_
    refine Gk_aload_n (i := 0) (r := (some b)) B d_Law_law_269 rfl rfl ?_
    refine Gk_iload_n (i := 3) (x := x3) B d_Law_law_270 rfl rfl ?_
    refine Gk_iconst (v := 2) B d_Law_law_271 (by decide) ?_
    refine Gk_iadd B d_Law_law_272 ?_
    obtain ⟨v273, h273, h⟩ := gk_bind h
    refine Gk_sload B hX hb hlo d_Law_law_273 h273 ?_
    refine Gk_aload_n (i := 0) (r := (some b)) B d_Law_law_274 rfl rfl ?_
    refine Gk_iload_n (i := 3) (x := x3) B d_Law_law_275 rfl rfl ?_
    refine Gk_iconst (v := 3) B d_Law_law_276 (by decide) ?_
    refine Gk_iadd B d_Law_law_277 ?_
    obtain ⟨v278, h278, h⟩ := gk_bind h
    refine Gk_sload B hX hb hlo d_Law_law_278 h278 ?_
    refine Gk_aload_n (i := 0) (r := (some b)) B d_Law_law_279 rfl rfl ?_
    refine Gk_iload_n (i := 3) (x := x3) B d_Law_law_280 rfl rfl ?_
    refine Gk_iconst (v := 4) B d_Law_law_281 (by decide) ?_
    refine Gk_iadd B d_Law_law_282 ?_
    obtain ⟨v283, h283, h⟩ := gk_bind h
    refine Gk_sload B hX hb hlo d_Law_law_283 h283 ?_
    obtain ⟨o284, g284, h⟩ := gk_bind h
    obtain ⟨w284, h284, h⟩ := gk_bind h
    refine Gk_callV (As := [.int v268, .int v273, .int v278, .int v283]) (rest := [.int w260.1]) (st1 := [.int w284.1, .int w260.1]) (k1 := k) (n1 := n) B gk_hG d_Law_law_284 (sn_Mo_detail h284) g284 cl_Mo tw_961 tw_958 tw_959 tw_960 tw_48 nm_Mo_detail rfl (by simp [gk_rc, gk_ic, gk_jc]) ⟨by decide, by decide⟩ ⟨by show k + 0 ≤ 600000; omega, by show n + 0 ≤ 7302250; omega⟩ rfl rfl rfl rfl ?_
    refine Gk_icmp_eq (tgt := 628) B d_Law_law_287 rfl (fun c287 => ?_) (fun c287 => ?_)
    · rw [if_pos c287] at h
      refine Gk_widen (k' := (k + 3)) (n' := (n + 38)) (by omega) (by omega) ?_
      exact sn_Law_law_628 B hr hX hb hlo hk hn H18 h
    rw [if_neg c287] at h
    refine Gk_iconst (v := 0) B d_Law_law_290 (by decide) ?_
    cases h
  rw [if_neg c33_3] at h
  by_cases c33_4 : (v29 &&& (15 : Int32)) = 4
  · rw [if_pos c33_4] at h
    refine Gk_tabIn (off := 259) (tgt := 292) B d_Law_law_33 (by rw [c33_4]; decide) (by rw [c33_4]; decide) (by rw [c33_4]; rfl) rfl ?_
    refine Gk_aload_n (i := 1) (r := a1) B d_Law_law_292 rfl rfl ?_
    refine Gk_aload_n (i := 0) (r := (some b)) B d_Law_law_293 rfl rfl ?_
    refine Gk_iload_n (i := 3) (x := x3) B d_Law_law_294 rfl rfl ?_
    refine Gk_iconst (v := 1) B d_Law_law_295 (by decide) ?_
    refine Gk_iadd B d_Law_law_296 ?_
    obtain ⟨v297, h297, h⟩ := gk_bind h
    refine Gk_sload B hX hb hlo d_Law_law_297 h297 ?_
    refine Gk_aload_n (i := 0) (r := (some b)) B d_Law_law_298 rfl rfl ?_
    refine Gk_iload_n (i := 3) (x := x3) B d_Law_law_299 rfl rfl ?_
    refine Gk_iconst (v := 2) B d_Law_law_300 (by decide) ?_
    refine Gk_iadd B d_Law_law_301 ?_
    obtain ⟨v302, h302, h⟩ := gk_bind h
    refine Gk_sload B hX hb hlo d_Law_law_302 h302 ?_
    obtain ⟨o303, g303, h⟩ := gk_bind h
    obtain ⟨w303, h303, h⟩ := gk_bind h
    refine Gk_callV (As := [.int v297, .int v302]) (rest := []) (st1 := [.int w303.1]) (k1 := (k + 3)) (n1 := (n + 32)) B gk_hG d_Law_law_303 (sn_SD_locator h303) g303 cl_SD tw_442 tw_439 tw_440 tw_441 tw_40 nm_SD_locator rfl (by decide) ⟨by decide, by decide⟩ ⟨by show k + 3 ≤ 600000; omega, by show n + 32 ≤ 7302250; omega⟩ rfl rfl rfl rfl ?_
    refine Gk_aload_n (i := 2) (r := a2) B d_Law_law_306 rfl rfl ?_
    refine Gk_aload_n (i := 0) (r := (some b)) B d_Law_law_307 rfl rfl ?_
    refine Gk_iload_n (i := 3) (x := x3) B d_Law_law_308 rfl rfl ?_
    refine Gk_iconst (v := 1) B d_Law_law_309 (by decide) ?_
    refine Gk_iadd B d_Law_law_310 ?_
    obtain ⟨v311, h311, h⟩ := gk_bind h
    refine Gk_sload B hX hb hlo d_Law_law_311 h311 ?_
    refine Gk_aload_n (i := 0) (r := (some b)) B d_Law_law_312 rfl rfl ?_
    refine Gk_iload_n (i := 3) (x := x3) B d_Law_law_313 rfl rfl ?_
    refine Gk_iconst (v := 2) B d_Law_law_314 (by decide) ?_
    refine Gk_iadd B d_Law_law_315 ?_
    obtain ⟨v316, h316, h⟩ := gk_bind h
    refine Gk_sload B hX hb hlo d_Law_law_316 h316 ?_
    obtain ⟨o317, g317, h⟩ := gk_bind h
    obtain ⟨w317, h317, h⟩ := gk_bind h
    refine Gk_callV (As := [.int v311, .int v316]) (rest := [.int w303.1]) (st1 := [.int w317.1, .int w303.1]) (k1 := (k + 3)) (n1 := (n + 32)) B gk_hG d_Law_law_317 (sn_Mo_locator h317) g317 cl_Mo tw_965 tw_962 tw_963 tw_964 tw_48 nm_Mo_locator rfl (by simp [gk_rc, gk_ic, gk_jc]) ⟨by decide, by decide⟩ ⟨by show (k + 3) + 0 ≤ 600000; omega, by show (n + 32) + 0 ≤ 7302250; omega⟩ rfl rfl rfl rfl ?_
    refine Gk_icmp_eq (tgt := 628) B d_Law_law_320 rfl (fun c320 => ?_) (fun c320 => ?_)
    · rw [if_pos c320] at h
      refine Gk_widen (k' := (k + 3)) (n' := (n + 38)) (by omega) (by omega) ?_
      exact sn_Law_law_628 B hr hX hb hlo hk hn H18 h
    rw [if_neg c320] at h
    refine Gk_iconst (v := 0) B d_Law_law_323 (by decide) ?_
    cases h
  rw [if_neg c33_4] at h
  by_cases c33_5 : (v29 &&& (15 : Int32)) = 5
  · rw [if_pos c33_5] at h
    refine Gk_tabIn (off := 292) (tgt := 325) B d_Law_law_33 (by rw [c33_5]; decide) (by rw [c33_5]; decide) (by rw [c33_5]; rfl) rfl ?_
    refine Gk_aload_n (i := 1) (r := a1) B d_Law_law_325 rfl rfl ?_
    refine Gk_aload_n (i := 0) (r := (some b)) B d_Law_law_326 rfl rfl ?_
    refine Gk_iload_n (i := 3) (x := x3) B d_Law_law_327 rfl rfl ?_
    refine Gk_iconst (v := 1) B d_Law_law_328 (by decide) ?_
    refine Gk_iadd B d_Law_law_329 ?_
    obtain ⟨v330, h330, h⟩ := gk_bind h
    refine Gk_sload B hX hb hlo d_Law_law_330 h330 ?_
    refine Gk_aload_n (i := 0) (r := (some b)) B d_Law_law_331 rfl rfl ?_
    refine Gk_iload_n (i := 3) (x := x3) B d_Law_law_332 rfl rfl ?_
    refine Gk_iconst (v := 2) B d_Law_law_333 (by decide) ?_
    refine Gk_iadd B d_Law_law_334 ?_
    obtain ⟨v335, h335, h⟩ := gk_bind h
    refine Gk_sload B hX hb hlo d_Law_law_335 h335 ?_
    refine Gk_aload_n (i := 0) (r := (some b)) B d_Law_law_336 rfl rfl ?_
    refine Gk_iload_n (i := 3) (x := x3) B d_Law_law_337 rfl rfl ?_
    refine Gk_iconst (v := 3) B d_Law_law_338 (by decide) ?_
    refine Gk_iadd B d_Law_law_339 ?_
    obtain ⟨v340, h340, h⟩ := gk_bind h
    refine Gk_sload B hX hb hlo d_Law_law_340 h340 ?_
    refine Gk_aload_n (i := 0) (r := (some b)) B d_Law_law_341 rfl rfl ?_
    refine Gk_iload_n (i := 3) (x := x3) B d_Law_law_342 rfl rfl ?_
    refine Gk_iconst (v := 4) B d_Law_law_343 (by decide) ?_
    refine Gk_iadd B d_Law_law_344 ?_
    obtain ⟨v345, h345, h⟩ := gk_bind h
    refine Gk_sload B hX hb hlo d_Law_law_345 h345 ?_
    refine Gk_aload_n (i := 0) (r := (some b)) B d_Law_law_346 rfl rfl ?_
    refine Gk_iload_n (i := 3) (x := x3) B d_Law_law_347 rfl rfl ?_
    refine Gk_iconst (v := 5) B d_Law_law_348 (by decide) ?_
    refine Gk_iadd B d_Law_law_349 ?_
    obtain ⟨v350, h350, h⟩ := gk_bind h
    refine Gk_sload B hX hb hlo d_Law_law_350 h350 ?_
    obtain ⟨o351, g351, h⟩ := gk_bind h
    obtain ⟨w351, h351, h⟩ := gk_bind h
    refine Gk_callV (As := [.int v330, .int v335, .int v340, .int v345, .int v350]) (rest := []) (st1 := [.int w351.1]) (k1 := (k + 1)) (n1 := (n + 5)) B gk_hG d_Law_law_351 (sn_SD_filter h351) g351 cl_SD tw_473 tw_470 tw_471 tw_472 tw_40 nm_SD_filter rfl (by decide) ⟨by decide, by decide⟩ ⟨by show k + 1 ≤ 600000; omega, by show n + 5 ≤ 7302250; omega⟩ rfl rfl rfl rfl ?_
    refine Gk_aload_n (i := 2) (r := a2) B d_Law_law_354 rfl rfl ?_
    refine Gk_aload_n (i := 0) (r := (some b)) B d_Law_law_355 rfl rfl ?_
    refine Gk_iload_n (i := 3) (x := x3) B d_Law_law_356 rfl rfl ?_
    refine Gk_iconst (v := 1) B d_Law_law_357 (by decide) ?_
    refine Gk_iadd B d_Law_law_358 ?_
    obtain ⟨v359, h359, h⟩ := gk_bind h
    refine Gk_sload B hX hb hlo d_Law_law_359 h359 ?_
    refine Gk_aload_n (i := 0) (r := (some b)) B d_Law_law_360 rfl rfl ?_
    refine Gk_iload_n (i := 3) (x := x3) B d_Law_law_361 rfl rfl ?_
    refine Gk_iconst (v := 2) B d_Law_law_362 (by decide) ?_
    refine Gk_iadd B d_Law_law_363 ?_
    obtain ⟨v364, h364, h⟩ := gk_bind h
    refine Gk_sload B hX hb hlo d_Law_law_364 h364 ?_
    refine Gk_aload_n (i := 0) (r := (some b)) B d_Law_law_365 rfl rfl ?_
    refine Gk_iload_n (i := 3) (x := x3) B d_Law_law_366 rfl rfl ?_
    refine Gk_iconst (v := 3) B d_Law_law_367 (by decide) ?_
    refine Gk_iadd B d_Law_law_368 ?_
    obtain ⟨v369, h369, h⟩ := gk_bind h
    refine Gk_sload B hX hb hlo d_Law_law_369 h369 ?_
    refine Gk_aload_n (i := 0) (r := (some b)) B d_Law_law_370 rfl rfl ?_
    refine Gk_iload_n (i := 3) (x := x3) B d_Law_law_371 rfl rfl ?_
    refine Gk_iconst (v := 4) B d_Law_law_372 (by decide) ?_
    refine Gk_iadd B d_Law_law_373 ?_
    obtain ⟨v374, h374, h⟩ := gk_bind h
    refine Gk_sload B hX hb hlo d_Law_law_374 h374 ?_
    refine Gk_aload_n (i := 0) (r := (some b)) B d_Law_law_375 rfl rfl ?_
    refine Gk_iload_n (i := 3) (x := x3) B d_Law_law_376 rfl rfl ?_
    refine Gk_iconst (v := 5) B d_Law_law_377 (by decide) ?_
    refine Gk_iadd B d_Law_law_378 ?_
    obtain ⟨v379, h379, h⟩ := gk_bind h
    refine Gk_sload B hX hb hlo d_Law_law_379 h379 ?_
    obtain ⟨o380, g380, h⟩ := gk_bind h
    obtain ⟨w380, h380, h⟩ := gk_bind h
    refine Gk_callV (As := [.int v359, .int v364, .int v369, .int v374, .int v379]) (rest := [.int w351.1]) (st1 := [.int w380.1, .int w351.1]) (k1 := (k + 1)) (n1 := (n + 5)) B gk_hG d_Law_law_380 (sn_Mo_filter h380) g380 cl_Mo tw_969 tw_966 tw_967 tw_968 tw_48 nm_Mo_filter rfl (by simp [gk_rc, gk_ic, gk_jc]) ⟨by decide, by decide⟩ ⟨by show (k + 1) + 0 ≤ 600000; omega, by show (n + 5) + 0 ≤ 7302250; omega⟩ rfl rfl rfl rfl ?_
    refine Gk_icmp_eq (tgt := 628) B d_Law_law_383 rfl (fun c383 => ?_) (fun c383 => ?_)
    · rw [if_pos c383] at h
      refine Gk_widen (k' := (k + 3)) (n' := (n + 38)) (by omega) (by omega) ?_
      exact sn_Law_law_628 B hr hX hb hlo hk hn H18 h
    rw [if_neg c383] at h
    refine Gk_iconst (v := 0) B d_Law_law_386 (by decide) ?_
    cases h
  rw [if_neg c33_5] at h
  by_cases c33_6 : (v29 &&& (15 : Int32)) = 6
  · rw [if_pos c33_6] at h
    refine Gk_tabIn (off := 355) (tgt := 388) B d_Law_law_33 (by rw [c33_6]; decide) (by rw [c33_6]; decide) (by rw [c33_6]; rfl) rfl ?_
    refine Gk_aload_n (i := 1) (r := a1) B d_Law_law_388 rfl rfl ?_
    refine Gk_aload_n (i := 0) (r := (some b)) B d_Law_law_389 rfl rfl ?_
    refine Gk_iload_n (i := 3) (x := x3) B d_Law_law_390 rfl rfl ?_
    refine Gk_iconst (v := 1) B d_Law_law_391 (by decide) ?_
    refine Gk_iadd B d_Law_law_392 ?_
    obtain ⟨v393, h393, h⟩ := gk_bind h
    refine Gk_sload B hX hb hlo d_Law_law_393 h393 ?_
    refine Gk_aload_n (i := 0) (r := (some b)) B d_Law_law_394 rfl rfl ?_
    refine Gk_iload_n (i := 3) (x := x3) B d_Law_law_395 rfl rfl ?_
    refine Gk_iconst (v := 2) B d_Law_law_396 (by decide) ?_
    refine Gk_iadd B d_Law_law_397 ?_
    obtain ⟨v398, h398, h⟩ := gk_bind h
    refine Gk_sload B hX hb hlo d_Law_law_398 h398 ?_
    obtain ⟨o399, g399, h⟩ := gk_bind h
    obtain ⟨w399, h399, h⟩ := gk_bind h
    refine Gk_callV (As := [.int v393, .int v398]) (rest := []) (st1 := [.int w399.1]) (k1 := k) (n1 := n) B gk_hG d_Law_law_399 (sn_SD_mapper h399) g399 cl_SD tw_511 tw_508 tw_509 tw_510 tw_40 nm_SD_mapper rfl (by decide) ⟨by decide, by decide⟩ ⟨by show k + 0 ≤ 600000; omega, by show n + 0 ≤ 7302250; omega⟩ rfl rfl rfl rfl ?_
    refine Gk_aload_n (i := 2) (r := a2) B d_Law_law_402 rfl rfl ?_
    refine Gk_aload_n (i := 0) (r := (some b)) B d_Law_law_403 rfl rfl ?_
    refine Gk_iload_n (i := 3) (x := x3) B d_Law_law_404 rfl rfl ?_
    refine Gk_iconst (v := 1) B d_Law_law_405 (by decide) ?_
    refine Gk_iadd B d_Law_law_406 ?_
    obtain ⟨v407, h407, h⟩ := gk_bind h
    refine Gk_sload B hX hb hlo d_Law_law_407 h407 ?_
    refine Gk_aload_n (i := 0) (r := (some b)) B d_Law_law_408 rfl rfl ?_
    refine Gk_iload_n (i := 3) (x := x3) B d_Law_law_409 rfl rfl ?_
    refine Gk_iconst (v := 2) B d_Law_law_410 (by decide) ?_
    refine Gk_iadd B d_Law_law_411 ?_
    obtain ⟨v412, h412, h⟩ := gk_bind h
    refine Gk_sload B hX hb hlo d_Law_law_412 h412 ?_
    obtain ⟨o413, g413, h⟩ := gk_bind h
    obtain ⟨w413, h413, h⟩ := gk_bind h
    refine Gk_callV (As := [.int v407, .int v412]) (rest := [.int w399.1]) (st1 := [.int w413.1, .int w399.1]) (k1 := k) (n1 := n) B gk_hG d_Law_law_413 (sn_Mo_mapper h413) g413 cl_Mo tw_973 tw_970 tw_971 tw_972 tw_48 nm_Mo_mapper rfl (by simp [gk_rc, gk_ic, gk_jc]) ⟨by decide, by decide⟩ ⟨by show k + 0 ≤ 600000; omega, by show n + 0 ≤ 7302250; omega⟩ rfl rfl rfl rfl ?_
    refine Gk_icmp_eq (tgt := 628) B d_Law_law_416 rfl (fun c416 => ?_) (fun c416 => ?_)
    · rw [if_pos c416] at h
      refine Gk_widen (k' := (k + 3)) (n' := (n + 38)) (by omega) (by omega) ?_
      exact sn_Law_law_628 B hr hX hb hlo hk hn H18 h
    rw [if_neg c416] at h
    refine Gk_iconst (v := 0) B d_Law_law_419 (by decide) ?_
    cases h
  rw [if_neg c33_6] at h
  by_cases c33_7 : (v29 &&& (15 : Int32)) = 7
  · rw [if_pos c33_7] at h
    refine Gk_tabIn (off := 388) (tgt := 421) B d_Law_law_33 (by rw [c33_7]; decide) (by rw [c33_7]; decide) (by rw [c33_7]; rfl) rfl ?_
    refine Gk_aload_n (i := 1) (r := a1) B d_Law_law_421 rfl rfl ?_
    refine Gk_aload_n (i := 0) (r := (some b)) B d_Law_law_422 rfl rfl ?_
    refine Gk_iload_n (i := 3) (x := x3) B d_Law_law_423 rfl rfl ?_
    refine Gk_iconst (v := 1) B d_Law_law_424 (by decide) ?_
    refine Gk_iadd B d_Law_law_425 ?_
    obtain ⟨v426, h426, h⟩ := gk_bind h
    refine Gk_sload B hX hb hlo d_Law_law_426 h426 ?_
    refine Gk_aload_n (i := 0) (r := (some b)) B d_Law_law_427 rfl rfl ?_
    refine Gk_iload_n (i := 3) (x := x3) B d_Law_law_428 rfl rfl ?_
    refine Gk_iconst (v := 2) B d_Law_law_429 (by decide) ?_
    refine Gk_iadd B d_Law_law_430 ?_
    obtain ⟨v431, h431, h⟩ := gk_bind h
    refine Gk_sload B hX hb hlo d_Law_law_431 h431 ?_
    obtain ⟨o432, g432, h⟩ := gk_bind h
    obtain ⟨w432, h432, h⟩ := gk_bind h
    refine Gk_callV (As := [.int v426, .int v431]) (rest := []) (st1 := [.int w432.1]) (k1 := k) (n1 := n) B gk_hG d_Law_law_432 (sn_SD_accept h432) g432 cl_SD tw_515 tw_512 tw_513 tw_514 tw_40 nm_SD_accept rfl (by decide) ⟨by decide, by decide⟩ ⟨by show k + 0 ≤ 600000; omega, by show n + 0 ≤ 7302250; omega⟩ rfl rfl rfl rfl ?_
    refine Gk_aload_n (i := 2) (r := a2) B d_Law_law_435 rfl rfl ?_
    refine Gk_aload_n (i := 0) (r := (some b)) B d_Law_law_436 rfl rfl ?_
    refine Gk_iload_n (i := 3) (x := x3) B d_Law_law_437 rfl rfl ?_
    refine Gk_iconst (v := 1) B d_Law_law_438 (by decide) ?_
    refine Gk_iadd B d_Law_law_439 ?_
    obtain ⟨v440, h440, h⟩ := gk_bind h
    refine Gk_sload B hX hb hlo d_Law_law_440 h440 ?_
    refine Gk_aload_n (i := 0) (r := (some b)) B d_Law_law_441 rfl rfl ?_
    refine Gk_iload_n (i := 3) (x := x3) B d_Law_law_442 rfl rfl ?_
    refine Gk_iconst (v := 2) B d_Law_law_443 (by decide) ?_
    refine Gk_iadd B d_Law_law_444 ?_
    obtain ⟨v445, h445, h⟩ := gk_bind h
    refine Gk_sload B hX hb hlo d_Law_law_445 h445 ?_
    obtain ⟨o446, g446, h⟩ := gk_bind h
    obtain ⟨w446, h446, h⟩ := gk_bind h
    refine Gk_callV (As := [.int v440, .int v445]) (rest := [.int w432.1]) (st1 := [.int w446.1, .int w432.1]) (k1 := k) (n1 := n) B gk_hG d_Law_law_446 (sn_Mo_accept h446) g446 cl_Mo tw_977 tw_974 tw_975 tw_976 tw_48 nm_Mo_accept rfl (by simp [gk_rc, gk_ic, gk_jc]) ⟨by decide, by decide⟩ ⟨by show k + 0 ≤ 600000; omega, by show n + 0 ≤ 7302250; omega⟩ rfl rfl rfl rfl ?_
    refine Gk_icmp_eq (tgt := 628) B d_Law_law_449 rfl (fun c449 => ?_) (fun c449 => ?_)
    · rw [if_pos c449] at h
      refine Gk_widen (k' := (k + 3)) (n' := (n + 38)) (by omega) (by omega) ?_
      exact sn_Law_law_628 B hr hX hb hlo hk hn H18 h
    rw [if_neg c449] at h
    refine Gk_iconst (v := 0) B d_Law_law_452 (by decide) ?_
    cases h
  rw [if_neg c33_7] at h
  by_cases c33_8 : (v29 &&& (15 : Int32)) = 8
  · rw [if_pos c33_8] at h
    refine Gk_tabIn (off := 421) (tgt := 454) B d_Law_law_33 (by rw [c33_8]; decide) (by rw [c33_8]; decide) (by rw [c33_8]; rfl) rfl ?_
    refine Gk_aload_n (i := 1) (r := a1) B d_Law_law_454 rfl rfl ?_
    refine Gk_aload_n (i := 0) (r := (some b)) B d_Law_law_455 rfl rfl ?_
    refine Gk_iload_n (i := 3) (x := x3) B d_Law_law_456 rfl rfl ?_
    refine Gk_iconst (v := 1) B d_Law_law_457 (by decide) ?_
    refine Gk_iadd B d_Law_law_458 ?_
    obtain ⟨v459, h459, h⟩ := gk_bind h
    refine Gk_sload B hX hb hlo d_Law_law_459 h459 ?_
    refine Gk_aload_n (i := 0) (r := (some b)) B d_Law_law_460 rfl rfl ?_
    refine Gk_iload_n (i := 3) (x := x3) B d_Law_law_461 rfl rfl ?_
    refine Gk_iconst (v := 2) B d_Law_law_462 (by decide) ?_
    refine Gk_iadd B d_Law_law_463 ?_
    obtain ⟨v464, h464, h⟩ := gk_bind h
    refine Gk_sload B hX hb hlo d_Law_law_464 h464 ?_
    refine Gk_aload_n (i := 0) (r := (some b)) B d_Law_law_465 rfl rfl ?_
    refine Gk_iload_n (i := 3) (x := x3) B d_Law_law_466 rfl rfl ?_
    refine Gk_iconst (v := 3) B d_Law_law_467 (by decide) ?_
    refine Gk_iadd B d_Law_law_468 ?_
    obtain ⟨v469, h469, h⟩ := gk_bind h
    refine Gk_sload B hX hb hlo d_Law_law_469 h469 ?_
    obtain ⟨o470, g470, h⟩ := gk_bind h
    obtain ⟨w470, h470, h⟩ := gk_bind h
    refine Gk_callV (As := [.int v459, .int v464, .int v469]) (rest := []) (st1 := [.int w470.1]) (k1 := k) (n1 := n) B gk_hG d_Law_law_470 (sn_SD_request h470) g470 cl_SD tw_523 tw_520 tw_521 tw_522 tw_40 nm_SD_request rfl (by decide) ⟨by decide, by decide⟩ ⟨by show k + 0 ≤ 600000; omega, by show n + 0 ≤ 7302250; omega⟩ rfl rfl rfl rfl ?_
    refine Gk_aload_n (i := 2) (r := a2) B d_Law_law_473 rfl rfl ?_
    refine Gk_aload_n (i := 0) (r := (some b)) B d_Law_law_474 rfl rfl ?_
    refine Gk_iload_n (i := 3) (x := x3) B d_Law_law_475 rfl rfl ?_
    refine Gk_iconst (v := 1) B d_Law_law_476 (by decide) ?_
    refine Gk_iadd B d_Law_law_477 ?_
    obtain ⟨v478, h478, h⟩ := gk_bind h
    refine Gk_sload B hX hb hlo d_Law_law_478 h478 ?_
    refine Gk_aload_n (i := 0) (r := (some b)) B d_Law_law_479 rfl rfl ?_
    refine Gk_iload_n (i := 3) (x := x3) B d_Law_law_480 rfl rfl ?_
    refine Gk_iconst (v := 2) B d_Law_law_481 (by decide) ?_
    refine Gk_iadd B d_Law_law_482 ?_
    obtain ⟨v483, h483, h⟩ := gk_bind h
    refine Gk_sload B hX hb hlo d_Law_law_483 h483 ?_
    refine Gk_aload_n (i := 0) (r := (some b)) B d_Law_law_484 rfl rfl ?_
    refine Gk_iload_n (i := 3) (x := x3) B d_Law_law_485 rfl rfl ?_
    refine Gk_iconst (v := 3) B d_Law_law_486 (by decide) ?_
    refine Gk_iadd B d_Law_law_487 ?_
    obtain ⟨v488, h488, h⟩ := gk_bind h
    refine Gk_sload B hX hb hlo d_Law_law_488 h488 ?_
    obtain ⟨o489, g489, h⟩ := gk_bind h
    obtain ⟨w489, h489, h⟩ := gk_bind h
    refine Gk_callV (As := [.int v478, .int v483, .int v488]) (rest := [.int w470.1]) (st1 := [.int w489.1, .int w470.1]) (k1 := k) (n1 := n) B gk_hG d_Law_law_489 (sn_Mo_request h489) g489 cl_Mo tw_981 tw_978 tw_979 tw_980 tw_48 nm_Mo_request rfl (by simp [gk_rc, gk_ic, gk_jc]) ⟨by decide, by decide⟩ ⟨by show k + 0 ≤ 600000; omega, by show n + 0 ≤ 7302250; omega⟩ rfl rfl rfl rfl ?_
    refine Gk_icmp_eq (tgt := 628) B d_Law_law_492 rfl (fun c492 => ?_) (fun c492 => ?_)
    · rw [if_pos c492] at h
      refine Gk_widen (k' := (k + 3)) (n' := (n + 38)) (by omega) (by omega) ?_
      exact sn_Law_law_628 B hr hX hb hlo hk hn H18 h
    rw [if_neg c492] at h
    refine Gk_iconst (v := 0) B d_Law_law_495 (by decide) ?_
    cases h
  rw [if_neg c33_8] at h
  by_cases c33_9 : (v29 &&& (15 : Int32)) = 9
  · rw [if_pos c33_9] at h
    refine Gk_tabIn (off := 464) (tgt := 497) B d_Law_law_33 (by rw [c33_9]; decide) (by rw [c33_9]; decide) (by rw [c33_9]; rfl) rfl ?_
    refine Gk_aload_n (i := 1) (r := a1) B d_Law_law_497 rfl rfl ?_
    obtain ⟨o498, g498, h⟩ := gk_bind h
    obtain ⟨w498, h498, h⟩ := gk_bind h
    refine Gk_callV (As := []) (rest := []) (st1 := [.int w498.1]) (k1 := k) (n1 := n) B gk_hG d_Law_law_498 (sn_SD_invoked h498) g498 cl_SD tw_724 tw_721 tw_722 tw_723 tw_40 nm_SD_invoked rfl (by decide) ⟨by decide, by decide⟩ ⟨by show k + 0 ≤ 600000; omega, by show n + 0 ≤ 7302250; omega⟩ rfl rfl rfl rfl ?_
    refine Gk_aload_n (i := 2) (r := a2) B d_Law_law_501 rfl rfl ?_
    obtain ⟨o502, g502, h⟩ := gk_bind h
    obtain ⟨w502, h502, h⟩ := gk_bind h
    refine Gk_callV (As := []) (rest := [.int w498.1]) (st1 := [.int w502.1, .int w498.1]) (k1 := k) (n1 := n) B gk_hG d_Law_law_502 (sn_Mo_invoked h502) g502 cl_Mo tw_1096 tw_1093 tw_1094 tw_1095 tw_48 nm_Mo_invoked rfl (by simp [gk_rc, gk_ic, gk_jc]) ⟨by decide, by decide⟩ ⟨by show k + 0 ≤ 600000; omega, by show n + 0 ≤ 7302250; omega⟩ rfl rfl rfl rfl ?_
    refine Gk_icmp_eq (tgt := 628) B d_Law_law_505 rfl (fun c505 => ?_) (fun c505 => ?_)
    · rw [if_pos c505] at h
      refine Gk_widen (k' := (k + 3)) (n' := (n + 38)) (by omega) (by omega) ?_
      exact sn_Law_law_628 B hr hX hb hlo hk hn H18 h
    rw [if_neg c505] at h
    refine Gk_iconst (v := 0) B d_Law_law_508 (by decide) ?_
    cases h
  rw [if_neg c33_9] at h
  by_cases c33_10 : (v29 &&& (15 : Int32)) = 10
  · rw [if_pos c33_10] at h
    refine Gk_tabIn (off := 477) (tgt := 510) B d_Law_law_33 (by rw [c33_10]; decide) (by rw [c33_10]; decide) (by rw [c33_10]; rfl) rfl ?_
    refine Gk_aload_n (i := 1) (r := a1) B d_Law_law_510 rfl rfl ?_
    obtain ⟨o511, g511, h⟩ := gk_bind h
    obtain ⟨w511, h511, h⟩ := gk_bind h
    refine Gk_callV (As := []) (rest := []) (st1 := [.int w511.1]) (k1 := k) (n1 := n) B gk_hG d_Law_law_511 (sn_SD_argument h511) g511 cl_SD tw_728 tw_725 tw_726 tw_727 tw_40 nm_SD_argument rfl (by decide) ⟨by decide, by decide⟩ ⟨by show k + 0 ≤ 600000; omega, by show n + 0 ≤ 7302250; omega⟩ rfl rfl rfl rfl ?_
    refine Gk_aload_n (i := 2) (r := a2) B d_Law_law_514 rfl rfl ?_
    obtain ⟨o515, g515, h⟩ := gk_bind h
    obtain ⟨w515, h515, h⟩ := gk_bind h
    refine Gk_callV (As := []) (rest := [.int w511.1]) (st1 := [.int w515.1, .int w511.1]) (k1 := k) (n1 := n) B gk_hG d_Law_law_515 (sn_Mo_argument h515) g515 cl_Mo tw_1100 tw_1097 tw_1098 tw_1099 tw_48 nm_Mo_argument rfl (by simp [gk_rc, gk_ic, gk_jc]) ⟨by decide, by decide⟩ ⟨by show k + 0 ≤ 600000; omega, by show n + 0 ≤ 7302250; omega⟩ rfl rfl rfl rfl ?_
    refine Gk_icmp_eq (tgt := 628) B d_Law_law_518 rfl (fun c518 => ?_) (fun c518 => ?_)
    · rw [if_pos c518] at h
      refine Gk_widen (k' := (k + 3)) (n' := (n + 38)) (by omega) (by omega) ?_
      exact sn_Law_law_628 B hr hX hb hlo hk hn H18 h
    rw [if_neg c518] at h
    refine Gk_iconst (v := 0) B d_Law_law_521 (by decide) ?_
    cases h
  rw [if_neg c33_10] at h
  by_cases c33_11 : (v29 &&& (15 : Int32)) = 11
  · rw [if_pos c33_11] at h
    refine Gk_tabIn (off := 490) (tgt := 523) B d_Law_law_33 (by rw [c33_11]; decide) (by rw [c33_11]; decide) (by rw [c33_11]; rfl) rfl ?_
    refine Gk_aload_n (i := 1) (r := a1) B d_Law_law_523 rfl rfl ?_
    refine Gk_aload_n (i := 0) (r := (some b)) B d_Law_law_524 rfl rfl ?_
    refine Gk_iload_n (i := 3) (x := x3) B d_Law_law_525 rfl rfl ?_
    refine Gk_iconst (v := 1) B d_Law_law_526 (by decide) ?_
    refine Gk_iadd B d_Law_law_527 ?_
    obtain ⟨v528, h528, h⟩ := gk_bind h
    refine Gk_sload B hX hb hlo d_Law_law_528 h528 ?_
    obtain ⟨o529, g529, h⟩ := gk_bind h
    obtain ⟨w529, h529, h⟩ := gk_bind h
    refine Gk_callV (As := [.int v528]) (rest := []) (st1 := [.int w529.1]) (k1 := k) (n1 := n) B gk_hG d_Law_law_529 (sn_SD_hop h529) g529 cl_SD tw_732 tw_729 tw_730 tw_731 tw_40 nm_SD_hop rfl (by decide) ⟨by decide, by decide⟩ ⟨by show k + 0 ≤ 600000; omega, by show n + 0 ≤ 7302250; omega⟩ rfl rfl rfl rfl ?_
    refine Gk_aload_n (i := 2) (r := a2) B d_Law_law_532 rfl rfl ?_
    refine Gk_aload_n (i := 0) (r := (some b)) B d_Law_law_533 rfl rfl ?_
    refine Gk_iload_n (i := 3) (x := x3) B d_Law_law_534 rfl rfl ?_
    refine Gk_iconst (v := 1) B d_Law_law_535 (by decide) ?_
    refine Gk_iadd B d_Law_law_536 ?_
    obtain ⟨v537, h537, h⟩ := gk_bind h
    refine Gk_sload B hX hb hlo d_Law_law_537 h537 ?_
    obtain ⟨o538, g538, h⟩ := gk_bind h
    obtain ⟨w538, h538, h⟩ := gk_bind h
    refine Gk_callV (As := [.int v537]) (rest := [.int w529.1]) (st1 := [.int w538.1, .int w529.1]) (k1 := k) (n1 := n) B gk_hG d_Law_law_538 (sn_Mo_hop h538) g538 cl_Mo tw_1104 tw_1101 tw_1102 tw_1103 tw_48 nm_Mo_hop rfl (by simp [gk_rc, gk_ic, gk_jc]) ⟨by decide, by decide⟩ ⟨by show k + 0 ≤ 600000; omega, by show n + 0 ≤ 7302250; omega⟩ rfl rfl rfl rfl ?_
    refine Gk_icmp_eq (tgt := 628) B d_Law_law_541 rfl (fun c541 => ?_) (fun c541 => ?_)
    · rw [if_pos c541] at h
      refine Gk_widen (k' := (k + 3)) (n' := (n + 38)) (by omega) (by omega) ?_
      exact sn_Law_law_628 B hr hX hb hlo hk hn H18 h
    rw [if_neg c541] at h
    refine Gk_iconst (v := 0) B d_Law_law_544 (by decide) ?_
    cases h
  rw [if_neg c33_11] at h
  by_cases c33_12 : (v29 &&& (15 : Int32)) = 12
  · rw [if_pos c33_12] at h
    refine Gk_tabIn (off := 513) (tgt := 546) B d_Law_law_33 (by rw [c33_12]; decide) (by rw [c33_12]; decide) (by rw [c33_12]; rfl) rfl ?_
    refine Gk_aload_n (i := 1) (r := a1) B d_Law_law_546 rfl rfl ?_
    refine Gk_aload_n (i := 0) (r := (some b)) B d_Law_law_547 rfl rfl ?_
    refine Gk_iload_n (i := 3) (x := x3) B d_Law_law_548 rfl rfl ?_
    refine Gk_iconst (v := 1) B d_Law_law_549 (by decide) ?_
    refine Gk_iadd B d_Law_law_550 ?_
    obtain ⟨v551, h551, h⟩ := gk_bind h
    refine Gk_sload B hX hb hlo d_Law_law_551 h551 ?_
    refine Gk_aload_n (i := 0) (r := (some b)) B d_Law_law_552 rfl rfl ?_
    refine Gk_iload_n (i := 3) (x := x3) B d_Law_law_553 rfl rfl ?_
    refine Gk_iconst (v := 2) B d_Law_law_554 (by decide) ?_
    refine Gk_iadd B d_Law_law_555 ?_
    obtain ⟨v556, h556, h⟩ := gk_bind h
    refine Gk_sload B hX hb hlo d_Law_law_556 h556 ?_
    obtain ⟨o557, g557, h⟩ := gk_bind h
    obtain ⟨w557, h557, h⟩ := gk_bind h
    refine Gk_callV (As := [.int v551, .int v556]) (rest := []) (st1 := [.int w557.1]) (k1 := k) (n1 := n) B gk_hG d_Law_law_557 (sn_SD_parameter h557) g557 cl_SD tw_736 tw_733 tw_734 tw_735 tw_40 nm_SD_parameter rfl (by decide) ⟨by decide, by decide⟩ ⟨by show k + 0 ≤ 600000; omega, by show n + 0 ≤ 7302250; omega⟩ rfl rfl rfl rfl ?_
    refine Gk_aload_n (i := 2) (r := a2) B d_Law_law_560 rfl rfl ?_
    refine Gk_aload_n (i := 0) (r := (some b)) B d_Law_law_561 rfl rfl ?_
    refine Gk_iload_n (i := 3) (x := x3) B d_Law_law_562 rfl rfl ?_
    refine Gk_iconst (v := 1) B d_Law_law_563 (by decide) ?_
    refine Gk_iadd B d_Law_law_564 ?_
    obtain ⟨v565, h565, h⟩ := gk_bind h
    refine Gk_sload B hX hb hlo d_Law_law_565 h565 ?_
    refine Gk_aload_n (i := 0) (r := (some b)) B d_Law_law_566 rfl rfl ?_
    refine Gk_iload_n (i := 3) (x := x3) B d_Law_law_567 rfl rfl ?_
    refine Gk_iconst (v := 2) B d_Law_law_568 (by decide) ?_
    refine Gk_iadd B d_Law_law_569 ?_
    obtain ⟨v570, h570, h⟩ := gk_bind h
    refine Gk_sload B hX hb hlo d_Law_law_570 h570 ?_
    obtain ⟨o571, g571, h⟩ := gk_bind h
    obtain ⟨w571, h571, h⟩ := gk_bind h
    refine Gk_callV (As := [.int v565, .int v570]) (rest := [.int w557.1]) (st1 := [.int w571.1, .int w557.1]) (k1 := k) (n1 := n) B gk_hG d_Law_law_571 (sn_Mo_parameter h571) g571 cl_Mo tw_1108 tw_1105 tw_1106 tw_1107 tw_48 nm_Mo_parameter rfl (by simp [gk_rc, gk_ic, gk_jc]) ⟨by decide, by decide⟩ ⟨by show k + 0 ≤ 600000; omega, by show n + 0 ≤ 7302250; omega⟩ rfl rfl rfl rfl ?_
    refine Gk_icmp_eq (tgt := 628) B d_Law_law_574 rfl (fun c574 => ?_) (fun c574 => ?_)
    · rw [if_pos c574] at h
      refine Gk_widen (k' := (k + 3)) (n' := (n + 38)) (by omega) (by omega) ?_
      exact sn_Law_law_628 B hr hX hb hlo hk hn H18 h
    rw [if_neg c574] at h
    refine Gk_iconst (v := 0) B d_Law_law_577 (by decide) ?_
    cases h
  rw [if_neg c33_12] at h
  by_cases c33_13 : (v29 &&& (15 : Int32)) = 13
  · rw [if_pos c33_13] at h
    refine Gk_tabIn (off := 546) (tgt := 579) B d_Law_law_33 (by rw [c33_13]; decide) (by rw [c33_13]; decide) (by rw [c33_13]; rfl) rfl ?_
    refine Gk_aload_n (i := 1) (r := a1) B d_Law_law_579 rfl rfl ?_
    obtain ⟨o580, g580, h⟩ := gk_bind h
    obtain ⟨w580, h580, h⟩ := gk_bind h
    refine Gk_callV (As := []) (rest := []) (st1 := [.int w580.1]) (k1 := k) (n1 := n) B gk_hG d_Law_law_580 (sn_SD_allowed h580) g580 cl_SD tw_740 tw_737 tw_738 tw_739 tw_40 nm_SD_allowed rfl (by decide) ⟨by decide, by decide⟩ ⟨by show k + 0 ≤ 600000; omega, by show n + 0 ≤ 7302250; omega⟩ rfl rfl rfl rfl ?_
    refine Gk_aload_n (i := 2) (r := a2) B d_Law_law_583 rfl rfl ?_
    obtain ⟨o584, g584, h⟩ := gk_bind h
    obtain ⟨w584, h584, h⟩ := gk_bind h
    refine Gk_callV (As := []) (rest := [.int w580.1]) (st1 := [.int w584.1, .int w580.1]) (k1 := k) (n1 := n) B gk_hG d_Law_law_584 (sn_Mo_allowed h584) g584 cl_Mo tw_1112 tw_1109 tw_1110 tw_1111 tw_48 nm_Mo_allowed rfl (by simp [gk_rc, gk_ic, gk_jc]) ⟨by decide, by decide⟩ ⟨by show k + 0 ≤ 600000; omega, by show n + 0 ≤ 7302250; omega⟩ rfl rfl rfl rfl ?_
    refine Gk_icmp_eq (tgt := 628) B d_Law_law_587 rfl (fun c587 => ?_) (fun c587 => ?_)
    · rw [if_pos c587] at h
      refine Gk_widen (k' := (k + 3)) (n' := (n + 38)) (by omega) (by omega) ?_
      exact sn_Law_law_628 B hr hX hb hlo hk hn H18 h
    rw [if_neg c587] at h
    refine Gk_iconst (v := 0) B d_Law_law_590 (by decide) ?_
    cases h
  rw [if_neg c33_13] at h
  by_cases c33_14 : (v29 &&& (15 : Int32)) = 14
  · rw [if_pos c33_14] at h
    refine Gk_tabIn (off := 559) (tgt := 592) B d_Law_law_33 (by rw [c33_14]; decide) (by rw [c33_14]; decide) (by rw [c33_14]; rfl) rfl ?_
    refine Gk_aload_n (i := 1) (r := a1) B d_Law_law_592 rfl rfl ?_
    obtain ⟨o593, g593, h⟩ := gk_bind h
    obtain ⟨w593, h593, h⟩ := gk_bind h
    refine Gk_callV (As := []) (rest := []) (st1 := [.int w593.1]) (k1 := k) (n1 := n) B gk_hG d_Law_law_593 (sn_SD_produced h593) g593 cl_SD tw_744 tw_741 tw_742 tw_743 tw_40 nm_SD_produced rfl (by decide) ⟨by decide, by decide⟩ ⟨by show k + 0 ≤ 600000; omega, by show n + 0 ≤ 7302250; omega⟩ rfl rfl rfl rfl ?_
    refine Gk_aload_n (i := 2) (r := a2) B d_Law_law_596 rfl rfl ?_
    obtain ⟨o597, g597, h⟩ := gk_bind h
    obtain ⟨w597, h597, h⟩ := gk_bind h
    refine Gk_callV (As := []) (rest := [.int w593.1]) (st1 := [.int w597.1, .int w593.1]) (k1 := k) (n1 := n) B gk_hG d_Law_law_597 (sn_Mo_produced h597) g597 cl_Mo tw_1116 tw_1113 tw_1114 tw_1115 tw_48 nm_Mo_produced rfl (by simp [gk_rc, gk_ic, gk_jc]) ⟨by decide, by decide⟩ ⟨by show k + 0 ≤ 600000; omega, by show n + 0 ≤ 7302250; omega⟩ rfl rfl rfl rfl ?_
    refine Gk_icmp_eq (tgt := 628) B d_Law_law_600 rfl (fun c600 => ?_) (fun c600 => ?_)
    · rw [if_pos c600] at h
      refine Gk_widen (k' := (k + 3)) (n' := (n + 38)) (by omega) (by omega) ?_
      exact sn_Law_law_628 B hr hX hb hlo hk hn H18 h
    rw [if_neg c600] at h
    refine Gk_iconst (v := 0) B d_Law_law_603 (by decide) ?_
    cases h
  rw [if_neg c33_14] at h
  by_cases c33_15 : (v29 &&& (15 : Int32)) = 15
  · rw [if_pos c33_15] at h
    refine Gk_tabIn (off := 572) (tgt := 605) B d_Law_law_33 (by rw [c33_15]; decide) (by rw [c33_15]; decide) (by rw [c33_15]; rfl) rfl ?_
    refine Gk_aload_n (i := 1) (r := a1) B d_Law_law_605 rfl rfl ?_
    refine Gk_aload_n (i := 0) (r := (some b)) B d_Law_law_606 rfl rfl ?_
    refine Gk_iload_n (i := 3) (x := x3) B d_Law_law_607 rfl rfl ?_
    refine Gk_iconst (v := 1) B d_Law_law_608 (by decide) ?_
    refine Gk_iadd B d_Law_law_609 ?_
    obtain ⟨v610, h610, h⟩ := gk_bind h
    refine Gk_sload B hX hb hlo d_Law_law_610 h610 ?_
    obtain ⟨o611, g611, h⟩ := gk_bind h
    obtain ⟨w611, h611, h⟩ := gk_bind h
    refine Gk_callV (As := [.int v610]) (rest := []) (st1 := [.int w611.1]) (k1 := k) (n1 := n) B gk_hG d_Law_law_611 (sn_SD_ran h611) g611 cl_SD tw_748 tw_745 tw_746 tw_747 tw_40 nm_SD_ran rfl (by decide) ⟨by decide, by decide⟩ ⟨by show k + 0 ≤ 600000; omega, by show n + 0 ≤ 7302250; omega⟩ rfl rfl rfl rfl ?_
    refine Gk_aload_n (i := 2) (r := a2) B d_Law_law_614 rfl rfl ?_
    refine Gk_aload_n (i := 0) (r := (some b)) B d_Law_law_615 rfl rfl ?_
    refine Gk_iload_n (i := 3) (x := x3) B d_Law_law_616 rfl rfl ?_
    refine Gk_iconst (v := 1) B d_Law_law_617 (by decide) ?_
    refine Gk_iadd B d_Law_law_618 ?_
    obtain ⟨v619, h619, h⟩ := gk_bind h
    refine Gk_sload B hX hb hlo d_Law_law_619 h619 ?_
    obtain ⟨o620, g620, h⟩ := gk_bind h
    obtain ⟨w620, h620, h⟩ := gk_bind h
    refine Gk_callV (As := [.int v619]) (rest := [.int w611.1]) (st1 := [.int w620.1, .int w611.1]) (k1 := k) (n1 := n) B gk_hG d_Law_law_620 (sn_Mo_ran h620) g620 cl_Mo tw_1120 tw_1117 tw_1118 tw_1119 tw_48 nm_Mo_ran rfl (by simp [gk_rc, gk_ic, gk_jc]) ⟨by decide, by decide⟩ ⟨by show k + 0 ≤ 600000; omega, by show n + 0 ≤ 7302250; omega⟩ rfl rfl rfl rfl ?_
    refine Gk_icmp_eq (tgt := 628) B d_Law_law_623 rfl (fun c623 => ?_) (fun c623 => ?_)
    · rw [if_pos c623] at h
      refine Gk_widen (k' := (k + 3)) (n' := (n + 38)) (by omega) (by omega) ?_
      exact sn_Law_law_628 B hr hX hb hlo hk hn H18 h
    rw [if_neg c623] at h
    refine Gk_iconst (v := 0) B d_Law_law_626 (by decide) ?_
    cases h
  rw [if_neg c33_15] at h
  refine Gk_tabOut (tgt := 628) B d_Law_law_33 (by have e0 := lv_neT (a := 0) c33_0 rfl; have e1 := lv_neT (a := 1) c33_1 rfl; have e2 := lv_neT (a := 2) c33_2 rfl; have e3 := lv_neT (a := 3) c33_3 rfl; have e4 := lv_neT (a := 4) c33_4 rfl; have e5 := lv_neT (a := 5) c33_5 rfl; have e6 := lv_neT (a := 6) c33_6 rfl; have e7 := lv_neT (a := 7) c33_7 rfl; have e8 := lv_neT (a := 8) c33_8 rfl; have e9 := lv_neT (a := 9) c33_9 rfl; have e10 := lv_neT (a := 10) c33_10 rfl; have e11 := lv_neT (a := 11) c33_11 rfl; have e12 := lv_neT (a := 12) c33_12 rfl; have e13 := lv_neT (a := 13) c33_13 rfl; have e14 := lv_neT (a := 14) c33_14 rfl; have e15 := lv_neT (a := 15) c33_15 rfl; omega) rfl ?_
  refine Gk_widen (k' := (k + 3)) (n' := (n + 38)) (by omega) (by omega) ?_
  exact sn_Law_law_628 B hr hX hb hlo hk hn H18 h
set_option maxHeartbeats 4000000 in
set_option maxRecDepth 100000 in
theorem sn_Law_law_18 {l : Launch} {Γ : gk_G} {p : Program} {e : Env} {s : State} {m : MethodId} {b : Nat} {below : List Frame} {meth : Method} {c : Code} {xs : Nat → Int32} {ln : Nat} (B : gk_B p s m #[Value.ref b] meth c gk_Y Γ code 4 "StageDispatcherLaw") (hr : meth.sig.returnType = ret) (hX : va_X b ln xs s s.heap) (hb : b < s.heap.size) (hlo : Γ.2.2 = s.heap.size) {a1 : Option Nat} {a2 : Option Nat} {x3 : Int32} {M : gk_M} (h : fn_Law_law_18 xs ln a1 a2 x3 M = some ()) : Gk p l e room_1 s m #[Value.ref b] below meth c gk_Y Γ 4 (lw_Z below #[Value.ref b] s) 61 2353 M 18 [some (va_rf (some b)), some (va_rf a1), some (va_rf a2), some (.int x3)] [] := by
  unfold fn_Law_law_18 at h
  exact gk_loop_soundN (α := Option Nat × Option Nat × Int32 × gk_M) (P := fun r a => r ≤ 600 → Gk p l e room_1 s m #[Value.ref b] below meth c gk_Y Γ 4 (lw_Z below #[Value.ref b] s) (61 + 3 * (600 - r)) (2353 + 38 * (600 - r)) a.2.2.2 18 [some (va_rf (some b)), some (va_rf a.1), some (va_rf a.2.1), some (.int a.2.2.1)] []) (fun r kk a Hk hbd hr6 => sn_Law_law_18_bd B hr hX hb hlo (k := 61 + 3 * (600 - (r + 1))) (n := 2353 + 38 * (600 - (r + 1))) (by omega) (by omega) (fun a1 a2 x3 M hh => Gk_widen (by omega) (by omega) (Hk (a1, a2, x3, M) hh (by omega))) hbd) 600 _ h (by decide)
set_option maxHeartbeats 4000000 in
set_option maxRecDepth 100000 in
theorem sn_Law_law {l : Launch} {Γ : gk_G} {p : Program} {e : Env} {s : State} {m : MethodId} {b : Nat} {below : List Frame} {meth : Method} {c : Code} {xs : Nat → Int32} {ln : Nat} (B : gk_B p s m #[Value.ref b] meth c gk_Y Γ code 4 "StageDispatcherLaw") (hr : meth.sig.returnType = ret) (hX : va_X b ln xs s s.heap) (hb : b < s.heap.size) (hlo : Γ.2.2 = s.heap.size) {M : gk_M} (h : fn_Law_law xs ln M = some ()) : Gk p l e room_1 s m #[Value.ref b] below meth c gk_Y Γ 4 (lw_Z below #[Value.ref b] s) 0 0 M 0 [some (va_rf (some b)), none, none, none] [] := by
  unfold fn_Law_law at h
  refine Gk_new B d_Law_law_0 in_SD t_SD t_SD_ok tw_56 tw_57 tw_40 cl_SD df_SD_ok (by show 0 + 1 ≤ 600000; omega) (by show 0 + 7 ≤ 7302250; omega) ?_
  refine Gk_dup B d_Law_law_3 (gk_rc _) ?_
  obtain ⟨o4, g4, h⟩ := gk_bind h
  obtain ⟨w4, h4, h⟩ := gk_bind h
  refine Gk_callI (As := []) (rest := [va_rf (some M.2)]) (st1 := [va_rf (some M.2)]) (k1 := 27) (n1 := 441) B gk_hG d_Law_law_4 (sn_SD_init h4) g4 rfl tw_60 tw_58 tw_59 tw_40 nm_SD_init rfl (by simp [gk_rc, gk_ic, gk_jc]) ⟨by decide, by decide⟩ ⟨by show 1 + 26 ≤ 600000; omega, by show 7 + 434 ≤ 7302250; omega⟩ rfl rfl rfl rfl ?_
  refine Gk_astore_n (i := 1) (L' := [some (va_rf (some b)), some (va_rf (some M.2)), none, none]) B d_Law_law_7 rfl (by decide) (gk_c1_r rfl) rfl ?_
  refine Gk_new B d_Law_law_8 in_Mo t_Mo t_Mo_ok tw_749 tw_750 tw_48 cl_Mo df_Mo_ok (by show 27 + 1 ≤ 600000; omega) (by show 441 + 57 ≤ 7302250; omega) ?_
  refine Gk_dup B d_Law_law_11 (gk_rc _) ?_
  obtain ⟨o12, g12, h⟩ := gk_bind h
  obtain ⟨w12, h12, h⟩ := gk_bind h
  refine Gk_callI (As := []) (rest := [va_rf (some w4.2)]) (st1 := [va_rf (some w4.2)]) (k1 := 61) (n1 := 2353) B gk_hG d_Law_law_12 (sn_Mo_init h12) g12 rfl tw_753 tw_751 tw_752 tw_48 nm_Mo_init rfl (by simp [gk_rc, gk_ic, gk_jc]) ⟨by decide, by decide⟩ ⟨by show 28 + 33 ≤ 600000; omega, by show 498 + 1855 ≤ 7302250; omega⟩ rfl rfl rfl rfl ?_
  refine Gk_astore_n (i := 2) (L' := [some (va_rf (some b)), some (va_rf (some M.2)), some (va_rf (some w4.2)), none]) B d_Law_law_15 rfl (by decide) (gk_c1_r rfl) rfl ?_
  refine Gk_iconst (v := 0) B d_Law_law_16 (by decide) ?_
  refine Gk_istore_n (i := 3) (L' := [some (va_rf (some b)), some (va_rf (some M.2)), some (va_rf (some w4.2)), some (.int 0)]) B d_Law_law_17 rfl (by decide) (gk_c1_r rfl) rfl ?_
  refine Gk_widen (k' := 61) (n' := 2353) (by decide) (by decide) ?_
  exact sn_Law_law_18 B hr hX hb hlo h
