/-! the calls of each method, checked (Math.max and Math.min, 2 and 3, have rows of their own) -/
theorem cs_0 : calS 0 = true := by decide +kernel
theorem cs_1 : calS 1 = true := by decide +kernel
theorem cs_4 : calS 4 = true := by decide +kernel
theorem cs_5 : calS 5 = true := by decide +kernel
theorem cs_6 : calS 6 = true := by decide +kernel
theorem cs_7 : calS 7 = true := by decide +kernel
theorem cs_8 : calS 8 = true := by decide +kernel
theorem cs_9 : calS 9 = true := by decide +kernel
theorem cs_10 : calS 10 = true := by decide +kernel
theorem cs_11 : calS 11 = true := by decide +kernel
theorem cs_12 : calS 12 = true := by decide +kernel
theorem cs_13 : calS 13 = true := by decide +kernel
theorem cs_14 : calS 14 = true := by decide +kernel
theorem cs_15 : calS 15 = true := by decide +kernel
theorem cs_16 : calS 16 = true := by decide +kernel
theorem cs_17 : calS 17 = true := by decide +kernel
theorem cs_18 : calS 18 = true := by decide +kernel
theorem cs_19 : calS 19 = true := by decide +kernel
theorem cs_20 : calS 20 = true := by decide +kernel
theorem cs_21 : calS 21 = true := by decide +kernel
theorem cs_22 : calS 22 = true := by decide +kernel
theorem cs_23 : calS 23 = true := by decide +kernel
theorem cs_24 : calS 24 = true := by decide +kernel
theorem cs_25 : calS 25 = true := by decide +kernel
theorem cs_26 : calS 26 = true := by decide +kernel
theorem cs_27 : calS 27 = true := by decide +kernel
theorem cs_28 : calS 28 = true := by decide +kernel
theorem cs_29 : calS 29 = true := by decide +kernel
theorem cs_30 : calS 30 = true := by decide +kernel
theorem cs_31 : calS 31 = true := by decide +kernel
theorem cs_32 : calS 32 = true := by decide +kernel
theorem cs_33 : calS 33 = true := by decide +kernel
theorem cs_34 : calS 34 = true := by decide +kernel
theorem cs_35 : calS 35 = true := by decide +kernel
theorem cs_36 : calS 36 = true := by decide +kernel
theorem cs_37 : calS 37 = true := by decide +kernel
theorem cs_38 : calS 38 = true := by decide +kernel
theorem cs_39 : calS 39 = true := by decide +kernel
theorem cs_40 : calS 40 = true := by decide +kernel
theorem cs_41 : calS 41 = true := by decide +kernel
theorem cs_42 : calS 42 = true := by decide +kernel
theorem cs_43 : calS 43 = true := by decide +kernel
theorem cs_44 : calS 44 = true := by decide +kernel
theorem cs_45 : calS 45 = true := by decide +kernel
theorem cs_46 : calS 46 = true := by decide +kernel
theorem cs_47 : calS 47 = true := by decide +kernel
theorem cs_48 : calS 48 = true := by decide +kernel
theorem cs_49 : calS 49 = true := by decide +kernel
theorem cs_50 : calS 50 = true := by decide +kernel
theorem cs_51 : calS 51 = true := by decide +kernel
theorem cs_52 : calS 52 = true := by decide +kernel
theorem cs_53 : calS 53 = true := by decide +kernel
theorem cs_54 : calS 54 = true := by decide +kernel
theorem cs_55 : calS 55 = true := by decide +kernel
theorem cs_56 : calS 56 = true := by decide +kernel
theorem cs_57 : calS 57 = true := by decide +kernel
theorem cs_58 : calS 58 = true := by decide +kernel
theorem cs_59 : calS 59 = true := by decide +kernel
theorem cs_60 : calS 60 = true := by decide +kernel
theorem cs_61 : calS 61 = true := by decide +kernel
theorem cs_62 : calS 62 = true := by decide +kernel
theorem cs_63 : calS 63 = true := by decide +kernel
theorem cs_64 : calS 64 = true := by decide +kernel
theorem cs_65 : calS 65 = true := by decide +kernel
theorem cs_66 : calS 66 = true := by decide +kernel
theorem cs_67 : calS 67 = true := by decide +kernel
theorem cs_68 : calS 68 = true := by decide +kernel
theorem cs_69 : calS 69 = true := by decide +kernel
theorem cs_70 : calS 70 = true := by decide +kernel
theorem cs_71 : calS 71 = true := by decide +kernel
theorem cs_72 : calS 72 = true := by decide +kernel
theorem cs_73 : calS 73 = true := by decide +kernel
theorem cs_74 : calS 74 = true := by decide +kernel
theorem cs_75 : calS 75 = true := by decide +kernel
theorem cs_76 : calS 76 = true := by decide +kernel
theorem cs_77 : calS 77 = true := by decide +kernel
theorem cs_78 : calS 78 = true := by decide +kernel
theorem cs_79 : calS 79 = true := by decide +kernel
theorem cs_80 : calS 80 = true := by decide +kernel
theorem cs_81 : calS 81 = true := by decide +kernel
theorem cs_82 : calS 82 = true := by decide +kernel
theorem cs_83 : calS 83 = true := by decide +kernel
theorem cs_84 : calS 84 = true := by decide +kernel
theorem cs_85 : calS 85 = true := by decide +kernel
theorem cs_86 : calS 86 = true := by decide +kernel
theorem cs_87 : calS 87 = true := by decide +kernel
theorem cs_88 : calS 88 = true := by decide +kernel
theorem cs_89 : calS 89 = true := by decide +kernel
theorem cs_90 : calS 90 = true := by decide +kernel
theorem cs_91 : calS 91 = true := by decide +kernel
theorem cs_92 : calS 92 = true := by decide +kernel
theorem cs_93 : calS 93 = true := by decide +kernel
theorem cs_94 : calS 94 = true := by decide +kernel
theorem cs_95 : calS 95 = true := by decide +kernel
theorem cs_96 : calS 96 = true := by decide +kernel
theorem cs_97 : calS 97 = true := by decide +kernel
theorem cs_98 : calS 98 = true := by decide +kernel
theorem cs_99 : calS 99 = true := by decide +kernel
theorem cs_100 : calS 100 = true := by decide +kernel
theorem cs_101 : calS 101 = true := by decide +kernel
theorem cs_102 : calS 102 = true := by decide +kernel
theorem cs_103 : calS 103 = true := by decide +kernel
theorem cs_104 : calS 104 = true := by decide +kernel
theorem cs_105 : calS 105 = true := by decide +kernel
theorem cs_106 : calS 106 = true := by decide +kernel
theorem cs_107 : calS 107 = true := by decide +kernel
theorem cs_108 : calS 108 = true := by decide +kernel
theorem cs_109 : calS 109 = true := by decide +kernel
theorem cs_110 : calS 110 = true := by decide +kernel
theorem cs_111 : calS 111 = true := by decide +kernel
theorem cs_112 : calS 112 = true := by decide +kernel
theorem cs_113 : calS 113 = true := by decide +kernel
theorem cs_114 : calS 114 = true := by decide +kernel
theorem cs_115 : calS 115 = true := by decide +kernel
theorem cs_116 : calS 116 = true := by decide +kernel
theorem cs_117 : calS 117 = true := by decide +kernel
theorem cs_118 : calS 118 = true := by decide +kernel
theorem cs_119 : calS 119 = true := by decide +kernel
theorem cs_120 : calS 120 = true := by decide +kernel
theorem cs_121 : calS 121 = true := by decide +kernel
theorem cs_122 : calS 122 = true := by decide +kernel
theorem cs_123 : calS 123 = true := by decide +kernel
theorem cs_124 : calS 124 = true := by decide +kernel
theorem cs_125 : calS 125 = true := by decide +kernel
theorem cs_126 : calS 126 = true := by decide +kernel
theorem cs_127 : calS 127 = true := by decide +kernel
theorem cs_128 : calS 128 = true := by decide +kernel
theorem cs_129 : calS 129 = true := by decide +kernel
theorem cs_130 : calS 130 = true := by decide +kernel
theorem cs_131 : calS 131 = true := by decide +kernel
theorem cs_132 : calS 132 = true := by decide +kernel
theorem cs_133 : calS 133 = true := by decide +kernel
theorem cs_134 : calS 134 = true := by decide +kernel
theorem cs_135 : calS 135 = true := by decide +kernel
theorem cs_136 : calS 136 = true := by decide +kernel
theorem cs_137 : calS 137 = true := by decide +kernel
theorem cs_138 : calS 138 = true := by decide +kernel
theorem cs_139 : calS 139 = true := by decide +kernel
theorem cs_140 : calS 140 = true := by decide +kernel
theorem cs_141 : calS 141 = true := by decide +kernel
theorem cs_142 : calS 142 = true := by decide +kernel
theorem cs_143 : calS 143 = true := by decide +kernel
theorem cs_144 : calS 144 = true := by decide +kernel
theorem cs_145 : calS 145 = true := by decide +kernel
theorem cs_146 : calS 146 = true := by decide +kernel
theorem cs_147 : calS 147 = true := by decide +kernel
theorem cs_148 : calS 148 = true := by decide +kernel
theorem cs_149 : calS 149 = true := by decide +kernel
theorem cs_150 : calS 150 = true := by decide +kernel
theorem cs_151 : calS 151 = true := by decide +kernel
theorem cs_152 : calS 152 = true := by decide +kernel
theorem cs_153 : calS 153 = true := by decide +kernel
theorem cs_154 : calS 154 = true := by decide +kernel
theorem cs_155 : calS 155 = true := by decide +kernel
theorem cs_156 : calS 156 = true := by decide +kernel
theorem cs_157 : calS 157 = true := by decide +kernel
theorem cs_158 : calS 158 = true := by decide +kernel
theorem cs_159 : calS 159 = true := by decide +kernel
theorem cs_160 : calS 160 = true := by decide +kernel
theorem cs_161 : calS 161 = true := by decide +kernel
theorem cs_162 : calS 162 = true := by decide +kernel
theorem cs_163 : calS 163 = true := by decide +kernel
theorem cs_164 : calS 164 = true := by decide +kernel
theorem cs_165 : calS 165 = true := by decide +kernel
theorem cs_166 : calS 166 = true := by decide +kernel
theorem cs_167 : calS 167 = true := by decide +kernel
theorem cs_168 : calS 168 = true := by decide +kernel
theorem cs_169 : calS 169 = true := by decide +kernel
theorem cs_170 : calS 170 = true := by decide +kernel
theorem cs_171 : calS 171 = true := by decide +kernel
theorem cs_172 : calS 172 = true := by decide +kernel
theorem cs_173 : calS 173 = true := by decide +kernel
theorem cs_174 : calS 174 = true := by decide +kernel
theorem cs_175 : calS 175 = true := by decide +kernel
theorem cs_176 : calS 176 = true := by decide +kernel
theorem cs_177 : calS 177 = true := by decide +kernel
theorem cs_178 : calS 178 = true := by decide +kernel
theorem cs_179 : calS 179 = true := by decide +kernel
theorem cs_180 : calS 180 = true := by decide +kernel
theorem cs_181 : calS 181 = true := by decide +kernel
theorem cs_182 : calS 182 = true := by decide +kernel
theorem cs_183 : calS 183 = true := by decide +kernel
theorem cs_184 : calS 184 = true := by decide +kernel
theorem cs_185 : calS 185 = true := by decide +kernel
theorem cs_186 : calS 186 = true := by decide +kernel
theorem cs_187 : calS 187 = true := by decide +kernel
theorem cs_188 : calS 188 = true := by decide +kernel
theorem cs_189 : calS 189 = true := by decide +kernel
theorem cs_190 : calS 190 = true := by decide +kernel
theorem cs_191 : calS 191 = true := by decide +kernel
theorem cs_192 : calS 192 = true := by decide +kernel
theorem cs_193 : calS 193 = true := by decide +kernel
theorem cs_194 : calS 194 = true := by decide +kernel
theorem cs_195 : calS 195 = true := by decide +kernel
theorem cs_196 : calS 196 = true := by decide +kernel
theorem cs_197 : calS 197 = true := by decide +kernel
theorem cs_198 : calS 198 = true := by decide +kernel
theorem cs_199 : calS 199 = true := by decide +kernel
theorem cs_200 : calS 200 = true := by decide +kernel
theorem cs_201 : calS 201 = true := by decide +kernel
theorem cs_202 : calS 202 = true := by decide +kernel
theorem cs_203 : calS 203 = true := by decide +kernel
theorem cs_204 : calS 204 = true := by decide +kernel
theorem cs_205 : calS 205 = true := by decide +kernel
theorem cs_206 : calS 206 = true := by decide +kernel
theorem cs_207 : calS 207 = true := by decide +kernel
theorem cs_208 : calS 208 = true := by decide +kernel
theorem cs_209 : calS 209 = true := by decide +kernel
theorem cs_210 : calS 210 = true := by decide +kernel
theorem cs_211 : calS 211 = true := by decide +kernel
theorem cs_212 : calS 212 = true := by decide +kernel
theorem cs_213 : calS 213 = true := by decide +kernel
theorem cs_214 : calS 214 = true := by decide +kernel
theorem cs_215 : calS 215 = true := by decide +kernel
theorem cs_216 : calS 216 = true := by decide +kernel
theorem cs_217 : calS 217 = true := by decide +kernel
theorem cs_218 : calS 218 = true := by decide +kernel
theorem cs_219 : calS 219 = true := by decide +kernel
theorem cs_220 : calS 220 = true := by decide +kernel
theorem cs_221 : calS 221 = true := by decide +kernel
theorem cs_222 : calS 222 = true := by decide +kernel
theorem cs_223 : calS 223 = true := by decide +kernel
theorem cs_224 : calS 224 = true := by decide +kernel
theorem cs_225 : calS 225 = true := by decide +kernel
theorem cs_226 : calS 226 = true := by decide +kernel
theorem cs_227 : calS 227 = true := by decide +kernel
theorem cs_228 : calS 228 = true := by decide +kernel
theorem cs_229 : calS 229 = true := by decide +kernel
theorem cs_230 : calS 230 = true := by decide +kernel
theorem cs_231 : calS 231 = true := by decide +kernel
theorem cs_232 : calS 232 = true := by decide +kernel
theorem cs_233 : calS 233 = true := by decide +kernel
theorem cs_234 : calS 234 = true := by decide +kernel
theorem cs_235 : calS 235 = true := by decide +kernel
theorem cs_236 : calS 236 = true := by decide +kernel
theorem cs_237 : calS 237 = true := by decide +kernel
theorem cs_238 : calS 238 = true := by decide +kernel
theorem cs_239 : calS 239 = true := by decide +kernel
theorem cs_240 : calS 240 = true := by decide +kernel
theorem cs_241 : calS 241 = true := by decide +kernel
theorem cs_242 : calS 242 = true := by decide +kernel
theorem cs_243 : calS 243 = true := by decide +kernel
theorem cs_244 : calS 244 = true := by decide +kernel
theorem cs_245 : calS 245 = true := by decide +kernel
theorem cs_246 : calS 246 = true := by decide +kernel
theorem cs_247 : calS 247 = true := by decide +kernel
theorem cs_248 : calS 248 = true := by decide +kernel
theorem cs_249 : calS 249 = true := by decide +kernel
theorem cs_250 : calS 250 = true := by decide +kernel
theorem cs_251 : calS 251 = true := by decide +kernel
theorem cs_252 : calS 252 = true := by decide +kernel
theorem cs_253 : calS 253 = true := by decide +kernel
theorem cs_254 : calS 254 = true := by decide +kernel
theorem cs_255 : calS 255 = true := by decide +kernel
theorem cs_256 : calS 256 = true := by decide +kernel
theorem cs_257 : calS 257 = true := by decide +kernel
theorem cs_258 : calS 258 = true := by decide +kernel
theorem cs_259 : calS 259 = true := by decide +kernel
theorem cs_260 : calS 260 = true := by decide +kernel
theorem cs_261 : calS 261 = true := by decide +kernel
theorem cs_262 : calS 262 = true := by decide +kernel
theorem cs_263 : calS 263 = true := by decide +kernel
theorem cs_264 : calS 264 = true := by decide +kernel
theorem cs_265 : calS 265 = true := by decide +kernel
theorem cs_266 : calS 266 = true := by decide +kernel
theorem cs_267 : calS 267 = true := by decide +kernel
theorem cs_268 : calS 268 = true := by decide +kernel
theorem cs_269 : calS 269 = true := by decide +kernel
theorem cs_270 : calS 270 = true := by decide +kernel
theorem cs_271 : calS 271 = true := by decide +kernel
theorem cs_272 : calS 272 = true := by decide +kernel
theorem cs_273 : calS 273 = true := by decide +kernel
theorem cs_274 : calS 274 = true := by decide +kernel
theorem cs_275 : calS 275 = true := by decide +kernel
theorem cs_276 : calS 276 = true := by decide +kernel
theorem cs_277 : calS 277 = true := by decide +kernel
theorem cs_278 : calS 278 = true := by decide +kernel
theorem cs_279 : calS 279 = true := by decide +kernel
theorem cs_280 : calS 280 = true := by decide +kernel
theorem cs_281 : calS 281 = true := by decide +kernel
theorem cs_282 : calS 282 = true := by decide +kernel
theorem cs_283 : calS 283 = true := by decide +kernel
theorem cs_284 : calS 284 = true := by decide +kernel
theorem cs_285 : calS 285 = true := by decide +kernel
theorem cs_286 : calS 286 = true := by decide +kernel
theorem cs_287 : calS 287 = true := by decide +kernel
theorem cs_288 : calS 288 = true := by decide +kernel
theorem cs_289 : calS 289 = true := by decide +kernel
theorem cs_290 : calS 290 = true := by decide +kernel
theorem cs_291 : calS 291 = true := by decide +kernel
theorem cs_292 : calS 292 = true := by decide +kernel
theorem cs_293 : calS 293 = true := by decide +kernel
theorem cs_294 : calS 294 = true := by decide +kernel
theorem cs_295 : calS 295 = true := by decide +kernel
theorem cs_296 : calS 296 = true := by decide +kernel
theorem cs_297 : calS 297 = true := by decide +kernel
theorem cs_298 : calS 298 = true := by decide +kernel
theorem cs_299 : calS 299 = true := by decide +kernel
theorem cs_300 : calS 300 = true := by decide +kernel
theorem cs_301 : calS 301 = true := by decide +kernel
theorem cs_302 : calS 302 = true := by decide +kernel
theorem cs_303 : calS 303 = true := by decide +kernel
theorem cs_304 : calS 304 = true := by decide +kernel
theorem cs_305 : calS 305 = true := by decide +kernel
theorem cs_306 : calS 306 = true := by decide +kernel
theorem cs_307 : calS 307 = true := by decide +kernel
theorem cs_308 : calS 308 = true := by decide +kernel
theorem cs_309 : calS 309 = true := by decide +kernel
theorem cs_310 : calS 310 = true := by decide +kernel
theorem cs_311 : calS 311 = true := by decide +kernel
theorem cs_312 : calS 312 = true := by decide +kernel
theorem cs_313 : calS 313 = true := by decide +kernel
theorem cs_314 : calS 314 = true := by decide +kernel
theorem cs_315 : calS 315 = true := by decide +kernel
theorem cs_316 : calS 316 = true := by decide +kernel
theorem cs_317 : calS 317 = true := by decide +kernel
theorem cs_318 : calS 318 = true := by decide +kernel
theorem cs_319 : calS 319 = true := by decide +kernel
theorem cs_320 : calS 320 = true := by decide +kernel
theorem cs_321 : calS 321 = true := by decide +kernel
theorem cs_322 : calS 322 = true := by decide +kernel
theorem cs_323 : calS 323 = true := by decide +kernel
theorem cs_324 : calS 324 = true := by decide +kernel
theorem cs_325 : calS 325 = true := by decide +kernel
theorem cs_326 : calS 326 = true := by decide +kernel
theorem cs_327 : calS 327 = true := by decide +kernel
theorem cs_328 : calS 328 = true := by decide +kernel
theorem cs_329 : calS 329 = true := by decide +kernel
theorem cs_330 : calS 330 = true := by decide +kernel
theorem cs_331 : calS 331 = true := by decide +kernel
theorem cs_332 : calS 332 = true := by decide +kernel
theorem cs_333 : calS 333 = true := by decide +kernel
theorem cs_334 : calS 334 = true := by decide +kernel
theorem cs_335 : calS 335 = true := by decide +kernel
theorem cs_336 : calS 336 = true := by decide +kernel
theorem cs_337 : calS 337 = true := by decide +kernel
theorem cs_338 : calS 338 = true := by decide +kernel
theorem cs_339 : calS 339 = true := by decide +kernel
theorem cs_340 : calS 340 = true := by decide +kernel
theorem cs_341 : calS 341 = true := by decide +kernel
theorem cs_342 : calS 342 = true := by decide +kernel
theorem cs_343 : calS 343 = true := by decide +kernel
theorem cs_344 : calS 344 = true := by decide +kernel
theorem cs_345 : calS 345 = true := by decide +kernel
theorem cs_346 : calS 346 = true := by decide +kernel
theorem cs_347 : calS 347 = true := by decide +kernel
theorem cs_348 : calS 348 = true := by decide +kernel
theorem cs_349 : calS 349 = true := by decide +kernel
theorem cs_350 : calS 350 = true := by decide +kernel
theorem cs_351 : calS 351 = true := by decide +kernel
theorem cs_352 : calS 352 = true := by decide +kernel
theorem cs_353 : calS 353 = true := by decide +kernel
theorem cs_354 : calS 354 = true := by decide +kernel
theorem cs_355 : calS 355 = true := by decide +kernel
theorem cs_356 : calS 356 = true := by decide +kernel
theorem cs_357 : calS 357 = true := by decide +kernel
theorem cs_358 : calS 358 = true := by decide +kernel
theorem cs_359 : calS 359 = true := by decide +kernel
theorem cs_360 : calS 360 = true := by decide +kernel
theorem cs_361 : calS 361 = true := by decide +kernel
theorem cs_362 : calS 362 = true := by decide +kernel
theorem cs_363 : calS 363 = true := by decide +kernel
theorem cs_364 : calS 364 = true := by decide +kernel
theorem cs_365 : calS 365 = true := by decide +kernel
theorem cs_366 : calS 366 = true := by decide +kernel
theorem cs_367 : calS 367 = true := by decide +kernel
theorem cs_368 : calS 368 = true := by decide +kernel
theorem cs_369 : calS 369 = true := by decide +kernel
theorem cs_370 : calS 370 = true := by decide +kernel
theorem cs_371 : calS 371 = true := by decide +kernel
theorem cs_372 : calS 372 = true := by decide +kernel
theorem cs_373 : calS 373 = true := by decide +kernel
theorem cs_374 : calS 374 = true := by decide +kernel
theorem cs_375 : calS 375 = true := by decide +kernel
theorem cs_376 : calS 376 = true := by decide +kernel
theorem cs_377 : calS 377 = true := by decide +kernel
theorem cs_378 : calS 378 = true := by decide +kernel
theorem cs_379 : calS 379 = true := by decide +kernel
theorem cs_380 : calS 380 = true := by decide +kernel
theorem cs_381 : calS 381 = true := by decide +kernel
theorem cs_382 : calS 382 = true := by decide +kernel
def csl_0 : List Nat := [0, 1, 4, 5, 6, 7, 8, 9, 10, 11, 12, 13, 14, 15, 16, 17]
theorem cst_0 : ∀ c ∈ csl_0, calS c = true := List.forall_mem_cons.mpr ⟨cs_0, List.forall_mem_cons.mpr ⟨cs_1, List.forall_mem_cons.mpr ⟨cs_4, List.forall_mem_cons.mpr ⟨cs_5, List.forall_mem_cons.mpr ⟨cs_6, List.forall_mem_cons.mpr ⟨cs_7, List.forall_mem_cons.mpr ⟨cs_8, List.forall_mem_cons.mpr ⟨cs_9, List.forall_mem_cons.mpr ⟨cs_10, List.forall_mem_cons.mpr ⟨cs_11, List.forall_mem_cons.mpr ⟨cs_12, List.forall_mem_cons.mpr ⟨cs_13, List.forall_mem_cons.mpr ⟨cs_14, List.forall_mem_cons.mpr ⟨cs_15, List.forall_mem_cons.mpr ⟨cs_16, List.forall_mem_cons.mpr ⟨cs_17, fun _ h => absurd h List.not_mem_nil⟩⟩⟩⟩⟩⟩⟩⟩⟩⟩⟩⟩⟩⟩⟩⟩
def csl_1 : List Nat := [18, 19, 20, 21, 22, 23, 24, 25, 26, 27, 28, 29, 30, 31, 32, 33]
theorem cst_1 : ∀ c ∈ csl_1, calS c = true := List.forall_mem_cons.mpr ⟨cs_18, List.forall_mem_cons.mpr ⟨cs_19, List.forall_mem_cons.mpr ⟨cs_20, List.forall_mem_cons.mpr ⟨cs_21, List.forall_mem_cons.mpr ⟨cs_22, List.forall_mem_cons.mpr ⟨cs_23, List.forall_mem_cons.mpr ⟨cs_24, List.forall_mem_cons.mpr ⟨cs_25, List.forall_mem_cons.mpr ⟨cs_26, List.forall_mem_cons.mpr ⟨cs_27, List.forall_mem_cons.mpr ⟨cs_28, List.forall_mem_cons.mpr ⟨cs_29, List.forall_mem_cons.mpr ⟨cs_30, List.forall_mem_cons.mpr ⟨cs_31, List.forall_mem_cons.mpr ⟨cs_32, List.forall_mem_cons.mpr ⟨cs_33, fun _ h => absurd h List.not_mem_nil⟩⟩⟩⟩⟩⟩⟩⟩⟩⟩⟩⟩⟩⟩⟩⟩
def csl_2 : List Nat := [34, 35, 36, 37, 38, 39, 40, 41, 42, 43, 44, 45, 46, 47, 48, 49]
theorem cst_2 : ∀ c ∈ csl_2, calS c = true := List.forall_mem_cons.mpr ⟨cs_34, List.forall_mem_cons.mpr ⟨cs_35, List.forall_mem_cons.mpr ⟨cs_36, List.forall_mem_cons.mpr ⟨cs_37, List.forall_mem_cons.mpr ⟨cs_38, List.forall_mem_cons.mpr ⟨cs_39, List.forall_mem_cons.mpr ⟨cs_40, List.forall_mem_cons.mpr ⟨cs_41, List.forall_mem_cons.mpr ⟨cs_42, List.forall_mem_cons.mpr ⟨cs_43, List.forall_mem_cons.mpr ⟨cs_44, List.forall_mem_cons.mpr ⟨cs_45, List.forall_mem_cons.mpr ⟨cs_46, List.forall_mem_cons.mpr ⟨cs_47, List.forall_mem_cons.mpr ⟨cs_48, List.forall_mem_cons.mpr ⟨cs_49, fun _ h => absurd h List.not_mem_nil⟩⟩⟩⟩⟩⟩⟩⟩⟩⟩⟩⟩⟩⟩⟩⟩
def csl_3 : List Nat := [50, 51, 52, 53, 54, 55, 56, 57, 58, 59, 60, 61, 62, 63, 64, 65]
theorem cst_3 : ∀ c ∈ csl_3, calS c = true := List.forall_mem_cons.mpr ⟨cs_50, List.forall_mem_cons.mpr ⟨cs_51, List.forall_mem_cons.mpr ⟨cs_52, List.forall_mem_cons.mpr ⟨cs_53, List.forall_mem_cons.mpr ⟨cs_54, List.forall_mem_cons.mpr ⟨cs_55, List.forall_mem_cons.mpr ⟨cs_56, List.forall_mem_cons.mpr ⟨cs_57, List.forall_mem_cons.mpr ⟨cs_58, List.forall_mem_cons.mpr ⟨cs_59, List.forall_mem_cons.mpr ⟨cs_60, List.forall_mem_cons.mpr ⟨cs_61, List.forall_mem_cons.mpr ⟨cs_62, List.forall_mem_cons.mpr ⟨cs_63, List.forall_mem_cons.mpr ⟨cs_64, List.forall_mem_cons.mpr ⟨cs_65, fun _ h => absurd h List.not_mem_nil⟩⟩⟩⟩⟩⟩⟩⟩⟩⟩⟩⟩⟩⟩⟩⟩
def csl_4 : List Nat := [66, 67, 68, 69, 70, 71, 72, 73, 74, 75, 76, 77, 78, 79, 80, 81]
theorem cst_4 : ∀ c ∈ csl_4, calS c = true := List.forall_mem_cons.mpr ⟨cs_66, List.forall_mem_cons.mpr ⟨cs_67, List.forall_mem_cons.mpr ⟨cs_68, List.forall_mem_cons.mpr ⟨cs_69, List.forall_mem_cons.mpr ⟨cs_70, List.forall_mem_cons.mpr ⟨cs_71, List.forall_mem_cons.mpr ⟨cs_72, List.forall_mem_cons.mpr ⟨cs_73, List.forall_mem_cons.mpr ⟨cs_74, List.forall_mem_cons.mpr ⟨cs_75, List.forall_mem_cons.mpr ⟨cs_76, List.forall_mem_cons.mpr ⟨cs_77, List.forall_mem_cons.mpr ⟨cs_78, List.forall_mem_cons.mpr ⟨cs_79, List.forall_mem_cons.mpr ⟨cs_80, List.forall_mem_cons.mpr ⟨cs_81, fun _ h => absurd h List.not_mem_nil⟩⟩⟩⟩⟩⟩⟩⟩⟩⟩⟩⟩⟩⟩⟩⟩
def csl_5 : List Nat := [82, 83, 84, 85, 86, 87, 88, 89, 90, 91, 92, 93, 94, 95, 96, 97]
theorem cst_5 : ∀ c ∈ csl_5, calS c = true := List.forall_mem_cons.mpr ⟨cs_82, List.forall_mem_cons.mpr ⟨cs_83, List.forall_mem_cons.mpr ⟨cs_84, List.forall_mem_cons.mpr ⟨cs_85, List.forall_mem_cons.mpr ⟨cs_86, List.forall_mem_cons.mpr ⟨cs_87, List.forall_mem_cons.mpr ⟨cs_88, List.forall_mem_cons.mpr ⟨cs_89, List.forall_mem_cons.mpr ⟨cs_90, List.forall_mem_cons.mpr ⟨cs_91, List.forall_mem_cons.mpr ⟨cs_92, List.forall_mem_cons.mpr ⟨cs_93, List.forall_mem_cons.mpr ⟨cs_94, List.forall_mem_cons.mpr ⟨cs_95, List.forall_mem_cons.mpr ⟨cs_96, List.forall_mem_cons.mpr ⟨cs_97, fun _ h => absurd h List.not_mem_nil⟩⟩⟩⟩⟩⟩⟩⟩⟩⟩⟩⟩⟩⟩⟩⟩
def csl_6 : List Nat := [98, 99, 100, 101, 102, 103, 104, 105, 106, 107, 108, 109, 110, 111, 112, 113]
theorem cst_6 : ∀ c ∈ csl_6, calS c = true := List.forall_mem_cons.mpr ⟨cs_98, List.forall_mem_cons.mpr ⟨cs_99, List.forall_mem_cons.mpr ⟨cs_100, List.forall_mem_cons.mpr ⟨cs_101, List.forall_mem_cons.mpr ⟨cs_102, List.forall_mem_cons.mpr ⟨cs_103, List.forall_mem_cons.mpr ⟨cs_104, List.forall_mem_cons.mpr ⟨cs_105, List.forall_mem_cons.mpr ⟨cs_106, List.forall_mem_cons.mpr ⟨cs_107, List.forall_mem_cons.mpr ⟨cs_108, List.forall_mem_cons.mpr ⟨cs_109, List.forall_mem_cons.mpr ⟨cs_110, List.forall_mem_cons.mpr ⟨cs_111, List.forall_mem_cons.mpr ⟨cs_112, List.forall_mem_cons.mpr ⟨cs_113, fun _ h => absurd h List.not_mem_nil⟩⟩⟩⟩⟩⟩⟩⟩⟩⟩⟩⟩⟩⟩⟩⟩
def csl_7 : List Nat := [114, 115, 116, 117, 118, 119, 120, 121, 122, 123, 124, 125, 126, 127, 128, 129]
theorem cst_7 : ∀ c ∈ csl_7, calS c = true := List.forall_mem_cons.mpr ⟨cs_114, List.forall_mem_cons.mpr ⟨cs_115, List.forall_mem_cons.mpr ⟨cs_116, List.forall_mem_cons.mpr ⟨cs_117, List.forall_mem_cons.mpr ⟨cs_118, List.forall_mem_cons.mpr ⟨cs_119, List.forall_mem_cons.mpr ⟨cs_120, List.forall_mem_cons.mpr ⟨cs_121, List.forall_mem_cons.mpr ⟨cs_122, List.forall_mem_cons.mpr ⟨cs_123, List.forall_mem_cons.mpr ⟨cs_124, List.forall_mem_cons.mpr ⟨cs_125, List.forall_mem_cons.mpr ⟨cs_126, List.forall_mem_cons.mpr ⟨cs_127, List.forall_mem_cons.mpr ⟨cs_128, List.forall_mem_cons.mpr ⟨cs_129, fun _ h => absurd h List.not_mem_nil⟩⟩⟩⟩⟩⟩⟩⟩⟩⟩⟩⟩⟩⟩⟩⟩
def csl_8 : List Nat := [130, 131, 132, 133, 134, 135, 136, 137, 138, 139, 140, 141, 142, 143, 144, 145]
theorem cst_8 : ∀ c ∈ csl_8, calS c = true := List.forall_mem_cons.mpr ⟨cs_130, List.forall_mem_cons.mpr ⟨cs_131, List.forall_mem_cons.mpr ⟨cs_132, List.forall_mem_cons.mpr ⟨cs_133, List.forall_mem_cons.mpr ⟨cs_134, List.forall_mem_cons.mpr ⟨cs_135, List.forall_mem_cons.mpr ⟨cs_136, List.forall_mem_cons.mpr ⟨cs_137, List.forall_mem_cons.mpr ⟨cs_138, List.forall_mem_cons.mpr ⟨cs_139, List.forall_mem_cons.mpr ⟨cs_140, List.forall_mem_cons.mpr ⟨cs_141, List.forall_mem_cons.mpr ⟨cs_142, List.forall_mem_cons.mpr ⟨cs_143, List.forall_mem_cons.mpr ⟨cs_144, List.forall_mem_cons.mpr ⟨cs_145, fun _ h => absurd h List.not_mem_nil⟩⟩⟩⟩⟩⟩⟩⟩⟩⟩⟩⟩⟩⟩⟩⟩
def csl_9 : List Nat := [146, 147, 148, 149, 150, 151, 152, 153, 154, 155, 156, 157, 158, 159, 160, 161]
theorem cst_9 : ∀ c ∈ csl_9, calS c = true := List.forall_mem_cons.mpr ⟨cs_146, List.forall_mem_cons.mpr ⟨cs_147, List.forall_mem_cons.mpr ⟨cs_148, List.forall_mem_cons.mpr ⟨cs_149, List.forall_mem_cons.mpr ⟨cs_150, List.forall_mem_cons.mpr ⟨cs_151, List.forall_mem_cons.mpr ⟨cs_152, List.forall_mem_cons.mpr ⟨cs_153, List.forall_mem_cons.mpr ⟨cs_154, List.forall_mem_cons.mpr ⟨cs_155, List.forall_mem_cons.mpr ⟨cs_156, List.forall_mem_cons.mpr ⟨cs_157, List.forall_mem_cons.mpr ⟨cs_158, List.forall_mem_cons.mpr ⟨cs_159, List.forall_mem_cons.mpr ⟨cs_160, List.forall_mem_cons.mpr ⟨cs_161, fun _ h => absurd h List.not_mem_nil⟩⟩⟩⟩⟩⟩⟩⟩⟩⟩⟩⟩⟩⟩⟩⟩
def csl_10 : List Nat := [162, 163, 164, 165, 166, 167, 168, 169, 170, 171, 172, 173, 174, 175, 176, 177]
theorem cst_10 : ∀ c ∈ csl_10, calS c = true := List.forall_mem_cons.mpr ⟨cs_162, List.forall_mem_cons.mpr ⟨cs_163, List.forall_mem_cons.mpr ⟨cs_164, List.forall_mem_cons.mpr ⟨cs_165, List.forall_mem_cons.mpr ⟨cs_166, List.forall_mem_cons.mpr ⟨cs_167, List.forall_mem_cons.mpr ⟨cs_168, List.forall_mem_cons.mpr ⟨cs_169, List.forall_mem_cons.mpr ⟨cs_170, List.forall_mem_cons.mpr ⟨cs_171, List.forall_mem_cons.mpr ⟨cs_172, List.forall_mem_cons.mpr ⟨cs_173, List.forall_mem_cons.mpr ⟨cs_174, List.forall_mem_cons.mpr ⟨cs_175, List.forall_mem_cons.mpr ⟨cs_176, List.forall_mem_cons.mpr ⟨cs_177, fun _ h => absurd h List.not_mem_nil⟩⟩⟩⟩⟩⟩⟩⟩⟩⟩⟩⟩⟩⟩⟩⟩
def csl_11 : List Nat := [178, 179, 180, 181, 182, 183, 184, 185, 186, 187, 188, 189, 190, 191, 192, 193]
theorem cst_11 : ∀ c ∈ csl_11, calS c = true := List.forall_mem_cons.mpr ⟨cs_178, List.forall_mem_cons.mpr ⟨cs_179, List.forall_mem_cons.mpr ⟨cs_180, List.forall_mem_cons.mpr ⟨cs_181, List.forall_mem_cons.mpr ⟨cs_182, List.forall_mem_cons.mpr ⟨cs_183, List.forall_mem_cons.mpr ⟨cs_184, List.forall_mem_cons.mpr ⟨cs_185, List.forall_mem_cons.mpr ⟨cs_186, List.forall_mem_cons.mpr ⟨cs_187, List.forall_mem_cons.mpr ⟨cs_188, List.forall_mem_cons.mpr ⟨cs_189, List.forall_mem_cons.mpr ⟨cs_190, List.forall_mem_cons.mpr ⟨cs_191, List.forall_mem_cons.mpr ⟨cs_192, List.forall_mem_cons.mpr ⟨cs_193, fun _ h => absurd h List.not_mem_nil⟩⟩⟩⟩⟩⟩⟩⟩⟩⟩⟩⟩⟩⟩⟩⟩
def csl_12 : List Nat := [194, 195, 196, 197, 198, 199, 200, 201, 202, 203, 204, 205, 206, 207, 208, 209]
theorem cst_12 : ∀ c ∈ csl_12, calS c = true := List.forall_mem_cons.mpr ⟨cs_194, List.forall_mem_cons.mpr ⟨cs_195, List.forall_mem_cons.mpr ⟨cs_196, List.forall_mem_cons.mpr ⟨cs_197, List.forall_mem_cons.mpr ⟨cs_198, List.forall_mem_cons.mpr ⟨cs_199, List.forall_mem_cons.mpr ⟨cs_200, List.forall_mem_cons.mpr ⟨cs_201, List.forall_mem_cons.mpr ⟨cs_202, List.forall_mem_cons.mpr ⟨cs_203, List.forall_mem_cons.mpr ⟨cs_204, List.forall_mem_cons.mpr ⟨cs_205, List.forall_mem_cons.mpr ⟨cs_206, List.forall_mem_cons.mpr ⟨cs_207, List.forall_mem_cons.mpr ⟨cs_208, List.forall_mem_cons.mpr ⟨cs_209, fun _ h => absurd h List.not_mem_nil⟩⟩⟩⟩⟩⟩⟩⟩⟩⟩⟩⟩⟩⟩⟩⟩
def csl_13 : List Nat := [210, 211, 212, 213, 214, 215, 216, 217, 218, 219, 220, 221, 222, 223, 224, 225]
theorem cst_13 : ∀ c ∈ csl_13, calS c = true := List.forall_mem_cons.mpr ⟨cs_210, List.forall_mem_cons.mpr ⟨cs_211, List.forall_mem_cons.mpr ⟨cs_212, List.forall_mem_cons.mpr ⟨cs_213, List.forall_mem_cons.mpr ⟨cs_214, List.forall_mem_cons.mpr ⟨cs_215, List.forall_mem_cons.mpr ⟨cs_216, List.forall_mem_cons.mpr ⟨cs_217, List.forall_mem_cons.mpr ⟨cs_218, List.forall_mem_cons.mpr ⟨cs_219, List.forall_mem_cons.mpr ⟨cs_220, List.forall_mem_cons.mpr ⟨cs_221, List.forall_mem_cons.mpr ⟨cs_222, List.forall_mem_cons.mpr ⟨cs_223, List.forall_mem_cons.mpr ⟨cs_224, List.forall_mem_cons.mpr ⟨cs_225, fun _ h => absurd h List.not_mem_nil⟩⟩⟩⟩⟩⟩⟩⟩⟩⟩⟩⟩⟩⟩⟩⟩
def csl_14 : List Nat := [226, 227, 228, 229, 230, 231, 232, 233, 234, 235, 236, 237, 238, 239, 240, 241]
theorem cst_14 : ∀ c ∈ csl_14, calS c = true := List.forall_mem_cons.mpr ⟨cs_226, List.forall_mem_cons.mpr ⟨cs_227, List.forall_mem_cons.mpr ⟨cs_228, List.forall_mem_cons.mpr ⟨cs_229, List.forall_mem_cons.mpr ⟨cs_230, List.forall_mem_cons.mpr ⟨cs_231, List.forall_mem_cons.mpr ⟨cs_232, List.forall_mem_cons.mpr ⟨cs_233, List.forall_mem_cons.mpr ⟨cs_234, List.forall_mem_cons.mpr ⟨cs_235, List.forall_mem_cons.mpr ⟨cs_236, List.forall_mem_cons.mpr ⟨cs_237, List.forall_mem_cons.mpr ⟨cs_238, List.forall_mem_cons.mpr ⟨cs_239, List.forall_mem_cons.mpr ⟨cs_240, List.forall_mem_cons.mpr ⟨cs_241, fun _ h => absurd h List.not_mem_nil⟩⟩⟩⟩⟩⟩⟩⟩⟩⟩⟩⟩⟩⟩⟩⟩
def csl_15 : List Nat := [242, 243, 244, 245, 246, 247, 248, 249, 250, 251, 252, 253, 254, 255, 256, 257]
theorem cst_15 : ∀ c ∈ csl_15, calS c = true := List.forall_mem_cons.mpr ⟨cs_242, List.forall_mem_cons.mpr ⟨cs_243, List.forall_mem_cons.mpr ⟨cs_244, List.forall_mem_cons.mpr ⟨cs_245, List.forall_mem_cons.mpr ⟨cs_246, List.forall_mem_cons.mpr ⟨cs_247, List.forall_mem_cons.mpr ⟨cs_248, List.forall_mem_cons.mpr ⟨cs_249, List.forall_mem_cons.mpr ⟨cs_250, List.forall_mem_cons.mpr ⟨cs_251, List.forall_mem_cons.mpr ⟨cs_252, List.forall_mem_cons.mpr ⟨cs_253, List.forall_mem_cons.mpr ⟨cs_254, List.forall_mem_cons.mpr ⟨cs_255, List.forall_mem_cons.mpr ⟨cs_256, List.forall_mem_cons.mpr ⟨cs_257, fun _ h => absurd h List.not_mem_nil⟩⟩⟩⟩⟩⟩⟩⟩⟩⟩⟩⟩⟩⟩⟩⟩
def csl_16 : List Nat := [258, 259, 260, 261, 262, 263, 264, 265, 266, 267, 268, 269, 270, 271, 272, 273]
theorem cst_16 : ∀ c ∈ csl_16, calS c = true := List.forall_mem_cons.mpr ⟨cs_258, List.forall_mem_cons.mpr ⟨cs_259, List.forall_mem_cons.mpr ⟨cs_260, List.forall_mem_cons.mpr ⟨cs_261, List.forall_mem_cons.mpr ⟨cs_262, List.forall_mem_cons.mpr ⟨cs_263, List.forall_mem_cons.mpr ⟨cs_264, List.forall_mem_cons.mpr ⟨cs_265, List.forall_mem_cons.mpr ⟨cs_266, List.forall_mem_cons.mpr ⟨cs_267, List.forall_mem_cons.mpr ⟨cs_268, List.forall_mem_cons.mpr ⟨cs_269, List.forall_mem_cons.mpr ⟨cs_270, List.forall_mem_cons.mpr ⟨cs_271, List.forall_mem_cons.mpr ⟨cs_272, List.forall_mem_cons.mpr ⟨cs_273, fun _ h => absurd h List.not_mem_nil⟩⟩⟩⟩⟩⟩⟩⟩⟩⟩⟩⟩⟩⟩⟩⟩
def csl_17 : List Nat := [274, 275, 276, 277, 278, 279, 280, 281, 282, 283, 284, 285, 286, 287, 288, 289]
theorem cst_17 : ∀ c ∈ csl_17, calS c = true := List.forall_mem_cons.mpr ⟨cs_274, List.forall_mem_cons.mpr ⟨cs_275, List.forall_mem_cons.mpr ⟨cs_276, List.forall_mem_cons.mpr ⟨cs_277, List.forall_mem_cons.mpr ⟨cs_278, List.forall_mem_cons.mpr ⟨cs_279, List.forall_mem_cons.mpr ⟨cs_280, List.forall_mem_cons.mpr ⟨cs_281, List.forall_mem_cons.mpr ⟨cs_282, List.forall_mem_cons.mpr ⟨cs_283, List.forall_mem_cons.mpr ⟨cs_284, List.forall_mem_cons.mpr ⟨cs_285, List.forall_mem_cons.mpr ⟨cs_286, List.forall_mem_cons.mpr ⟨cs_287, List.forall_mem_cons.mpr ⟨cs_288, List.forall_mem_cons.mpr ⟨cs_289, fun _ h => absurd h List.not_mem_nil⟩⟩⟩⟩⟩⟩⟩⟩⟩⟩⟩⟩⟩⟩⟩⟩
def csl_18 : List Nat := [290, 291, 292, 293, 294, 295, 296, 297, 298, 299, 300, 301, 302, 303, 304, 305]
theorem cst_18 : ∀ c ∈ csl_18, calS c = true := List.forall_mem_cons.mpr ⟨cs_290, List.forall_mem_cons.mpr ⟨cs_291, List.forall_mem_cons.mpr ⟨cs_292, List.forall_mem_cons.mpr ⟨cs_293, List.forall_mem_cons.mpr ⟨cs_294, List.forall_mem_cons.mpr ⟨cs_295, List.forall_mem_cons.mpr ⟨cs_296, List.forall_mem_cons.mpr ⟨cs_297, List.forall_mem_cons.mpr ⟨cs_298, List.forall_mem_cons.mpr ⟨cs_299, List.forall_mem_cons.mpr ⟨cs_300, List.forall_mem_cons.mpr ⟨cs_301, List.forall_mem_cons.mpr ⟨cs_302, List.forall_mem_cons.mpr ⟨cs_303, List.forall_mem_cons.mpr ⟨cs_304, List.forall_mem_cons.mpr ⟨cs_305, fun _ h => absurd h List.not_mem_nil⟩⟩⟩⟩⟩⟩⟩⟩⟩⟩⟩⟩⟩⟩⟩⟩
def csl_19 : List Nat := [306, 307, 308, 309, 310, 311, 312, 313, 314, 315, 316, 317, 318, 319, 320, 321]
theorem cst_19 : ∀ c ∈ csl_19, calS c = true := List.forall_mem_cons.mpr ⟨cs_306, List.forall_mem_cons.mpr ⟨cs_307, List.forall_mem_cons.mpr ⟨cs_308, List.forall_mem_cons.mpr ⟨cs_309, List.forall_mem_cons.mpr ⟨cs_310, List.forall_mem_cons.mpr ⟨cs_311, List.forall_mem_cons.mpr ⟨cs_312, List.forall_mem_cons.mpr ⟨cs_313, List.forall_mem_cons.mpr ⟨cs_314, List.forall_mem_cons.mpr ⟨cs_315, List.forall_mem_cons.mpr ⟨cs_316, List.forall_mem_cons.mpr ⟨cs_317, List.forall_mem_cons.mpr ⟨cs_318, List.forall_mem_cons.mpr ⟨cs_319, List.forall_mem_cons.mpr ⟨cs_320, List.forall_mem_cons.mpr ⟨cs_321, fun _ h => absurd h List.not_mem_nil⟩⟩⟩⟩⟩⟩⟩⟩⟩⟩⟩⟩⟩⟩⟩⟩
def csl_20 : List Nat := [322, 323, 324, 325, 326, 327, 328, 329, 330, 331, 332, 333, 334, 335, 336, 337]
theorem cst_20 : ∀ c ∈ csl_20, calS c = true := List.forall_mem_cons.mpr ⟨cs_322, List.forall_mem_cons.mpr ⟨cs_323, List.forall_mem_cons.mpr ⟨cs_324, List.forall_mem_cons.mpr ⟨cs_325, List.forall_mem_cons.mpr ⟨cs_326, List.forall_mem_cons.mpr ⟨cs_327, List.forall_mem_cons.mpr ⟨cs_328, List.forall_mem_cons.mpr ⟨cs_329, List.forall_mem_cons.mpr ⟨cs_330, List.forall_mem_cons.mpr ⟨cs_331, List.forall_mem_cons.mpr ⟨cs_332, List.forall_mem_cons.mpr ⟨cs_333, List.forall_mem_cons.mpr ⟨cs_334, List.forall_mem_cons.mpr ⟨cs_335, List.forall_mem_cons.mpr ⟨cs_336, List.forall_mem_cons.mpr ⟨cs_337, fun _ h => absurd h List.not_mem_nil⟩⟩⟩⟩⟩⟩⟩⟩⟩⟩⟩⟩⟩⟩⟩⟩
def csl_21 : List Nat := [338, 339, 340, 341, 342, 343, 344, 345, 346, 347, 348, 349, 350, 351, 352, 353]
theorem cst_21 : ∀ c ∈ csl_21, calS c = true := List.forall_mem_cons.mpr ⟨cs_338, List.forall_mem_cons.mpr ⟨cs_339, List.forall_mem_cons.mpr ⟨cs_340, List.forall_mem_cons.mpr ⟨cs_341, List.forall_mem_cons.mpr ⟨cs_342, List.forall_mem_cons.mpr ⟨cs_343, List.forall_mem_cons.mpr ⟨cs_344, List.forall_mem_cons.mpr ⟨cs_345, List.forall_mem_cons.mpr ⟨cs_346, List.forall_mem_cons.mpr ⟨cs_347, List.forall_mem_cons.mpr ⟨cs_348, List.forall_mem_cons.mpr ⟨cs_349, List.forall_mem_cons.mpr ⟨cs_350, List.forall_mem_cons.mpr ⟨cs_351, List.forall_mem_cons.mpr ⟨cs_352, List.forall_mem_cons.mpr ⟨cs_353, fun _ h => absurd h List.not_mem_nil⟩⟩⟩⟩⟩⟩⟩⟩⟩⟩⟩⟩⟩⟩⟩⟩
def csl_22 : List Nat := [354, 355, 356, 357, 358, 359, 360, 361, 362, 363, 364, 365, 366, 367, 368, 369]
theorem cst_22 : ∀ c ∈ csl_22, calS c = true := List.forall_mem_cons.mpr ⟨cs_354, List.forall_mem_cons.mpr ⟨cs_355, List.forall_mem_cons.mpr ⟨cs_356, List.forall_mem_cons.mpr ⟨cs_357, List.forall_mem_cons.mpr ⟨cs_358, List.forall_mem_cons.mpr ⟨cs_359, List.forall_mem_cons.mpr ⟨cs_360, List.forall_mem_cons.mpr ⟨cs_361, List.forall_mem_cons.mpr ⟨cs_362, List.forall_mem_cons.mpr ⟨cs_363, List.forall_mem_cons.mpr ⟨cs_364, List.forall_mem_cons.mpr ⟨cs_365, List.forall_mem_cons.mpr ⟨cs_366, List.forall_mem_cons.mpr ⟨cs_367, List.forall_mem_cons.mpr ⟨cs_368, List.forall_mem_cons.mpr ⟨cs_369, fun _ h => absurd h List.not_mem_nil⟩⟩⟩⟩⟩⟩⟩⟩⟩⟩⟩⟩⟩⟩⟩⟩
def csl_23 : List Nat := [370, 371, 372, 373, 374, 375, 376, 377, 378, 379, 380, 381, 382]
theorem cst_23 : ∀ c ∈ csl_23, calS c = true := List.forall_mem_cons.mpr ⟨cs_370, List.forall_mem_cons.mpr ⟨cs_371, List.forall_mem_cons.mpr ⟨cs_372, List.forall_mem_cons.mpr ⟨cs_373, List.forall_mem_cons.mpr ⟨cs_374, List.forall_mem_cons.mpr ⟨cs_375, List.forall_mem_cons.mpr ⟨cs_376, List.forall_mem_cons.mpr ⟨cs_377, List.forall_mem_cons.mpr ⟨cs_378, List.forall_mem_cons.mpr ⟨cs_379, List.forall_mem_cons.mpr ⟨cs_380, List.forall_mem_cons.mpr ⟨cs_381, List.forall_mem_cons.mpr ⟨cs_382, fun _ h => absurd h List.not_mem_nil⟩⟩⟩⟩⟩⟩⟩⟩⟩⟩⟩⟩⟩
def csl : List Nat := csl_0 ++ (csl_1 ++ (csl_2 ++ (csl_3 ++ (csl_4 ++ (csl_5 ++ (csl_6 ++ (csl_7 ++ (csl_8 ++ (csl_9 ++ (csl_10 ++ (csl_11 ++ (csl_12 ++ (csl_13 ++ (csl_14 ++ (csl_15 ++ (csl_16 ++ (csl_17 ++ (csl_18 ++ (csl_19 ++ (csl_20 ++ (csl_21 ++ (csl_22 ++ (csl_23)))))))))))))))))))))))
theorem cs_all : ∀ c ∈ csl, calS c = true := List.forall_mem_append.mpr ⟨cst_0, List.forall_mem_append.mpr ⟨cst_1, List.forall_mem_append.mpr ⟨cst_2, List.forall_mem_append.mpr ⟨cst_3, List.forall_mem_append.mpr ⟨cst_4, List.forall_mem_append.mpr ⟨cst_5, List.forall_mem_append.mpr ⟨cst_6, List.forall_mem_append.mpr ⟨cst_7, List.forall_mem_append.mpr ⟨cst_8, List.forall_mem_append.mpr ⟨cst_9, List.forall_mem_append.mpr ⟨cst_10, List.forall_mem_append.mpr ⟨cst_11, List.forall_mem_append.mpr ⟨cst_12, List.forall_mem_append.mpr ⟨cst_13, List.forall_mem_append.mpr ⟨cst_14, List.forall_mem_append.mpr ⟨cst_15, List.forall_mem_append.mpr ⟨cst_16, List.forall_mem_append.mpr ⟨cst_17, List.forall_mem_append.mpr ⟨cst_18, List.forall_mem_append.mpr ⟨cst_19, List.forall_mem_append.mpr ⟨cst_20, List.forall_mem_append.mpr ⟨cst_21, List.forall_mem_append.mpr ⟨cst_22, cst_23⟩⟩⟩⟩⟩⟩⟩⟩⟩⟩⟩⟩⟩⟩⟩⟩⟩⟩⟩⟩⟩⟩⟩
theorem cal_all : ∀ c, c < 383 → c ≠ 2 → c ≠ 3 → calS c = true := fun c h h2 h3 => cs_all c (List.contains_iff_mem.mp (co_dec (N := 383) (P := fun c => c ≠ 2 → c ≠ 3 → csl.contains c = true) (by decide +kernel) h h2 h3))
