/-! all methods, one by one, further -/
set_option maxRecDepth 100000 in
theorem om_200 : okM 200 = true := by decide +kernel
set_option maxRecDepth 100000 in
theorem om_201 : okM 201 = true := by decide +kernel
set_option maxRecDepth 100000 in
theorem om_202 : okM 202 = true := by decide +kernel
set_option maxRecDepth 100000 in
theorem om_203 : okM 203 = true := by decide +kernel
set_option maxRecDepth 100000 in
theorem om_204 : okM 204 = true := by decide +kernel
set_option maxRecDepth 100000 in
theorem om_205 : okM 205 = true := by decide +kernel
set_option maxRecDepth 100000 in
theorem om_206 : okM 206 = true := by decide +kernel
set_option maxRecDepth 100000 in
theorem om_207 : okM 207 = true := by decide +kernel
set_option maxRecDepth 100000 in
theorem om_208 : okM 208 = true := by decide +kernel
set_option maxRecDepth 100000 in
theorem om_209 : okM 209 = true := by decide +kernel
set_option maxRecDepth 100000 in
theorem om_210 : okM 210 = true := by decide +kernel
set_option maxRecDepth 100000 in
theorem om_211 : okM 211 = true := by decide +kernel
set_option maxRecDepth 100000 in
theorem om_212 : okM 212 = true := by decide +kernel
set_option maxRecDepth 100000 in
theorem om_213 : okM 213 = true := by decide +kernel
set_option maxRecDepth 100000 in
theorem om_214 : okM 214 = true := by decide +kernel
set_option maxRecDepth 100000 in
theorem om_215 : okM 215 = true := by decide +kernel
set_option maxRecDepth 100000 in
theorem om_216 : okM 216 = true := by decide +kernel
set_option maxRecDepth 100000 in
theorem om_217 : okM 217 = true := by decide +kernel
set_option maxRecDepth 100000 in
theorem om_218 : okM 218 = true := by decide +kernel
set_option maxRecDepth 100000 in
theorem om_219 : okM 219 = true := by decide +kernel
set_option maxRecDepth 100000 in
theorem om_220 : okM 220 = true := by decide +kernel
set_option maxRecDepth 100000 in
theorem om_221 : okM 221 = true := by decide +kernel
set_option maxRecDepth 100000 in
theorem om_222 : okM 222 = true := by decide +kernel
set_option maxRecDepth 100000 in
theorem om_223 : okM 223 = true := by decide +kernel
set_option maxRecDepth 100000 in
theorem om_224 : okM 224 = true := by decide +kernel
set_option maxRecDepth 100000 in
theorem om_225 : okM 225 = true := by decide +kernel
set_option maxRecDepth 100000 in
theorem om_226 : okM 226 = true := by decide +kernel
set_option maxRecDepth 100000 in
theorem om_227 : okM 227 = true := by decide +kernel
set_option maxRecDepth 100000 in
theorem om_228 : okM 228 = true := by decide +kernel
set_option maxRecDepth 100000 in
theorem om_229 : okM 229 = true := by decide +kernel
set_option maxRecDepth 100000 in
theorem om_230 : okM 230 = true := by decide +kernel
set_option maxRecDepth 100000 in
theorem om_231 : okM 231 = true := by decide +kernel
set_option maxRecDepth 100000 in
theorem om_232 : okM 232 = true := by decide +kernel
set_option maxRecDepth 100000 in
theorem om_233 : okM 233 = true := by decide +kernel
set_option maxRecDepth 100000 in
theorem om_234 : okM 234 = true := by decide +kernel
set_option maxRecDepth 100000 in
theorem om_235 : okM 235 = true := by decide +kernel
set_option maxRecDepth 100000 in
theorem om_236 : okM 236 = true := by decide +kernel
set_option maxRecDepth 100000 in
theorem om_237 : okM 237 = true := by decide +kernel
set_option maxRecDepth 100000 in
theorem om_238 : okM 238 = true := by decide +kernel
set_option maxRecDepth 100000 in
theorem om_239 : okM 239 = true := by decide +kernel
set_option maxRecDepth 100000 in
theorem om_240 : okM 240 = true := by decide +kernel
set_option maxRecDepth 100000 in
theorem om_241 : okM 241 = true := by decide +kernel
set_option maxRecDepth 100000 in
theorem om_242 : okM 242 = true := by decide +kernel
set_option maxRecDepth 100000 in
theorem om_243 : okM 243 = true := by decide +kernel
set_option maxRecDepth 100000 in
theorem om_244 : okM 244 = true := by decide +kernel
set_option maxRecDepth 100000 in
theorem om_245 : okM 245 = true := by decide +kernel
set_option maxRecDepth 100000 in
theorem om_246 : okM 246 = true := by decide +kernel
set_option maxRecDepth 100000 in
theorem om_247 : okM 247 = true := by decide +kernel
set_option maxRecDepth 100000 in
theorem om_248 : okM 248 = true := by decide +kernel
set_option maxRecDepth 100000 in
theorem om_249 : okM 249 = true := by decide +kernel
set_option maxRecDepth 100000 in
theorem om_250 : okM 250 = true := by decide +kernel
set_option maxRecDepth 100000 in
theorem om_251 : okM 251 = true := by decide +kernel
set_option maxRecDepth 100000 in
theorem om_252 : okM 252 = true := by decide +kernel
set_option maxRecDepth 100000 in
theorem om_253 : okM 253 = true := by decide +kernel
set_option maxRecDepth 100000 in
theorem om_254 : okM 254 = true := by decide +kernel
set_option maxRecDepth 100000 in
theorem om_255 : okM 255 = true := by decide +kernel
set_option maxRecDepth 100000 in
theorem om_256 : okM 256 = true := by decide +kernel
set_option maxRecDepth 100000 in
theorem om_257 : okM 257 = true := by decide +kernel
set_option maxRecDepth 100000 in
theorem om_258 : okM 258 = true := by decide +kernel
set_option maxRecDepth 100000 in
theorem om_259 : okM 259 = true := by decide +kernel
set_option maxRecDepth 100000 in
theorem om_260 : okM 260 = true := by decide +kernel
set_option maxRecDepth 100000 in
theorem om_261 : okM 261 = true := by decide +kernel
set_option maxRecDepth 100000 in
theorem om_262 : okM 262 = true := by decide +kernel
set_option maxRecDepth 100000 in
theorem om_263 : okM 263 = true := by decide +kernel
set_option maxRecDepth 100000 in
theorem om_264 : okM 264 = true := by decide +kernel
set_option maxRecDepth 100000 in
theorem om_265 : okM 265 = true := by decide +kernel
set_option maxRecDepth 100000 in
theorem om_266 : okM 266 = true := by decide +kernel
set_option maxRecDepth 100000 in
theorem om_267 : okM 267 = true := by decide +kernel
set_option maxRecDepth 100000 in
theorem om_268 : okM 268 = true := by decide +kernel
set_option maxRecDepth 100000 in
theorem om_269 : okM 269 = true := by decide +kernel
set_option maxRecDepth 100000 in
theorem om_270 : okM 270 = true := by decide +kernel
set_option maxRecDepth 100000 in
theorem om_271 : okM 271 = true := by decide +kernel
set_option maxRecDepth 100000 in
theorem om_272 : okM 272 = true := by decide +kernel
set_option maxRecDepth 100000 in
theorem om_273 : okM 273 = true := by decide +kernel
set_option maxRecDepth 100000 in
theorem om_274 : okM 274 = true := by decide +kernel
set_option maxRecDepth 100000 in
theorem om_275 : okM 275 = true := by decide +kernel
set_option maxRecDepth 100000 in
theorem om_276 : okM 276 = true := by decide +kernel
set_option maxRecDepth 100000 in
theorem om_277 : okM 277 = true := by decide +kernel
set_option maxRecDepth 100000 in
theorem om_278 : okM 278 = true := by decide +kernel
set_option maxRecDepth 100000 in
theorem om_279 : okM 279 = true := by decide +kernel
set_option maxRecDepth 100000 in
theorem om_280 : okM 280 = true := by decide +kernel
set_option maxRecDepth 100000 in
theorem om_281 : okM 281 = true := by decide +kernel
set_option maxRecDepth 100000 in
theorem om_282 : okM 282 = true := by decide +kernel
set_option maxRecDepth 100000 in
theorem om_283 : okM 283 = true := by decide +kernel
set_option maxRecDepth 100000 in
theorem om_284 : okM 284 = true := by decide +kernel
set_option maxRecDepth 100000 in
theorem om_285 : okM 285 = true := by decide +kernel
set_option maxRecDepth 100000 in
theorem om_286 : okM 286 = true := by decide +kernel
set_option maxRecDepth 100000 in
theorem om_287 : okM 287 = true := by decide +kernel
set_option maxRecDepth 100000 in
theorem om_288 : okM 288 = true := by decide +kernel
set_option maxRecDepth 100000 in
theorem om_289 : okM 289 = true := by decide +kernel
set_option maxRecDepth 100000 in
theorem om_290 : okM 290 = true := by decide +kernel
set_option maxRecDepth 100000 in
theorem om_291 : okM 291 = true := by decide +kernel
set_option maxRecDepth 100000 in
theorem om_292 : okM 292 = true := by decide +kernel
set_option maxRecDepth 100000 in
theorem om_293 : okM 293 = true := by decide +kernel
set_option maxRecDepth 100000 in
theorem om_294 : okM 294 = true := by decide +kernel
set_option maxRecDepth 100000 in
theorem om_295 : okM 295 = true := by decide +kernel
set_option maxRecDepth 100000 in
theorem om_296 : okM 296 = true := by decide +kernel
set_option maxRecDepth 100000 in
theorem om_297 : okM 297 = true := by decide +kernel
set_option maxRecDepth 100000 in
theorem om_298 : okM 298 = true := by decide +kernel
set_option maxRecDepth 100000 in
theorem om_299 : okM 299 = true := by decide +kernel
set_option maxRecDepth 100000 in
theorem om_300 : okM 300 = true := by decide +kernel
set_option maxRecDepth 100000 in
theorem om_301 : okM 301 = true := by decide +kernel
set_option maxRecDepth 100000 in
theorem om_302 : okM 302 = true := by decide +kernel
set_option maxRecDepth 100000 in
theorem om_303 : okM 303 = true := by decide +kernel
set_option maxRecDepth 100000 in
theorem om_304 : okM 304 = true := by decide +kernel
set_option maxRecDepth 100000 in
theorem om_305 : okM 305 = true := by decide +kernel
set_option maxRecDepth 100000 in
theorem om_306 : okM 306 = true := by decide +kernel
set_option maxRecDepth 100000 in
theorem om_307 : okM 307 = true := by decide +kernel
set_option maxRecDepth 100000 in
theorem om_308 : okM 308 = true := by decide +kernel
set_option maxRecDepth 100000 in
theorem om_309 : okM 309 = true := by decide +kernel
set_option maxRecDepth 100000 in
theorem om_310 : okM 310 = true := by decide +kernel
set_option maxRecDepth 100000 in
theorem om_311 : okM 311 = true := by decide +kernel
set_option maxRecDepth 100000 in
theorem om_312 : okM 312 = true := by decide +kernel
set_option maxRecDepth 100000 in
theorem om_313 : okM 313 = true := by decide +kernel
set_option maxRecDepth 100000 in
theorem om_314 : okM 314 = true := by decide +kernel
set_option maxRecDepth 100000 in
theorem om_315 : okM 315 = true := by decide +kernel
set_option maxRecDepth 100000 in
theorem om_316 : okM 316 = true := by decide +kernel
set_option maxRecDepth 100000 in
theorem om_317 : okM 317 = true := by decide +kernel
set_option maxRecDepth 100000 in
theorem om_318 : okM 318 = true := by decide +kernel
set_option maxRecDepth 100000 in
theorem om_319 : okM 319 = true := by decide +kernel
set_option maxRecDepth 100000 in
theorem om_320 : okM 320 = true := by decide +kernel
set_option maxRecDepth 100000 in
theorem om_321 : okM 321 = true := by decide +kernel
set_option maxRecDepth 100000 in
theorem om_322 : okM 322 = true := by decide +kernel
set_option maxRecDepth 100000 in
theorem om_323 : okM 323 = true := by decide +kernel
set_option maxRecDepth 100000 in
theorem om_324 : okM 324 = true := by decide +kernel
set_option maxRecDepth 100000 in
theorem om_325 : okM 325 = true := by decide +kernel
set_option maxRecDepth 100000 in
theorem om_326 : okM 326 = true := by decide +kernel
set_option maxRecDepth 100000 in
theorem om_327 : okM 327 = true := by decide +kernel
set_option maxRecDepth 100000 in
theorem om_328 : okM 328 = true := by decide +kernel
set_option maxRecDepth 100000 in
theorem om_329 : okM 329 = true := by decide +kernel
set_option maxRecDepth 100000 in
theorem om_330 : okM 330 = true := by decide +kernel
set_option maxRecDepth 100000 in
theorem om_331 : okM 331 = true := by decide +kernel
set_option maxRecDepth 100000 in
theorem om_332 : okM 332 = true := by decide +kernel
set_option maxRecDepth 100000 in
theorem om_333 : okM 333 = true := by decide +kernel
set_option maxRecDepth 100000 in
theorem om_334 : okM 334 = true := by decide +kernel
set_option maxRecDepth 100000 in
theorem om_335 : okM 335 = true := by decide +kernel
set_option maxRecDepth 100000 in
theorem om_336 : okM 336 = true := by decide +kernel
set_option maxRecDepth 100000 in
theorem om_337 : okM 337 = true := by decide +kernel
theorem omg_0 : ∀ m ∈ [0, 1, 2, 3, 4, 5, 6, 7, 8, 9, 10, 11, 12, 13, 14, 15, 16, 17, 18, 19], okM m = true := List.forall_mem_cons.mpr ⟨om_0, List.forall_mem_cons.mpr ⟨om_1, List.forall_mem_cons.mpr ⟨om_2, List.forall_mem_cons.mpr ⟨om_3, List.forall_mem_cons.mpr ⟨om_4, List.forall_mem_cons.mpr ⟨om_5, List.forall_mem_cons.mpr ⟨om_6, List.forall_mem_cons.mpr ⟨om_7, List.forall_mem_cons.mpr ⟨om_8, List.forall_mem_cons.mpr ⟨om_9, List.forall_mem_cons.mpr ⟨om_10, List.forall_mem_cons.mpr ⟨om_11, List.forall_mem_cons.mpr ⟨om_12, List.forall_mem_cons.mpr ⟨om_13, List.forall_mem_cons.mpr ⟨om_14, List.forall_mem_cons.mpr ⟨om_15, List.forall_mem_cons.mpr ⟨om_16, List.forall_mem_cons.mpr ⟨om_17, List.forall_mem_cons.mpr ⟨om_18, List.forall_mem_cons.mpr ⟨om_19, fun _ h => absurd h List.not_mem_nil⟩⟩⟩⟩⟩⟩⟩⟩⟩⟩⟩⟩⟩⟩⟩⟩⟩⟩⟩⟩
theorem omg_1 : ∀ m ∈ [20, 21, 22, 23, 24, 25, 26, 27, 28, 29, 30, 31, 32, 33, 34, 35, 36, 37, 38, 39], okM m = true := List.forall_mem_cons.mpr ⟨om_20, List.forall_mem_cons.mpr ⟨om_21, List.forall_mem_cons.mpr ⟨om_22, List.forall_mem_cons.mpr ⟨om_23, List.forall_mem_cons.mpr ⟨om_24, List.forall_mem_cons.mpr ⟨om_25, List.forall_mem_cons.mpr ⟨om_26, List.forall_mem_cons.mpr ⟨om_27, List.forall_mem_cons.mpr ⟨om_28, List.forall_mem_cons.mpr ⟨om_29, List.forall_mem_cons.mpr ⟨om_30, List.forall_mem_cons.mpr ⟨om_31, List.forall_mem_cons.mpr ⟨om_32, List.forall_mem_cons.mpr ⟨om_33, List.forall_mem_cons.mpr ⟨om_34, List.forall_mem_cons.mpr ⟨om_35, List.forall_mem_cons.mpr ⟨om_36, List.forall_mem_cons.mpr ⟨om_37, List.forall_mem_cons.mpr ⟨om_38, List.forall_mem_cons.mpr ⟨om_39, fun _ h => absurd h List.not_mem_nil⟩⟩⟩⟩⟩⟩⟩⟩⟩⟩⟩⟩⟩⟩⟩⟩⟩⟩⟩⟩
theorem omg_2 : ∀ m ∈ [40, 41, 42, 43, 44, 45, 46, 47, 48, 49, 50, 51, 52, 53, 54, 55, 56, 57, 58, 59], okM m = true := List.forall_mem_cons.mpr ⟨om_40, List.forall_mem_cons.mpr ⟨om_41, List.forall_mem_cons.mpr ⟨om_42, List.forall_mem_cons.mpr ⟨om_43, List.forall_mem_cons.mpr ⟨om_44, List.forall_mem_cons.mpr ⟨om_45, List.forall_mem_cons.mpr ⟨om_46, List.forall_mem_cons.mpr ⟨om_47, List.forall_mem_cons.mpr ⟨om_48, List.forall_mem_cons.mpr ⟨om_49, List.forall_mem_cons.mpr ⟨om_50, List.forall_mem_cons.mpr ⟨om_51, List.forall_mem_cons.mpr ⟨om_52, List.forall_mem_cons.mpr ⟨om_53, List.forall_mem_cons.mpr ⟨om_54, List.forall_mem_cons.mpr ⟨om_55, List.forall_mem_cons.mpr ⟨om_56, List.forall_mem_cons.mpr ⟨om_57, List.forall_mem_cons.mpr ⟨om_58, List.forall_mem_cons.mpr ⟨om_59, fun _ h => absurd h List.not_mem_nil⟩⟩⟩⟩⟩⟩⟩⟩⟩⟩⟩⟩⟩⟩⟩⟩⟩⟩⟩⟩
theorem omg_3 : ∀ m ∈ [60, 61, 62, 63, 64, 65, 66, 67, 68, 69, 70, 71, 72, 73, 74, 75, 76, 77, 78, 79], okM m = true := List.forall_mem_cons.mpr ⟨om_60, List.forall_mem_cons.mpr ⟨om_61, List.forall_mem_cons.mpr ⟨om_62, List.forall_mem_cons.mpr ⟨om_63, List.forall_mem_cons.mpr ⟨om_64, List.forall_mem_cons.mpr ⟨om_65, List.forall_mem_cons.mpr ⟨om_66, List.forall_mem_cons.mpr ⟨om_67, List.forall_mem_cons.mpr ⟨om_68, List.forall_mem_cons.mpr ⟨om_69, List.forall_mem_cons.mpr ⟨om_70, List.forall_mem_cons.mpr ⟨om_71, List.forall_mem_cons.mpr ⟨om_72, List.forall_mem_cons.mpr ⟨om_73, List.forall_mem_cons.mpr ⟨om_74, List.forall_mem_cons.mpr ⟨om_75, List.forall_mem_cons.mpr ⟨om_76, List.forall_mem_cons.mpr ⟨om_77, List.forall_mem_cons.mpr ⟨om_78, List.forall_mem_cons.mpr ⟨om_79, fun _ h => absurd h List.not_mem_nil⟩⟩⟩⟩⟩⟩⟩⟩⟩⟩⟩⟩⟩⟩⟩⟩⟩⟩⟩⟩
theorem omg_4 : ∀ m ∈ [80, 81, 82, 83, 84, 85, 86, 87, 88, 89, 90, 91, 92, 93, 94, 95, 96, 97, 98, 99], okM m = true := List.forall_mem_cons.mpr ⟨om_80, List.forall_mem_cons.mpr ⟨om_81, List.forall_mem_cons.mpr ⟨om_82, List.forall_mem_cons.mpr ⟨om_83, List.forall_mem_cons.mpr ⟨om_84, List.forall_mem_cons.mpr ⟨om_85, List.forall_mem_cons.mpr ⟨om_86, List.forall_mem_cons.mpr ⟨om_87, List.forall_mem_cons.mpr ⟨om_88, List.forall_mem_cons.mpr ⟨om_89, List.forall_mem_cons.mpr ⟨om_90, List.forall_mem_cons.mpr ⟨om_91, List.forall_mem_cons.mpr ⟨om_92, List.forall_mem_cons.mpr ⟨om_93, List.forall_mem_cons.mpr ⟨om_94, List.forall_mem_cons.mpr ⟨om_95, List.forall_mem_cons.mpr ⟨om_96, List.forall_mem_cons.mpr ⟨om_97, List.forall_mem_cons.mpr ⟨om_98, List.forall_mem_cons.mpr ⟨om_99, fun _ h => absurd h List.not_mem_nil⟩⟩⟩⟩⟩⟩⟩⟩⟩⟩⟩⟩⟩⟩⟩⟩⟩⟩⟩⟩
theorem omg_5 : ∀ m ∈ [100, 101, 102, 103, 104, 105, 106, 107, 108, 109, 110, 111, 112, 113, 114, 115, 116, 117, 118, 119], okM m = true := List.forall_mem_cons.mpr ⟨om_100, List.forall_mem_cons.mpr ⟨om_101, List.forall_mem_cons.mpr ⟨om_102, List.forall_mem_cons.mpr ⟨om_103, List.forall_mem_cons.mpr ⟨om_104, List.forall_mem_cons.mpr ⟨om_105, List.forall_mem_cons.mpr ⟨om_106, List.forall_mem_cons.mpr ⟨om_107, List.forall_mem_cons.mpr ⟨om_108, List.forall_mem_cons.mpr ⟨om_109, List.forall_mem_cons.mpr ⟨om_110, List.forall_mem_cons.mpr ⟨om_111, List.forall_mem_cons.mpr ⟨om_112, List.forall_mem_cons.mpr ⟨om_113, List.forall_mem_cons.mpr ⟨om_114, List.forall_mem_cons.mpr ⟨om_115, List.forall_mem_cons.mpr ⟨om_116, List.forall_mem_cons.mpr ⟨om_117, List.forall_mem_cons.mpr ⟨om_118, List.forall_mem_cons.mpr ⟨om_119, fun _ h => absurd h List.not_mem_nil⟩⟩⟩⟩⟩⟩⟩⟩⟩⟩⟩⟩⟩⟩⟩⟩⟩⟩⟩⟩
theorem omg_6 : ∀ m ∈ [120, 121, 122, 123, 124, 125, 126, 127, 128, 129, 130, 131, 132, 133, 134, 135, 136, 137, 138, 139], okM m = true := List.forall_mem_cons.mpr ⟨om_120, List.forall_mem_cons.mpr ⟨om_121, List.forall_mem_cons.mpr ⟨om_122, List.forall_mem_cons.mpr ⟨om_123, List.forall_mem_cons.mpr ⟨om_124, List.forall_mem_cons.mpr ⟨om_125, List.forall_mem_cons.mpr ⟨om_126, List.forall_mem_cons.mpr ⟨om_127, List.forall_mem_cons.mpr ⟨om_128, List.forall_mem_cons.mpr ⟨om_129, List.forall_mem_cons.mpr ⟨om_130, List.forall_mem_cons.mpr ⟨om_131, List.forall_mem_cons.mpr ⟨om_132, List.forall_mem_cons.mpr ⟨om_133, List.forall_mem_cons.mpr ⟨om_134, List.forall_mem_cons.mpr ⟨om_135, List.forall_mem_cons.mpr ⟨om_136, List.forall_mem_cons.mpr ⟨om_137, List.forall_mem_cons.mpr ⟨om_138, List.forall_mem_cons.mpr ⟨om_139, fun _ h => absurd h List.not_mem_nil⟩⟩⟩⟩⟩⟩⟩⟩⟩⟩⟩⟩⟩⟩⟩⟩⟩⟩⟩⟩
theorem omg_7 : ∀ m ∈ [140, 141, 142, 143, 144, 145, 146, 147, 148, 149, 150, 151, 152, 153, 154, 155, 156, 157, 158, 159], okM m = true := List.forall_mem_cons.mpr ⟨om_140, List.forall_mem_cons.mpr ⟨om_141, List.forall_mem_cons.mpr ⟨om_142, List.forall_mem_cons.mpr ⟨om_143, List.forall_mem_cons.mpr ⟨om_144, List.forall_mem_cons.mpr ⟨om_145, List.forall_mem_cons.mpr ⟨om_146, List.forall_mem_cons.mpr ⟨om_147, List.forall_mem_cons.mpr ⟨om_148, List.forall_mem_cons.mpr ⟨om_149, List.forall_mem_cons.mpr ⟨om_150, List.forall_mem_cons.mpr ⟨om_151, List.forall_mem_cons.mpr ⟨om_152, List.forall_mem_cons.mpr ⟨om_153, List.forall_mem_cons.mpr ⟨om_154, List.forall_mem_cons.mpr ⟨om_155, List.forall_mem_cons.mpr ⟨om_156, List.forall_mem_cons.mpr ⟨om_157, List.forall_mem_cons.mpr ⟨om_158, List.forall_mem_cons.mpr ⟨om_159, fun _ h => absurd h List.not_mem_nil⟩⟩⟩⟩⟩⟩⟩⟩⟩⟩⟩⟩⟩⟩⟩⟩⟩⟩⟩⟩
theorem omg_8 : ∀ m ∈ [160, 161, 162, 163, 164, 165, 166, 167, 168, 169, 170, 171, 172, 173, 174, 175, 176, 177, 178, 179], okM m = true := List.forall_mem_cons.mpr ⟨om_160, List.forall_mem_cons.mpr ⟨om_161, List.forall_mem_cons.mpr ⟨om_162, List.forall_mem_cons.mpr ⟨om_163, List.forall_mem_cons.mpr ⟨om_164, List.forall_mem_cons.mpr ⟨om_165, List.forall_mem_cons.mpr ⟨om_166, List.forall_mem_cons.mpr ⟨om_167, List.forall_mem_cons.mpr ⟨om_168, List.forall_mem_cons.mpr ⟨om_169, List.forall_mem_cons.mpr ⟨om_170, List.forall_mem_cons.mpr ⟨om_171, List.forall_mem_cons.mpr ⟨om_172, List.forall_mem_cons.mpr ⟨om_173, List.forall_mem_cons.mpr ⟨om_174, List.forall_mem_cons.mpr ⟨om_175, List.forall_mem_cons.mpr ⟨om_176, List.forall_mem_cons.mpr ⟨om_177, List.forall_mem_cons.mpr ⟨om_178, List.forall_mem_cons.mpr ⟨om_179, fun _ h => absurd h List.not_mem_nil⟩⟩⟩⟩⟩⟩⟩⟩⟩⟩⟩⟩⟩⟩⟩⟩⟩⟩⟩⟩
theorem omg_9 : ∀ m ∈ [180, 181, 182, 183, 184, 185, 186, 187, 188, 189, 190, 191, 192, 193, 194, 195, 196, 197, 198, 199], okM m = true := List.forall_mem_cons.mpr ⟨om_180, List.forall_mem_cons.mpr ⟨om_181, List.forall_mem_cons.mpr ⟨om_182, List.forall_mem_cons.mpr ⟨om_183, List.forall_mem_cons.mpr ⟨om_184, List.forall_mem_cons.mpr ⟨om_185, List.forall_mem_cons.mpr ⟨om_186, List.forall_mem_cons.mpr ⟨om_187, List.forall_mem_cons.mpr ⟨om_188, List.forall_mem_cons.mpr ⟨om_189, List.forall_mem_cons.mpr ⟨om_190, List.forall_mem_cons.mpr ⟨om_191, List.forall_mem_cons.mpr ⟨om_192, List.forall_mem_cons.mpr ⟨om_193, List.forall_mem_cons.mpr ⟨om_194, List.forall_mem_cons.mpr ⟨om_195, List.forall_mem_cons.mpr ⟨om_196, List.forall_mem_cons.mpr ⟨om_197, List.forall_mem_cons.mpr ⟨om_198, List.forall_mem_cons.mpr ⟨om_199, fun _ h => absurd h List.not_mem_nil⟩⟩⟩⟩⟩⟩⟩⟩⟩⟩⟩⟩⟩⟩⟩⟩⟩⟩⟩⟩
theorem omg_10 : ∀ m ∈ [200, 201, 202, 203, 204, 205, 206, 207, 208, 209, 210, 211, 212, 213, 214, 215, 216, 217, 218, 219], okM m = true := List.forall_mem_cons.mpr ⟨om_200, List.forall_mem_cons.mpr ⟨om_201, List.forall_mem_cons.mpr ⟨om_202, List.forall_mem_cons.mpr ⟨om_203, List.forall_mem_cons.mpr ⟨om_204, List.forall_mem_cons.mpr ⟨om_205, List.forall_mem_cons.mpr ⟨om_206, List.forall_mem_cons.mpr ⟨om_207, List.forall_mem_cons.mpr ⟨om_208, List.forall_mem_cons.mpr ⟨om_209, List.forall_mem_cons.mpr ⟨om_210, List.forall_mem_cons.mpr ⟨om_211, List.forall_mem_cons.mpr ⟨om_212, List.forall_mem_cons.mpr ⟨om_213, List.forall_mem_cons.mpr ⟨om_214, List.forall_mem_cons.mpr ⟨om_215, List.forall_mem_cons.mpr ⟨om_216, List.forall_mem_cons.mpr ⟨om_217, List.forall_mem_cons.mpr ⟨om_218, List.forall_mem_cons.mpr ⟨om_219, fun _ h => absurd h List.not_mem_nil⟩⟩⟩⟩⟩⟩⟩⟩⟩⟩⟩⟩⟩⟩⟩⟩⟩⟩⟩⟩
theorem omg_11 : ∀ m ∈ [220, 221, 222, 223, 224, 225, 226, 227, 228, 229, 230, 231, 232, 233, 234, 235, 236, 237, 238, 239], okM m = true := List.forall_mem_cons.mpr ⟨om_220, List.forall_mem_cons.mpr ⟨om_221, List.forall_mem_cons.mpr ⟨om_222, List.forall_mem_cons.mpr ⟨om_223, List.forall_mem_cons.mpr ⟨om_224, List.forall_mem_cons.mpr ⟨om_225, List.forall_mem_cons.mpr ⟨om_226, List.forall_mem_cons.mpr ⟨om_227, List.forall_mem_cons.mpr ⟨om_228, List.forall_mem_cons.mpr ⟨om_229, List.forall_mem_cons.mpr ⟨om_230, List.forall_mem_cons.mpr ⟨om_231, List.forall_mem_cons.mpr ⟨om_232, List.forall_mem_cons.mpr ⟨om_233, List.forall_mem_cons.mpr ⟨om_234, List.forall_mem_cons.mpr ⟨om_235, List.forall_mem_cons.mpr ⟨om_236, List.forall_mem_cons.mpr ⟨om_237, List.forall_mem_cons.mpr ⟨om_238, List.forall_mem_cons.mpr ⟨om_239, fun _ h => absurd h List.not_mem_nil⟩⟩⟩⟩⟩⟩⟩⟩⟩⟩⟩⟩⟩⟩⟩⟩⟩⟩⟩⟩
theorem omg_12 : ∀ m ∈ [240, 241, 242, 243, 244, 245, 246, 247, 248, 249, 250, 251, 252, 253, 254, 255, 256, 257, 258, 259], okM m = true := List.forall_mem_cons.mpr ⟨om_240, List.forall_mem_cons.mpr ⟨om_241, List.forall_mem_cons.mpr ⟨om_242, List.forall_mem_cons.mpr ⟨om_243, List.forall_mem_cons.mpr ⟨om_244, List.forall_mem_cons.mpr ⟨om_245, List.forall_mem_cons.mpr ⟨om_246, List.forall_mem_cons.mpr ⟨om_247, List.forall_mem_cons.mpr ⟨om_248, List.forall_mem_cons.mpr ⟨om_249, List.forall_mem_cons.mpr ⟨om_250, List.forall_mem_cons.mpr ⟨om_251, List.forall_mem_cons.mpr ⟨om_252, List.forall_mem_cons.mpr ⟨om_253, List.forall_mem_cons.mpr ⟨om_254, List.forall_mem_cons.mpr ⟨om_255, List.forall_mem_cons.mpr ⟨om_256, List.forall_mem_cons.mpr ⟨om_257, List.forall_mem_cons.mpr ⟨om_258, List.forall_mem_cons.mpr ⟨om_259, fun _ h => absurd h List.not_mem_nil⟩⟩⟩⟩⟩⟩⟩⟩⟩⟩⟩⟩⟩⟩⟩⟩⟩⟩⟩⟩
theorem omg_13 : ∀ m ∈ [260, 261, 262, 263, 264, 265, 266, 267, 268, 269, 270, 271, 272, 273, 274, 275, 276, 277, 278, 279], okM m = true := List.forall_mem_cons.mpr ⟨om_260, List.forall_mem_cons.mpr ⟨om_261, List.forall_mem_cons.mpr ⟨om_262, List.forall_mem_cons.mpr ⟨om_263, List.forall_mem_cons.mpr ⟨om_264, List.forall_mem_cons.mpr ⟨om_265, List.forall_mem_cons.mpr ⟨om_266, List.forall_mem_cons.mpr ⟨om_267, List.forall_mem_cons.mpr ⟨om_268, List.forall_mem_cons.mpr ⟨om_269, List.forall_mem_cons.mpr ⟨om_270, List.forall_mem_cons.mpr ⟨om_271, List.forall_mem_cons.mpr ⟨om_272, List.forall_mem_cons.mpr ⟨om_273, List.forall_mem_cons.mpr ⟨om_274, List.forall_mem_cons.mpr ⟨om_275, List.forall_mem_cons.mpr ⟨om_276, List.forall_mem_cons.mpr ⟨om_277, List.forall_mem_cons.mpr ⟨om_278, List.forall_mem_cons.mpr ⟨om_279, fun _ h => absurd h List.not_mem_nil⟩⟩⟩⟩⟩⟩⟩⟩⟩⟩⟩⟩⟩⟩⟩⟩⟩⟩⟩⟩
theorem omg_14 : ∀ m ∈ [280, 281, 282, 283, 284, 285, 286, 287, 288, 289, 290, 291, 292, 293, 294, 295, 296, 297, 298, 299], okM m = true := List.forall_mem_cons.mpr ⟨om_280, List.forall_mem_cons.mpr ⟨om_281, List.forall_mem_cons.mpr ⟨om_282, List.forall_mem_cons.mpr ⟨om_283, List.forall_mem_cons.mpr ⟨om_284, List.forall_mem_cons.mpr ⟨om_285, List.forall_mem_cons.mpr ⟨om_286, List.forall_mem_cons.mpr ⟨om_287, List.forall_mem_cons.mpr ⟨om_288, List.forall_mem_cons.mpr ⟨om_289, List.forall_mem_cons.mpr ⟨om_290, List.forall_mem_cons.mpr ⟨om_291, List.forall_mem_cons.mpr ⟨om_292, List.forall_mem_cons.mpr ⟨om_293, List.forall_mem_cons.mpr ⟨om_294, List.forall_mem_cons.mpr ⟨om_295, List.forall_mem_cons.mpr ⟨om_296, List.forall_mem_cons.mpr ⟨om_297, List.forall_mem_cons.mpr ⟨om_298, List.forall_mem_cons.mpr ⟨om_299, fun _ h => absurd h List.not_mem_nil⟩⟩⟩⟩⟩⟩⟩⟩⟩⟩⟩⟩⟩⟩⟩⟩⟩⟩⟩⟩
theorem omg_15 : ∀ m ∈ [300, 301, 302, 303, 304, 305, 306, 307, 308, 309, 310, 311, 312, 313, 314, 315, 316, 317, 318, 319], okM m = true := List.forall_mem_cons.mpr ⟨om_300, List.forall_mem_cons.mpr ⟨om_301, List.forall_mem_cons.mpr ⟨om_302, List.forall_mem_cons.mpr ⟨om_303, List.forall_mem_cons.mpr ⟨om_304, List.forall_mem_cons.mpr ⟨om_305, List.forall_mem_cons.mpr ⟨om_306, List.forall_mem_cons.mpr ⟨om_307, List.forall_mem_cons.mpr ⟨om_308, List.forall_mem_cons.mpr ⟨om_309, List.forall_mem_cons.mpr ⟨om_310, List.forall_mem_cons.mpr ⟨om_311, List.forall_mem_cons.mpr ⟨om_312, List.forall_mem_cons.mpr ⟨om_313, List.forall_mem_cons.mpr ⟨om_314, List.forall_mem_cons.mpr ⟨om_315, List.forall_mem_cons.mpr ⟨om_316, List.forall_mem_cons.mpr ⟨om_317, List.forall_mem_cons.mpr ⟨om_318, List.forall_mem_cons.mpr ⟨om_319, fun _ h => absurd h List.not_mem_nil⟩⟩⟩⟩⟩⟩⟩⟩⟩⟩⟩⟩⟩⟩⟩⟩⟩⟩⟩⟩
theorem omg_16 : ∀ m ∈ [320, 321, 322, 323, 324, 325, 326, 327, 328, 329, 330, 331, 332, 333, 334, 335, 336, 337], okM m = true := List.forall_mem_cons.mpr ⟨om_320, List.forall_mem_cons.mpr ⟨om_321, List.forall_mem_cons.mpr ⟨om_322, List.forall_mem_cons.mpr ⟨om_323, List.forall_mem_cons.mpr ⟨om_324, List.forall_mem_cons.mpr ⟨om_325, List.forall_mem_cons.mpr ⟨om_326, List.forall_mem_cons.mpr ⟨om_327, List.forall_mem_cons.mpr ⟨om_328, List.forall_mem_cons.mpr ⟨om_329, List.forall_mem_cons.mpr ⟨om_330, List.forall_mem_cons.mpr ⟨om_331, List.forall_mem_cons.mpr ⟨om_332, List.forall_mem_cons.mpr ⟨om_333, List.forall_mem_cons.mpr ⟨om_334, List.forall_mem_cons.mpr ⟨om_335, List.forall_mem_cons.mpr ⟨om_336, List.forall_mem_cons.mpr ⟨om_337, fun _ h => absurd h List.not_mem_nil⟩⟩⟩⟩⟩⟩⟩⟩⟩⟩⟩⟩⟩⟩⟩⟩⟩⟩
def mgs0 : List (List Nat) := [[0, 1, 2, 3, 4, 5, 6, 7, 8, 9, 10, 11, 12, 13, 14, 15, 16, 17, 18, 19], [20, 21, 22, 23, 24, 25, 26, 27, 28, 29, 30, 31, 32, 33, 34, 35, 36, 37, 38, 39], [40, 41, 42, 43, 44, 45, 46, 47, 48, 49, 50, 51, 52, 53, 54, 55, 56, 57, 58, 59], [60, 61, 62, 63, 64, 65, 66, 67, 68, 69, 70, 71, 72, 73, 74, 75, 76, 77, 78, 79], [80, 81, 82, 83, 84, 85, 86, 87, 88, 89, 90, 91, 92, 93, 94, 95, 96, 97, 98, 99], [100, 101, 102, 103, 104, 105, 106, 107, 108, 109, 110, 111, 112, 113, 114, 115, 116, 117, 118, 119], [120, 121, 122, 123, 124, 125, 126, 127, 128, 129, 130, 131, 132, 133, 134, 135, 136, 137, 138, 139], [140, 141, 142, 143, 144, 145, 146, 147, 148, 149, 150, 151, 152, 153, 154, 155, 156, 157, 158, 159], [160, 161, 162, 163, 164, 165, 166, 167, 168, 169, 170, 171, 172, 173, 174, 175, 176, 177, 178, 179], [180, 181, 182, 183, 184, 185, 186, 187, 188, 189, 190, 191, 192, 193, 194, 195, 196, 197, 198, 199], [200, 201, 202, 203, 204, 205, 206, 207, 208, 209, 210, 211, 212, 213, 214, 215, 216, 217, 218, 219], [220, 221, 222, 223, 224, 225, 226, 227, 228, 229, 230, 231, 232, 233, 234, 235, 236, 237, 238, 239], [240, 241, 242, 243, 244, 245, 246, 247, 248, 249, 250, 251, 252, 253, 254, 255, 256, 257, 258, 259], [260, 261, 262, 263, 264, 265, 266, 267, 268, 269, 270, 271, 272, 273, 274, 275, 276, 277, 278, 279], [280, 281, 282, 283, 284, 285, 286, 287, 288, 289, 290, 291, 292, 293, 294, 295, 296, 297, 298, 299], [300, 301, 302, 303, 304, 305, 306, 307, 308, 309, 310, 311, 312, 313, 314, 315, 316, 317, 318, 319], [320, 321, 322, 323, 324, 325, 326, 327, 328, 329, 330, 331, 332, 333, 334, 335, 336, 337]]
theorem om_all {m : Nat} (h2 : m < 338) : okM m = true := by
  have key : ∀ g ∈ mgs0, ∀ m ∈ g, okM m = true := List.forall_mem_cons.mpr ⟨omg_0, List.forall_mem_cons.mpr ⟨omg_1, List.forall_mem_cons.mpr ⟨omg_2, List.forall_mem_cons.mpr ⟨omg_3, List.forall_mem_cons.mpr ⟨omg_4, List.forall_mem_cons.mpr ⟨omg_5, List.forall_mem_cons.mpr ⟨omg_6, List.forall_mem_cons.mpr ⟨omg_7, List.forall_mem_cons.mpr ⟨omg_8, List.forall_mem_cons.mpr ⟨omg_9, List.forall_mem_cons.mpr ⟨omg_10, List.forall_mem_cons.mpr ⟨omg_11, List.forall_mem_cons.mpr ⟨omg_12, List.forall_mem_cons.mpr ⟨omg_13, List.forall_mem_cons.mpr ⟨omg_14, List.forall_mem_cons.mpr ⟨omg_15, List.forall_mem_cons.mpr ⟨omg_16, fun _ h => absurd h List.not_mem_nil⟩⟩⟩⟩⟩⟩⟩⟩⟩⟩⟩⟩⟩⟩⟩⟩⟩
  have hm : m ∈ mgs0.flatten := by
    have e : mgs0.flatten = List.range 338 := by decide +kernel
    rw [e, List.mem_range]
    omega
  obtain ⟨g, hg, hmg⟩ := List.mem_flatten.mp hm
  exact key g hg m hmg
