/-! the cases of the law's switch -/
section GLC
variable {d : Nat} {QR : Option gw_SV → gw_Mem → Prop} {Γ : gw_Ga} {m : gw_Mem} {L : Nat} {xs : Nat → Int32} {i : Int}
theorem gl_c0 (hX : gl_X Γ L xs) (hL : L ≤ 3072) (hi : 0 ≤ i ∧ i + 6 ≤ L) (hR : gl_R m m) (kk : ∀ m2 : gw_Mem, gl_R m2 m2 → gw_G M_law 60 QR Γ 1187 (gl_ls i) [] m2) : gw_G M_law 60 QR Γ 164 (gl_ls i) [] m := by
  obtain ⟨d1, P1, hd1, hs1, k1⟩ := gl_o_end hR ((gl_sx xs (i + 1))) 
  refine gw_aload_n 165 dL_law_164 rfl (x := 0) rfl ?_
  refine gl_arg hX hL hi 1 166 167 168 169 170 dL_law_165 rfl dL_law_166 rfl dL_law_167 rfl dL_law_168 rfl dL_law_169 rfl (by omega) ?_
  refine gw_cVI (P := fun v m' => gw_okM m' ∧ P1 v m') (a := [gI (gl_sx xs (i + 1))]) (rest := []) 173 dL_law_170 rfl ml_L_13 v_X11_end rfl sh_0 rfl rfl rfl (gw_CI.of hs1 (gl_lt hd1) (fun v m' _ hm hq => ⟨hm, hq⟩)) (fun v1 m1 hq1 => ?_)
  obtain ⟨d2, P2, hd2, hs2, k2⟩ := k1 v1 m1 hq1.1 hq1.2
  refine gw_aload_n 174 dL_law_173 rfl (x := 117) rfl ?_
  refine gl_arg hX hL hi 1 175 176 177 178 179 dL_law_174 rfl dL_law_175 rfl dL_law_176 rfl dL_law_177 rfl dL_law_178 rfl (by omega) ?_
  refine gw_cVI (P := fun v m' => gw_okM m' ∧ P2 v m') (a := [gI (gl_sx xs (i + 1))]) (rest := [gI v1]) 182 dL_law_179 rfl ml_L_17 v_X12_end rfl sh_117 rfl rfl rfl (gw_CI.of hs2 (gl_lt hd2) (fun v m' _ hm hq => ⟨hm, hq⟩)) (fun v2 m2 hq2 => ?_)
  obtain ⟨he, hR2⟩ := k2 v2 m2 hq2.1 hq2.2
  exact gw_icmp_eq 1187 185 dL_law_182 rfl rfl (fun _ => kk m2 hR2) (fun hne => absurd he hne)
theorem gl_c1 (hX : gl_X Γ L xs) (hL : L ≤ 3072) (hi : 0 ≤ i ∧ i + 6 ≤ L) (hR : gl_R m m) (kk : ∀ m2 : gw_Mem, gl_R m2 m2 → gw_G M_law 60 QR Γ 1187 (gl_ls i) [] m2) : gw_G M_law 60 QR Γ 187 (gl_ls i) [] m := by
  obtain ⟨d1, P1, hd1, hs1, k1⟩ := gl_o_mark hR ((gl_sx xs (i + 1))) ((gl_sx xs (i + 2))) ((gl_sx xs (i + 3))) 
  refine gw_aload_n 188 dL_law_187 rfl (x := 0) rfl ?_
  refine gl_arg hX hL hi 1 189 190 191 192 193 dL_law_188 rfl dL_law_189 rfl dL_law_190 rfl dL_law_191 rfl dL_law_192 rfl (by omega) ?_
  refine gl_arg hX hL hi 2 194 195 196 197 198 dL_law_193 rfl dL_law_194 rfl dL_law_195 rfl dL_law_196 rfl dL_law_197 rfl (by omega) ?_
  refine gl_arg hX hL hi 3 199 200 201 202 203 dL_law_198 rfl dL_law_199 rfl dL_law_200 rfl dL_law_201 rfl dL_law_202 rfl (by omega) ?_
  refine gw_cVI (P := fun v m' => gw_okM m' ∧ P1 v m') (a := [gI (gl_sx xs (i + 1)), gI (gl_sx xs (i + 2)), gI (gl_sx xs (i + 3))]) (rest := []) 206 dL_law_203 rfl ml_L_18 v_X11_mark rfl sh_0 rfl rfl rfl (gw_CI.of hs1 (gl_lt hd1) (fun v m' _ hm hq => ⟨hm, hq⟩)) (fun v1 m1 hq1 => ?_)
  obtain ⟨d2, P2, hd2, hs2, k2⟩ := k1 v1 m1 hq1.1 hq1.2
  refine gw_aload_n 207 dL_law_206 rfl (x := 117) rfl ?_
  refine gl_arg hX hL hi 1 208 209 210 211 212 dL_law_207 rfl dL_law_208 rfl dL_law_209 rfl dL_law_210 rfl dL_law_211 rfl (by omega) ?_
  refine gl_arg hX hL hi 2 213 214 215 216 217 dL_law_212 rfl dL_law_213 rfl dL_law_214 rfl dL_law_215 rfl dL_law_216 rfl (by omega) ?_
  refine gl_arg hX hL hi 3 218 219 220 221 222 dL_law_217 rfl dL_law_218 rfl dL_law_219 rfl dL_law_220 rfl dL_law_221 rfl (by omega) ?_
  refine gw_cVI (P := fun v m' => gw_okM m' ∧ P2 v m') (a := [gI (gl_sx xs (i + 1)), gI (gl_sx xs (i + 2)), gI (gl_sx xs (i + 3))]) (rest := [gI v1]) 225 dL_law_222 rfl ml_L_22 v_X12_mark rfl sh_117 rfl rfl rfl (gw_CI.of hs2 (gl_lt hd2) (fun v m' _ hm hq => ⟨hm, hq⟩)) (fun v2 m2 hq2 => ?_)
  obtain ⟨he, hR2⟩ := k2 v2 m2 hq2.1 hq2.2
  exact gw_icmp_eq 1187 228 dL_law_225 rfl rfl (fun _ => kk m2 hR2) (fun hne => absurd he hne)
theorem gl_c2 (hX : gl_X Γ L xs) (hL : L ≤ 3072) (hi : 0 ≤ i ∧ i + 6 ≤ L) (hR : gl_R m m) (kk : ∀ m2 : gw_Mem, gl_R m2 m2 → gw_G M_law 60 QR Γ 1187 (gl_ls i) [] m2) : gw_G M_law 60 QR Γ 230 (gl_ls i) [] m := by
  obtain ⟨d1, P1, hd1, hs1, k1⟩ := gl_o_told hR ((gl_sx xs (i + 1))) ((gl_sx xs (i + 2))) ((gl_sx xs (i + 3))) 
  refine gw_aload_n 231 dL_law_230 rfl (x := 0) rfl ?_
  refine gl_arg hX hL hi 1 232 233 234 235 236 dL_law_231 rfl dL_law_232 rfl dL_law_233 rfl dL_law_234 rfl dL_law_235 rfl (by omega) ?_
  refine gl_arg hX hL hi 2 237 238 239 240 241 dL_law_236 rfl dL_law_237 rfl dL_law_238 rfl dL_law_239 rfl dL_law_240 rfl (by omega) ?_
  refine gl_arg hX hL hi 3 242 243 244 245 246 dL_law_241 rfl dL_law_242 rfl dL_law_243 rfl dL_law_244 rfl dL_law_245 rfl (by omega) ?_
  refine gw_cVI (P := fun v m' => gw_okM m' ∧ P1 v m') (a := [gI (gl_sx xs (i + 1)), gI (gl_sx xs (i + 2)), gI (gl_sx xs (i + 3))]) (rest := []) 249 dL_law_246 rfl ml_L_23 v_X11_told rfl sh_0 rfl rfl rfl (gw_CI.of hs1 (gl_lt hd1) (fun v m' _ hm hq => ⟨hm, hq⟩)) (fun v1 m1 hq1 => ?_)
  obtain ⟨d2, P2, hd2, hs2, k2⟩ := k1 v1 m1 hq1.1 hq1.2
  refine gw_aload_n 250 dL_law_249 rfl (x := 117) rfl ?_
  refine gl_arg hX hL hi 1 251 252 253 254 255 dL_law_250 rfl dL_law_251 rfl dL_law_252 rfl dL_law_253 rfl dL_law_254 rfl (by omega) ?_
  refine gl_arg hX hL hi 2 256 257 258 259 260 dL_law_255 rfl dL_law_256 rfl dL_law_257 rfl dL_law_258 rfl dL_law_259 rfl (by omega) ?_
  refine gl_arg hX hL hi 3 261 262 263 264 265 dL_law_260 rfl dL_law_261 rfl dL_law_262 rfl dL_law_263 rfl dL_law_264 rfl (by omega) ?_
  refine gw_cVI (P := fun v m' => gw_okM m' ∧ P2 v m') (a := [gI (gl_sx xs (i + 1)), gI (gl_sx xs (i + 2)), gI (gl_sx xs (i + 3))]) (rest := [gI v1]) 268 dL_law_265 rfl ml_L_26 v_X12_told rfl sh_117 rfl rfl rfl (gw_CI.of hs2 (gl_lt hd2) (fun v m' _ hm hq => ⟨hm, hq⟩)) (fun v2 m2 hq2 => ?_)
  obtain ⟨he, hR2⟩ := k2 v2 m2 hq2.1 hq2.2
  exact gw_icmp_eq 1187 271 dL_law_268 rfl rfl (fun _ => kk m2 hR2) (fun hne => absurd he hne)
theorem gl_c3 (hX : gl_X Γ L xs) (hL : L ≤ 3072) (hi : 0 ≤ i ∧ i + 6 ≤ L) (hR : gl_R m m) (kk : ∀ m2 : gw_Mem, gl_R m2 m2 → gw_G M_law 60 QR Γ 1187 (gl_ls i) [] m2) : gw_G M_law 60 QR Γ 273 (gl_ls i) [] m := by
  obtain ⟨d1, P1, hd1, hs1, k1⟩ := gl_o_value hR ((gl_sx xs (i + 1))) ((gl_sx xs (i + 2))) 
  refine gw_aload_n 274 dL_law_273 rfl (x := 0) rfl ?_
  refine gl_arg hX hL hi 1 275 276 277 278 279 dL_law_274 rfl dL_law_275 rfl dL_law_276 rfl dL_law_277 rfl dL_law_278 rfl (by omega) ?_
  refine gl_arg hX hL hi 2 280 281 282 283 284 dL_law_279 rfl dL_law_280 rfl dL_law_281 rfl dL_law_282 rfl dL_law_283 rfl (by omega) ?_
  refine gw_cVI (P := fun v m' => gw_okM m' ∧ P1 v m') (a := [gI (gl_sx xs (i + 1)), gI (gl_sx xs (i + 2))]) (rest := []) 287 dL_law_284 rfl ml_L_27 v_X11_value rfl sh_0 rfl rfl rfl (gw_CI.of hs1 (gl_lt hd1) (fun v m' _ hm hq => ⟨hm, hq⟩)) (fun v1 m1 hq1 => ?_)
  obtain ⟨d2, P2, hd2, hs2, k2⟩ := k1 v1 m1 hq1.1 hq1.2
  refine gw_aload_n 288 dL_law_287 rfl (x := 117) rfl ?_
  refine gl_arg hX hL hi 1 289 290 291 292 293 dL_law_288 rfl dL_law_289 rfl dL_law_290 rfl dL_law_291 rfl dL_law_292 rfl (by omega) ?_
  refine gl_arg hX hL hi 2 294 295 296 297 298 dL_law_293 rfl dL_law_294 rfl dL_law_295 rfl dL_law_296 rfl dL_law_297 rfl (by omega) ?_
  refine gw_cVI (P := fun v m' => gw_okM m' ∧ P2 v m') (a := [gI (gl_sx xs (i + 1)), gI (gl_sx xs (i + 2))]) (rest := [gI v1]) 301 dL_law_298 rfl ml_L_31 v_X12_value rfl sh_117 rfl rfl rfl (gw_CI.of hs2 (gl_lt hd2) (fun v m' _ hm hq => ⟨hm, hq⟩)) (fun v2 m2 hq2 => ?_)
  obtain ⟨he, hR2⟩ := k2 v2 m2 hq2.1 hq2.2
  exact gw_icmp_eq 1187 304 dL_law_301 rfl rfl (fun _ => kk m2 hR2) (fun hne => absurd he hne)
theorem gl_c4 (hX : gl_X Γ L xs) (hL : L ≤ 3072) (hi : 0 ≤ i ∧ i + 6 ≤ L) (hR : gl_R m m) (kk : ∀ m2 : gw_Mem, gl_R m2 m2 → gw_G M_law 60 QR Γ 1187 (gl_ls i) [] m2) : gw_G M_law 60 QR Γ 306 (gl_ls i) [] m := by
  obtain ⟨d1, P1, hd1, hs1, k1⟩ := gl_o_person hR ((gl_sx xs (i + 1))) ((gl_sx xs (i + 2))) ((if gl_sx xs (i + 3) = 0 then 0 else 1)) (gl_b01 _)
  refine gw_aload_n 307 dL_law_306 rfl (x := 0) rfl ?_
  refine gl_arg hX hL hi 1 308 309 310 311 312 dL_law_307 rfl dL_law_308 rfl dL_law_309 rfl dL_law_310 rfl dL_law_311 rfl (by omega) ?_
  refine gl_arg hX hL hi 2 313 314 315 316 317 dL_law_312 rfl dL_law_313 rfl dL_law_314 rfl dL_law_315 rfl dL_law_316 rfl (by omega) ?_
  refine gl_arg hX hL hi 3 318 319 320 321 322 dL_law_317 rfl dL_law_318 rfl dL_law_319 rfl dL_law_320 rfl dL_law_321 rfl (by omega) ?_
  refine gl_bool 325 326 329 330 dL_law_322 rfl dL_law_325 rfl dL_law_326 rfl dL_law_329 rfl ?_
  refine gw_cVI (P := fun v m' => gw_okM m' ∧ P1 v m') (a := [gI (gl_sx xs (i + 1)), gI (gl_sx xs (i + 2)), gI (if gl_sx xs (i + 3) = 0 then 0 else 1)]) (rest := []) 333 dL_law_330 rfl ml_L_32 v_X11_person rfl sh_0 rfl rfl rfl (gw_CI.of hs1 (gl_lt hd1) (fun v m' _ hm hq => ⟨hm, hq⟩)) (fun v1 m1 hq1 => ?_)
  obtain ⟨d2, P2, hd2, hs2, k2⟩ := k1 v1 m1 hq1.1 hq1.2
  refine gw_aload_n 334 dL_law_333 rfl (x := 117) rfl ?_
  refine gl_arg hX hL hi 1 335 336 337 338 339 dL_law_334 rfl dL_law_335 rfl dL_law_336 rfl dL_law_337 rfl dL_law_338 rfl (by omega) ?_
  refine gl_arg hX hL hi 2 340 341 342 343 344 dL_law_339 rfl dL_law_340 rfl dL_law_341 rfl dL_law_342 rfl dL_law_343 rfl (by omega) ?_
  refine gl_arg hX hL hi 3 345 346 347 348 349 dL_law_344 rfl dL_law_345 rfl dL_law_346 rfl dL_law_347 rfl dL_law_348 rfl (by omega) ?_
  refine gl_bool 352 353 356 357 dL_law_349 rfl dL_law_352 rfl dL_law_353 rfl dL_law_356 rfl ?_
  refine gw_cVI (P := fun v m' => gw_okM m' ∧ P2 v m') (a := [gI (gl_sx xs (i + 1)), gI (gl_sx xs (i + 2)), gI (if gl_sx xs (i + 3) = 0 then 0 else 1)]) (rest := [gI v1]) 360 dL_law_357 rfl ml_L_36 v_X12_person rfl sh_117 rfl rfl rfl (gw_CI.of hs2 (gl_lt hd2) (fun v m' _ hm hq => ⟨hm, hq⟩)) (fun v2 m2 hq2 => ?_)
  obtain ⟨he, hR2⟩ := k2 v2 m2 hq2.1 hq2.2
  exact gw_icmp_eq 1187 363 dL_law_360 rfl rfl (fun _ => kk m2 hR2) (fun hne => absurd he hne)
theorem gl_c5 (hX : gl_X Γ L xs) (hL : L ≤ 3072) (hi : 0 ≤ i ∧ i + 6 ≤ L) (hR : gl_R m m) (kk : ∀ m2 : gw_Mem, gl_R m2 m2 → gw_G M_law 60 QR Γ 1187 (gl_ls i) [] m2) : gw_G M_law 60 QR Γ 365 (gl_ls i) [] m := by
  obtain ⟨d1, P1, hd1, hs1, k1⟩ := gl_o_of hR ((gl_sx xs (i + 1))) ((gl_sx xs (i + 2))) 
  refine gw_aload_n 366 dL_law_365 rfl (x := 0) rfl ?_
  refine gl_arg hX hL hi 1 367 368 369 370 371 dL_law_366 rfl dL_law_367 rfl dL_law_368 rfl dL_law_369 rfl dL_law_370 rfl (by omega) ?_
  refine gl_arg hX hL hi 2 372 373 374 375 376 dL_law_371 rfl dL_law_372 rfl dL_law_373 rfl dL_law_374 rfl dL_law_375 rfl (by omega) ?_
  refine gw_cVI (P := fun v m' => gw_okM m' ∧ P1 v m') (a := [gI (gl_sx xs (i + 1)), gI (gl_sx xs (i + 2))]) (rest := []) 379 dL_law_376 rfl ml_L_37 v_X11_of rfl sh_0 rfl rfl rfl (gw_CI.of hs1 (gl_lt hd1) (fun v m' _ hm hq => ⟨hm, hq⟩)) (fun v1 m1 hq1 => ?_)
  obtain ⟨d2, P2, hd2, hs2, k2⟩ := k1 v1 m1 hq1.1 hq1.2
  refine gw_aload_n 380 dL_law_379 rfl (x := 117) rfl ?_
  refine gl_arg hX hL hi 1 381 382 383 384 385 dL_law_380 rfl dL_law_381 rfl dL_law_382 rfl dL_law_383 rfl dL_law_384 rfl (by omega) ?_
  refine gl_arg hX hL hi 2 386 387 388 389 390 dL_law_385 rfl dL_law_386 rfl dL_law_387 rfl dL_law_388 rfl dL_law_389 rfl (by omega) ?_
  refine gw_cVI (P := fun v m' => gw_okM m' ∧ P2 v m') (a := [gI (gl_sx xs (i + 1)), gI (gl_sx xs (i + 2))]) (rest := [gI v1]) 393 dL_law_390 rfl ml_L_40 v_X12_of rfl sh_117 rfl rfl rfl (gw_CI.of hs2 (gl_lt hd2) (fun v m' _ hm hq => ⟨hm, hq⟩)) (fun v2 m2 hq2 => ?_)
  obtain ⟨he, hR2⟩ := k2 v2 m2 hq2.1 hq2.2
  exact gw_icmp_eq 1187 396 dL_law_393 rfl rfl (fun _ => kk m2 hR2) (fun hne => absurd he hne)
theorem gl_c6 (hX : gl_X Γ L xs) (hL : L ≤ 3072) (hi : 0 ≤ i ∧ i + 6 ≤ L) (hR : gl_R m m) (kk : ∀ m2 : gw_Mem, gl_R m2 m2 → gw_G M_law 60 QR Γ 1187 (gl_ls i) [] m2) : gw_G M_law 60 QR Γ 398 (gl_ls i) [] m := by
  obtain ⟨d1, P1, hd1, hs1, k1⟩ := gl_o_rule hR ((gl_sx xs (i + 1))) ((gl_sx xs (i + 2))) 
  refine gw_aload_n 399 dL_law_398 rfl (x := 0) rfl ?_
  refine gl_arg hX hL hi 1 400 401 402 403 404 dL_law_399 rfl dL_law_400 rfl dL_law_401 rfl dL_law_402 rfl dL_law_403 rfl (by omega) ?_
  refine gl_arg hX hL hi 2 405 406 407 408 409 dL_law_404 rfl dL_law_405 rfl dL_law_406 rfl dL_law_407 rfl dL_law_408 rfl (by omega) ?_
  refine gw_cVI (P := fun v m' => gw_okM m' ∧ P1 v m') (a := [gI (gl_sx xs (i + 1)), gI (gl_sx xs (i + 2))]) (rest := []) 412 dL_law_409 rfl ml_L_41 v_X11_rule rfl sh_0 rfl rfl rfl (gw_CI.of hs1 (gl_lt hd1) (fun v m' _ hm hq => ⟨hm, hq⟩)) (fun v1 m1 hq1 => ?_)
  obtain ⟨d2, P2, hd2, hs2, k2⟩ := k1 v1 m1 hq1.1 hq1.2
  refine gw_aload_n 413 dL_law_412 rfl (x := 117) rfl ?_
  refine gl_arg hX hL hi 1 414 415 416 417 418 dL_law_413 rfl dL_law_414 rfl dL_law_415 rfl dL_law_416 rfl dL_law_417 rfl (by omega) ?_
  refine gl_arg hX hL hi 2 419 420 421 422 423 dL_law_418 rfl dL_law_419 rfl dL_law_420 rfl dL_law_421 rfl dL_law_422 rfl (by omega) ?_
  refine gw_cVI (P := fun v m' => gw_okM m' ∧ P2 v m') (a := [gI (gl_sx xs (i + 1)), gI (gl_sx xs (i + 2))]) (rest := [gI v1]) 426 dL_law_423 rfl ml_L_44 v_X12_rule rfl sh_117 rfl rfl rfl (gw_CI.of hs2 (gl_lt hd2) (fun v m' _ hm hq => ⟨hm, hq⟩)) (fun v2 m2 hq2 => ?_)
  obtain ⟨he, hR2⟩ := k2 v2 m2 hq2.1 hq2.2
  exact gw_icmp_eq 1187 429 dL_law_426 rfl rfl (fun _ => kk m2 hR2) (fun hne => absurd he hne)
theorem gl_c7 (hX : gl_X Γ L xs) (hL : L ≤ 3072) (hi : 0 ≤ i ∧ i + 6 ≤ L) (hR : gl_R m m) (kk : ∀ m2 : gw_Mem, gl_R m2 m2 → gw_G M_law 60 QR Γ 1187 (gl_ls i) [] m2) : gw_G M_law 60 QR Γ 431 (gl_ls i) [] m := by
  obtain ⟨d1, P1, hd1, hs1, k1⟩ := gl_o_type hR ((gw_orL (gw_shlL (gl_sx xs (i + 1)) (32)) (gw_andL (gl_sx xs (i + 2)) (4294967295)))) ((gl_sx xs (i + 3))) 
  refine gw_aload_n 432 dL_law_431 rfl (x := 0) rfl ?_
  refine gl_arg hX hL hi 1 433 434 435 436 437 dL_law_432 rfl dL_law_433 rfl dL_law_434 rfl dL_law_435 rfl dL_law_436 rfl (by omega) ?_
  refine gw_i2lR 438 dL_law_437 rfl ?_
  refine gw_bipush 440 dL_law_438 rfl rfl (by decide) ?_
  refine gw_lshl 441 dL_law_440 rfl ?_
  refine gl_arg hX hL hi 2 442 443 444 445 446 dL_law_441 rfl dL_law_442 rfl dL_law_443 rfl dL_law_444 rfl dL_law_445 rfl (by omega) ?_
  refine gw_i2lR 447 dL_law_446 rfl ?_
  refine gw_ldc2 (n := 4294967295) 450 dL_law_447 rfl ct_L_45 (by unfold gw_inL; omega) (by decide) ?_
  refine gw_land 451 dL_law_450 rfl ?_
  refine gw_lor 452 dL_law_451 rfl ?_
  refine gl_arg hX hL hi 3 453 454 455 456 457 dL_law_452 rfl dL_law_453 rfl dL_law_454 rfl dL_law_455 rfl dL_law_456 rfl (by omega) ?_
  refine gw_cVI (P := fun v m' => gw_okM m' ∧ P1 v m') (a := [gL (gw_orL (gw_shlL (gl_sx xs (i + 1)) (32)) (gw_andL (gl_sx xs (i + 2)) (4294967295))), gI (gl_sx xs (i + 3))]) (rest := []) 460 dL_law_457 rfl ml_L_47 v_X11_type rfl sh_0 rfl rfl rfl (gw_CI.of hs1 (gl_lt hd1) (fun v m' _ hm hq => ⟨hm, hq⟩)) (fun v1 m1 hq1 => ?_)
  obtain ⟨d2, P2, hd2, hs2, k2⟩ := k1 v1 m1 hq1.1 hq1.2
  refine gw_aload_n 461 dL_law_460 rfl (x := 117) rfl ?_
  refine gl_arg hX hL hi 1 462 463 464 465 466 dL_law_461 rfl dL_law_462 rfl dL_law_463 rfl dL_law_464 rfl dL_law_465 rfl (by omega) ?_
  refine gw_i2lR 467 dL_law_466 rfl ?_
  refine gw_bipush 469 dL_law_467 rfl rfl (by decide) ?_
  refine gw_lshl 470 dL_law_469 rfl ?_
  refine gl_arg hX hL hi 2 471 472 473 474 475 dL_law_470 rfl dL_law_471 rfl dL_law_472 rfl dL_law_473 rfl dL_law_474 rfl (by omega) ?_
  refine gw_i2lR 476 dL_law_475 rfl ?_
  refine gw_ldc2 (n := 4294967295) 479 dL_law_476 rfl ct_L_45 (by unfold gw_inL; omega) (by decide) ?_
  refine gw_land 480 dL_law_479 rfl ?_
  refine gw_lor 481 dL_law_480 rfl ?_
  refine gl_arg hX hL hi 3 482 483 484 485 486 dL_law_481 rfl dL_law_482 rfl dL_law_483 rfl dL_law_484 rfl dL_law_485 rfl (by omega) ?_
  refine gw_cVI (P := fun v m' => gw_okM m' ∧ P2 v m') (a := [gL (gw_orL (gw_shlL (gl_sx xs (i + 1)) (32)) (gw_andL (gl_sx xs (i + 2)) (4294967295))), gI (gl_sx xs (i + 3))]) (rest := [gI v1]) 489 dL_law_486 rfl ml_L_51 v_X12_type rfl sh_117 rfl rfl rfl (gw_CI.of hs2 (gl_lt hd2) (fun v m' _ hm hq => ⟨hm, hq⟩)) (fun v2 m2 hq2 => ?_)
  obtain ⟨he, hR2⟩ := k2 v2 m2 hq2.1 hq2.2
  exact gw_icmp_eq 1187 492 dL_law_489 rfl rfl (fun _ => kk m2 hR2) (fun hne => absurd he hne)
theorem gl_c8 (hX : gl_X Γ L xs) (hL : L ≤ 3072) (hi : 0 ≤ i ∧ i + 6 ≤ L) (hR : gl_R m m) (kk : ∀ m2 : gw_Mem, gl_R m2 m2 → gw_G M_law 60 QR Γ 1187 (gl_ls i) [] m2) : gw_G M_law 60 QR Γ 494 (gl_ls i) [] m := by
  obtain ⟨d1, P1, hd1, hs1, k1⟩ := gl_o_way hR  
  refine gw_aload_n 495 dL_law_494 rfl (x := 0) rfl ?_
  refine gw_cVI (P := fun v m' => gw_okM m' ∧ P1 v m') (a := []) (rest := []) 498 dL_law_495 rfl ml_L_52 v_X11_way rfl sh_0 rfl rfl rfl (gw_CI.of hs1 (gl_lt hd1) (fun v m' _ hm hq => ⟨hm, hq⟩)) (fun v1 m1 hq1 => ?_)
  obtain ⟨d2, P2, hd2, hs2, k2⟩ := k1 v1 m1 hq1.1 hq1.2
  refine gw_aload_n 499 dL_law_498 rfl (x := 117) rfl ?_
  refine gw_cVI (P := fun v m' => gw_okM m' ∧ P2 v m') (a := []) (rest := [gI v1]) 502 dL_law_499 rfl ml_L_56 v_X12_way rfl sh_117 rfl rfl rfl (gw_CI.of hs2 (gl_lt hd2) (fun v m' _ hm hq => ⟨hm, hq⟩)) (fun v2 m2 hq2 => ?_)
  obtain ⟨he, hR2⟩ := k2 v2 m2 hq2.1 hq2.2
  exact gw_icmp_eq 1187 505 dL_law_502 rfl rfl (fun _ => kk m2 hR2) (fun hne => absurd he hne)
theorem gl_c9 (hX : gl_X Γ L xs) (hL : L ≤ 3072) (hi : 0 ≤ i ∧ i + 6 ≤ L) (hR : gl_R m m) (kk : ∀ m2 : gw_Mem, gl_R m2 m2 → gw_G M_law 60 QR Γ 1187 (gl_ls i) [] m2) : gw_G M_law 60 QR Γ 507 (gl_ls i) [] m := by
  obtain ⟨d1, P1, hd1, hs1, k1⟩ := gl_o_group hR  
  refine gw_aload_n 508 dL_law_507 rfl (x := 0) rfl ?_
  refine gw_cVI (P := fun v m' => gw_okM m' ∧ P1 v m') (a := []) (rest := []) 511 dL_law_508 rfl ml_L_57 v_X11_group rfl sh_0 rfl rfl rfl (gw_CI.of hs1 (gl_lt hd1) (fun v m' _ hm hq => ⟨hm, hq⟩)) (fun v1 m1 hq1 => ?_)
  obtain ⟨d2, P2, hd2, hs2, k2⟩ := k1 v1 m1 hq1.1 hq1.2
  refine gw_aload_n 512 dL_law_511 rfl (x := 117) rfl ?_
  refine gw_cVI (P := fun v m' => gw_okM m' ∧ P2 v m') (a := []) (rest := [gI v1]) 515 dL_law_512 rfl ml_L_60 v_X12_group rfl sh_117 rfl rfl rfl (gw_CI.of hs2 (gl_lt hd2) (fun v m' _ hm hq => ⟨hm, hq⟩)) (fun v2 m2 hq2 => ?_)
  obtain ⟨he, hR2⟩ := k2 v2 m2 hq2.1 hq2.2
  exact gw_icmp_eq 1187 518 dL_law_515 rfl rfl (fun _ => kk m2 hR2) (fun hne => absurd he hne)
theorem gl_c10 (hX : gl_X Γ L xs) (hL : L ≤ 3072) (hi : 0 ≤ i ∧ i + 6 ≤ L) (hR : gl_R m m) (kk : ∀ m2 : gw_Mem, gl_R m2 m2 → gw_G M_law 60 QR Γ 1187 (gl_ls i) [] m2) : gw_G M_law 60 QR Γ 520 (gl_ls i) [] m := by
  obtain ⟨d1, P1, hd1, hs1, k1⟩ := gl_o_count hR ((gl_sx xs (i + 1))) 
  refine gw_aload_n 521 dL_law_520 rfl (x := 0) rfl ?_
  refine gl_arg hX hL hi 1 522 523 524 525 526 dL_law_521 rfl dL_law_522 rfl dL_law_523 rfl dL_law_524 rfl dL_law_525 rfl (by omega) ?_
  refine gw_cVI (P := fun v m' => gw_okM m' ∧ P1 v m') (a := [gI (gl_sx xs (i + 1))]) (rest := []) 529 dL_law_526 rfl ml_L_61 v_X11_count rfl sh_0 rfl rfl rfl (gw_CI.of hs1 (gl_lt hd1) (fun v m' _ hm hq => ⟨hm, hq⟩)) (fun v1 m1 hq1 => ?_)
  obtain ⟨d2, P2, hd2, hs2, k2⟩ := k1 v1 m1 hq1.1 hq1.2
  refine gw_aload_n 530 dL_law_529 rfl (x := 117) rfl ?_
  refine gl_arg hX hL hi 1 531 532 533 534 535 dL_law_530 rfl dL_law_531 rfl dL_law_532 rfl dL_law_533 rfl dL_law_534 rfl (by omega) ?_
  refine gw_cVI (P := fun v m' => gw_okM m' ∧ P2 v m') (a := [gI (gl_sx xs (i + 1))]) (rest := [gI v1]) 538 dL_law_535 rfl ml_L_64 v_X12_count rfl sh_117 rfl rfl rfl (gw_CI.of hs2 (gl_lt hd2) (fun v m' _ hm hq => ⟨hm, hq⟩)) (fun v2 m2 hq2 => ?_)
  obtain ⟨he, hR2⟩ := k2 v2 m2 hq2.1 hq2.2
  exact gw_icmp_eq 1187 541 dL_law_538 rfl rfl (fun _ => kk m2 hR2) (fun hne => absurd he hne)
theorem gl_c11 (hX : gl_X Γ L xs) (hL : L ≤ 3072) (hi : 0 ≤ i ∧ i + 6 ≤ L) (hR : gl_R m m) (kk : ∀ m2 : gw_Mem, gl_R m2 m2 → gw_G M_law 60 QR Γ 1187 (gl_ls i) [] m2) : gw_G M_law 60 QR Γ 543 (gl_ls i) [] m := by
  obtain ⟨d1, P1, hd1, hs1, k1⟩ := gl_o_fate hR ((gl_sx xs (i + 1))) ((gl_sx xs (i + 2))) 
  refine gw_aload_n 544 dL_law_543 rfl (x := 0) rfl ?_
  refine gl_arg hX hL hi 1 545 546 547 548 549 dL_law_544 rfl dL_law_545 rfl dL_law_546 rfl dL_law_547 rfl dL_law_548 rfl (by omega) ?_
  refine gl_arg hX hL hi 2 550 551 552 553 554 dL_law_549 rfl dL_law_550 rfl dL_law_551 rfl dL_law_552 rfl dL_law_553 rfl (by omega) ?_
  refine gw_cVI (P := fun v m' => gw_okM m' ∧ P1 v m') (a := [gI (gl_sx xs (i + 1)), gI (gl_sx xs (i + 2))]) (rest := []) 557 dL_law_554 rfl ml_L_65 v_X11_fate rfl sh_0 rfl rfl rfl (gw_CI.of hs1 (gl_lt hd1) (fun v m' _ hm hq => ⟨hm, hq⟩)) (fun v1 m1 hq1 => ?_)
  obtain ⟨d2, P2, hd2, hs2, k2⟩ := k1 v1 m1 hq1.1 hq1.2
  refine gw_aload_n 558 dL_law_557 rfl (x := 117) rfl ?_
  refine gl_arg hX hL hi 1 559 560 561 562 563 dL_law_558 rfl dL_law_559 rfl dL_law_560 rfl dL_law_561 rfl dL_law_562 rfl (by omega) ?_
  refine gl_arg hX hL hi 2 564 565 566 567 568 dL_law_563 rfl dL_law_564 rfl dL_law_565 rfl dL_law_566 rfl dL_law_567 rfl (by omega) ?_
  refine gw_cVI (P := fun v m' => gw_okM m' ∧ P2 v m') (a := [gI (gl_sx xs (i + 1)), gI (gl_sx xs (i + 2))]) (rest := [gI v1]) 571 dL_law_568 rfl ml_L_68 v_X12_fate rfl sh_117 rfl rfl rfl (gw_CI.of hs2 (gl_lt hd2) (fun v m' _ hm hq => ⟨hm, hq⟩)) (fun v2 m2 hq2 => ?_)
  obtain ⟨he, hR2⟩ := k2 v2 m2 hq2.1 hq2.2
  exact gw_icmp_eq 1187 574 dL_law_571 rfl rfl (fun _ => kk m2 hR2) (fun hne => absurd he hne)
theorem gl_c12 (hX : gl_X Γ L xs) (hL : L ≤ 3072) (hi : 0 ≤ i ∧ i + 6 ≤ L) (hR : gl_R m m) (kk : ∀ m2 : gw_Mem, gl_R m2 m2 → gw_G M_law 60 QR Γ 1187 (gl_ls i) [] m2) : gw_G M_law 60 QR Γ 576 (gl_ls i) [] m := by
  obtain ⟨d1, P1, hd1, hs1, k1⟩ := gl_o_at hR ((gl_sx xs (i + 1))) ((gl_sx xs (i + 2))) 
  refine gw_aload_n 577 dL_law_576 rfl (x := 0) rfl ?_
  refine gl_arg hX hL hi 1 578 579 580 581 582 dL_law_577 rfl dL_law_578 rfl dL_law_579 rfl dL_law_580 rfl dL_law_581 rfl (by omega) ?_
  refine gl_arg hX hL hi 2 583 584 585 586 587 dL_law_582 rfl dL_law_583 rfl dL_law_584 rfl dL_law_585 rfl dL_law_586 rfl (by omega) ?_
  refine gw_cVI (P := fun v m' => gw_okM m' ∧ P1 v m') (a := [gI (gl_sx xs (i + 1)), gI (gl_sx xs (i + 2))]) (rest := []) 590 dL_law_587 rfl ml_L_69 v_X11_at rfl sh_0 rfl rfl rfl (gw_CI.of hs1 (gl_lt hd1) (fun v m' _ hm hq => ⟨hm, hq⟩)) (fun v1 m1 hq1 => ?_)
  obtain ⟨d2, P2, hd2, hs2, k2⟩ := k1 v1 m1 hq1.1 hq1.2
  refine gw_aload_n 591 dL_law_590 rfl (x := 117) rfl ?_
  refine gl_arg hX hL hi 1 592 593 594 595 596 dL_law_591 rfl dL_law_592 rfl dL_law_593 rfl dL_law_594 rfl dL_law_595 rfl (by omega) ?_
  refine gl_arg hX hL hi 2 597 598 599 600 601 dL_law_596 rfl dL_law_597 rfl dL_law_598 rfl dL_law_599 rfl dL_law_600 rfl (by omega) ?_
  refine gw_cVI (P := fun v m' => gw_okM m' ∧ P2 v m') (a := [gI (gl_sx xs (i + 1)), gI (gl_sx xs (i + 2))]) (rest := [gI v1]) 604 dL_law_601 rfl ml_L_72 v_X12_at rfl sh_117 rfl rfl rfl (gw_CI.of hs2 (gl_lt hd2) (fun v m' _ hm hq => ⟨hm, hq⟩)) (fun v2 m2 hq2 => ?_)
  obtain ⟨he, hR2⟩ := k2 v2 m2 hq2.1 hq2.2
  exact gw_icmp_eq 1187 607 dL_law_604 rfl rfl (fun _ => kk m2 hR2) (fun hne => absurd he hne)
theorem gl_c13 (hX : gl_X Γ L xs) (hL : L ≤ 3072) (hi : 0 ≤ i ∧ i + 6 ≤ L) (hR : gl_R m m) (kk : ∀ m2 : gw_Mem, gl_R m2 m2 → gw_G M_law 60 QR Γ 1187 (gl_ls i) [] m2) : gw_G M_law 60 QR Γ 609 (gl_ls i) [] m := by
  obtain ⟨d1, P1, hd1, hs1, k1⟩ := gl_o_all hR ((gl_sx xs (i + 1))) 
  refine gw_aload_n 610 dL_law_609 rfl (x := 0) rfl ?_
  refine gl_arg hX hL hi 1 611 612 613 614 615 dL_law_610 rfl dL_law_611 rfl dL_law_612 rfl dL_law_613 rfl dL_law_614 rfl (by omega) ?_
  refine gw_cVI (P := fun v m' => gw_okM m' ∧ P1 v m') (a := [gI (gl_sx xs (i + 1))]) (rest := []) 618 dL_law_615 rfl ml_L_73 v_X11_all rfl sh_0 rfl rfl rfl (gw_CI.of hs1 (gl_lt hd1) (fun v m' _ hm hq => ⟨hm, hq⟩)) (fun v1 m1 hq1 => ?_)
  obtain ⟨d2, P2, hd2, hs2, k2⟩ := k1 v1 m1 hq1.1 hq1.2
  refine gw_aload_n 619 dL_law_618 rfl (x := 117) rfl ?_
  refine gl_arg hX hL hi 1 620 621 622 623 624 dL_law_619 rfl dL_law_620 rfl dL_law_621 rfl dL_law_622 rfl dL_law_623 rfl (by omega) ?_
  refine gw_cVI (P := fun v m' => gw_okM m' ∧ P2 v m') (a := [gI (gl_sx xs (i + 1))]) (rest := [gI v1]) 627 dL_law_624 rfl ml_L_76 v_X12_all rfl sh_117 rfl rfl rfl (gw_CI.of hs2 (gl_lt hd2) (fun v m' _ hm hq => ⟨hm, hq⟩)) (fun v2 m2 hq2 => ?_)
  obtain ⟨he, hR2⟩ := k2 v2 m2 hq2.1 hq2.2
  exact gw_icmp_eq 1187 630 dL_law_627 rfl rfl (fun _ => kk m2 hR2) (fun hne => absurd he hne)
theorem gl_c14 (hX : gl_X Γ L xs) (hL : L ≤ 3072) (hi : 0 ≤ i ∧ i + 6 ≤ L) (hR : gl_R m m) (kk : ∀ m2 : gw_Mem, gl_R m2 m2 → gw_G M_law 60 QR Γ 1187 (gl_ls i) [] m2) : gw_G M_law 60 QR Γ 632 (gl_ls i) [] m := by
  obtain ⟨d1, P1, hd1, hs1, k1⟩ := gl_o_best hR ((gl_sx xs (i + 1))) ((gl_sx xs (i + 2))) 
  refine gw_aload_n 633 dL_law_632 rfl (x := 0) rfl ?_
  refine gl_arg hX hL hi 1 634 635 636 637 638 dL_law_633 rfl dL_law_634 rfl dL_law_635 rfl dL_law_636 rfl dL_law_637 rfl (by omega) ?_
  refine gl_arg hX hL hi 2 639 640 641 642 643 dL_law_638 rfl dL_law_639 rfl dL_law_640 rfl dL_law_641 rfl dL_law_642 rfl (by omega) ?_
  refine gw_cVI (P := fun v m' => gw_okM m' ∧ P1 v m') (a := [gI (gl_sx xs (i + 1)), gI (gl_sx xs (i + 2))]) (rest := []) 646 dL_law_643 rfl ml_L_77 v_X11_best rfl sh_0 rfl rfl rfl (gw_CI.of hs1 (gl_lt hd1) (fun v m' _ hm hq => ⟨hm, hq⟩)) (fun v1 m1 hq1 => ?_)
  obtain ⟨d2, P2, hd2, hs2, k2⟩ := k1 v1 m1 hq1.1 hq1.2
  refine gw_aload_n 647 dL_law_646 rfl (x := 117) rfl ?_
  refine gl_arg hX hL hi 1 648 649 650 651 652 dL_law_647 rfl dL_law_648 rfl dL_law_649 rfl dL_law_650 rfl dL_law_651 rfl (by omega) ?_
  refine gl_arg hX hL hi 2 653 654 655 656 657 dL_law_652 rfl dL_law_653 rfl dL_law_654 rfl dL_law_655 rfl dL_law_656 rfl (by omega) ?_
  refine gw_cVI (P := fun v m' => gw_okM m' ∧ P2 v m') (a := [gI (gl_sx xs (i + 1)), gI (gl_sx xs (i + 2))]) (rest := [gI v1]) 660 dL_law_657 rfl ml_L_80 v_X12_best rfl sh_117 rfl rfl rfl (gw_CI.of hs2 (gl_lt hd2) (fun v m' _ hm hq => ⟨hm, hq⟩)) (fun v2 m2 hq2 => ?_)
  obtain ⟨he, hR2⟩ := k2 v2 m2 hq2.1 hq2.2
  exact gw_icmp_eq 1187 663 dL_law_660 rfl rfl (fun _ => kk m2 hR2) (fun hne => absurd he hne)
theorem gl_c15 (hX : gl_X Γ L xs) (hL : L ≤ 3072) (hi : 0 ≤ i ∧ i + 6 ≤ L) (hR : gl_R m m) (kk : ∀ m2 : gw_Mem, gl_R m2 m2 → gw_G M_law 60 QR Γ 1187 (gl_ls i) [] m2) : gw_G M_law 60 QR Γ 665 (gl_ls i) [] m := by
  obtain ⟨d1, P1, hd1, hs1, k1⟩ := gl_o_worth hR ((gl_sx xs (i + 1))) 
  refine gw_aload_n 666 dL_law_665 rfl (x := 0) rfl ?_
  refine gl_arg hX hL hi 1 667 668 669 670 671 dL_law_666 rfl dL_law_667 rfl dL_law_668 rfl dL_law_669 rfl dL_law_670 rfl (by omega) ?_
  refine gw_cVI (P := fun v m' => gw_okM m' ∧ P1 v m') (a := [gI (gl_sx xs (i + 1))]) (rest := []) 674 dL_law_671 rfl ml_L_81 v_X11_worth rfl sh_0 rfl rfl rfl (gw_CI.of hs1 (gl_lt hd1) (fun v m' _ hm hq => ⟨hm, hq⟩)) (fun v1 m1 hq1 => ?_)
  obtain ⟨d2, P2, hd2, hs2, k2⟩ := k1 v1 m1 hq1.1 hq1.2
  refine gw_aload_n 675 dL_law_674 rfl (x := 117) rfl ?_
  refine gl_arg hX hL hi 1 676 677 678 679 680 dL_law_675 rfl dL_law_676 rfl dL_law_677 rfl dL_law_678 rfl dL_law_679 rfl (by omega) ?_
  refine gw_cVI (P := fun v m' => gw_okM m' ∧ P2 v m') (a := [gI (gl_sx xs (i + 1))]) (rest := [gI v1]) 683 dL_law_680 rfl ml_L_84 v_X12_worth rfl sh_117 rfl rfl rfl (gw_CI.of hs2 (gl_lt hd2) (fun v m' _ hm hq => ⟨hm, hq⟩)) (fun v2 m2 hq2 => ?_)
  obtain ⟨he, hR2⟩ := k2 v2 m2 hq2.1 hq2.2
  exact gw_icmp_eq 1187 686 dL_law_683 rfl rfl (fun _ => kk m2 hR2) (fun hne => absurd he hne)
theorem gl_c16 (hX : gl_X Γ L xs) (hL : L ≤ 3072) (hi : 0 ≤ i ∧ i + 6 ≤ L) (hR : gl_R m m) (kk : ∀ m2 : gw_Mem, gl_R m2 m2 → gw_G M_law 60 QR Γ 1187 (gl_ls i) [] m2) : gw_G M_law 60 QR Γ 688 (gl_ls i) [] m := by
  obtain ⟨d1, P1, hd1, hs1, k1⟩ := gl_o_chosen hR ((gl_sx xs (i + 1))) ((gl_sx xs (i + 2))) 
  refine gw_aload_n 689 dL_law_688 rfl (x := 0) rfl ?_
  refine gl_arg hX hL hi 1 690 691 692 693 694 dL_law_689 rfl dL_law_690 rfl dL_law_691 rfl dL_law_692 rfl dL_law_693 rfl (by omega) ?_
  refine gl_arg hX hL hi 2 695 696 697 698 699 dL_law_694 rfl dL_law_695 rfl dL_law_696 rfl dL_law_697 rfl dL_law_698 rfl (by omega) ?_
  refine gw_cVI (P := fun v m' => gw_okM m' ∧ P1 v m') (a := [gI (gl_sx xs (i + 1)), gI (gl_sx xs (i + 2))]) (rest := []) 702 dL_law_699 rfl ml_L_85 v_X11_chosen rfl sh_0 rfl rfl rfl (gw_CI.of hs1 (gl_lt hd1) (fun v m' _ hm hq => ⟨hm, hq⟩)) (fun v1 m1 hq1 => ?_)
  obtain ⟨d2, P2, hd2, hs2, k2⟩ := k1 v1 m1 hq1.1 hq1.2
  refine gw_aload_n 703 dL_law_702 rfl (x := 117) rfl ?_
  refine gl_arg hX hL hi 1 704 705 706 707 708 dL_law_703 rfl dL_law_704 rfl dL_law_705 rfl dL_law_706 rfl dL_law_707 rfl (by omega) ?_
  refine gl_arg hX hL hi 2 709 710 711 712 713 dL_law_708 rfl dL_law_709 rfl dL_law_710 rfl dL_law_711 rfl dL_law_712 rfl (by omega) ?_
  refine gw_cVI (P := fun v m' => gw_okM m' ∧ P2 v m') (a := [gI (gl_sx xs (i + 1)), gI (gl_sx xs (i + 2))]) (rest := [gI v1]) 716 dL_law_713 rfl ml_L_88 v_X12_chosen rfl sh_117 rfl rfl rfl (gw_CI.of hs2 (gl_lt hd2) (fun v m' _ hm hq => ⟨hm, hq⟩)) (fun v2 m2 hq2 => ?_)
  obtain ⟨he, hR2⟩ := k2 v2 m2 hq2.1 hq2.2
  exact gw_icmp_eq 1187 719 dL_law_716 rfl rfl (fun _ => kk m2 hR2) (fun hne => absurd he hne)
theorem gl_c17 (hX : gl_X Γ L xs) (hL : L ≤ 3072) (hi : 0 ≤ i ∧ i + 6 ≤ L) (hR : gl_R m m) (kk : ∀ m2 : gw_Mem, gl_R m2 m2 → gw_G M_law 60 QR Γ 1187 (gl_ls i) [] m2) : gw_G M_law 60 QR Γ 721 (gl_ls i) [] m := by
  obtain ⟨d1, P1, hd1, hs1, k1⟩ := gl_o_counted hR ((gl_sx xs (i + 1))) ((gl_sx xs (i + 2))) ((gl_sx xs (i + 3))) ((gl_sx xs (i + 4))) 
  refine gw_aload_n 722 dL_law_721 rfl (x := 0) rfl ?_
  refine gl_arg hX hL hi 1 723 724 725 726 727 dL_law_722 rfl dL_law_723 rfl dL_law_724 rfl dL_law_725 rfl dL_law_726 rfl (by omega) ?_
  refine gl_arg hX hL hi 2 728 729 730 731 732 dL_law_727 rfl dL_law_728 rfl dL_law_729 rfl dL_law_730 rfl dL_law_731 rfl (by omega) ?_
  refine gl_arg hX hL hi 3 733 734 735 736 737 dL_law_732 rfl dL_law_733 rfl dL_law_734 rfl dL_law_735 rfl dL_law_736 rfl (by omega) ?_
  refine gl_arg hX hL hi 4 738 739 740 741 742 dL_law_737 rfl dL_law_738 rfl dL_law_739 rfl dL_law_740 rfl dL_law_741 rfl (by omega) ?_
  refine gw_cVI (P := fun v m' => gw_okM m' ∧ P1 v m') (a := [gI (gl_sx xs (i + 1)), gI (gl_sx xs (i + 2)), gI (gl_sx xs (i + 3)), gI (gl_sx xs (i + 4))]) (rest := []) 745 dL_law_742 rfl ml_L_89 v_X11_counted rfl sh_0 rfl rfl rfl (gw_CI.of hs1 (gl_lt hd1) (fun v m' _ hm hq => ⟨hm, hq⟩)) (fun v1 m1 hq1 => ?_)
  obtain ⟨d2, P2, hd2, hs2, k2⟩ := k1 v1 m1 hq1.1 hq1.2
  refine gw_aload_n 746 dL_law_745 rfl (x := 117) rfl ?_
  refine gl_arg hX hL hi 1 747 748 749 750 751 dL_law_746 rfl dL_law_747 rfl dL_law_748 rfl dL_law_749 rfl dL_law_750 rfl (by omega) ?_
  refine gl_arg hX hL hi 2 752 753 754 755 756 dL_law_751 rfl dL_law_752 rfl dL_law_753 rfl dL_law_754 rfl dL_law_755 rfl (by omega) ?_
  refine gl_arg hX hL hi 3 757 758 759 760 761 dL_law_756 rfl dL_law_757 rfl dL_law_758 rfl dL_law_759 rfl dL_law_760 rfl (by omega) ?_
  refine gl_arg hX hL hi 4 762 763 764 765 766 dL_law_761 rfl dL_law_762 rfl dL_law_763 rfl dL_law_764 rfl dL_law_765 rfl (by omega) ?_
  refine gw_cVI (P := fun v m' => gw_okM m' ∧ P2 v m') (a := [gI (gl_sx xs (i + 1)), gI (gl_sx xs (i + 2)), gI (gl_sx xs (i + 3)), gI (gl_sx xs (i + 4))]) (rest := [gI v1]) 769 dL_law_766 rfl ml_L_93 v_X12_counted rfl sh_117 rfl rfl rfl (gw_CI.of hs2 (gl_lt hd2) (fun v m' _ hm hq => ⟨hm, hq⟩)) (fun v2 m2 hq2 => ?_)
  obtain ⟨he, hR2⟩ := k2 v2 m2 hq2.1 hq2.2
  exact gw_icmp_eq 1187 772 dL_law_769 rfl rfl (fun _ => kk m2 hR2) (fun hne => absurd he hne)
theorem gl_c18 (hX : gl_X Γ L xs) (hL : L ≤ 3072) (hi : 0 ≤ i ∧ i + 6 ≤ L) (hR : gl_R m m) (kk : ∀ m2 : gw_Mem, gl_R m2 m2 → gw_G M_law 60 QR Γ 1187 (gl_ls i) [] m2) : gw_G M_law 60 QR Γ 774 (gl_ls i) [] m := by
  obtain ⟨d1, P1, hd1, hs1, k1⟩ := gl_o_often hR ((gl_sx xs (i + 1))) ((gl_sx xs (i + 2))) ((gl_sx xs (i + 3))) 
  refine gw_aload_n 775 dL_law_774 rfl (x := 0) rfl ?_
  refine gl_arg hX hL hi 1 776 777 778 779 780 dL_law_775 rfl dL_law_776 rfl dL_law_777 rfl dL_law_778 rfl dL_law_779 rfl (by omega) ?_
  refine gl_arg hX hL hi 2 781 782 783 784 785 dL_law_780 rfl dL_law_781 rfl dL_law_782 rfl dL_law_783 rfl dL_law_784 rfl (by omega) ?_
  refine gl_arg hX hL hi 3 786 787 788 789 790 dL_law_785 rfl dL_law_786 rfl dL_law_787 rfl dL_law_788 rfl dL_law_789 rfl (by omega) ?_
  refine gw_cVI (P := fun v m' => gw_okM m' ∧ P1 v m') (a := [gI (gl_sx xs (i + 1)), gI (gl_sx xs (i + 2)), gI (gl_sx xs (i + 3))]) (rest := []) 793 dL_law_790 rfl ml_L_94 v_X11_often rfl sh_0 rfl rfl rfl (gw_CI.of hs1 (gl_lt hd1) (fun v m' _ hm hq => ⟨hm, hq⟩)) (fun v1 m1 hq1 => ?_)
  obtain ⟨d2, P2, hd2, hs2, k2⟩ := k1 v1 m1 hq1.1 hq1.2
  refine gw_aload_n 794 dL_law_793 rfl (x := 117) rfl ?_
  refine gl_arg hX hL hi 1 795 796 797 798 799 dL_law_794 rfl dL_law_795 rfl dL_law_796 rfl dL_law_797 rfl dL_law_798 rfl (by omega) ?_
  refine gl_arg hX hL hi 2 800 801 802 803 804 dL_law_799 rfl dL_law_800 rfl dL_law_801 rfl dL_law_802 rfl dL_law_803 rfl (by omega) ?_
  refine gl_arg hX hL hi 3 805 806 807 808 809 dL_law_804 rfl dL_law_805 rfl dL_law_806 rfl dL_law_807 rfl dL_law_808 rfl (by omega) ?_
  refine gw_cVI (P := fun v m' => gw_okM m' ∧ P2 v m') (a := [gI (gl_sx xs (i + 1)), gI (gl_sx xs (i + 2)), gI (gl_sx xs (i + 3))]) (rest := [gI v1]) 812 dL_law_809 rfl ml_L_97 v_X12_often rfl sh_117 rfl rfl rfl (gw_CI.of hs2 (gl_lt hd2) (fun v m' _ hm hq => ⟨hm, hq⟩)) (fun v2 m2 hq2 => ?_)
  obtain ⟨he, hR2⟩ := k2 v2 m2 hq2.1 hq2.2
  exact gw_icmp_eq 1187 815 dL_law_812 rfl rfl (fun _ => kk m2 hR2) (fun hne => absurd he hne)
theorem gl_c19 (hX : gl_X Γ L xs) (hL : L ≤ 3072) (hi : 0 ≤ i ∧ i + 6 ≤ L) (hR : gl_R m m) (kk : ∀ m2 : gw_Mem, gl_R m2 m2 → gw_G M_law 60 QR Γ 1187 (gl_ls i) [] m2) : gw_G M_law 60 QR Γ 817 (gl_ls i) [] m := by
  obtain ⟨d1, P1, hd1, hs1, k1⟩ := gl_o_square hR ((gl_sx xs (i + 1))) ((gl_sx xs (i + 2))) 
  refine gw_aload_n 818 dL_law_817 rfl (x := 0) rfl ?_
  refine gl_arg hX hL hi 1 819 820 821 822 823 dL_law_818 rfl dL_law_819 rfl dL_law_820 rfl dL_law_821 rfl dL_law_822 rfl (by omega) ?_
  refine gl_arg hX hL hi 2 824 825 826 827 828 dL_law_823 rfl dL_law_824 rfl dL_law_825 rfl dL_law_826 rfl dL_law_827 rfl (by omega) ?_
  refine gw_cVI (P := fun v m' => gw_okM m' ∧ P1 v m') (a := [gI (gl_sx xs (i + 1)), gI (gl_sx xs (i + 2))]) (rest := []) 831 dL_law_828 rfl ml_L_98 v_X11_square rfl sh_0 rfl rfl rfl (gw_CI.of hs1 (gl_lt hd1) (fun v m' _ hm hq => ⟨hm, hq⟩)) (fun v1 m1 hq1 => ?_)
  obtain ⟨d2, P2, hd2, hs2, k2⟩ := k1 v1 m1 hq1.1 hq1.2
  refine gw_aload_n 832 dL_law_831 rfl (x := 117) rfl ?_
  refine gl_arg hX hL hi 1 833 834 835 836 837 dL_law_832 rfl dL_law_833 rfl dL_law_834 rfl dL_law_835 rfl dL_law_836 rfl (by omega) ?_
  refine gl_arg hX hL hi 2 838 839 840 841 842 dL_law_837 rfl dL_law_838 rfl dL_law_839 rfl dL_law_840 rfl dL_law_841 rfl (by omega) ?_
  refine gw_cVI (P := fun v m' => gw_okM m' ∧ P2 v m') (a := [gI (gl_sx xs (i + 1)), gI (gl_sx xs (i + 2))]) (rest := [gI v1]) 845 dL_law_842 rfl ml_L_101 v_X12_square rfl sh_117 rfl rfl rfl (gw_CI.of hs2 (gl_lt hd2) (fun v m' _ hm hq => ⟨hm, hq⟩)) (fun v2 m2 hq2 => ?_)
  obtain ⟨he, hR2⟩ := k2 v2 m2 hq2.1 hq2.2
  exact gw_icmp_eq 1187 848 dL_law_845 rfl rfl (fun _ => kk m2 hR2) (fun hne => absurd he hne)
theorem gl_c20 (hX : gl_X Γ L xs) (hL : L ≤ 3072) (hi : 0 ≤ i ∧ i + 6 ≤ L) (hR : gl_R m m) (kk : ∀ m2 : gw_Mem, gl_R m2 m2 → gw_G M_law 60 QR Γ 1187 (gl_ls i) [] m2) : gw_G M_law 60 QR Γ 850 (gl_ls i) [] m := by
  obtain ⟨d1, P1, hd1, hs1, k1⟩ := gl_o_stand hR ((gl_sx xs (i + 1))) 
  refine gw_aload_n 851 dL_law_850 rfl (x := 0) rfl ?_
  refine gl_arg hX hL hi 1 852 853 854 855 856 dL_law_851 rfl dL_law_852 rfl dL_law_853 rfl dL_law_854 rfl dL_law_855 rfl (by omega) ?_
  refine gw_cVI (P := fun v m' => gw_okM m' ∧ P1 v m') (a := [gI (gl_sx xs (i + 1))]) (rest := []) 859 dL_law_856 rfl ml_L_102 v_X11_stand rfl sh_0 rfl rfl rfl (gw_CI.of hs1 (gl_lt hd1) (fun v m' _ hm hq => ⟨hm, hq⟩)) (fun v1 m1 hq1 => ?_)
  obtain ⟨d2, P2, hd2, hs2, k2⟩ := k1 v1 m1 hq1.1 hq1.2
  refine gw_aload_n 860 dL_law_859 rfl (x := 117) rfl ?_
  refine gl_arg hX hL hi 1 861 862 863 864 865 dL_law_860 rfl dL_law_861 rfl dL_law_862 rfl dL_law_863 rfl dL_law_864 rfl (by omega) ?_
  refine gw_cVI (P := fun v m' => gw_okM m' ∧ P2 v m') (a := [gI (gl_sx xs (i + 1))]) (rest := [gI v1]) 868 dL_law_865 rfl ml_L_105 v_X12_stand rfl sh_117 rfl rfl rfl (gw_CI.of hs2 (gl_lt hd2) (fun v m' _ hm hq => ⟨hm, hq⟩)) (fun v2 m2 hq2 => ?_)
  obtain ⟨he, hR2⟩ := k2 v2 m2 hq2.1 hq2.2
  exact gw_icmp_eq 1187 871 dL_law_868 rfl rfl (fun _ => kk m2 hR2) (fun hne => absurd he hne)
theorem gl_c21 (hX : gl_X Γ L xs) (hL : L ≤ 3072) (hi : 0 ≤ i ∧ i + 6 ≤ L) (hR : gl_R m m) (kk : ∀ m2 : gw_Mem, gl_R m2 m2 → gw_G M_law 60 QR Γ 1187 (gl_ls i) [] m2) : gw_G M_law 60 QR Γ 873 (gl_ls i) [] m := by
  obtain ⟨d1, P1, hd1, hs1, k1⟩ := gl_o_colours hR ((gl_sx xs (i + 1))) ((gl_sx xs (i + 2))) ((gl_sx xs (i + 3))) (gl_sx_in xs _)
  refine gw_aload_n 874 dL_law_873 rfl (x := 0) rfl ?_
  refine gl_arg hX hL hi 1 875 876 877 878 879 dL_law_874 rfl dL_law_875 rfl dL_law_876 rfl dL_law_877 rfl dL_law_878 rfl (by omega) ?_
  refine gl_arg hX hL hi 2 880 881 882 883 884 dL_law_879 rfl dL_law_880 rfl dL_law_881 rfl dL_law_882 rfl dL_law_883 rfl (by omega) ?_
  refine gl_arg hX hL hi 3 885 886 887 888 889 dL_law_884 rfl dL_law_885 rfl dL_law_886 rfl dL_law_887 rfl dL_law_888 rfl (by omega) ?_
  refine gw_cVI (P := fun v m' => gw_okM m' ∧ P1 v m') (a := [gI (gl_sx xs (i + 1)), gI (gl_sx xs (i + 2)), gI (gl_sx xs (i + 3))]) (rest := []) 892 dL_law_889 rfl ml_L_106 v_X11_colours rfl sh_0 rfl rfl rfl (gw_CI.of hs1 (gl_lt hd1) (fun v m' _ hm hq => ⟨hm, hq⟩)) (fun v1 m1 hq1 => ?_)
  obtain ⟨d2, P2, hd2, hs2, k2⟩ := k1 v1 m1 hq1.1 hq1.2
  refine gw_aload_n 893 dL_law_892 rfl (x := 117) rfl ?_
  refine gl_arg hX hL hi 1 894 895 896 897 898 dL_law_893 rfl dL_law_894 rfl dL_law_895 rfl dL_law_896 rfl dL_law_897 rfl (by omega) ?_
  refine gl_arg hX hL hi 2 899 900 901 902 903 dL_law_898 rfl dL_law_899 rfl dL_law_900 rfl dL_law_901 rfl dL_law_902 rfl (by omega) ?_
  refine gl_arg hX hL hi 3 904 905 906 907 908 dL_law_903 rfl dL_law_904 rfl dL_law_905 rfl dL_law_906 rfl dL_law_907 rfl (by omega) ?_
  refine gw_cVI (P := fun v m' => gw_okM m' ∧ P2 v m') (a := [gI (gl_sx xs (i + 1)), gI (gl_sx xs (i + 2)), gI (gl_sx xs (i + 3))]) (rest := [gI v1]) 911 dL_law_908 rfl ml_L_109 v_X12_colours rfl sh_117 rfl rfl rfl (gw_CI.of hs2 (gl_lt hd2) (fun v m' _ hm hq => ⟨hm, hq⟩)) (fun v2 m2 hq2 => ?_)
  obtain ⟨he, hR2⟩ := k2 v2 m2 hq2.1 hq2.2
  exact gw_icmp_eq 1187 914 dL_law_911 rfl rfl (fun _ => kk m2 hR2) (fun hne => absurd he hne)
theorem gl_c22 (hX : gl_X Γ L xs) (hL : L ≤ 3072) (hi : 0 ≤ i ∧ i + 6 ≤ L) (hR : gl_R m m) (kk : ∀ m2 : gw_Mem, gl_R m2 m2 → gw_G M_law 60 QR Γ 1187 (gl_ls i) [] m2) : gw_G M_law 60 QR Γ 916 (gl_ls i) [] m := by
  obtain ⟨d1, P1, hd1, hs1, k1⟩ := gl_o_image hR  
  refine gw_aload_n 917 dL_law_916 rfl (x := 0) rfl ?_
  refine gw_cVI (P := fun v m' => gw_okM m' ∧ P1 v m') (a := []) (rest := []) 920 dL_law_917 rfl ml_L_110 v_X11_image rfl sh_0 rfl rfl rfl (gw_CI.of hs1 (gl_lt hd1) (fun v m' _ hm hq => ⟨hm, hq⟩)) (fun v1 m1 hq1 => ?_)
  obtain ⟨d2, P2, hd2, hs2, k2⟩ := k1 v1 m1 hq1.1 hq1.2
  refine gw_aload_n 921 dL_law_920 rfl (x := 117) rfl ?_
  refine gw_cVI (P := fun v m' => gw_okM m' ∧ P2 v m') (a := []) (rest := [gI v1]) 924 dL_law_921 rfl ml_L_113 v_X12_image rfl sh_117 rfl rfl rfl (gw_CI.of hs2 (gl_lt hd2) (fun v m' _ hm hq => ⟨hm, hq⟩)) (fun v2 m2 hq2 => ?_)
  obtain ⟨he, hR2⟩ := k2 v2 m2 hq2.1 hq2.2
  exact gw_icmp_eq 1187 927 dL_law_924 rfl rfl (fun _ => kk m2 hR2) (fun hne => absurd he hne)
theorem gl_c23 (hX : gl_X Γ L xs) (hL : L ≤ 3072) (hi : 0 ≤ i ∧ i + 6 ≤ L) (hR : gl_R m m) (kk : ∀ m2 : gw_Mem, gl_R m2 m2 → gw_G M_law 60 QR Γ 1187 (gl_ls i) [] m2) : gw_G M_law 60 QR Γ 929 (gl_ls i) [] m := by
  obtain ⟨d1, P1, hd1, hs1, k1⟩ := gl_o_restore hR  
  refine gw_aload_n 930 dL_law_929 rfl (x := 0) rfl ?_
  refine gw_cVI (P := fun v m' => gw_okM m' ∧ P1 v m') (a := []) (rest := []) 933 dL_law_930 rfl ml_L_114 v_X11_restore rfl sh_0 rfl rfl rfl (gw_CI.of hs1 (gl_lt hd1) (fun v m' _ hm hq => ⟨hm, hq⟩)) (fun v1 m1 hq1 => ?_)
  obtain ⟨d2, P2, hd2, hs2, k2⟩ := k1 v1 m1 hq1.1 hq1.2
  refine gw_aload_n 934 dL_law_933 rfl (x := 117) rfl ?_
  refine gw_cVI (P := fun v m' => gw_okM m' ∧ P2 v m') (a := []) (rest := [gI v1]) 937 dL_law_934 rfl ml_L_117 v_X12_restore rfl sh_117 rfl rfl rfl (gw_CI.of hs2 (gl_lt hd2) (fun v m' _ hm hq => ⟨hm, hq⟩)) (fun v2 m2 hq2 => ?_)
  obtain ⟨he, hR2⟩ := k2 v2 m2 hq2.1 hq2.2
  exact gw_icmp_eq 1187 940 dL_law_937 rfl rfl (fun _ => kk m2 hR2) (fun hne => absurd he hne)
theorem gl_c24 (hX : gl_X Γ L xs) (hL : L ≤ 3072) (hi : 0 ≤ i ∧ i + 6 ≤ L) (hR : gl_R m m) (kk : ∀ m2 : gw_Mem, gl_R m2 m2 → gw_G M_law 60 QR Γ 1187 (gl_ls i) [] m2) : gw_G M_law 60 QR Γ 942 (gl_ls i) [] m := by
  obtain ⟨d1, P1, hd1, hs1, k1⟩ := gl_o_slots hR ((gl_sx xs (i + 1))) ((gl_sx xs (i + 2))) ((gl_sx xs (i + 3))) ((gl_sx xs (i + 4))) ((gl_sx xs (i + 5))) 
  refine gw_aload_n 943 dL_law_942 rfl (x := 0) rfl ?_
  refine gl_arg hX hL hi 1 944 945 946 947 948 dL_law_943 rfl dL_law_944 rfl dL_law_945 rfl dL_law_946 rfl dL_law_947 rfl (by omega) ?_
  refine gl_arg hX hL hi 2 949 950 951 952 953 dL_law_948 rfl dL_law_949 rfl dL_law_950 rfl dL_law_951 rfl dL_law_952 rfl (by omega) ?_
  refine gl_arg hX hL hi 3 954 955 956 957 958 dL_law_953 rfl dL_law_954 rfl dL_law_955 rfl dL_law_956 rfl dL_law_957 rfl (by omega) ?_
  refine gl_arg hX hL hi 4 959 960 961 962 963 dL_law_958 rfl dL_law_959 rfl dL_law_960 rfl dL_law_961 rfl dL_law_962 rfl (by omega) ?_
  refine gl_arg hX hL hi 5 964 965 966 967 968 dL_law_963 rfl dL_law_964 rfl dL_law_965 rfl dL_law_966 rfl dL_law_967 rfl (by omega) ?_
  refine gw_cVI (P := fun v m' => gw_okM m' ∧ P1 v m') (a := [gI (gl_sx xs (i + 1)), gI (gl_sx xs (i + 2)), gI (gl_sx xs (i + 3)), gI (gl_sx xs (i + 4)), gI (gl_sx xs (i + 5))]) (rest := []) 971 dL_law_968 rfl ml_L_118 v_X11_slots rfl sh_0 rfl rfl rfl (gw_CI.of hs1 (gl_lt hd1) (fun v m' _ hm hq => ⟨hm, hq⟩)) (fun v1 m1 hq1 => ?_)
  obtain ⟨d2, P2, hd2, hs2, k2⟩ := k1 v1 m1 hq1.1 hq1.2
  refine gw_aload_n 972 dL_law_971 rfl (x := 117) rfl ?_
  refine gl_arg hX hL hi 1 973 974 975 976 977 dL_law_972 rfl dL_law_973 rfl dL_law_974 rfl dL_law_975 rfl dL_law_976 rfl (by omega) ?_
  refine gl_arg hX hL hi 2 978 979 980 981 982 dL_law_977 rfl dL_law_978 rfl dL_law_979 rfl dL_law_980 rfl dL_law_981 rfl (by omega) ?_
  refine gl_arg hX hL hi 3 983 984 985 986 987 dL_law_982 rfl dL_law_983 rfl dL_law_984 rfl dL_law_985 rfl dL_law_986 rfl (by omega) ?_
  refine gl_arg hX hL hi 4 988 989 990 991 992 dL_law_987 rfl dL_law_988 rfl dL_law_989 rfl dL_law_990 rfl dL_law_991 rfl (by omega) ?_
  refine gl_arg hX hL hi 5 993 994 995 996 997 dL_law_992 rfl dL_law_993 rfl dL_law_994 rfl dL_law_995 rfl dL_law_996 rfl (by omega) ?_
  refine gw_cVI (P := fun v m' => gw_okM m' ∧ P2 v m') (a := [gI (gl_sx xs (i + 1)), gI (gl_sx xs (i + 2)), gI (gl_sx xs (i + 3)), gI (gl_sx xs (i + 4)), gI (gl_sx xs (i + 5))]) (rest := [gI v1]) 1000 dL_law_997 rfl ml_L_122 v_X12_slots rfl sh_117 rfl rfl rfl (gw_CI.of hs2 (gl_lt hd2) (fun v m' _ hm hq => ⟨hm, hq⟩)) (fun v2 m2 hq2 => ?_)
  obtain ⟨he, hR2⟩ := k2 v2 m2 hq2.1 hq2.2
  exact gw_icmp_eq 1187 1003 dL_law_1000 rfl rfl (fun _ => kk m2 hR2) (fun hne => absurd he hne)
theorem gl_c25 (hX : gl_X Γ L xs) (hL : L ≤ 3072) (hi : 0 ≤ i ∧ i + 6 ≤ L) (hR : gl_R m m) (kk : ∀ m2 : gw_Mem, gl_R m2 m2 → gw_G M_law 60 QR Γ 1187 (gl_ls i) [] m2) : gw_G M_law 60 QR Γ 1005 (gl_ls i) [] m := by
  obtain ⟨d1, P1, hd1, hs1, k1⟩ := gl_o_sheet hR ((gl_sx xs (i + 1))) ((gl_sx xs (i + 2))) ((gl_sx xs (i + 3))) 
  refine gw_aload_n 1006 dL_law_1005 rfl (x := 0) rfl ?_
  refine gl_arg hX hL hi 1 1007 1008 1009 1010 1011 dL_law_1006 rfl dL_law_1007 rfl dL_law_1008 rfl dL_law_1009 rfl dL_law_1010 rfl (by omega) ?_
  refine gl_arg hX hL hi 2 1012 1013 1014 1015 1016 dL_law_1011 rfl dL_law_1012 rfl dL_law_1013 rfl dL_law_1014 rfl dL_law_1015 rfl (by omega) ?_
  refine gl_arg hX hL hi 3 1017 1018 1019 1020 1021 dL_law_1016 rfl dL_law_1017 rfl dL_law_1018 rfl dL_law_1019 rfl dL_law_1020 rfl (by omega) ?_
  refine gw_cVI (P := fun v m' => gw_okM m' ∧ P1 v m') (a := [gI (gl_sx xs (i + 1)), gI (gl_sx xs (i + 2)), gI (gl_sx xs (i + 3))]) (rest := []) 1024 dL_law_1021 rfl ml_L_123 v_X11_sheet rfl sh_0 rfl rfl rfl (gw_CI.of hs1 (gl_lt hd1) (fun v m' _ hm hq => ⟨hm, hq⟩)) (fun v1 m1 hq1 => ?_)
  obtain ⟨d2, P2, hd2, hs2, k2⟩ := k1 v1 m1 hq1.1 hq1.2
  refine gw_aload_n 1025 dL_law_1024 rfl (x := 117) rfl ?_
  refine gl_arg hX hL hi 1 1026 1027 1028 1029 1030 dL_law_1025 rfl dL_law_1026 rfl dL_law_1027 rfl dL_law_1028 rfl dL_law_1029 rfl (by omega) ?_
  refine gl_arg hX hL hi 2 1031 1032 1033 1034 1035 dL_law_1030 rfl dL_law_1031 rfl dL_law_1032 rfl dL_law_1033 rfl dL_law_1034 rfl (by omega) ?_
  refine gl_arg hX hL hi 3 1036 1037 1038 1039 1040 dL_law_1035 rfl dL_law_1036 rfl dL_law_1037 rfl dL_law_1038 rfl dL_law_1039 rfl (by omega) ?_
  refine gw_cVI (P := fun v m' => gw_okM m' ∧ P2 v m') (a := [gI (gl_sx xs (i + 1)), gI (gl_sx xs (i + 2)), gI (gl_sx xs (i + 3))]) (rest := [gI v1]) 1043 dL_law_1040 rfl ml_L_126 v_X12_sheet rfl sh_117 rfl rfl rfl (gw_CI.of hs2 (gl_lt hd2) (fun v m' _ hm hq => ⟨hm, hq⟩)) (fun v2 m2 hq2 => ?_)
  obtain ⟨he, hR2⟩ := k2 v2 m2 hq2.1 hq2.2
  exact gw_icmp_eq 1187 1046 dL_law_1043 rfl rfl (fun _ => kk m2 hR2) (fun hne => absurd he hne)
theorem gl_c26 (hX : gl_X Γ L xs) (hL : L ≤ 3072) (hi : 0 ≤ i ∧ i + 6 ≤ L) (hR : gl_R m m) (kk : ∀ m2 : gw_Mem, gl_R m2 m2 → gw_G M_law 60 QR Γ 1187 (gl_ls i) [] m2) : gw_G M_law 60 QR Γ 1048 (gl_ls i) [] m := by
  obtain ⟨d1, P1, hd1, hs1, k1⟩ := gl_o_drop hR ((gl_sx xs (i + 1))) 
  refine gw_aload_n 1049 dL_law_1048 rfl (x := 0) rfl ?_
  refine gl_arg hX hL hi 1 1050 1051 1052 1053 1054 dL_law_1049 rfl dL_law_1050 rfl dL_law_1051 rfl dL_law_1052 rfl dL_law_1053 rfl (by omega) ?_
  refine gw_cVI (P := fun v m' => gw_okM m' ∧ P1 v m') (a := [gI (gl_sx xs (i + 1))]) (rest := []) 1057 dL_law_1054 rfl ml_L_127 v_X11_drop rfl sh_0 rfl rfl rfl (gw_CI.of hs1 (gl_lt hd1) (fun v m' _ hm hq => ⟨hm, hq⟩)) (fun v1 m1 hq1 => ?_)
  obtain ⟨d2, P2, hd2, hs2, k2⟩ := k1 v1 m1 hq1.1 hq1.2
  refine gw_aload_n 1058 dL_law_1057 rfl (x := 117) rfl ?_
  refine gl_arg hX hL hi 1 1059 1060 1061 1062 1063 dL_law_1058 rfl dL_law_1059 rfl dL_law_1060 rfl dL_law_1061 rfl dL_law_1062 rfl (by omega) ?_
  refine gw_cVI (P := fun v m' => gw_okM m' ∧ P2 v m') (a := [gI (gl_sx xs (i + 1))]) (rest := [gI v1]) 1066 dL_law_1063 rfl ml_L_130 v_X12_drop rfl sh_117 rfl rfl rfl (gw_CI.of hs2 (gl_lt hd2) (fun v m' _ hm hq => ⟨hm, hq⟩)) (fun v2 m2 hq2 => ?_)
  obtain ⟨he, hR2⟩ := k2 v2 m2 hq2.1 hq2.2
  exact gw_icmp_eq 1187 1069 dL_law_1066 rfl rfl (fun _ => kk m2 hR2) (fun hne => absurd he hne)
theorem gl_c27 (hX : gl_X Γ L xs) (hL : L ≤ 3072) (hi : 0 ≤ i ∧ i + 6 ≤ L) (hR : gl_R m m) (kk : ∀ m2 : gw_Mem, gl_R m2 m2 → gw_G M_law 60 QR Γ 1187 (gl_ls i) [] m2) : gw_G M_law 60 QR Γ 1071 (gl_ls i) [] m := by
  obtain ⟨d1, P1, hd1, hs1, k1⟩ := gl_o_item hR ((gl_sx xs (i + 1))) ((gl_sx xs (i + 2))) ((gl_sx xs (i + 3))) ((gl_sx xs (i + 4))) 
  refine gw_aload_n 1072 dL_law_1071 rfl (x := 0) rfl ?_
  refine gl_arg hX hL hi 1 1073 1074 1075 1076 1077 dL_law_1072 rfl dL_law_1073 rfl dL_law_1074 rfl dL_law_1075 rfl dL_law_1076 rfl (by omega) ?_
  refine gl_arg hX hL hi 2 1078 1079 1080 1081 1082 dL_law_1077 rfl dL_law_1078 rfl dL_law_1079 rfl dL_law_1080 rfl dL_law_1081 rfl (by omega) ?_
  refine gl_arg hX hL hi 3 1083 1084 1085 1086 1087 dL_law_1082 rfl dL_law_1083 rfl dL_law_1084 rfl dL_law_1085 rfl dL_law_1086 rfl (by omega) ?_
  refine gl_arg hX hL hi 4 1088 1089 1090 1091 1092 dL_law_1087 rfl dL_law_1088 rfl dL_law_1089 rfl dL_law_1090 rfl dL_law_1091 rfl (by omega) ?_
  refine gw_cVI (P := fun v m' => gw_okM m' ∧ P1 v m') (a := [gI (gl_sx xs (i + 1)), gI (gl_sx xs (i + 2)), gI (gl_sx xs (i + 3)), gI (gl_sx xs (i + 4))]) (rest := []) 1095 dL_law_1092 rfl ml_L_131 v_X11_item rfl sh_0 rfl rfl rfl (gw_CI.of hs1 (gl_lt hd1) (fun v m' _ hm hq => ⟨hm, hq⟩)) (fun v1 m1 hq1 => ?_)
  obtain ⟨d2, P2, hd2, hs2, k2⟩ := k1 v1 m1 hq1.1 hq1.2
  refine gw_aload_n 1096 dL_law_1095 rfl (x := 117) rfl ?_
  refine gl_arg hX hL hi 1 1097 1098 1099 1100 1101 dL_law_1096 rfl dL_law_1097 rfl dL_law_1098 rfl dL_law_1099 rfl dL_law_1100 rfl (by omega) ?_
  refine gl_arg hX hL hi 2 1102 1103 1104 1105 1106 dL_law_1101 rfl dL_law_1102 rfl dL_law_1103 rfl dL_law_1104 rfl dL_law_1105 rfl (by omega) ?_
  refine gl_arg hX hL hi 3 1107 1108 1109 1110 1111 dL_law_1106 rfl dL_law_1107 rfl dL_law_1108 rfl dL_law_1109 rfl dL_law_1110 rfl (by omega) ?_
  refine gl_arg hX hL hi 4 1112 1113 1114 1115 1116 dL_law_1111 rfl dL_law_1112 rfl dL_law_1113 rfl dL_law_1114 rfl dL_law_1115 rfl (by omega) ?_
  refine gw_cVI (P := fun v m' => gw_okM m' ∧ P2 v m') (a := [gI (gl_sx xs (i + 1)), gI (gl_sx xs (i + 2)), gI (gl_sx xs (i + 3)), gI (gl_sx xs (i + 4))]) (rest := [gI v1]) 1119 dL_law_1116 rfl ml_L_134 v_X12_item rfl sh_117 rfl rfl rfl (gw_CI.of hs2 (gl_lt hd2) (fun v m' _ hm hq => ⟨hm, hq⟩)) (fun v2 m2 hq2 => ?_)
  obtain ⟨he, hR2⟩ := k2 v2 m2 hq2.1 hq2.2
  exact gw_icmp_eq 1187 1122 dL_law_1119 rfl rfl (fun _ => kk m2 hR2) (fun hne => absurd he hne)
theorem gl_c28 (hX : gl_X Γ L xs) (hL : L ≤ 3072) (hi : 0 ≤ i ∧ i + 6 ≤ L) (hR : gl_R m m) (kk : ∀ m2 : gw_Mem, gl_R m2 m2 → gw_G M_law 60 QR Γ 1187 (gl_ls i) [] m2) : gw_G M_law 60 QR Γ 1124 (gl_ls i) [] m := by
  obtain ⟨d1, P1, hd1, hs1, k1⟩ := gl_o_copy hR ((gl_sx xs (i + 1))) ((gl_sx xs (i + 2))) ((gl_sx xs (i + 3))) ((gl_sx xs (i + 4))) ((gl_sx xs (i + 5))) 
  refine gw_aload_n 1125 dL_law_1124 rfl (x := 0) rfl ?_
  refine gl_arg hX hL hi 1 1126 1127 1128 1129 1130 dL_law_1125 rfl dL_law_1126 rfl dL_law_1127 rfl dL_law_1128 rfl dL_law_1129 rfl (by omega) ?_
  refine gl_arg hX hL hi 2 1131 1132 1133 1134 1135 dL_law_1130 rfl dL_law_1131 rfl dL_law_1132 rfl dL_law_1133 rfl dL_law_1134 rfl (by omega) ?_
  refine gl_arg hX hL hi 3 1136 1137 1138 1139 1140 dL_law_1135 rfl dL_law_1136 rfl dL_law_1137 rfl dL_law_1138 rfl dL_law_1139 rfl (by omega) ?_
  refine gl_arg hX hL hi 4 1141 1142 1143 1144 1145 dL_law_1140 rfl dL_law_1141 rfl dL_law_1142 rfl dL_law_1143 rfl dL_law_1144 rfl (by omega) ?_
  refine gl_arg hX hL hi 5 1146 1147 1148 1149 1150 dL_law_1145 rfl dL_law_1146 rfl dL_law_1147 rfl dL_law_1148 rfl dL_law_1149 rfl (by omega) ?_
  refine gw_cVI (P := fun v m' => gw_okM m' ∧ P1 v m') (a := [gI (gl_sx xs (i + 1)), gI (gl_sx xs (i + 2)), gI (gl_sx xs (i + 3)), gI (gl_sx xs (i + 4)), gI (gl_sx xs (i + 5))]) (rest := []) 1153 dL_law_1150 rfl ml_L_135 v_X11_copy rfl sh_0 rfl rfl rfl (gw_CI.of hs1 (gl_lt hd1) (fun v m' _ hm hq => ⟨hm, hq⟩)) (fun v1 m1 hq1 => ?_)
  obtain ⟨d2, P2, hd2, hs2, k2⟩ := k1 v1 m1 hq1.1 hq1.2
  refine gw_aload_n 1154 dL_law_1153 rfl (x := 117) rfl ?_
  refine gl_arg hX hL hi 1 1155 1156 1157 1158 1159 dL_law_1154 rfl dL_law_1155 rfl dL_law_1156 rfl dL_law_1157 rfl dL_law_1158 rfl (by omega) ?_
  refine gl_arg hX hL hi 2 1160 1161 1162 1163 1164 dL_law_1159 rfl dL_law_1160 rfl dL_law_1161 rfl dL_law_1162 rfl dL_law_1163 rfl (by omega) ?_
  refine gl_arg hX hL hi 3 1165 1166 1167 1168 1169 dL_law_1164 rfl dL_law_1165 rfl dL_law_1166 rfl dL_law_1167 rfl dL_law_1168 rfl (by omega) ?_
  refine gl_arg hX hL hi 4 1170 1171 1172 1173 1174 dL_law_1169 rfl dL_law_1170 rfl dL_law_1171 rfl dL_law_1172 rfl dL_law_1173 rfl (by omega) ?_
  refine gl_arg hX hL hi 5 1175 1176 1177 1178 1179 dL_law_1174 rfl dL_law_1175 rfl dL_law_1176 rfl dL_law_1177 rfl dL_law_1178 rfl (by omega) ?_
  refine gw_cVI (P := fun v m' => gw_okM m' ∧ P2 v m') (a := [gI (gl_sx xs (i + 1)), gI (gl_sx xs (i + 2)), gI (gl_sx xs (i + 3)), gI (gl_sx xs (i + 4)), gI (gl_sx xs (i + 5))]) (rest := [gI v1]) 1182 dL_law_1179 rfl ml_L_138 v_X12_copy rfl sh_117 rfl rfl rfl (gw_CI.of hs2 (gl_lt hd2) (fun v m' _ hm hq => ⟨hm, hq⟩)) (fun v2 m2 hq2 => ?_)
  obtain ⟨he, hR2⟩ := k2 v2 m2 hq2.1 hq2.2
  exact gw_icmp_eq 1187 1185 dL_law_1182 rfl rfl (fun _ => kk m2 hR2) (fun hne => absurd he hne)
end GLC
