set_option maxHeartbeats 1000000 in
theorem w_horse {Ln : Nat} {xs : Nat → Int32} {μ : jm_Mem} {Q : Option Value → jm_Mem → Prop} {i : Nat} (hLn : Ln < 2 ^ 31) (hi : i + 5 ≤ Ln) (R : Rel μ) (ih : ∀ μ2, Rel μ2 → jm_J rg_I (rg_X Ln xs) 12 mL_law 959 [some (.ref 100), some (.ref 0), some (.ref 24), some (.int (nI i))] [] μ2 Q) : jm_J rg_I (rg_X Ln xs) 12 mL_law 168 [some (.ref 100), some (.ref 0), some (.ref 24), some (.int (nI i))] [] μ Q := by
  refine jm_aload_n dL_law_168 rfl rfl rfl ?_
  refine jm_aload_n dL_law_169 rfl rfl rfl ?_
  refine jm_iload_n dL_law_170 rfl rfl rfl ?_
  refine jm_iconst (nI 1) dL_law_171 rfl (by decide) ?_
  refine jm_iadd dL_law_172 rfl ?_
  refine jm_xld dL_law_173 rfl (rg_x0 Ln xs) hLn (nI_add _ _) (by omega) ?_
  refine jm_aload_n dL_law_174 rfl rfl rfl ?_
  refine jm_iload_n dL_law_175 rfl rfl rfl ?_
  refine jm_iconst (nI 2) dL_law_176 rfl (by decide) ?_
  refine jm_iadd dL_law_177 rfl ?_
  refine jm_xld dL_law_178 rfl (rg_x0 Ln xs) hLn (nI_add _ _) (by omega) ?_
  refine jm_aload_n dL_law_179 rfl rfl rfl ?_
  refine jm_iload_n dL_law_180 rfl rfl rfl ?_
  refine jm_iconst (nI 3) dL_law_181 rfl (by decide) ?_
  refine jm_iadd dL_law_182 rfl ?_
  refine jm_xld dL_law_183 rfl (rg_x0 Ln xs) hLn (nI_add _ _) (by omega) ?_
  refine jm_cV3 dL_law_184 rfl cb_L_13 ci_X6_horse cv_X6_horse rfl rfl rfl (Nat.le_of_ble_eq_true rfl) (Nat.le_of_ble_eq_true rfl) (by decide) (s_X6_horse R.hz (fun r1 μ1 o1 => ?_))
  refine jm_aload_n dL_law_187 rfl rfl rfl ?_
  refine jm_aload_n dL_law_188 rfl rfl rfl ?_
  refine jm_iload_n dL_law_189 rfl rfl rfl ?_
  refine jm_iconst (nI 1) dL_law_190 rfl (by decide) ?_
  refine jm_iadd dL_law_191 rfl ?_
  refine jm_xld dL_law_192 rfl (rg_x0 Ln xs) hLn (nI_add _ _) (by omega) ?_
  refine jm_aload_n dL_law_193 rfl rfl rfl ?_
  refine jm_iload_n dL_law_194 rfl rfl rfl ?_
  refine jm_iconst (nI 2) dL_law_195 rfl (by decide) ?_
  refine jm_iadd dL_law_196 rfl ?_
  refine jm_xld dL_law_197 rfl (rg_x0 Ln xs) hLn (nI_add _ _) (by omega) ?_
  refine jm_aload_n dL_law_198 rfl rfl rfl ?_
  refine jm_iload_n dL_law_199 rfl rfl rfl ?_
  refine jm_iconst (nI 3) dL_law_200 rfl (by decide) ?_
  refine jm_iadd dL_law_201 rfl ?_
  refine jm_xld dL_law_202 rfl (rg_x0 Ln xs) hLn (nI_add _ _) (by omega) ?_
  refine jm_cV3 dL_law_203 rfl cb_L_17 ci_X7_horse cv_X7_horse rfl rfl rfl (Nat.le_of_ble_eq_true rfl) (Nat.le_of_ble_eq_true rfl) (by decide) (s_X7_horse (fun r2 μ2 o2 => ?_))
  obtain ⟨he, R2⟩ := p_horse R o1 o2
  refine jm_icmp_eq (tgt := 959) dL_law_206 (by decide) rfl (fun c206 => ?_) (fun c206 => absurd he c206)
  exact ih _ R2
set_option maxHeartbeats 1000000 in
theorem w_leave {Ln : Nat} {xs : Nat → Int32} {μ : jm_Mem} {Q : Option Value → jm_Mem → Prop} {i : Nat} (hLn : Ln < 2 ^ 31) (hi : i + 5 ≤ Ln) (R : Rel μ) (ih : ∀ μ2, Rel μ2 → jm_J rg_I (rg_X Ln xs) 12 mL_law 959 [some (.ref 100), some (.ref 0), some (.ref 24), some (.int (nI i))] [] μ2 Q) : jm_J rg_I (rg_X Ln xs) 12 mL_law 211 [some (.ref 100), some (.ref 0), some (.ref 24), some (.int (nI i))] [] μ Q := by
  refine jm_aload_n dL_law_211 rfl rfl rfl ?_
  refine jm_aload_n dL_law_212 rfl rfl rfl ?_
  refine jm_iload_n dL_law_213 rfl rfl rfl ?_
  refine jm_iconst (nI 1) dL_law_214 rfl (by decide) ?_
  refine jm_iadd dL_law_215 rfl ?_
  refine jm_xld dL_law_216 rfl (rg_x0 Ln xs) hLn (nI_add _ _) (by omega) ?_
  refine jm_cV1 dL_law_217 rfl cb_L_18 ci_X6_leave cv_X6_leave rfl rfl rfl (Nat.le_of_ble_eq_true rfl) (Nat.le_of_ble_eq_true rfl) (by decide) (s_X6_leave (fun r1 μ1 o1 => ?_))
  refine jm_aload_n dL_law_220 rfl rfl rfl ?_
  refine jm_aload_n dL_law_221 rfl rfl rfl ?_
  refine jm_iload_n dL_law_222 rfl rfl rfl ?_
  refine jm_iconst (nI 1) dL_law_223 rfl (by decide) ?_
  refine jm_iadd dL_law_224 rfl ?_
  refine jm_xld dL_law_225 rfl (rg_x0 Ln xs) hLn (nI_add _ _) (by omega) ?_
  refine jm_cV1 dL_law_226 rfl cb_L_22 ci_X7_leave cv_X7_leave rfl rfl rfl (Nat.le_of_ble_eq_true rfl) (Nat.le_of_ble_eq_true rfl) (by decide) (s_X7_leave (fun r2 μ2 o2 => ?_))
  obtain ⟨he, R2⟩ := p_leave R o1 o2
  refine jm_icmp_eq (tgt := 959) dL_law_229 (by decide) rfl (fun c229 => ?_) (fun c229 => absurd he c229)
  exact ih _ R2
set_option maxHeartbeats 1000000 in
theorem w_sit {Ln : Nat} {xs : Nat → Int32} {μ : jm_Mem} {Q : Option Value → jm_Mem → Prop} {i : Nat} (hLn : Ln < 2 ^ 31) (hi : i + 5 ≤ Ln) (R : Rel μ) (ih : ∀ μ2, Rel μ2 → jm_J rg_I (rg_X Ln xs) 12 mL_law 959 [some (.ref 100), some (.ref 0), some (.ref 24), some (.int (nI i))] [] μ2 Q) : jm_J rg_I (rg_X Ln xs) 12 mL_law 234 [some (.ref 100), some (.ref 0), some (.ref 24), some (.int (nI i))] [] μ Q := by
  refine jm_aload_n dL_law_234 rfl rfl rfl ?_
  refine jm_aload_n dL_law_235 rfl rfl rfl ?_
  refine jm_iload_n dL_law_236 rfl rfl rfl ?_
  refine jm_iconst (nI 1) dL_law_237 rfl (by decide) ?_
  refine jm_iadd dL_law_238 rfl ?_
  refine jm_xld dL_law_239 rfl (rg_x0 Ln xs) hLn (nI_add _ _) (by omega) ?_
  refine jm_aload_n dL_law_240 rfl rfl rfl ?_
  refine jm_iload_n dL_law_241 rfl rfl rfl ?_
  refine jm_iconst (nI 2) dL_law_242 rfl (by decide) ?_
  refine jm_iadd dL_law_243 rfl ?_
  refine jm_xld dL_law_244 rfl (rg_x0 Ln xs) hLn (nI_add _ _) (by omega) ?_
  refine jm_cV2 dL_law_245 rfl cb_L_23 ci_X6_sit cv_X6_sit rfl rfl rfl (Nat.le_of_ble_eq_true rfl) (Nat.le_of_ble_eq_true rfl) (by decide) (s_X6_sit (fun r1 μ1 o1 => ?_))
  refine jm_aload_n dL_law_248 rfl rfl rfl ?_
  refine jm_aload_n dL_law_249 rfl rfl rfl ?_
  refine jm_iload_n dL_law_250 rfl rfl rfl ?_
  refine jm_iconst (nI 1) dL_law_251 rfl (by decide) ?_
  refine jm_iadd dL_law_252 rfl ?_
  refine jm_xld dL_law_253 rfl (rg_x0 Ln xs) hLn (nI_add _ _) (by omega) ?_
  refine jm_aload_n dL_law_254 rfl rfl rfl ?_
  refine jm_iload_n dL_law_255 rfl rfl rfl ?_
  refine jm_iconst (nI 2) dL_law_256 rfl (by decide) ?_
  refine jm_iadd dL_law_257 rfl ?_
  refine jm_xld dL_law_258 rfl (rg_x0 Ln xs) hLn (nI_add _ _) (by omega) ?_
  refine jm_cV2 dL_law_259 rfl cb_L_27 ci_X7_sit cv_X7_sit rfl rfl rfl (Nat.le_of_ble_eq_true rfl) (Nat.le_of_ble_eq_true rfl) (by decide) (s_X7_sit (R.hz2 (nq_sit o1)) (fun r2 μ2 o2 => ?_))
  obtain ⟨he, R2⟩ := p_sit R o1 o2
  refine jm_icmp_eq (tgt := 959) dL_law_262 (by decide) rfl (fun c262 => ?_) (fun c262 => absurd he c262)
  exact ih _ R2
set_option maxHeartbeats 1000000 in
theorem w_rise {Ln : Nat} {xs : Nat → Int32} {μ : jm_Mem} {Q : Option Value → jm_Mem → Prop} {i : Nat} (hLn : Ln < 2 ^ 31) (hi : i + 5 ≤ Ln) (R : Rel μ) (ih : ∀ μ2, Rel μ2 → jm_J rg_I (rg_X Ln xs) 12 mL_law 959 [some (.ref 100), some (.ref 0), some (.ref 24), some (.int (nI i))] [] μ2 Q) : jm_J rg_I (rg_X Ln xs) 12 mL_law 267 [some (.ref 100), some (.ref 0), some (.ref 24), some (.int (nI i))] [] μ Q := by
  refine jm_aload_n dL_law_267 rfl rfl rfl ?_
  refine jm_aload_n dL_law_268 rfl rfl rfl ?_
  refine jm_iload_n dL_law_269 rfl rfl rfl ?_
  refine jm_iconst (nI 1) dL_law_270 rfl (by decide) ?_
  refine jm_iadd dL_law_271 rfl ?_
  refine jm_xld dL_law_272 rfl (rg_x0 Ln xs) hLn (nI_add _ _) (by omega) ?_
  refine jm_cV1 dL_law_273 rfl cb_L_28 ci_X6_rise cv_X6_rise rfl rfl rfl (Nat.le_of_ble_eq_true rfl) (Nat.le_of_ble_eq_true rfl) (by decide) (s_X6_rise (fun r1 μ1 o1 => ?_))
  refine jm_aload_n dL_law_276 rfl rfl rfl ?_
  refine jm_aload_n dL_law_277 rfl rfl rfl ?_
  refine jm_iload_n dL_law_278 rfl rfl rfl ?_
  refine jm_iconst (nI 1) dL_law_279 rfl (by decide) ?_
  refine jm_iadd dL_law_280 rfl ?_
  refine jm_xld dL_law_281 rfl (rg_x0 Ln xs) hLn (nI_add _ _) (by omega) ?_
  refine jm_cV1 dL_law_282 rfl cb_L_31 ci_X7_rise cv_X7_rise rfl rfl rfl (Nat.le_of_ble_eq_true rfl) (Nat.le_of_ble_eq_true rfl) (by decide) (s_X7_rise (fun r2 μ2 o2 => ?_))
  obtain ⟨he, R2⟩ := p_rise R o1 o2
  refine jm_icmp_eq (tgt := 959) dL_law_285 (by decide) rfl (fun c285 => ?_) (fun c285 => absurd he c285)
  exact ih _ R2
set_option maxHeartbeats 1000000 in
theorem w_shake {Ln : Nat} {xs : Nat → Int32} {μ : jm_Mem} {Q : Option Value → jm_Mem → Prop} {i : Nat} (hLn : Ln < 2 ^ 31) (hi : i + 5 ≤ Ln) (R : Rel μ) (ih : ∀ μ2, Rel μ2 → jm_J rg_I (rg_X Ln xs) 12 mL_law 959 [some (.ref 100), some (.ref 0), some (.ref 24), some (.int (nI i))] [] μ2 Q) : jm_J rg_I (rg_X Ln xs) 12 mL_law 290 [some (.ref 100), some (.ref 0), some (.ref 24), some (.int (nI i))] [] μ Q := by
  refine jm_aload_n dL_law_290 rfl rfl rfl ?_
  refine jm_cV0 dL_law_291 rfl cb_L_32 ci_X6_shake cv_X6_shake rfl rfl rfl (Nat.le_of_ble_eq_true rfl) (Nat.le_of_ble_eq_true rfl) (by decide) (s_X6_shake ?_)
  refine jm_aload_n dL_law_294 rfl rfl rfl ?_
  refine jm_cV0 dL_law_295 rfl cb_L_36 ci_X7_shake cv_X7_shake rfl rfl rfl (Nat.le_of_ble_eq_true rfl) (Nat.le_of_ble_eq_true rfl) (by decide) (s_X7_shake ?_)
  have he := p_shake R
  have R2 := R
  refine jm_icmp_eq (tgt := 959) dL_law_298 (by decide) rfl (fun c298 => ?_) (fun c298 => absurd he c298)
  exact ih _ R2
set_option maxHeartbeats 1000000 in
theorem w_rising {Ln : Nat} {xs : Nat → Int32} {μ : jm_Mem} {Q : Option Value → jm_Mem → Prop} {i : Nat} (hLn : Ln < 2 ^ 31) (hi : i + 5 ≤ Ln) (R : Rel μ) (ih : ∀ μ2, Rel μ2 → jm_J rg_I (rg_X Ln xs) 12 mL_law 959 [some (.ref 100), some (.ref 0), some (.ref 24), some (.int (nI i))] [] μ2 Q) : jm_J rg_I (rg_X Ln xs) 12 mL_law 303 [some (.ref 100), some (.ref 0), some (.ref 24), some (.int (nI i))] [] μ Q := by
  refine jm_aload_n dL_law_303 rfl rfl rfl ?_
  refine jm_cV0 dL_law_304 rfl cb_L_37 ci_X6_rising cv_X6_rising rfl rfl rfl (Nat.le_of_ble_eq_true rfl) (Nat.le_of_ble_eq_true rfl) (by decide) (s_X6_rising ?_)
  refine jm_aload_n dL_law_307 rfl rfl rfl ?_
  refine jm_cV0 dL_law_308 rfl cb_L_40 ci_X7_rising cv_X7_rising rfl rfl rfl (Nat.le_of_ble_eq_true rfl) (Nat.le_of_ble_eq_true rfl) (by decide) (s_X7_rising ?_)
  have he := p_rising R
  have R2 := R
  refine jm_icmp_eq (tgt := 959) dL_law_311 (by decide) rfl (fun c311 => ?_) (fun c311 => absurd he c311)
  exact ih _ R2
set_option maxHeartbeats 1000000 in
theorem w_may {Ln : Nat} {xs : Nat → Int32} {μ : jm_Mem} {Q : Option Value → jm_Mem → Prop} {i : Nat} (hLn : Ln < 2 ^ 31) (hi : i + 5 ≤ Ln) (R : Rel μ) (ih : ∀ μ2, Rel μ2 → jm_J rg_I (rg_X Ln xs) 12 mL_law 959 [some (.ref 100), some (.ref 0), some (.ref 24), some (.int (nI i))] [] μ2 Q) : jm_J rg_I (rg_X Ln xs) 12 mL_law 316 [some (.ref 100), some (.ref 0), some (.ref 24), some (.int (nI i))] [] μ Q := by
  refine jm_aload_n dL_law_316 rfl rfl rfl ?_
  refine jm_cV0 dL_law_317 rfl cb_L_41 ci_X6_may cv_X6_may rfl rfl rfl (Nat.le_of_ble_eq_true rfl) (Nat.le_of_ble_eq_true rfl) (by decide) (s_X6_may (fun r1 o1 => ?_))
  refine jm_aload_n dL_law_320 rfl rfl rfl ?_
  refine jm_cV0 dL_law_321 rfl cb_L_44 ci_X7_may cv_X7_may rfl rfl rfl (Nat.le_of_ble_eq_true rfl) (Nat.le_of_ble_eq_true rfl) (by decide) (s_X7_may (fun r2 o2 => ?_))
  have he := p_may R o1 o2
  have R2 := R
  refine jm_icmp_eq (tgt := 959) dL_law_324 (by decide) rfl (fun c324 => ?_) (fun c324 => absurd he c324)
  exact ih _ R2
set_option maxHeartbeats 1000000 in
theorem w_law {Ln : Nat} {xs : Nat → Int32} {μ : jm_Mem} {Q : Option Value → jm_Mem → Prop} {i : Nat} (hLn : Ln < 2 ^ 31) (hi : i + 5 ≤ Ln) (R : Rel μ) (ih : ∀ μ2, Rel μ2 → jm_J rg_I (rg_X Ln xs) 12 mL_law 959 [some (.ref 100), some (.ref 0), some (.ref 24), some (.int (nI i))] [] μ2 Q) : jm_J rg_I (rg_X Ln xs) 12 mL_law 329 [some (.ref 100), some (.ref 0), some (.ref 24), some (.int (nI i))] [] μ Q := by
  refine jm_aload_n dL_law_329 rfl rfl rfl ?_
  refine jm_aload_n dL_law_330 rfl rfl rfl ?_
  refine jm_iload_n dL_law_331 rfl rfl rfl ?_
  refine jm_iconst (nI 1) dL_law_332 rfl (by decide) ?_
  refine jm_iadd dL_law_333 rfl ?_
  refine jm_xld dL_law_334 rfl (rg_x0 Ln xs) hLn (nI_add _ _) (by omega) ?_
  refine jm_aload_n dL_law_335 rfl rfl rfl ?_
  refine jm_iload_n dL_law_336 rfl rfl rfl ?_
  refine jm_iconst (nI 2) dL_law_337 rfl (by decide) ?_
  refine jm_iadd dL_law_338 rfl ?_
  refine jm_xld dL_law_339 rfl (rg_x0 Ln xs) hLn (nI_add _ _) (by omega) ?_
  refine jm_cV2 dL_law_340 rfl cb_L_45 ci_X6_law cv_X6_law rfl rfl rfl (Nat.le_of_ble_eq_true rfl) (Nat.le_of_ble_eq_true rfl) (by decide) (s_X6_law (fun r1 μ1 o1 => ?_))
  refine jm_aload_n dL_law_343 rfl rfl rfl ?_
  refine jm_aload_n dL_law_344 rfl rfl rfl ?_
  refine jm_iload_n dL_law_345 rfl rfl rfl ?_
  refine jm_iconst (nI 1) dL_law_346 rfl (by decide) ?_
  refine jm_iadd dL_law_347 rfl ?_
  refine jm_xld dL_law_348 rfl (rg_x0 Ln xs) hLn (nI_add _ _) (by omega) ?_
  refine jm_aload_n dL_law_349 rfl rfl rfl ?_
  refine jm_iload_n dL_law_350 rfl rfl rfl ?_
  refine jm_iconst (nI 2) dL_law_351 rfl (by decide) ?_
  refine jm_iadd dL_law_352 rfl ?_
  refine jm_xld dL_law_353 rfl (rg_x0 Ln xs) hLn (nI_add _ _) (by omega) ?_
  refine jm_cV2 dL_law_354 rfl cb_L_48 ci_X7_law cv_X7_law rfl rfl rfl (Nat.le_of_ble_eq_true rfl) (Nat.le_of_ble_eq_true rfl) (by decide) (s_X7_law (fun r2 μ2 o2 => ?_))
  obtain ⟨he, R2⟩ := p_law R o1 o2
  refine jm_icmp_eq (tgt := 959) dL_law_357 (by decide) rfl (fun c357 => ?_) (fun c357 => absurd he c357)
  exact ih _ R2
set_option maxHeartbeats 1000000 in
theorem w_best {Ln : Nat} {xs : Nat → Int32} {μ : jm_Mem} {Q : Option Value → jm_Mem → Prop} {i : Nat} (hLn : Ln < 2 ^ 31) (hi : i + 5 ≤ Ln) (R : Rel μ) (ih : ∀ μ2, Rel μ2 → jm_J rg_I (rg_X Ln xs) 12 mL_law 959 [some (.ref 100), some (.ref 0), some (.ref 24), some (.int (nI i))] [] μ2 Q) : jm_J rg_I (rg_X Ln xs) 12 mL_law 362 [some (.ref 100), some (.ref 0), some (.ref 24), some (.int (nI i))] [] μ Q := by
  refine jm_aload_n dL_law_362 rfl rfl rfl ?_
  refine jm_aload_n dL_law_363 rfl rfl rfl ?_
  refine jm_iload_n dL_law_364 rfl rfl rfl ?_
  refine jm_iconst (nI 1) dL_law_365 rfl (by decide) ?_
  refine jm_iadd dL_law_366 rfl ?_
  refine jm_xld dL_law_367 rfl (rg_x0 Ln xs) hLn (nI_add _ _) (by omega) ?_
  refine jm_cV1 dL_law_368 rfl cb_L_49 ci_X6_best cv_X6_best rfl rfl rfl (Nat.le_of_ble_eq_true rfl) (Nat.le_of_ble_eq_true rfl) (by decide) (s_X6_best (fun r1 o1 => ?_))
  refine jm_aload_n dL_law_371 rfl rfl rfl ?_
  refine jm_aload_n dL_law_372 rfl rfl rfl ?_
  refine jm_iload_n dL_law_373 rfl rfl rfl ?_
  refine jm_iconst (nI 1) dL_law_374 rfl (by decide) ?_
  refine jm_iadd dL_law_375 rfl ?_
  refine jm_xld dL_law_376 rfl (rg_x0 Ln xs) hLn (nI_add _ _) (by omega) ?_
  refine jm_cV1 dL_law_377 rfl cb_L_52 ci_X7_best cv_X7_best rfl rfl rfl (Nat.le_of_ble_eq_true rfl) (Nat.le_of_ble_eq_true rfl) (by decide) (s_X7_best (fun r2 o2 => ?_))
  have he := p_best R o1 o2
  have R2 := R
  refine jm_icmp_eq (tgt := 959) dL_law_380 (by decide) rfl (fun c380 => ?_) (fun c380 => absurd he c380)
  exact ih _ R2
set_option maxHeartbeats 1000000 in
theorem w_group {Ln : Nat} {xs : Nat → Int32} {μ : jm_Mem} {Q : Option Value → jm_Mem → Prop} {i : Nat} (hLn : Ln < 2 ^ 31) (hi : i + 5 ≤ Ln) (R : Rel μ) (ih : ∀ μ2, Rel μ2 → jm_J rg_I (rg_X Ln xs) 12 mL_law 959 [some (.ref 100), some (.ref 0), some (.ref 24), some (.int (nI i))] [] μ2 Q) : jm_J rg_I (rg_X Ln xs) 12 mL_law 385 [some (.ref 100), some (.ref 0), some (.ref 24), some (.int (nI i))] [] μ Q := by
  refine jm_aload_n dL_law_385 rfl rfl rfl ?_
  refine jm_aload_n dL_law_386 rfl rfl rfl ?_
  refine jm_iload_n dL_law_387 rfl rfl rfl ?_
  refine jm_iconst (nI 1) dL_law_388 rfl (by decide) ?_
  refine jm_iadd dL_law_389 rfl ?_
  refine jm_xld dL_law_390 rfl (rg_x0 Ln xs) hLn (nI_add _ _) (by omega) ?_
  refine jm_aload_n dL_law_391 rfl rfl rfl ?_
  refine jm_iload_n dL_law_392 rfl rfl rfl ?_
  refine jm_iconst (nI 2) dL_law_393 rfl (by decide) ?_
  refine jm_iadd dL_law_394 rfl ?_
  refine jm_xld dL_law_395 rfl (rg_x0 Ln xs) hLn (nI_add _ _) (by omega) ?_
  refine jm_aload_n dL_law_396 rfl rfl rfl ?_
  refine jm_iload_n dL_law_397 rfl rfl rfl ?_
  refine jm_iconst (nI 3) dL_law_398 rfl (by decide) ?_
  refine jm_iadd dL_law_399 rfl ?_
  refine jm_xld dL_law_400 rfl (rg_x0 Ln xs) hLn (nI_add _ _) (by omega) ?_
  refine jm_aload_n dL_law_401 rfl rfl rfl ?_
  refine jm_iload_n dL_law_402 rfl rfl rfl ?_
  refine jm_iconst (nI 4) dL_law_403 rfl (by decide) ?_
  refine jm_iadd dL_law_404 rfl ?_
  refine jm_xld dL_law_405 rfl (rg_x0 Ln xs) hLn (nI_add _ _) (by omega) ?_
  refine jm_cV4 dL_law_406 rfl cb_L_53 ci_X6_group cv_X6_group rfl rfl rfl (Nat.le_of_ble_eq_true rfl) (Nat.le_of_ble_eq_true rfl) (by decide) (s_X6_group (p_hch R) (fun r1 μ1 o1 => ?_))
  refine jm_aload_n dL_law_409 rfl rfl rfl ?_
  refine jm_aload_n dL_law_410 rfl rfl rfl ?_
  refine jm_iload_n dL_law_411 rfl rfl rfl ?_
  refine jm_iconst (nI 1) dL_law_412 rfl (by decide) ?_
  refine jm_iadd dL_law_413 rfl ?_
  refine jm_xld dL_law_414 rfl (rg_x0 Ln xs) hLn (nI_add _ _) (by omega) ?_
  refine jm_aload_n dL_law_415 rfl rfl rfl ?_
  refine jm_iload_n dL_law_416 rfl rfl rfl ?_
  refine jm_iconst (nI 2) dL_law_417 rfl (by decide) ?_
  refine jm_iadd dL_law_418 rfl ?_
  refine jm_xld dL_law_419 rfl (rg_x0 Ln xs) hLn (nI_add _ _) (by omega) ?_
  refine jm_aload_n dL_law_420 rfl rfl rfl ?_
  refine jm_iload_n dL_law_421 rfl rfl rfl ?_
  refine jm_iconst (nI 3) dL_law_422 rfl (by decide) ?_
  refine jm_iadd dL_law_423 rfl ?_
  refine jm_xld dL_law_424 rfl (rg_x0 Ln xs) hLn (nI_add _ _) (by omega) ?_
  refine jm_aload_n dL_law_425 rfl rfl rfl ?_
  refine jm_iload_n dL_law_426 rfl rfl rfl ?_
  refine jm_iconst (nI 4) dL_law_427 rfl (by decide) ?_
  refine jm_iadd dL_law_428 rfl ?_
  refine jm_xld dL_law_429 rfl (rg_x0 Ln xs) hLn (nI_add _ _) (by omega) ?_
  refine jm_cV4 dL_law_430 rfl cb_L_57 ci_X7_group cv_X7_group rfl rfl rfl (Nat.le_of_ble_eq_true rfl) (Nat.le_of_ble_eq_true rfl) (by decide) (s_X7_group (fun r2 μ2 o2 => ?_))
  obtain ⟨he, R2⟩ := p_group R o1 o2
  refine jm_icmp_eq (tgt := 959) dL_law_433 (by decide) rfl (fun c433 => ?_) (fun c433 => absurd he c433)
  exact ih _ R2
set_option maxHeartbeats 1000000 in
theorem w_rider {Ln : Nat} {xs : Nat → Int32} {μ : jm_Mem} {Q : Option Value → jm_Mem → Prop} {i : Nat} (hLn : Ln < 2 ^ 31) (hi : i + 5 ≤ Ln) (R : Rel μ) (ih : ∀ μ2, Rel μ2 → jm_J rg_I (rg_X Ln xs) 12 mL_law 959 [some (.ref 100), some (.ref 0), some (.ref 24), some (.int (nI i))] [] μ2 Q) : jm_J rg_I (rg_X Ln xs) 12 mL_law 438 [some (.ref 100), some (.ref 0), some (.ref 24), some (.int (nI i))] [] μ Q := by
  refine jm_aload_n dL_law_438 rfl rfl rfl ?_
  refine jm_aload_n dL_law_439 rfl rfl rfl ?_
  refine jm_iload_n dL_law_440 rfl rfl rfl ?_
  refine jm_iconst (nI 1) dL_law_441 rfl (by decide) ?_
  refine jm_iadd dL_law_442 rfl ?_
  refine jm_xld dL_law_443 rfl (rg_x0 Ln xs) hLn (nI_add _ _) (by omega) ?_
  refine jm_cV1 dL_law_444 rfl cb_L_58 ci_X6_rider cv_X6_rider rfl rfl rfl (Nat.le_of_ble_eq_true rfl) (Nat.le_of_ble_eq_true rfl) (by decide) (s_X6_rider (fun r1 o1 => ?_))
  refine jm_aload_n dL_law_447 rfl rfl rfl ?_
  refine jm_aload_n dL_law_448 rfl rfl rfl ?_
  refine jm_iload_n dL_law_449 rfl rfl rfl ?_
  refine jm_iconst (nI 1) dL_law_450 rfl (by decide) ?_
  refine jm_iadd dL_law_451 rfl ?_
  refine jm_xld dL_law_452 rfl (rg_x0 Ln xs) hLn (nI_add _ _) (by omega) ?_
  refine jm_cV1 dL_law_453 rfl cb_L_61 ci_X7_rider cv_X7_rider rfl rfl rfl (Nat.le_of_ble_eq_true rfl) (Nat.le_of_ble_eq_true rfl) (by decide) (s_X7_rider (fun r2 o2 => ?_))
  have he := p_rider R o1 o2
  have R2 := R
  refine jm_icmp_eq (tgt := 959) dL_law_456 (by decide) rfl (fun c456 => ?_) (fun c456 => absurd he c456)
  exact ih _ R2
set_option maxHeartbeats 1000000 in
theorem w_coat {Ln : Nat} {xs : Nat → Int32} {μ : jm_Mem} {Q : Option Value → jm_Mem → Prop} {i : Nat} (hLn : Ln < 2 ^ 31) (hi : i + 5 ≤ Ln) (R : Rel μ) (ih : ∀ μ2, Rel μ2 → jm_J rg_I (rg_X Ln xs) 12 mL_law 959 [some (.ref 100), some (.ref 0), some (.ref 24), some (.int (nI i))] [] μ2 Q) : jm_J rg_I (rg_X Ln xs) 12 mL_law 461 [some (.ref 100), some (.ref 0), some (.ref 24), some (.int (nI i))] [] μ Q := by
  refine jm_aload_n dL_law_461 rfl rfl rfl ?_
  refine jm_aload_n dL_law_462 rfl rfl rfl ?_
  refine jm_iload_n dL_law_463 rfl rfl rfl ?_
  refine jm_iconst (nI 1) dL_law_464 rfl (by decide) ?_
  refine jm_iadd dL_law_465 rfl ?_
  refine jm_xld dL_law_466 rfl (rg_x0 Ln xs) hLn (nI_add _ _) (by omega) ?_
  refine jm_aload_n dL_law_467 rfl rfl rfl ?_
  refine jm_iload_n dL_law_468 rfl rfl rfl ?_
  refine jm_iconst (nI 2) dL_law_469 rfl (by decide) ?_
  refine jm_iadd dL_law_470 rfl ?_
  refine jm_xld dL_law_471 rfl (rg_x0 Ln xs) hLn (nI_add _ _) (by omega) ?_
  refine jm_cV2 dL_law_472 rfl cb_L_62 ci_X6_coat cv_X6_coat rfl rfl rfl (Nat.le_of_ble_eq_true rfl) (Nat.le_of_ble_eq_true rfl) (by decide) (s_X6_coat R.hm (fun r1 μ1 o1 => ?_))
  refine jm_aload_n dL_law_475 rfl rfl rfl ?_
  refine jm_aload_n dL_law_476 rfl rfl rfl ?_
  refine jm_iload_n dL_law_477 rfl rfl rfl ?_
  refine jm_iconst (nI 1) dL_law_478 rfl (by decide) ?_
  refine jm_iadd dL_law_479 rfl ?_
  refine jm_xld dL_law_480 rfl (rg_x0 Ln xs) hLn (nI_add _ _) (by omega) ?_
  refine jm_aload_n dL_law_481 rfl rfl rfl ?_
  refine jm_iload_n dL_law_482 rfl rfl rfl ?_
  refine jm_iconst (nI 2) dL_law_483 rfl (by decide) ?_
  refine jm_iadd dL_law_484 rfl ?_
  refine jm_xld dL_law_485 rfl (rg_x0 Ln xs) hLn (nI_add _ _) (by omega) ?_
  refine jm_cV2 dL_law_486 rfl cb_L_65 ci_X7_coat cv_X7_coat rfl rfl rfl (Nat.le_of_ble_eq_true rfl) (Nat.le_of_ble_eq_true rfl) (by decide) (s_X7_coat (R.hm2 (nq_coat o1)) (fun r2 μ2 o2 => ?_))
  obtain ⟨he, R2⟩ := p_coat R o1 o2
  refine jm_icmp_eq (tgt := 959) dL_law_489 (by decide) rfl (fun c489 => ?_) (fun c489 => absurd he c489)
  exact ih _ R2
set_option maxHeartbeats 1000000 in
theorem w_sample {Ln : Nat} {xs : Nat → Int32} {μ : jm_Mem} {Q : Option Value → jm_Mem → Prop} {i : Nat} (hLn : Ln < 2 ^ 31) (hi : i + 5 ≤ Ln) (R : Rel μ) (ih : ∀ μ2, Rel μ2 → jm_J rg_I (rg_X Ln xs) 12 mL_law 959 [some (.ref 100), some (.ref 0), some (.ref 24), some (.int (nI i))] [] μ2 Q) : jm_J rg_I (rg_X Ln xs) 12 mL_law 494 [some (.ref 100), some (.ref 0), some (.ref 24), some (.int (nI i))] [] μ Q := by
  refine jm_aload_n dL_law_494 rfl rfl rfl ?_
  refine jm_aload_n dL_law_495 rfl rfl rfl ?_
  refine jm_iload_n dL_law_496 rfl rfl rfl ?_
  refine jm_iconst (nI 1) dL_law_497 rfl (by decide) ?_
  refine jm_iadd dL_law_498 rfl ?_
  refine jm_xld dL_law_499 rfl (rg_x0 Ln xs) hLn (nI_add _ _) (by omega) ?_
  refine jm_aload_n dL_law_500 rfl rfl rfl ?_
  refine jm_iload_n dL_law_501 rfl rfl rfl ?_
  refine jm_iconst (nI 2) dL_law_502 rfl (by decide) ?_
  refine jm_iadd dL_law_503 rfl ?_
  refine jm_xld dL_law_504 rfl (rg_x0 Ln xs) hLn (nI_add _ _) (by omega) ?_
  refine jm_cV2 dL_law_505 rfl cb_L_66 ci_X6_sample cv_X6_sample rfl rfl rfl (Nat.le_of_ble_eq_true rfl) (Nat.le_of_ble_eq_true rfl) (by decide) (s_X6_sample R.hm (fun r1 o1 => ?_))
  refine jm_aload_n dL_law_508 rfl rfl rfl ?_
  refine jm_aload_n dL_law_509 rfl rfl rfl ?_
  refine jm_iload_n dL_law_510 rfl rfl rfl ?_
  refine jm_iconst (nI 1) dL_law_511 rfl (by decide) ?_
  refine jm_iadd dL_law_512 rfl ?_
  refine jm_xld dL_law_513 rfl (rg_x0 Ln xs) hLn (nI_add _ _) (by omega) ?_
  refine jm_aload_n dL_law_514 rfl rfl rfl ?_
  refine jm_iload_n dL_law_515 rfl rfl rfl ?_
  refine jm_iconst (nI 2) dL_law_516 rfl (by decide) ?_
  refine jm_iadd dL_law_517 rfl ?_
  refine jm_xld dL_law_518 rfl (rg_x0 Ln xs) hLn (nI_add _ _) (by omega) ?_
  refine jm_cV2 dL_law_519 rfl cb_L_69 ci_X7_sample cv_X7_sample rfl rfl rfl (Nat.le_of_ble_eq_true rfl) (Nat.le_of_ble_eq_true rfl) (by decide) (s_X7_sample (R.hm2 (fun _ _ => rfl)) (fun r2 o2 => ?_))
  have he := p_sample R o1 o2
  have R2 := R
  refine jm_icmp_eq (tgt := 959) dL_law_522 (by decide) rfl (fun c522 => ?_) (fun c522 => absurd he c522)
  exact ih _ R2
set_option maxHeartbeats 1000000 in
theorem w_strip {Ln : Nat} {xs : Nat → Int32} {μ : jm_Mem} {Q : Option Value → jm_Mem → Prop} {i : Nat} (hLn : Ln < 2 ^ 31) (hi : i + 5 ≤ Ln) (R : Rel μ) (ih : ∀ μ2, Rel μ2 → jm_J rg_I (rg_X Ln xs) 12 mL_law 959 [some (.ref 100), some (.ref 0), some (.ref 24), some (.int (nI i))] [] μ2 Q) : jm_J rg_I (rg_X Ln xs) 12 mL_law 527 [some (.ref 100), some (.ref 0), some (.ref 24), some (.int (nI i))] [] μ Q := by
  refine jm_aload_n dL_law_527 rfl rfl rfl ?_
  refine jm_aload_n dL_law_528 rfl rfl rfl ?_
  refine jm_iload_n dL_law_529 rfl rfl rfl ?_
  refine jm_iconst (nI 1) dL_law_530 rfl (by decide) ?_
  refine jm_iadd dL_law_531 rfl ?_
  refine jm_xld dL_law_532 rfl (rg_x0 Ln xs) hLn (nI_add _ _) (by omega) ?_
  refine jm_aload_n dL_law_533 rfl rfl rfl ?_
  refine jm_iload_n dL_law_534 rfl rfl rfl ?_
  refine jm_iconst (nI 2) dL_law_535 rfl (by decide) ?_
  refine jm_iadd dL_law_536 rfl ?_
  refine jm_xld dL_law_537 rfl (rg_x0 Ln xs) hLn (nI_add _ _) (by omega) ?_
  refine jm_cV2 dL_law_538 rfl cb_L_70 ci_X6_strip cv_X6_strip rfl rfl rfl (Nat.le_of_ble_eq_true rfl) (Nat.le_of_ble_eq_true rfl) (by decide) (s_X6_strip R.hm (fun r1 μ1 o1 => ?_))
  refine jm_aload_n dL_law_541 rfl rfl rfl ?_
  refine jm_aload_n dL_law_542 rfl rfl rfl ?_
  refine jm_iload_n dL_law_543 rfl rfl rfl ?_
  refine jm_iconst (nI 1) dL_law_544 rfl (by decide) ?_
  refine jm_iadd dL_law_545 rfl ?_
  refine jm_xld dL_law_546 rfl (rg_x0 Ln xs) hLn (nI_add _ _) (by omega) ?_
  refine jm_aload_n dL_law_547 rfl rfl rfl ?_
  refine jm_iload_n dL_law_548 rfl rfl rfl ?_
  refine jm_iconst (nI 2) dL_law_549 rfl (by decide) ?_
  refine jm_iadd dL_law_550 rfl ?_
  refine jm_xld dL_law_551 rfl (rg_x0 Ln xs) hLn (nI_add _ _) (by omega) ?_
  refine jm_cV2 dL_law_552 rfl cb_L_73 ci_X7_strip cv_X7_strip rfl rfl rfl (Nat.le_of_ble_eq_true rfl) (Nat.le_of_ble_eq_true rfl) (by decide) (s_X7_strip (R.hm2 (nq_strip o1)) (fun r2 μ2 o2 => ?_))
  obtain ⟨he, R2⟩ := p_strip R o1 o2
  refine jm_icmp_eq (tgt := 959) dL_law_555 (by decide) rfl (fun c555 => ?_) (fun c555 => absurd he c555)
  exact ih _ R2
set_option maxHeartbeats 1000000 in
theorem w_swap {Ln : Nat} {xs : Nat → Int32} {μ : jm_Mem} {Q : Option Value → jm_Mem → Prop} {i : Nat} (hLn : Ln < 2 ^ 31) (hi : i + 5 ≤ Ln) (R : Rel μ) (ih : ∀ μ2, Rel μ2 → jm_J rg_I (rg_X Ln xs) 12 mL_law 959 [some (.ref 100), some (.ref 0), some (.ref 24), some (.int (nI i))] [] μ2 Q) : jm_J rg_I (rg_X Ln xs) 12 mL_law 560 [some (.ref 100), some (.ref 0), some (.ref 24), some (.int (nI i))] [] μ Q := by
  refine jm_aload_n dL_law_560 rfl rfl rfl ?_
  refine jm_aload_n dL_law_561 rfl rfl rfl ?_
  refine jm_iload_n dL_law_562 rfl rfl rfl ?_
  refine jm_iconst (nI 1) dL_law_563 rfl (by decide) ?_
  refine jm_iadd dL_law_564 rfl ?_
  refine jm_xld dL_law_565 rfl (rg_x0 Ln xs) hLn (nI_add _ _) (by omega) ?_
  refine jm_aload_n dL_law_566 rfl rfl rfl ?_
  refine jm_iload_n dL_law_567 rfl rfl rfl ?_
  refine jm_iconst (nI 2) dL_law_568 rfl (by decide) ?_
  refine jm_iadd dL_law_569 rfl ?_
  refine jm_xld dL_law_570 rfl (rg_x0 Ln xs) hLn (nI_add _ _) (by omega) ?_
  refine jm_aload_n dL_law_571 rfl rfl rfl ?_
  refine jm_iload_n dL_law_572 rfl rfl rfl ?_
  refine jm_iconst (nI 3) dL_law_573 rfl (by decide) ?_
  refine jm_iadd dL_law_574 rfl ?_
  refine jm_xld dL_law_575 rfl (rg_x0 Ln xs) hLn (nI_add _ _) (by omega) ?_
  refine jm_aload_n dL_law_576 rfl rfl rfl ?_
  refine jm_iload_n dL_law_577 rfl rfl rfl ?_
  refine jm_iconst (nI 4) dL_law_578 rfl (by decide) ?_
  refine jm_iadd dL_law_579 rfl ?_
  refine jm_xld dL_law_580 rfl (rg_x0 Ln xs) hLn (nI_add _ _) (by omega) ?_
  refine jm_cV4 dL_law_581 rfl cb_L_74 ci_X6_swap cv_X6_swap rfl rfl rfl (Nat.le_of_ble_eq_true rfl) (Nat.le_of_ble_eq_true rfl) (by decide) (s_X6_swap (fun r1 μ1 o1 => ?_))
  refine jm_aload_n dL_law_584 rfl rfl rfl ?_
  refine jm_aload_n dL_law_585 rfl rfl rfl ?_
  refine jm_iload_n dL_law_586 rfl rfl rfl ?_
  refine jm_iconst (nI 1) dL_law_587 rfl (by decide) ?_
  refine jm_iadd dL_law_588 rfl ?_
  refine jm_xld dL_law_589 rfl (rg_x0 Ln xs) hLn (nI_add _ _) (by omega) ?_
  refine jm_aload_n dL_law_590 rfl rfl rfl ?_
  refine jm_iload_n dL_law_591 rfl rfl rfl ?_
  refine jm_iconst (nI 2) dL_law_592 rfl (by decide) ?_
  refine jm_iadd dL_law_593 rfl ?_
  refine jm_xld dL_law_594 rfl (rg_x0 Ln xs) hLn (nI_add _ _) (by omega) ?_
  refine jm_aload_n dL_law_595 rfl rfl rfl ?_
  refine jm_iload_n dL_law_596 rfl rfl rfl ?_
  refine jm_iconst (nI 3) dL_law_597 rfl (by decide) ?_
  refine jm_iadd dL_law_598 rfl ?_
  refine jm_xld dL_law_599 rfl (rg_x0 Ln xs) hLn (nI_add _ _) (by omega) ?_
  refine jm_aload_n dL_law_600 rfl rfl rfl ?_
  refine jm_iload_n dL_law_601 rfl rfl rfl ?_
  refine jm_iconst (nI 4) dL_law_602 rfl (by decide) ?_
  refine jm_iadd dL_law_603 rfl ?_
  refine jm_xld dL_law_604 rfl (rg_x0 Ln xs) hLn (nI_add _ _) (by omega) ?_
  refine jm_cV4 dL_law_605 rfl cb_L_77 ci_X7_swap cv_X7_swap rfl rfl rfl (Nat.le_of_ble_eq_true rfl) (Nat.le_of_ble_eq_true rfl) (by decide) (s_X7_swap (fun r2 μ2 o2 => ?_))
  obtain ⟨he, R2⟩ := p_swap R o1 o2
  refine jm_icmp_eq (tgt := 959) dL_law_608 (by decide) rfl (fun c608 => ?_) (fun c608 => absurd he c608)
  exact ih _ R2
set_option maxHeartbeats 1000000 in
theorem w_mark {Ln : Nat} {xs : Nat → Int32} {μ : jm_Mem} {Q : Option Value → jm_Mem → Prop} {i : Nat} (hLn : Ln < 2 ^ 31) (hi : i + 5 ≤ Ln) (R : Rel μ) (ih : ∀ μ2, Rel μ2 → jm_J rg_I (rg_X Ln xs) 12 mL_law 959 [some (.ref 100), some (.ref 0), some (.ref 24), some (.int (nI i))] [] μ2 Q) : jm_J rg_I (rg_X Ln xs) 12 mL_law 613 [some (.ref 100), some (.ref 0), some (.ref 24), some (.int (nI i))] [] μ Q := by
  refine jm_aload_n dL_law_613 rfl rfl rfl ?_
  refine jm_aload_n dL_law_614 rfl rfl rfl ?_
  refine jm_iload_n dL_law_615 rfl rfl rfl ?_
  refine jm_iconst (nI 1) dL_law_616 rfl (by decide) ?_
  refine jm_iadd dL_law_617 rfl ?_
  refine jm_xld dL_law_618 rfl (rg_x0 Ln xs) hLn (nI_add _ _) (by omega) ?_
  refine jm_aload_n dL_law_619 rfl rfl rfl ?_
  refine jm_iload_n dL_law_620 rfl rfl rfl ?_
  refine jm_iconst (nI 2) dL_law_621 rfl (by decide) ?_
  refine jm_iadd dL_law_622 rfl ?_
  refine jm_xld dL_law_623 rfl (rg_x0 Ln xs) hLn (nI_add _ _) (by omega) ?_
  refine jm_cV2 dL_law_624 rfl cb_L_78 ci_X6_mark cv_X6_mark rfl rfl rfl (Nat.le_of_ble_eq_true rfl) (Nat.le_of_ble_eq_true rfl) (by decide) (s_X6_mark (fun r1 o1 => ?_))
  refine jm_aload_n dL_law_627 rfl rfl rfl ?_
  refine jm_aload_n dL_law_628 rfl rfl rfl ?_
  refine jm_iload_n dL_law_629 rfl rfl rfl ?_
  refine jm_iconst (nI 1) dL_law_630 rfl (by decide) ?_
  refine jm_iadd dL_law_631 rfl ?_
  refine jm_xld dL_law_632 rfl (rg_x0 Ln xs) hLn (nI_add _ _) (by omega) ?_
  refine jm_aload_n dL_law_633 rfl rfl rfl ?_
  refine jm_iload_n dL_law_634 rfl rfl rfl ?_
  refine jm_iconst (nI 2) dL_law_635 rfl (by decide) ?_
  refine jm_iadd dL_law_636 rfl ?_
  refine jm_xld dL_law_637 rfl (rg_x0 Ln xs) hLn (nI_add _ _) (by omega) ?_
  refine jm_cV2 dL_law_638 rfl cb_L_81 ci_X7_mark cv_X7_mark rfl rfl rfl (Nat.le_of_ble_eq_true rfl) (Nat.le_of_ble_eq_true rfl) (by decide) (s_X7_mark (fun r2 o2 => ?_))
  have he := p_mark R o1 o2
  have R2 := R
  refine jm_icmp_eq (tgt := 959) dL_law_641 (by decide) rfl (fun c641 => ?_) (fun c641 => absurd he c641)
  exact ih _ R2
set_option maxHeartbeats 1000000 in
theorem w_swaps {Ln : Nat} {xs : Nat → Int32} {μ : jm_Mem} {Q : Option Value → jm_Mem → Prop} {i : Nat} (hLn : Ln < 2 ^ 31) (hi : i + 5 ≤ Ln) (R : Rel μ) (ih : ∀ μ2, Rel μ2 → jm_J rg_I (rg_X Ln xs) 12 mL_law 959 [some (.ref 100), some (.ref 0), some (.ref 24), some (.int (nI i))] [] μ2 Q) : jm_J rg_I (rg_X Ln xs) 12 mL_law 646 [some (.ref 100), some (.ref 0), some (.ref 24), some (.int (nI i))] [] μ Q := by
  obtain ⟨m, g1, g2, g3, g4, g5⟩ := R.legs
  refine jm_aload_n dL_law_646 rfl rfl rfl ?_
  refine jm_cV0 dL_law_647 rfl cb_L_82 ci_X6_swaps cv_X6_swaps rfl rfl rfl (Nat.le_of_ble_eq_true rfl) (Nat.le_of_ble_eq_true rfl) (by decide) (s_X6_swaps g1 g2 (fun μ1 f1 => ?_))
  refine jm_aload_n dL_law_650 rfl rfl rfl ?_
  refine jm_cV0 dL_law_651 rfl cb_L_85 ci_X7_swaps cv_X7_swaps rfl rfl rfl (Nat.le_of_ble_eq_true rfl) (Nat.le_of_ble_eq_true rfl) (by decide) (s_X7_swaps (m := m) (act := rg_act μ) g1 (fun k hk ha => by rw [f1 31 (by decide)]; exact g3 k hk ha) (fun k hk => by rw [f1 27 (by decide)]; exact g4 k hk) (fun μ2 f2 => ?_))
  have he := g5
  have R2 := R.swaps f1 f2
  refine jm_icmp_eq (tgt := 959) dL_law_654 (by decide) rfl (fun c654 => ?_) (fun c654 => absurd he c654)
  exact ih _ R2
set_option maxHeartbeats 1000000 in
theorem w_find {Ln : Nat} {xs : Nat → Int32} {μ : jm_Mem} {Q : Option Value → jm_Mem → Prop} {i : Nat} (hLn : Ln < 2 ^ 31) (hi : i + 5 ≤ Ln) (R : Rel μ) (ih : ∀ μ2, Rel μ2 → jm_J rg_I (rg_X Ln xs) 12 mL_law 959 [some (.ref 100), some (.ref 0), some (.ref 24), some (.int (nI i))] [] μ2 Q) : jm_J rg_I (rg_X Ln xs) 12 mL_law 659 [some (.ref 100), some (.ref 0), some (.ref 24), some (.int (nI i))] [] μ Q := by
  refine jm_aload_n dL_law_659 rfl rfl rfl ?_
  refine jm_aload_n dL_law_660 rfl rfl rfl ?_
  refine jm_iload_n dL_law_661 rfl rfl rfl ?_
  refine jm_iconst (nI 1) dL_law_662 rfl (by decide) ?_
  refine jm_iadd dL_law_663 rfl ?_
  refine jm_xld dL_law_664 rfl (rg_x0 Ln xs) hLn (nI_add _ _) (by omega) ?_
  refine jm_aload_n dL_law_665 rfl rfl rfl ?_
  refine jm_iload_n dL_law_666 rfl rfl rfl ?_
  refine jm_iconst (nI 2) dL_law_667 rfl (by decide) ?_
  refine jm_iadd dL_law_668 rfl ?_
  refine jm_xld dL_law_669 rfl (rg_x0 Ln xs) hLn (nI_add _ _) (by omega) ?_
  refine jm_cV2 dL_law_670 rfl cb_L_86 ci_X6_find cv_X6_find rfl rfl rfl (Nat.le_of_ble_eq_true rfl) (Nat.le_of_ble_eq_true rfl) (by decide) (s_X6_find (fun r1 o1 => ?_))
  refine jm_aload_n dL_law_673 rfl rfl rfl ?_
  refine jm_aload_n dL_law_674 rfl rfl rfl ?_
  refine jm_iload_n dL_law_675 rfl rfl rfl ?_
  refine jm_iconst (nI 1) dL_law_676 rfl (by decide) ?_
  refine jm_iadd dL_law_677 rfl ?_
  refine jm_xld dL_law_678 rfl (rg_x0 Ln xs) hLn (nI_add _ _) (by omega) ?_
  refine jm_aload_n dL_law_679 rfl rfl rfl ?_
  refine jm_iload_n dL_law_680 rfl rfl rfl ?_
  refine jm_iconst (nI 2) dL_law_681 rfl (by decide) ?_
  refine jm_iadd dL_law_682 rfl ?_
  refine jm_xld dL_law_683 rfl (rg_x0 Ln xs) hLn (nI_add _ _) (by omega) ?_
  refine jm_cV2 dL_law_684 rfl cb_L_89 ci_X7_find cv_X7_find rfl rfl rfl (Nat.le_of_ble_eq_true rfl) (Nat.le_of_ble_eq_true rfl) (by decide) (s_X7_find (fun r2 o2 => ?_))
  have he := p_find R o1 o2
  have R2 := R
  refine jm_icmp_eq (tgt := 959) dL_law_687 (by decide) rfl (fun c687 => ?_) (fun c687 => absurd he c687)
  exact ih _ R2
set_option maxHeartbeats 1000000 in
theorem w_fair {Ln : Nat} {xs : Nat → Int32} {μ : jm_Mem} {Q : Option Value → jm_Mem → Prop} {i : Nat} (hLn : Ln < 2 ^ 31) (hi : i + 5 ≤ Ln) (R : Rel μ) (ih : ∀ μ2, Rel μ2 → jm_J rg_I (rg_X Ln xs) 12 mL_law 959 [some (.ref 100), some (.ref 0), some (.ref 24), some (.int (nI i))] [] μ2 Q) : jm_J rg_I (rg_X Ln xs) 12 mL_law 692 [some (.ref 100), some (.ref 0), some (.ref 24), some (.int (nI i))] [] μ Q := by
  obtain ⟨nf, h8, hn, hn2, -⟩ := R.2.2.2.2.2.2.1
  refine jm_aload_n dL_law_692 rfl rfl rfl ?_
  refine jm_aload_n dL_law_693 rfl rfl rfl ?_
  refine jm_iload_n dL_law_694 rfl rfl rfl ?_
  refine jm_iconst (nI 1) dL_law_695 rfl (by decide) ?_
  refine jm_iadd dL_law_696 rfl ?_
  refine jm_xld dL_law_697 rfl (rg_x0 Ln xs) hLn (nI_add _ _) (by omega) ?_
  refine jm_aload_n dL_law_698 rfl rfl rfl ?_
  refine jm_iload_n dL_law_699 rfl rfl rfl ?_
  refine jm_iconst (nI 2) dL_law_700 rfl (by decide) ?_
  refine jm_iadd dL_law_701 rfl ?_
  refine jm_xld dL_law_702 rfl (rg_x0 Ln xs) hLn (nI_add _ _) (by omega) ?_
  refine jm_aload_n dL_law_703 rfl rfl rfl ?_
  refine jm_iload_n dL_law_704 rfl rfl rfl ?_
  refine jm_iconst (nI 3) dL_law_705 rfl (by decide) ?_
  refine jm_iadd dL_law_706 rfl ?_
  refine jm_xld dL_law_707 rfl (rg_x0 Ln xs) hLn (nI_add _ _) (by omega) ?_
  refine jm_cV3 dL_law_708 rfl cb_L_90 ci_X6_fair cv_X6_fair rfl rfl rfl (Nat.le_of_ble_eq_true rfl) (Nat.le_of_ble_eq_true rfl) (by decide) (s_X6_fair hn h8 (fun r1 μ1 o1 => ?_))
  refine jm_aload_n dL_law_711 rfl rfl rfl ?_
  refine jm_aload_n dL_law_712 rfl rfl rfl ?_
  refine jm_iload_n dL_law_713 rfl rfl rfl ?_
  refine jm_iconst (nI 1) dL_law_714 rfl (by decide) ?_
  refine jm_iadd dL_law_715 rfl ?_
  refine jm_xld dL_law_716 rfl (rg_x0 Ln xs) hLn (nI_add _ _) (by omega) ?_
  refine jm_aload_n dL_law_717 rfl rfl rfl ?_
  refine jm_iload_n dL_law_718 rfl rfl rfl ?_
  refine jm_iconst (nI 2) dL_law_719 rfl (by decide) ?_
  refine jm_iadd dL_law_720 rfl ?_
  refine jm_xld dL_law_721 rfl (rg_x0 Ln xs) hLn (nI_add _ _) (by omega) ?_
  refine jm_aload_n dL_law_722 rfl rfl rfl ?_
  refine jm_iload_n dL_law_723 rfl rfl rfl ?_
  refine jm_iconst (nI 3) dL_law_724 rfl (by decide) ?_
  refine jm_iadd dL_law_725 rfl ?_
  refine jm_xld dL_law_726 rfl (rg_x0 Ln xs) hLn (nI_add _ _) (by omega) ?_
  refine jm_cV3 dL_law_727 rfl cb_L_93 ci_X7_fair cv_X7_fair rfl rfl rfl (Nat.le_of_ble_eq_true rfl) (Nat.le_of_ble_eq_true rfl) (by decide) (s_X7_fair (nf := nf) (by rw [nq_fair o1 24 (by decide)]; exact hn2) h8 (fun r2 μ2 o2 => ?_))
  obtain ⟨he, R2⟩ := p_fair R o1 o2
  refine jm_icmp_eq (tgt := 959) dL_law_730 (by decide) rfl (fun c730 => ?_) (fun c730 => absurd he c730)
  exact ih _ R2
set_option maxHeartbeats 1000000 in
theorem w_road {Ln : Nat} {xs : Nat → Int32} {μ : jm_Mem} {Q : Option Value → jm_Mem → Prop} {i : Nat} (hLn : Ln < 2 ^ 31) (hi : i + 5 ≤ Ln) (R : Rel μ) (ih : ∀ μ2, Rel μ2 → jm_J rg_I (rg_X Ln xs) 12 mL_law 959 [some (.ref 100), some (.ref 0), some (.ref 24), some (.int (nI i))] [] μ2 Q) : jm_J rg_I (rg_X Ln xs) 12 mL_law 735 [some (.ref 100), some (.ref 0), some (.ref 24), some (.int (nI i))] [] μ Q := by
  obtain ⟨nf, h8, hn, hn2, -⟩ := R.2.2.2.2.2.2.1
  refine jm_aload_n dL_law_735 rfl rfl rfl ?_
  refine jm_aload_n dL_law_736 rfl rfl rfl ?_
  refine jm_iload_n dL_law_737 rfl rfl rfl ?_
  refine jm_iconst (nI 1) dL_law_738 rfl (by decide) ?_
  refine jm_iadd dL_law_739 rfl ?_
  refine jm_xld dL_law_740 rfl (rg_x0 Ln xs) hLn (nI_add _ _) (by omega) ?_
  refine jm_aload_n dL_law_741 rfl rfl rfl ?_
  refine jm_iload_n dL_law_742 rfl rfl rfl ?_
  refine jm_iconst (nI 2) dL_law_743 rfl (by decide) ?_
  refine jm_iadd dL_law_744 rfl ?_
  refine jm_xld dL_law_745 rfl (rg_x0 Ln xs) hLn (nI_add _ _) (by omega) ?_
  refine jm_aload_n dL_law_746 rfl rfl rfl ?_
  refine jm_iload_n dL_law_747 rfl rfl rfl ?_
  refine jm_iconst (nI 3) dL_law_748 rfl (by decide) ?_
  refine jm_iadd dL_law_749 rfl ?_
  refine jm_xld dL_law_750 rfl (rg_x0 Ln xs) hLn (nI_add _ _) (by omega) ?_
  refine jm_cV3 dL_law_751 rfl cb_L_94 ci_X6_road cv_X6_road rfl rfl rfl (Nat.le_of_ble_eq_true rfl) (Nat.le_of_ble_eq_true rfl) (by decide) (s_X6_road hn h8 (fun r1 μ1 o1 => ?_))
  refine jm_aload_n dL_law_754 rfl rfl rfl ?_
  refine jm_aload_n dL_law_755 rfl rfl rfl ?_
  refine jm_iload_n dL_law_756 rfl rfl rfl ?_
  refine jm_iconst (nI 1) dL_law_757 rfl (by decide) ?_
  refine jm_iadd dL_law_758 rfl ?_
  refine jm_xld dL_law_759 rfl (rg_x0 Ln xs) hLn (nI_add _ _) (by omega) ?_
  refine jm_aload_n dL_law_760 rfl rfl rfl ?_
  refine jm_iload_n dL_law_761 rfl rfl rfl ?_
  refine jm_iconst (nI 2) dL_law_762 rfl (by decide) ?_
  refine jm_iadd dL_law_763 rfl ?_
  refine jm_xld dL_law_764 rfl (rg_x0 Ln xs) hLn (nI_add _ _) (by omega) ?_
  refine jm_aload_n dL_law_765 rfl rfl rfl ?_
  refine jm_iload_n dL_law_766 rfl rfl rfl ?_
  refine jm_iconst (nI 3) dL_law_767 rfl (by decide) ?_
  refine jm_iadd dL_law_768 rfl ?_
  refine jm_xld dL_law_769 rfl (rg_x0 Ln xs) hLn (nI_add _ _) (by omega) ?_
  refine jm_cV3 dL_law_770 rfl cb_L_97 ci_X7_road cv_X7_road rfl rfl rfl (Nat.le_of_ble_eq_true rfl) (Nat.le_of_ble_eq_true rfl) (by decide) (s_X7_road (nf := nf) (by rw [nq_road o1 24 (by decide)]; exact hn2) h8 (fun r2 μ2 o2 => ?_))
  obtain ⟨he, R2⟩ := p_road R o1 o2
  refine jm_icmp_eq (tgt := 959) dL_law_773 (by decide) rfl (fun c773 => ?_) (fun c773 => absurd he c773)
  exact ih _ R2
set_option maxHeartbeats 1000000 in
theorem w_earns {Ln : Nat} {xs : Nat → Int32} {μ : jm_Mem} {Q : Option Value → jm_Mem → Prop} {i : Nat} (hLn : Ln < 2 ^ 31) (hi : i + 5 ≤ Ln) (R : Rel μ) (ih : ∀ μ2, Rel μ2 → jm_J rg_I (rg_X Ln xs) 12 mL_law 959 [some (.ref 100), some (.ref 0), some (.ref 24), some (.int (nI i))] [] μ2 Q) : jm_J rg_I (rg_X Ln xs) 12 mL_law 778 [some (.ref 100), some (.ref 0), some (.ref 24), some (.int (nI i))] [] μ Q := by
  obtain ⟨nf, h8, hn, hn2, -⟩ := R.2.2.2.2.2.2.1
  refine jm_aload_n dL_law_778 rfl rfl rfl ?_
  refine jm_cV0 dL_law_779 rfl cb_L_98 ci_X6_earns cv_X6_earns rfl rfl rfl (Nat.le_of_ble_eq_true rfl) (Nat.le_of_ble_eq_true rfl) (by decide) (s_X6_earns hn h8 ?_)
  refine jm_aload_n dL_law_782 rfl rfl rfl ?_
  refine jm_cV0 dL_law_783 rfl cb_L_101 ci_X7_earns cv_X7_earns rfl rfl rfl (Nat.le_of_ble_eq_true rfl) (Nat.le_of_ble_eq_true rfl) (by decide) (s_X7_earns (nf := nf) (by rw [rf_plan_na (by decide) (by decide) (by decide)]; exact hn2) h8 (fun u hu => ?_))
  have he := (R.best hn h8 (a := rf_plan μ nf nf) (fun q hq => rf_plan_na (by omega) (by omega) (by omega) nf)).2.1
  have R2 := R.frm (Or.inr rfl) hu
  refine jm_icmp_eq (tgt := 959) dL_law_786 (by decide) rfl (fun c786 => ?_) (fun c786 => absurd he c786)
  exact ih _ R2
set_option maxHeartbeats 1000000 in
theorem w_round {Ln : Nat} {xs : Nat → Int32} {μ : jm_Mem} {Q : Option Value → jm_Mem → Prop} {i : Nat} (hLn : Ln < 2 ^ 31) (hi : i + 5 ≤ Ln) (R : Rel μ) (ih : ∀ μ2, Rel μ2 → jm_J rg_I (rg_X Ln xs) 12 mL_law 959 [some (.ref 100), some (.ref 0), some (.ref 24), some (.int (nI i))] [] μ2 Q) : jm_J rg_I (rg_X Ln xs) 12 mL_law 791 [some (.ref 100), some (.ref 0), some (.ref 24), some (.int (nI i))] [] μ Q := by
  obtain ⟨nf, h8, hn, hn2, -⟩ := R.2.2.2.2.2.2.1
  refine jm_aload_n dL_law_791 rfl rfl rfl ?_
  refine jm_aload_n dL_law_792 rfl rfl rfl ?_
  refine jm_iload_n dL_law_793 rfl rfl rfl ?_
  refine jm_iconst (nI 1) dL_law_794 rfl (by decide) ?_
  refine jm_iadd dL_law_795 rfl ?_
  refine jm_xld dL_law_796 rfl (rg_x0 Ln xs) hLn (nI_add _ _) (by omega) ?_
  refine jm_cV1 dL_law_797 rfl cb_L_102 ci_X6_round cv_X6_round rfl rfl rfl (Nat.le_of_ble_eq_true rfl) (Nat.le_of_ble_eq_true rfl) (by decide) (t_X6_round R hn h8 (fun r1 μ1 o1 => ?_))
  refine jm_aload_n dL_law_800 rfl rfl rfl ?_
  refine jm_aload_n dL_law_801 rfl rfl rfl ?_
  refine jm_iload_n dL_law_802 rfl rfl rfl ?_
  refine jm_iconst (nI 1) dL_law_803 rfl (by decide) ?_
  refine jm_iadd dL_law_804 rfl ?_
  refine jm_xld dL_law_805 rfl (rg_x0 Ln xs) hLn (nI_add _ _) (by omega) ?_
  refine jm_cV1 dL_law_806 rfl cb_L_105 ci_X7_round cv_X7_round rfl rfl rfl (Nat.le_of_ble_eq_true rfl) (Nat.le_of_ble_eq_true rfl) (by decide) (t_X7_round (nf := nf) (by rw [nq_round o1 24 (by decide)]; exact hn2) h8 (fun r2 μ2 o2 => ?_))
  obtain ⟨he, R2⟩ := p_round R hn h8 o1 o2
  refine jm_icmp_eq (tgt := 959) dL_law_809 (by decide) rfl (fun c809 => ?_) (fun c809 => absurd he c809)
  exact ih _ R2
set_option maxHeartbeats 1000000 in
theorem w_turn {Ln : Nat} {xs : Nat → Int32} {μ : jm_Mem} {Q : Option Value → jm_Mem → Prop} {i : Nat} (hLn : Ln < 2 ^ 31) (hi : i + 5 ≤ Ln) (R : Rel μ) (ih : ∀ μ2, Rel μ2 → jm_J rg_I (rg_X Ln xs) 12 mL_law 959 [some (.ref 100), some (.ref 0), some (.ref 24), some (.int (nI i))] [] μ2 Q) : jm_J rg_I (rg_X Ln xs) 12 mL_law 814 [some (.ref 100), some (.ref 0), some (.ref 24), some (.int (nI i))] [] μ Q := by
  refine jm_aload_n dL_law_814 rfl rfl rfl ?_
  refine jm_cV0 dL_law_815 rfl cb_L_106 ci_X6_turn cv_X6_turn rfl rfl rfl (Nat.le_of_ble_eq_true rfl) (Nat.le_of_ble_eq_true rfl) (by decide) (s_X6_turn (fun r1 μ1 o1 => ?_))
  refine jm_aload_n dL_law_818 rfl rfl rfl ?_
  refine jm_cV0 dL_law_819 rfl cb_L_109 ci_X7_turn cv_X7_turn rfl rfl rfl (Nat.le_of_ble_eq_true rfl) (Nat.le_of_ble_eq_true rfl) (by decide) (s_X7_turn (fun r2 μ2 o2 => ?_))
  obtain ⟨he, R2⟩ := p_turn R o1 o2
  refine jm_icmp_eq (tgt := 959) dL_law_822 (by decide) rfl (fun c822 => ?_) (fun c822 => absurd he c822)
  exact ih _ R2
set_option maxHeartbeats 1000000 in
theorem w_look {Ln : Nat} {xs : Nat → Int32} {μ : jm_Mem} {Q : Option Value → jm_Mem → Prop} {i : Nat} (hLn : Ln < 2 ^ 31) (hi : i + 5 ≤ Ln) (R : Rel μ) (ih : ∀ μ2, Rel μ2 → jm_J rg_I (rg_X Ln xs) 12 mL_law 959 [some (.ref 100), some (.ref 0), some (.ref 24), some (.int (nI i))] [] μ2 Q) : jm_J rg_I (rg_X Ln xs) 12 mL_law 827 [some (.ref 100), some (.ref 0), some (.ref 24), some (.int (nI i))] [] μ Q := by
  refine jm_aload_n dL_law_827 rfl rfl rfl ?_
  refine jm_cV0 dL_law_828 rfl cb_L_110 ci_X6_look cv_X6_look rfl rfl rfl (Nat.le_of_ble_eq_true rfl) (Nat.le_of_ble_eq_true rfl) (by decide) (s_X6_look ?_)
  refine jm_aload_n dL_law_831 rfl rfl rfl ?_
  refine jm_cV0 dL_law_832 rfl cb_L_113 ci_X7_look cv_X7_look rfl rfl rfl (Nat.le_of_ble_eq_true rfl) (Nat.le_of_ble_eq_true rfl) (by decide) (s_X7_look ?_)
  obtain ⟨he, R2⟩ := p_look R
  refine jm_icmp_eq (tgt := 959) dL_law_835 (by decide) rfl (fun c835 => ?_) (fun c835 => absurd he c835)
  exact ih _ R2
set_option maxHeartbeats 1000000 in
theorem w_hours {Ln : Nat} {xs : Nat → Int32} {μ : jm_Mem} {Q : Option Value → jm_Mem → Prop} {i : Nat} (hLn : Ln < 2 ^ 31) (hi : i + 5 ≤ Ln) (R : Rel μ) (ih : ∀ μ2, Rel μ2 → jm_J rg_I (rg_X Ln xs) 12 mL_law 959 [some (.ref 100), some (.ref 0), some (.ref 24), some (.int (nI i))] [] μ2 Q) : jm_J rg_I (rg_X Ln xs) 12 mL_law 840 [some (.ref 100), some (.ref 0), some (.ref 24), some (.int (nI i))] [] μ Q := by
  refine jm_aload_n dL_law_840 rfl rfl rfl ?_
  refine jm_aload_n dL_law_841 rfl rfl rfl ?_
  refine jm_iload_n dL_law_842 rfl rfl rfl ?_
  refine jm_iconst (nI 1) dL_law_843 rfl (by decide) ?_
  refine jm_iadd dL_law_844 rfl ?_
  refine jm_xld dL_law_845 rfl (rg_x0 Ln xs) hLn (nI_add _ _) (by omega) ?_
  refine jm_cV1 dL_law_846 rfl cb_L_114 ci_X6_hours cv_X6_hours rfl rfl rfl (Nat.le_of_ble_eq_true rfl) (Nat.le_of_ble_eq_true rfl) (by decide) (s_X6_hours (fun r1 μ1 o1 => ?_))
  refine jm_aload_n dL_law_849 rfl rfl rfl ?_
  refine jm_aload_n dL_law_850 rfl rfl rfl ?_
  refine jm_iload_n dL_law_851 rfl rfl rfl ?_
  refine jm_iconst (nI 1) dL_law_852 rfl (by decide) ?_
  refine jm_iadd dL_law_853 rfl ?_
  refine jm_xld dL_law_854 rfl (rg_x0 Ln xs) hLn (nI_add _ _) (by omega) ?_
  refine jm_cV1 dL_law_855 rfl cb_L_117 ci_X7_hours cv_X7_hours rfl rfl rfl (Nat.le_of_ble_eq_true rfl) (Nat.le_of_ble_eq_true rfl) (by decide) (s_X7_hours (fun r2 μ2 o2 => ?_))
  obtain ⟨he, R2⟩ := p_hours R o1 o2
  refine jm_icmp_eq (tgt := 959) dL_law_858 (by decide) rfl (fun c858 => ?_) (fun c858 => absurd he c858)
  exact ih _ R2
set_option maxHeartbeats 1000000 in
theorem w_come {Ln : Nat} {xs : Nat → Int32} {μ : jm_Mem} {Q : Option Value → jm_Mem → Prop} {i : Nat} (hLn : Ln < 2 ^ 31) (hi : i + 5 ≤ Ln) (R : Rel μ) (ih : ∀ μ2, Rel μ2 → jm_J rg_I (rg_X Ln xs) 12 mL_law 959 [some (.ref 100), some (.ref 0), some (.ref 24), some (.int (nI i))] [] μ2 Q) : jm_J rg_I (rg_X Ln xs) 12 mL_law 863 [some (.ref 100), some (.ref 0), some (.ref 24), some (.int (nI i))] [] μ Q := by
  obtain ⟨nw, hl, hw, hw2, -⟩ := R.2.2.2.2.2.2.2
  refine jm_aload_n dL_law_863 rfl rfl rfl ?_
  refine jm_aload_n dL_law_864 rfl rfl rfl ?_
  refine jm_iload_n dL_law_865 rfl rfl rfl ?_
  refine jm_iconst (nI 1) dL_law_866 rfl (by decide) ?_
  refine jm_iadd dL_law_867 rfl ?_
  refine jm_xld dL_law_868 rfl (rg_x0 Ln xs) hLn (nI_add _ _) (by omega) ?_
  refine jm_cV1 dL_law_869 rfl cb_L_118 ci_X6_come cv_X6_come rfl rfl rfl (Nat.le_of_ble_eq_true rfl) (Nat.le_of_ble_eq_true rfl) (by decide) (s_X6_come hw hl (fun r1 μ1 o1 => ?_))
  refine jm_aload_n dL_law_872 rfl rfl rfl ?_
  refine jm_aload_n dL_law_873 rfl rfl rfl ?_
  refine jm_iload_n dL_law_874 rfl rfl rfl ?_
  refine jm_iconst (nI 1) dL_law_875 rfl (by decide) ?_
  refine jm_iadd dL_law_876 rfl ?_
  refine jm_xld dL_law_877 rfl (rg_x0 Ln xs) hLn (nI_add _ _) (by omega) ?_
  refine jm_cV1 dL_law_878 rfl cb_L_121 ci_X7_come cv_X7_come rfl rfl rfl (Nat.le_of_ble_eq_true rfl) (Nat.le_of_ble_eq_true rfl) (by decide) (s_X7_come (nw := nw) (by rw [nq_come o1 24 (by decide)]; exact hw2) hl (fun r2 μ2 o2 => ?_))
  obtain ⟨he, R2⟩ := p_come R o1 o2
  refine jm_icmp_eq (tgt := 959) dL_law_881 (by decide) rfl (fun c881 => ?_) (fun c881 => absurd he c881)
  exact ih _ R2
set_option maxHeartbeats 1000000 in
theorem w_next {Ln : Nat} {xs : Nat → Int32} {μ : jm_Mem} {Q : Option Value → jm_Mem → Prop} {i : Nat} (hLn : Ln < 2 ^ 31) (hi : i + 5 ≤ Ln) (R : Rel μ) (ih : ∀ μ2, Rel μ2 → jm_J rg_I (rg_X Ln xs) 12 mL_law 959 [some (.ref 100), some (.ref 0), some (.ref 24), some (.int (nI i))] [] μ2 Q) : jm_J rg_I (rg_X Ln xs) 12 mL_law 886 [some (.ref 100), some (.ref 0), some (.ref 24), some (.int (nI i))] [] μ Q := by
  obtain ⟨nw, hl, hw, hw2, -⟩ := R.2.2.2.2.2.2.2
  refine jm_aload_n dL_law_886 rfl rfl rfl ?_
  refine jm_cV0 dL_law_887 rfl cb_L_122 ci_X6_next cv_X6_next rfl rfl rfl (Nat.le_of_ble_eq_true rfl) (Nat.le_of_ble_eq_true rfl) (by decide) (s_X6_next hw hl (fun r1 μ1 o1 => ?_))
  refine jm_aload_n dL_law_890 rfl rfl rfl ?_
  refine jm_cV0 dL_law_891 rfl cb_L_125 ci_X7_next cv_X7_next rfl rfl rfl (Nat.le_of_ble_eq_true rfl) (Nat.le_of_ble_eq_true rfl) (by decide) (s_X7_next (nw := nw) (by rw [nq_next o1 24 (by decide)]; exact hw2) hl (fun r2 μ2 o2 => ?_))
  obtain ⟨he, R2⟩ := p_next R o1 o2
  refine jm_icmp_eq (tgt := 959) dL_law_894 (by decide) rfl (fun c894 => ?_) (fun c894 => absurd he c894)
  exact ih _ R2
set_option maxHeartbeats 1000000 in
theorem w_book {Ln : Nat} {xs : Nat → Int32} {μ : jm_Mem} {Q : Option Value → jm_Mem → Prop} {i : Nat} (hLn : Ln < 2 ^ 31) (hi : i + 5 ≤ Ln) (R : Rel μ) (ih : ∀ μ2, Rel μ2 → jm_J rg_I (rg_X Ln xs) 12 mL_law 959 [some (.ref 100), some (.ref 0), some (.ref 24), some (.int (nI i))] [] μ2 Q) : jm_J rg_I (rg_X Ln xs) 12 mL_law 899 [some (.ref 100), some (.ref 0), some (.ref 24), some (.int (nI i))] [] μ Q := by
  refine jm_aload_n dL_law_899 rfl rfl rfl ?_
  refine jm_aload_n dL_law_900 rfl rfl rfl ?_
  refine jm_iload_n dL_law_901 rfl rfl rfl ?_
  refine jm_iconst (nI 1) dL_law_902 rfl (by decide) ?_
  refine jm_iadd dL_law_903 rfl ?_
  refine jm_xld dL_law_904 rfl (rg_x0 Ln xs) hLn (nI_add _ _) (by omega) ?_
  refine jm_cV1 dL_law_905 rfl cb_L_126 ci_X6_book cv_X6_book rfl rfl rfl (Nat.le_of_ble_eq_true rfl) (Nat.le_of_ble_eq_true rfl) (by decide) (s_X6_book (fun r1 μ1 o1 => ?_))
  refine jm_aload_n dL_law_908 rfl rfl rfl ?_
  refine jm_aload_n dL_law_909 rfl rfl rfl ?_
  refine jm_iload_n dL_law_910 rfl rfl rfl ?_
  refine jm_iconst (nI 1) dL_law_911 rfl (by decide) ?_
  refine jm_iadd dL_law_912 rfl ?_
  refine jm_xld dL_law_913 rfl (rg_x0 Ln xs) hLn (nI_add _ _) (by omega) ?_
  refine jm_cV1 dL_law_914 rfl cb_L_129 ci_X7_book cv_X7_book rfl rfl rfl (Nat.le_of_ble_eq_true rfl) (Nat.le_of_ble_eq_true rfl) (by decide) (s_X7_book (fun r2 μ2 o2 => ?_))
  obtain ⟨he, R2⟩ := p_book R o1 o2
  refine jm_icmp_eq (tgt := 959) dL_law_917 (by decide) rfl (fun c917 => ?_) (fun c917 => absurd he c917)
  exact ih _ R2
set_option maxHeartbeats 1000000 in
theorem w_count {Ln : Nat} {xs : Nat → Int32} {μ : jm_Mem} {Q : Option Value → jm_Mem → Prop} {i : Nat} (hLn : Ln < 2 ^ 31) (hi : i + 5 ≤ Ln) (R : Rel μ) (ih : ∀ μ2, Rel μ2 → jm_J rg_I (rg_X Ln xs) 12 mL_law 959 [some (.ref 100), some (.ref 0), some (.ref 24), some (.int (nI i))] [] μ2 Q) : jm_J rg_I (rg_X Ln xs) 12 mL_law 922 [some (.ref 100), some (.ref 0), some (.ref 24), some (.int (nI i))] [] μ Q := by
  refine jm_aload_n dL_law_922 rfl rfl rfl ?_
  refine jm_aload_n dL_law_923 rfl rfl rfl ?_
  refine jm_iload_n dL_law_924 rfl rfl rfl ?_
  refine jm_iconst (nI 1) dL_law_925 rfl (by decide) ?_
  refine jm_iadd dL_law_926 rfl ?_
  refine jm_xld dL_law_927 rfl (rg_x0 Ln xs) hLn (nI_add _ _) (by omega) ?_
  refine jm_cV1 dL_law_928 rfl cb_L_130 ci_X6_count cv_X6_count rfl rfl rfl (Nat.le_of_ble_eq_true rfl) (Nat.le_of_ble_eq_true rfl) (by decide) (s_X6_count (fun r1 o1 => ?_))
  refine jm_aload_n dL_law_931 rfl rfl rfl ?_
  refine jm_aload_n dL_law_932 rfl rfl rfl ?_
  refine jm_iload_n dL_law_933 rfl rfl rfl ?_
  refine jm_iconst (nI 1) dL_law_934 rfl (by decide) ?_
  refine jm_iadd dL_law_935 rfl ?_
  refine jm_xld dL_law_936 rfl (rg_x0 Ln xs) hLn (nI_add _ _) (by omega) ?_
  refine jm_cV1 dL_law_937 rfl cb_L_133 ci_X7_count cv_X7_count rfl rfl rfl (Nat.le_of_ble_eq_true rfl) (Nat.le_of_ble_eq_true rfl) (by decide) (s_X7_count (fun r2 o2 => ?_))
  have he := p_count R o1 o2
  have R2 := R
  refine jm_icmp_eq (tgt := 959) dL_law_940 (by decide) rfl (fun c940 => ?_) (fun c940 => absurd he c940)
  exact ih _ R2
set_option maxHeartbeats 1000000 in
theorem w_digest {Ln : Nat} {xs : Nat → Int32} {μ : jm_Mem} {Q : Option Value → jm_Mem → Prop} {i : Nat} (hLn : Ln < 2 ^ 31) (hi : i + 5 ≤ Ln) (R : Rel μ) (ih : ∀ μ2, Rel μ2 → jm_J rg_I (rg_X Ln xs) 12 mL_law 959 [some (.ref 100), some (.ref 0), some (.ref 24), some (.int (nI i))] [] μ2 Q) : jm_J rg_I (rg_X Ln xs) 12 mL_law 945 [some (.ref 100), some (.ref 0), some (.ref 24), some (.int (nI i))] [] μ Q := by
  obtain ⟨nf, h8, hn, hn2, -⟩ := R.2.2.2.2.2.2.1
  obtain ⟨nw, hl, hw, hw2, -⟩ := R.2.2.2.2.2.2.2
  refine jm_aload_n dL_law_945 rfl rfl rfl ?_
  refine jm_cV0 dL_law_946 rfl cb_L_134 ci_X6_digest cv_X6_digest rfl rfl rfl (Nat.le_of_ble_eq_true rfl) (Nat.le_of_ble_eq_true rfl) (by decide) (s_X6_digest R.hm hn h8 hw hl ?_)
  refine jm_aload_n dL_law_949 rfl rfl rfl ?_
  refine jm_cV0 dL_law_950 rfl cb_L_138 ci_X7_digest cv_X7_digest rfl rfl rfl (Nat.le_of_ble_eq_true rfl) (Nat.le_of_ble_eq_true rfl) (by decide) (s_X7_digest (R.hm2 (fun _ _ => rfl)) hn2 h8 hw2 hl ?_)
  have he := p_digest R hn h8 hw hl
  have R2 := R
  refine jm_lcmp dL_law_953 rfl ?_
  refine jm_if_eq (tgt := 959) dL_law_954 (by decide) rfl (fun c954 => ?_) (fun c954 => absurd (by rw [he]; unfold lg_cmp; simp) c954)
  exact ih _ R2
