set_option maxRecDepth 20000 in
set_option maxHeartbeats 4000000 in
theorem wL_law_L18 (sn : Nat) (xs : Nat → Int32) (K : Int32 → Mem → Option (Int32 × Mem)) (hK : ∀ (l3 : Int32) (g : Mem), aw mL_law (some (sn, xs)) 1074 [some (.inr 73), some (.inr 0), some (.inr 61), some (.inl l3)] [] g (K l3 g)) : ∀ (n : Nat) (l3 : Int32) (g : Mem), aw mL_law (some (sn, xs)) 18 [some (.inr 73), some (.inr 0), some (.inr 61), some (.inl l3)] [] g (fL_law_L18 sn xs K n l3 g) := by
  intro n
  induction n with
  | zero => intro l3 g; exact aw_none
  | succ n ih =>
    intro l3 g
    rw [fL_law_L18]
    refine aw_iload_n iL_law_18 rfl rfl ?_
    refine aw_aload_n iL_law_19 rfl rfl ?_
    refine aw_slen iL_law_20 rfl ?_
    refine aw_bipush (v := 6) iL_law_21 (by decide) ?_
    refine aw_isub iL_law_23 ?_
    refine aw_icmp_gt iL_law_24 ?_ ?_
    · exact hK l3 g
    · refine aw_aload_n iL_law_27 rfl rfl ?_
      refine aw_iload_n iL_law_28 rfl rfl ?_
      refine aw_sld iL_law_29 rfl (fun v1 _ => ?_)
      refine aw_bipush (v := 31) iL_law_30 (by decide) ?_
      refine aw_iand iL_law_32 ?_
      refine aw_if (fun c2 => ?_) (fun c2 => ?_)
      · refine aw_tsw tL_law_33_0 c2 ?_
        refine aw_aload_n iL_law_168 rfl rfl ?_
        refine aw_aload_n iL_law_169 rfl rfl ?_
        refine aw_iload_n iL_law_170 rfl rfl ?_
        refine aw_iconst (v := 1) iL_law_171 (by decide) ?_
        refine aw_iadd iL_law_172 ?_
        refine aw_sld iL_law_173 rfl (fun v3 _ => ?_)
        refine aw_aload_n iL_law_174 rfl rfl ?_
        refine aw_iload_n iL_law_175 rfl rfl ?_
        refine aw_iconst (v := 2) iL_law_176 (by decide) ?_
        refine aw_iadd iL_law_177 ?_
        refine aw_sld iL_law_178 rfl (fun v4 _ => ?_)
        refine aw_aload_n iL_law_179 rfl rfl ?_
        refine aw_iload_n iL_law_180 rfl rfl ?_
        refine aw_iconst (v := 3) iL_law_181 (by decide) ?_
        refine aw_iadd iL_law_182 ?_
        refine aw_sld iL_law_183 rfl (fun v5 _ => ?_)
        refine aw_callV (M' := mX6_row) (As := [.inl v3, .inl v4, .inl v5]) iL_law_184 lkL_13 mcX6_row mvX6_row rfl zrc0 (kX6_row v3 v4 v5 g) rfl (Nat.le_of_ble_eq_true rfl) ⟨Nat.le_of_ble_eq_true rfl, Nat.le_of_ble_eq_true rfl⟩ (fun r6 g7 => ?_)
        refine aw_aload_n iL_law_187 rfl rfl ?_
        refine aw_aload_n iL_law_188 rfl rfl ?_
        refine aw_iload_n iL_law_189 rfl rfl ?_
        refine aw_iconst (v := 1) iL_law_190 (by decide) ?_
        refine aw_iadd iL_law_191 ?_
        refine aw_sld iL_law_192 rfl (fun v8 _ => ?_)
        refine aw_aload_n iL_law_193 rfl rfl ?_
        refine aw_iload_n iL_law_194 rfl rfl ?_
        refine aw_iconst (v := 2) iL_law_195 (by decide) ?_
        refine aw_iadd iL_law_196 ?_
        refine aw_sld iL_law_197 rfl (fun v9 _ => ?_)
        refine aw_aload_n iL_law_198 rfl rfl ?_
        refine aw_iload_n iL_law_199 rfl rfl ?_
        refine aw_iconst (v := 3) iL_law_200 (by decide) ?_
        refine aw_iadd iL_law_201 ?_
        refine aw_sld iL_law_202 rfl (fun v10 _ => ?_)
        refine aw_callV (M' := mX7_row) (As := [.inl v8, .inl v9, .inl v10]) iL_law_203 lkL_17 mcX7_row mvX7_row rfl zrc61 (kX7_row v8 v9 v10 g7) rfl (Nat.le_of_ble_eq_true rfl) ⟨Nat.le_of_ble_eq_true rfl, Nat.le_of_ble_eq_true rfl⟩ (fun r11 g12 => ?_)
        refine aw_icmp_eq iL_law_206 ?_ ?_
        · refine aw_iinc (L' := [some (.inr 73), some (.inr 0), some (.inr 61), some (.inl (l3 + (6 : Int32)))]) (v := l3 + (6 : Int32)) iL_law_1068 rfl rfl (Nat.le_of_ble_eq_true rfl) rfl ?_
          refine aw_goto iL_law_1071 ?_
          exact ih (l3 + (6 : Int32)) g12
        · refine aw_iconst (v := 0) iL_law_209 (by decide) ?_
          exact aw_zretK iL_law_210 rfl (Or.inl rfl)
      refine aw_if (fun c13 => ?_) (fun c13 => ?_)
      · refine aw_tsw tL_law_33_1 c13 ?_
        refine aw_aload_n iL_law_211 rfl rfl ?_
        refine aw_aload_n iL_law_212 rfl rfl ?_
        refine aw_iload_n iL_law_213 rfl rfl ?_
        refine aw_iconst (v := 1) iL_law_214 (by decide) ?_
        refine aw_iadd iL_law_215 ?_
        refine aw_sld iL_law_216 rfl (fun v14 _ => ?_)
        refine aw_aload_n iL_law_217 rfl rfl ?_
        refine aw_iload_n iL_law_218 rfl rfl ?_
        refine aw_iconst (v := 2) iL_law_219 (by decide) ?_
        refine aw_iadd iL_law_220 ?_
        refine aw_sld iL_law_221 rfl (fun v15 _ => ?_)
        refine aw_aload_n iL_law_222 rfl rfl ?_
        refine aw_iload_n iL_law_223 rfl rfl ?_
        refine aw_iconst (v := 3) iL_law_224 (by decide) ?_
        refine aw_iadd iL_law_225 ?_
        refine aw_sld iL_law_226 rfl (fun v16 _ => ?_)
        refine aw_callV (M' := mX6_set) (As := [.inl v14, .inl v15, .inl v16]) iL_law_227 lkL_18 mcX6_set mvX6_set rfl zrc0 (kX6_set v14 v15 v16 g) rfl (Nat.le_of_ble_eq_true rfl) ⟨Nat.le_of_ble_eq_true rfl, Nat.le_of_ble_eq_true rfl⟩ (fun r17 g18 => ?_)
        refine aw_aload_n iL_law_230 rfl rfl ?_
        refine aw_aload_n iL_law_231 rfl rfl ?_
        refine aw_iload_n iL_law_232 rfl rfl ?_
        refine aw_iconst (v := 1) iL_law_233 (by decide) ?_
        refine aw_iadd iL_law_234 ?_
        refine aw_sld iL_law_235 rfl (fun v19 _ => ?_)
        refine aw_aload_n iL_law_236 rfl rfl ?_
        refine aw_iload_n iL_law_237 rfl rfl ?_
        refine aw_iconst (v := 2) iL_law_238 (by decide) ?_
        refine aw_iadd iL_law_239 ?_
        refine aw_sld iL_law_240 rfl (fun v20 _ => ?_)
        refine aw_aload_n iL_law_241 rfl rfl ?_
        refine aw_iload_n iL_law_242 rfl rfl ?_
        refine aw_iconst (v := 3) iL_law_243 (by decide) ?_
        refine aw_iadd iL_law_244 ?_
        refine aw_sld iL_law_245 rfl (fun v21 _ => ?_)
        refine aw_callV (M' := mX7_set) (As := [.inl v19, .inl v20, .inl v21]) iL_law_246 lkL_21 mcX7_set mvX7_set rfl zrc61 (kX7_set v19 v20 v21 g18) rfl (Nat.le_of_ble_eq_true rfl) ⟨Nat.le_of_ble_eq_true rfl, Nat.le_of_ble_eq_true rfl⟩ (fun r22 g23 => ?_)
        refine aw_icmp_eq iL_law_249 ?_ ?_
        · refine aw_iinc (L' := [some (.inr 73), some (.inr 0), some (.inr 61), some (.inl (l3 + (6 : Int32)))]) (v := l3 + (6 : Int32)) iL_law_1068 rfl rfl (Nat.le_of_ble_eq_true rfl) rfl ?_
          refine aw_goto iL_law_1071 ?_
          exact ih (l3 + (6 : Int32)) g23
        · refine aw_iconst (v := 0) iL_law_252 (by decide) ?_
          exact aw_zretK iL_law_253 rfl (Or.inl rfl)
      refine aw_if (fun c24 => ?_) (fun c24 => ?_)
      · refine aw_tsw tL_law_33_2 c24 ?_
        refine aw_aload_n iL_law_254 rfl rfl ?_
        refine aw_aload_n iL_law_255 rfl rfl ?_
        refine aw_iload_n iL_law_256 rfl rfl ?_
        refine aw_iconst (v := 1) iL_law_257 (by decide) ?_
        refine aw_iadd iL_law_258 ?_
        refine aw_sld iL_law_259 rfl (fun v25 _ => ?_)
        refine aw_aload_n iL_law_260 rfl rfl ?_
        refine aw_iload_n iL_law_261 rfl rfl ?_
        refine aw_iconst (v := 2) iL_law_262 (by decide) ?_
        refine aw_iadd iL_law_263 ?_
        refine aw_sld iL_law_264 rfl (fun v26 _ => ?_)
        refine aw_aload_n iL_law_265 rfl rfl ?_
        refine aw_iload_n iL_law_266 rfl rfl ?_
        refine aw_iconst (v := 3) iL_law_267 (by decide) ?_
        refine aw_iadd iL_law_268 ?_
        refine aw_sld iL_law_269 rfl (fun v27 _ => ?_)
        refine aw_aload_n iL_law_270 rfl rfl ?_
        refine aw_iload_n iL_law_271 rfl rfl ?_
        refine aw_iconst (v := 4) iL_law_272 (by decide) ?_
        refine aw_iadd iL_law_273 ?_
        refine aw_sld iL_law_274 rfl (fun v28 _ => ?_)
        refine aw_aload_n iL_law_275 rfl rfl ?_
        refine aw_iload_n iL_law_276 rfl rfl ?_
        refine aw_iconst (v := 5) iL_law_277 (by decide) ?_
        refine aw_iadd iL_law_278 ?_
        refine aw_sld iL_law_279 rfl (fun v29 _ => ?_)
        refine aw_callV (M' := mX6_copy) (As := [.inl v25, .inl v26, .inl v27, .inl v28, .inl v29]) iL_law_280 lkL_22 mcX6_copy mvX6_copy rfl zrc0 (kX6_copy v25 v26 v27 v28 v29 g) rfl (Nat.le_of_ble_eq_true rfl) ⟨Nat.le_of_ble_eq_true rfl, Nat.le_of_ble_eq_true rfl⟩ (fun r30 g31 => ?_)
        refine aw_aload_n iL_law_283 rfl rfl ?_
        refine aw_aload_n iL_law_284 rfl rfl ?_
        refine aw_iload_n iL_law_285 rfl rfl ?_
        refine aw_iconst (v := 1) iL_law_286 (by decide) ?_
        refine aw_iadd iL_law_287 ?_
        refine aw_sld iL_law_288 rfl (fun v32 _ => ?_)
        refine aw_aload_n iL_law_289 rfl rfl ?_
        refine aw_iload_n iL_law_290 rfl rfl ?_
        refine aw_iconst (v := 2) iL_law_291 (by decide) ?_
        refine aw_iadd iL_law_292 ?_
        refine aw_sld iL_law_293 rfl (fun v33 _ => ?_)
        refine aw_aload_n iL_law_294 rfl rfl ?_
        refine aw_iload_n iL_law_295 rfl rfl ?_
        refine aw_iconst (v := 3) iL_law_296 (by decide) ?_
        refine aw_iadd iL_law_297 ?_
        refine aw_sld iL_law_298 rfl (fun v34 _ => ?_)
        refine aw_aload_n iL_law_299 rfl rfl ?_
        refine aw_iload_n iL_law_300 rfl rfl ?_
        refine aw_iconst (v := 4) iL_law_301 (by decide) ?_
        refine aw_iadd iL_law_302 ?_
        refine aw_sld iL_law_303 rfl (fun v35 _ => ?_)
        refine aw_aload_n iL_law_304 rfl rfl ?_
        refine aw_iload_n iL_law_305 rfl rfl ?_
        refine aw_iconst (v := 5) iL_law_306 (by decide) ?_
        refine aw_iadd iL_law_307 ?_
        refine aw_sld iL_law_308 rfl (fun v36 _ => ?_)
        refine aw_callV (M' := mX7_copy) (As := [.inl v32, .inl v33, .inl v34, .inl v35, .inl v36]) iL_law_309 lkL_26 mcX7_copy mvX7_copy rfl zrc61 (kX7_copy v32 v33 v34 v35 v36 g31) rfl (Nat.le_of_ble_eq_true rfl) ⟨Nat.le_of_ble_eq_true rfl, Nat.le_of_ble_eq_true rfl⟩ (fun r37 g38 => ?_)
        refine aw_icmp_eq iL_law_312 ?_ ?_
        · refine aw_iinc (L' := [some (.inr 73), some (.inr 0), some (.inr 61), some (.inl (l3 + (6 : Int32)))]) (v := l3 + (6 : Int32)) iL_law_1068 rfl rfl (Nat.le_of_ble_eq_true rfl) rfl ?_
          refine aw_goto iL_law_1071 ?_
          exact ih (l3 + (6 : Int32)) g38
        · refine aw_iconst (v := 0) iL_law_315 (by decide) ?_
          exact aw_zretK iL_law_316 rfl (Or.inl rfl)
      refine aw_if (fun c39 => ?_) (fun c39 => ?_)
      · refine aw_tsw tL_law_33_3 c39 ?_
        refine aw_aload_n iL_law_317 rfl rfl ?_
        refine aw_aload_n iL_law_318 rfl rfl ?_
        refine aw_iload_n iL_law_319 rfl rfl ?_
        refine aw_iconst (v := 1) iL_law_320 (by decide) ?_
        refine aw_iadd iL_law_321 ?_
        refine aw_sld iL_law_322 rfl (fun v40 _ => ?_)
        refine aw_callV (M' := mX6_drop) (As := [.inl v40]) iL_law_323 lkL_27 mcX6_drop mvX6_drop rfl zrc0 (kX6_drop v40 g) rfl (Nat.le_of_ble_eq_true rfl) ⟨Nat.le_of_ble_eq_true rfl, Nat.le_of_ble_eq_true rfl⟩ (fun r41 g42 => ?_)
        refine aw_aload_n iL_law_326 rfl rfl ?_
        refine aw_aload_n iL_law_327 rfl rfl ?_
        refine aw_iload_n iL_law_328 rfl rfl ?_
        refine aw_iconst (v := 1) iL_law_329 (by decide) ?_
        refine aw_iadd iL_law_330 ?_
        refine aw_sld iL_law_331 rfl (fun v43 _ => ?_)
        refine aw_callV (M' := mX7_drop) (As := [.inl v43]) iL_law_332 lkL_31 mcX7_drop mvX7_drop rfl zrc61 (kX7_drop v43 g42) rfl (Nat.le_of_ble_eq_true rfl) ⟨Nat.le_of_ble_eq_true rfl, Nat.le_of_ble_eq_true rfl⟩ (fun r44 g45 => ?_)
        refine aw_icmp_eq iL_law_335 ?_ ?_
        · refine aw_iinc (L' := [some (.inr 73), some (.inr 0), some (.inr 61), some (.inl (l3 + (6 : Int32)))]) (v := l3 + (6 : Int32)) iL_law_1068 rfl rfl (Nat.le_of_ble_eq_true rfl) rfl ?_
          refine aw_goto iL_law_1071 ?_
          exact ih (l3 + (6 : Int32)) g45
        · refine aw_iconst (v := 0) iL_law_338 (by decide) ?_
          exact aw_zretK iL_law_339 rfl (Or.inl rfl)
      refine aw_if (fun c46 => ?_) (fun c46 => ?_)
      · refine aw_tsw tL_law_33_4 c46 ?_
        refine aw_aload_n iL_law_340 rfl rfl ?_
        refine aw_aload_n iL_law_341 rfl rfl ?_
        refine aw_iload_n iL_law_342 rfl rfl ?_
        refine aw_iconst (v := 1) iL_law_343 (by decide) ?_
        refine aw_iadd iL_law_344 ?_
        refine aw_sld iL_law_345 rfl (fun v47 _ => ?_)
        refine aw_callV (M' := mX6_feed) (As := [.inl v47]) iL_law_346 lkL_32 mcX6_feed mvX6_feed rfl zrc0 (kX6_feed v47 g) rfl (Nat.le_of_ble_eq_true rfl) ⟨Nat.le_of_ble_eq_true rfl, Nat.le_of_ble_eq_true rfl⟩ (fun r48 g49 => ?_)
        refine aw_aload_n iL_law_349 rfl rfl ?_
        refine aw_aload_n iL_law_350 rfl rfl ?_
        refine aw_iload_n iL_law_351 rfl rfl ?_
        refine aw_iconst (v := 1) iL_law_352 (by decide) ?_
        refine aw_iadd iL_law_353 ?_
        refine aw_sld iL_law_354 rfl (fun v50 _ => ?_)
        refine aw_callV (M' := mX7_feed) (As := [.inl v50]) iL_law_355 lkL_35 mcX7_feed mvX7_feed rfl zrc61 (kX7_feed v50 g49) rfl (Nat.le_of_ble_eq_true rfl) ⟨Nat.le_of_ble_eq_true rfl, Nat.le_of_ble_eq_true rfl⟩ (fun r51 g52 => ?_)
        refine aw_icmp_eq iL_law_358 ?_ ?_
        · refine aw_iinc (L' := [some (.inr 73), some (.inr 0), some (.inr 61), some (.inl (l3 + (6 : Int32)))]) (v := l3 + (6 : Int32)) iL_law_1068 rfl rfl (Nat.le_of_ble_eq_true rfl) rfl ?_
          refine aw_goto iL_law_1071 ?_
          exact ih (l3 + (6 : Int32)) g52
        · refine aw_iconst (v := 0) iL_law_361 (by decide) ?_
          exact aw_zretK iL_law_362 rfl (Or.inl rfl)
      refine aw_if (fun c53 => ?_) (fun c53 => ?_)
      · refine aw_tsw tL_law_33_5 c53 ?_
        refine aw_aload_n iL_law_363 rfl rfl ?_
        refine aw_callV (M' := mX6_court) (As := []) iL_law_364 lkL_36 mcX6_court mvX6_court rfl zrc0 (kX6_court g) rfl (Nat.le_of_ble_eq_true rfl) ⟨Nat.le_of_ble_eq_true rfl, Nat.le_of_ble_eq_true rfl⟩ (fun r54 g55 => ?_)
        refine aw_aload_n iL_law_367 rfl rfl ?_
        refine aw_callV (M' := mX7_court) (As := []) iL_law_368 lkL_40 mcX7_court mvX7_court rfl zrc61 (kX7_court g55) rfl (Nat.le_of_ble_eq_true rfl) ⟨Nat.le_of_ble_eq_true rfl, Nat.le_of_ble_eq_true rfl⟩ (fun r56 g57 => ?_)
        refine aw_icmp_eq iL_law_371 ?_ ?_
        · refine aw_iinc (L' := [some (.inr 73), some (.inr 0), some (.inr 61), some (.inl (l3 + (6 : Int32)))]) (v := l3 + (6 : Int32)) iL_law_1068 rfl rfl (Nat.le_of_ble_eq_true rfl) rfl ?_
          refine aw_goto iL_law_1071 ?_
          exact ih (l3 + (6 : Int32)) g57
        · refine aw_iconst (v := 0) iL_law_374 (by decide) ?_
          exact aw_zretK iL_law_375 rfl (Or.inl rfl)
      refine aw_if (fun c58 => ?_) (fun c58 => ?_)
      · refine aw_tsw tL_law_33_6 c58 ?_
        refine aw_aload_n iL_law_376 rfl rfl ?_
        refine aw_callV (M' := mX6_fault) (As := []) iL_law_377 lkL_41 mcX6_fault mvX6_fault rfl zrc0 (kX6_fault g) rfl (Nat.le_of_ble_eq_true rfl) ⟨Nat.le_of_ble_eq_true rfl, Nat.le_of_ble_eq_true rfl⟩ (fun r59 g60 => ?_)
        refine aw_aload_n iL_law_380 rfl rfl ?_
        refine aw_callV (M' := mX7_fault) (As := []) iL_law_381 lkL_44 mcX7_fault mvX7_fault rfl zrc61 (kX7_fault g60) rfl (Nat.le_of_ble_eq_true rfl) ⟨Nat.le_of_ble_eq_true rfl, Nat.le_of_ble_eq_true rfl⟩ (fun r61 g62 => ?_)
        refine aw_icmp_eq iL_law_384 ?_ ?_
        · refine aw_iinc (L' := [some (.inr 73), some (.inr 0), some (.inr 61), some (.inl (l3 + (6 : Int32)))]) (v := l3 + (6 : Int32)) iL_law_1068 rfl rfl (Nat.le_of_ble_eq_true rfl) rfl ?_
          refine aw_goto iL_law_1071 ?_
          exact ih (l3 + (6 : Int32)) g62
        · refine aw_iconst (v := 0) iL_law_387 (by decide) ?_
          exact aw_zretK iL_law_388 rfl (Or.inl rfl)
      refine aw_if (fun c63 => ?_) (fun c63 => ?_)
      · refine aw_tsw tL_law_33_7 c63 ?_
        refine aw_aload_n iL_law_389 rfl rfl ?_
        refine aw_aload_n iL_law_390 rfl rfl ?_
        refine aw_iload_n iL_law_391 rfl rfl ?_
        refine aw_iconst (v := 1) iL_law_392 (by decide) ?_
        refine aw_iadd iL_law_393 ?_
        refine aw_sld iL_law_394 rfl (fun v64 _ => ?_)
        refine aw_aload_n iL_law_395 rfl rfl ?_
        refine aw_iload_n iL_law_396 rfl rfl ?_
        refine aw_iconst (v := 2) iL_law_397 (by decide) ?_
        refine aw_iadd iL_law_398 ?_
        refine aw_sld iL_law_399 rfl (fun v65 _ => ?_)
        refine aw_callV (M' := mX6_asked) (As := [.inl v64, .inl v65]) iL_law_400 lkL_45 mcX6_asked mvX6_asked rfl zrc0 (kX6_asked v64 v65 g) rfl (Nat.le_of_ble_eq_true rfl) ⟨Nat.le_of_ble_eq_true rfl, Nat.le_of_ble_eq_true rfl⟩ (fun r66 g67 => ?_)
        refine aw_aload_n iL_law_403 rfl rfl ?_
        refine aw_aload_n iL_law_404 rfl rfl ?_
        refine aw_iload_n iL_law_405 rfl rfl ?_
        refine aw_iconst (v := 1) iL_law_406 (by decide) ?_
        refine aw_iadd iL_law_407 ?_
        refine aw_sld iL_law_408 rfl (fun v68 _ => ?_)
        refine aw_aload_n iL_law_409 rfl rfl ?_
        refine aw_iload_n iL_law_410 rfl rfl ?_
        refine aw_iconst (v := 2) iL_law_411 (by decide) ?_
        refine aw_iadd iL_law_412 ?_
        refine aw_sld iL_law_413 rfl (fun v69 _ => ?_)
        refine aw_callV (M' := mX7_asked) (As := [.inl v68, .inl v69]) iL_law_414 lkL_49 mcX7_asked mvX7_asked rfl zrc61 (kX7_asked v68 v69 g67) rfl (Nat.le_of_ble_eq_true rfl) ⟨Nat.le_of_ble_eq_true rfl, Nat.le_of_ble_eq_true rfl⟩ (fun r70 g71 => ?_)
        refine aw_icmp_eq iL_law_417 ?_ ?_
        · refine aw_iinc (L' := [some (.inr 73), some (.inr 0), some (.inr 61), some (.inl (l3 + (6 : Int32)))]) (v := l3 + (6 : Int32)) iL_law_1068 rfl rfl (Nat.le_of_ble_eq_true rfl) rfl ?_
          refine aw_goto iL_law_1071 ?_
          exact ih (l3 + (6 : Int32)) g71
        · refine aw_iconst (v := 0) iL_law_420 (by decide) ?_
          exact aw_zretK iL_law_421 rfl (Or.inl rfl)
      refine aw_if (fun c72 => ?_) (fun c72 => ?_)
      · refine aw_tsw tL_law_33_8 c72 ?_
        refine aw_aload_n iL_law_422 rfl rfl ?_
        refine aw_aload_n iL_law_423 rfl rfl ?_
        refine aw_iload_n iL_law_424 rfl rfl ?_
        refine aw_iconst (v := 1) iL_law_425 (by decide) ?_
        refine aw_iadd iL_law_426 ?_
        refine aw_sld iL_law_427 rfl (fun v73 _ => ?_)
        refine aw_aload_n iL_law_428 rfl rfl ?_
        refine aw_iload_n iL_law_429 rfl rfl ?_
        refine aw_iconst (v := 2) iL_law_430 (by decide) ?_
        refine aw_iadd iL_law_431 ?_
        refine aw_sld iL_law_432 rfl (fun v74 _ => ?_)
        refine aw_callV (M' := mX6_inTurn) (As := [.inl v73, .inl v74]) iL_law_433 lkL_50 mcX6_inTurn mvX6_inTurn rfl zrc0 (kX6_inTurn v73 v74 g) rfl (Nat.le_of_ble_eq_true rfl) ⟨Nat.le_of_ble_eq_true rfl, Nat.le_of_ble_eq_true rfl⟩ (fun r75 g76 => ?_)
        refine aw_aload_n iL_law_436 rfl rfl ?_
        refine aw_aload_n iL_law_437 rfl rfl ?_
        refine aw_iload_n iL_law_438 rfl rfl ?_
        refine aw_iconst (v := 1) iL_law_439 (by decide) ?_
        refine aw_iadd iL_law_440 ?_
        refine aw_sld iL_law_441 rfl (fun v77 _ => ?_)
        refine aw_aload_n iL_law_442 rfl rfl ?_
        refine aw_iload_n iL_law_443 rfl rfl ?_
        refine aw_iconst (v := 2) iL_law_444 (by decide) ?_
        refine aw_iadd iL_law_445 ?_
        refine aw_sld iL_law_446 rfl (fun v78 _ => ?_)
        refine aw_callV (M' := mX7_inTurn) (As := [.inl v77, .inl v78]) iL_law_447 lkL_53 mcX7_inTurn mvX7_inTurn rfl zrc61 (kX7_inTurn v77 v78 g76) rfl (Nat.le_of_ble_eq_true rfl) ⟨Nat.le_of_ble_eq_true rfl, Nat.le_of_ble_eq_true rfl⟩ (fun r79 g80 => ?_)
        refine aw_icmp_eq iL_law_450 ?_ ?_
        · refine aw_iinc (L' := [some (.inr 73), some (.inr 0), some (.inr 61), some (.inl (l3 + (6 : Int32)))]) (v := l3 + (6 : Int32)) iL_law_1068 rfl rfl (Nat.le_of_ble_eq_true rfl) rfl ?_
          refine aw_goto iL_law_1071 ?_
          exact ih (l3 + (6 : Int32)) g80
        · refine aw_iconst (v := 0) iL_law_453 (by decide) ?_
          exact aw_zretK iL_law_454 rfl (Or.inl rfl)
      refine aw_if (fun c81 => ?_) (fun c81 => ?_)
      · refine aw_tsw tL_law_33_9 c81 ?_
        refine aw_aload_n iL_law_455 rfl rfl ?_
        refine aw_aload_n iL_law_456 rfl rfl ?_
        refine aw_iload_n iL_law_457 rfl rfl ?_
        refine aw_iconst (v := 1) iL_law_458 (by decide) ?_
        refine aw_iadd iL_law_459 ?_
        refine aw_sld iL_law_460 rfl (fun v82 _ => ?_)
        refine aw_aload_n iL_law_461 rfl rfl ?_
        refine aw_iload_n iL_law_462 rfl rfl ?_
        refine aw_iconst (v := 2) iL_law_463 (by decide) ?_
        refine aw_iadd iL_law_464 ?_
        refine aw_sld iL_law_465 rfl (fun v83 _ => ?_)
        refine aw_callV (M' := mX6_buy) (As := [.inl v82, .inl v83]) iL_law_466 lkL_54 mcX6_buy mvX6_buy rfl zrc0 (kX6_buy v82 v83 g) rfl (Nat.le_of_ble_eq_true rfl) ⟨Nat.le_of_ble_eq_true rfl, Nat.le_of_ble_eq_true rfl⟩ (fun r84 g85 => ?_)
        refine aw_aload_n iL_law_469 rfl rfl ?_
        refine aw_aload_n iL_law_470 rfl rfl ?_
        refine aw_iload_n iL_law_471 rfl rfl ?_
        refine aw_iconst (v := 1) iL_law_472 (by decide) ?_
        refine aw_iadd iL_law_473 ?_
        refine aw_sld iL_law_474 rfl (fun v86 _ => ?_)
        refine aw_aload_n iL_law_475 rfl rfl ?_
        refine aw_iload_n iL_law_476 rfl rfl ?_
        refine aw_iconst (v := 2) iL_law_477 (by decide) ?_
        refine aw_iadd iL_law_478 ?_
        refine aw_sld iL_law_479 rfl (fun v87 _ => ?_)
        refine aw_callV (M' := mX7_buy) (As := [.inl v86, .inl v87]) iL_law_480 lkL_57 mcX7_buy mvX7_buy rfl zrc61 (kX7_buy v86 v87 g85) rfl (Nat.le_of_ble_eq_true rfl) ⟨Nat.le_of_ble_eq_true rfl, Nat.le_of_ble_eq_true rfl⟩ (fun r88 g89 => ?_)
        refine aw_icmp_eq iL_law_483 ?_ ?_
        · refine aw_iinc (L' := [some (.inr 73), some (.inr 0), some (.inr 61), some (.inl (l3 + (6 : Int32)))]) (v := l3 + (6 : Int32)) iL_law_1068 rfl rfl (Nat.le_of_ble_eq_true rfl) rfl ?_
          refine aw_goto iL_law_1071 ?_
          exact ih (l3 + (6 : Int32)) g89
        · refine aw_iconst (v := 0) iL_law_486 (by decide) ?_
          exact aw_zretK iL_law_487 rfl (Or.inl rfl)
      refine aw_if (fun c90 => ?_) (fun c90 => ?_)
      · refine aw_tsw tL_law_33_10 c90 ?_
        refine aw_aload_n iL_law_488 rfl rfl ?_
        refine aw_callV (M' := mX6_undo) (As := []) iL_law_489 lkL_58 mcX6_undo mvX6_undo rfl zrc0 (kX6_undo g) rfl (Nat.le_of_ble_eq_true rfl) ⟨Nat.le_of_ble_eq_true rfl, Nat.le_of_ble_eq_true rfl⟩ (fun r91 g92 => ?_)
        refine aw_aload_n iL_law_492 rfl rfl ?_
        refine aw_callV (M' := mX7_undo) (As := []) iL_law_493 lkL_61 mcX7_undo mvX7_undo rfl zrc61 (kX7_undo g92) rfl (Nat.le_of_ble_eq_true rfl) ⟨Nat.le_of_ble_eq_true rfl, Nat.le_of_ble_eq_true rfl⟩ (fun r93 g94 => ?_)
        refine aw_icmp_eq iL_law_496 ?_ ?_
        · refine aw_iinc (L' := [some (.inr 73), some (.inr 0), some (.inr 61), some (.inl (l3 + (6 : Int32)))]) (v := l3 + (6 : Int32)) iL_law_1068 rfl rfl (Nat.le_of_ble_eq_true rfl) rfl ?_
          refine aw_goto iL_law_1071 ?_
          exact ih (l3 + (6 : Int32)) g94
        · refine aw_iconst (v := 0) iL_law_499 (by decide) ?_
          exact aw_zretK iL_law_500 rfl (Or.inl rfl)
      refine aw_if (fun c95 => ?_) (fun c95 => ?_)
      · refine aw_tsw tL_law_33_11 c95 ?_
        refine aw_aload_n iL_law_501 rfl rfl ?_
        refine aw_aload_n iL_law_502 rfl rfl ?_
        refine aw_iload_n iL_law_503 rfl rfl ?_
        refine aw_iconst (v := 1) iL_law_504 (by decide) ?_
        refine aw_iadd iL_law_505 ?_
        refine aw_sld iL_law_506 rfl (fun v96 _ => ?_)
        refine aw_callV (M' := mX6_thing) (As := [.inl v96]) iL_law_507 lkL_62 mcX6_thing mvX6_thing rfl zrc0 (kX6_thing v96 g) rfl (Nat.le_of_ble_eq_true rfl) ⟨Nat.le_of_ble_eq_true rfl, Nat.le_of_ble_eq_true rfl⟩ (fun r97 g98 => ?_)
        refine aw_aload_n iL_law_510 rfl rfl ?_
        refine aw_aload_n iL_law_511 rfl rfl ?_
        refine aw_iload_n iL_law_512 rfl rfl ?_
        refine aw_iconst (v := 1) iL_law_513 (by decide) ?_
        refine aw_iadd iL_law_514 ?_
        refine aw_sld iL_law_515 rfl (fun v99 _ => ?_)
        refine aw_callV (M' := mX7_thing) (As := [.inl v99]) iL_law_516 lkL_65 mcX7_thing mvX7_thing rfl zrc61 (kX7_thing v99 g98) rfl (Nat.le_of_ble_eq_true rfl) ⟨Nat.le_of_ble_eq_true rfl, Nat.le_of_ble_eq_true rfl⟩ (fun r100 g101 => ?_)
        refine aw_icmp_eq iL_law_519 ?_ ?_
        · refine aw_iinc (L' := [some (.inr 73), some (.inr 0), some (.inr 61), some (.inl (l3 + (6 : Int32)))]) (v := l3 + (6 : Int32)) iL_law_1068 rfl rfl (Nat.le_of_ble_eq_true rfl) rfl ?_
          refine aw_goto iL_law_1071 ?_
          exact ih (l3 + (6 : Int32)) g101
        · refine aw_iconst (v := 0) iL_law_522 (by decide) ?_
          exact aw_zretK iL_law_523 rfl (Or.inl rfl)
      refine aw_if (fun c102 => ?_) (fun c102 => ?_)
      · refine aw_tsw tL_law_33_12 c102 ?_
        refine aw_aload_n iL_law_524 rfl rfl ?_
        refine aw_aload_n iL_law_525 rfl rfl ?_
        refine aw_iload_n iL_law_526 rfl rfl ?_
        refine aw_iconst (v := 1) iL_law_527 (by decide) ?_
        refine aw_iadd iL_law_528 ?_
        refine aw_sld iL_law_529 rfl (fun v103 _ => ?_)
        refine aw_aload_n iL_law_530 rfl rfl ?_
        refine aw_iload_n iL_law_531 rfl rfl ?_
        refine aw_iconst (v := 2) iL_law_532 (by decide) ?_
        refine aw_iadd iL_law_533 ?_
        refine aw_sld iL_law_534 rfl (fun v104 _ => ?_)
        refine aw_callV (M' := mX6_riddle) (As := [.inl v103, .inl v104]) iL_law_535 lkL_66 mcX6_riddle mvX6_riddle rfl zrc0 (kX6_riddle v103 v104 g) rfl (Nat.le_of_ble_eq_true rfl) ⟨Nat.le_of_ble_eq_true rfl, Nat.le_of_ble_eq_true rfl⟩ (fun r105 g106 => ?_)
        refine aw_aload_n iL_law_538 rfl rfl ?_
        refine aw_aload_n iL_law_539 rfl rfl ?_
        refine aw_iload_n iL_law_540 rfl rfl ?_
        refine aw_iconst (v := 1) iL_law_541 (by decide) ?_
        refine aw_iadd iL_law_542 ?_
        refine aw_sld iL_law_543 rfl (fun v107 _ => ?_)
        refine aw_aload_n iL_law_544 rfl rfl ?_
        refine aw_iload_n iL_law_545 rfl rfl ?_
        refine aw_iconst (v := 2) iL_law_546 (by decide) ?_
        refine aw_iadd iL_law_547 ?_
        refine aw_sld iL_law_548 rfl (fun v108 _ => ?_)
        refine aw_callV (M' := mX7_riddle) (As := [.inl v107, .inl v108]) iL_law_549 lkL_69 mcX7_riddle mvX7_riddle rfl zrc61 (kX7_riddle v107 v108 g106) rfl (Nat.le_of_ble_eq_true rfl) ⟨Nat.le_of_ble_eq_true rfl, Nat.le_of_ble_eq_true rfl⟩ (fun r109 g110 => ?_)
        refine aw_icmp_eq iL_law_552 ?_ ?_
        · refine aw_iinc (L' := [some (.inr 73), some (.inr 0), some (.inr 61), some (.inl (l3 + (6 : Int32)))]) (v := l3 + (6 : Int32)) iL_law_1068 rfl rfl (Nat.le_of_ble_eq_true rfl) rfl ?_
          refine aw_goto iL_law_1071 ?_
          exact ih (l3 + (6 : Int32)) g110
        · refine aw_iconst (v := 0) iL_law_555 (by decide) ?_
          exact aw_zretK iL_law_556 rfl (Or.inl rfl)
      refine aw_if (fun c111 => ?_) (fun c111 => ?_)
      · refine aw_tsw tL_law_33_13 c111 ?_
        refine aw_aload_n iL_law_557 rfl rfl ?_
        refine aw_aload_n iL_law_558 rfl rfl ?_
        refine aw_iload_n iL_law_559 rfl rfl ?_
        refine aw_iconst (v := 1) iL_law_560 (by decide) ?_
        refine aw_iadd iL_law_561 ?_
        refine aw_sld iL_law_562 rfl (fun v112 _ => ?_)
        refine aw_aload_n iL_law_563 rfl rfl ?_
        refine aw_iload_n iL_law_564 rfl rfl ?_
        refine aw_iconst (v := 2) iL_law_565 (by decide) ?_
        refine aw_iadd iL_law_566 ?_
        refine aw_sld iL_law_567 rfl (fun v113 _ => ?_)
        refine aw_callV (M' := mX6_suitor) (As := [.inl v112, .inl v113]) iL_law_568 lkL_70 mcX6_suitor mvX6_suitor rfl zrc0 (kX6_suitor v112 v113 g) rfl (Nat.le_of_ble_eq_true rfl) ⟨Nat.le_of_ble_eq_true rfl, Nat.le_of_ble_eq_true rfl⟩ (fun r114 g115 => ?_)
        refine aw_aload_n iL_law_571 rfl rfl ?_
        refine aw_aload_n iL_law_572 rfl rfl ?_
        refine aw_iload_n iL_law_573 rfl rfl ?_
        refine aw_iconst (v := 1) iL_law_574 (by decide) ?_
        refine aw_iadd iL_law_575 ?_
        refine aw_sld iL_law_576 rfl (fun v116 _ => ?_)
        refine aw_aload_n iL_law_577 rfl rfl ?_
        refine aw_iload_n iL_law_578 rfl rfl ?_
        refine aw_iconst (v := 2) iL_law_579 (by decide) ?_
        refine aw_iadd iL_law_580 ?_
        refine aw_sld iL_law_581 rfl (fun v117 _ => ?_)
        refine aw_callV (M' := mX7_suitor) (As := [.inl v116, .inl v117]) iL_law_582 lkL_73 mcX7_suitor mvX7_suitor rfl zrc61 (kX7_suitor v116 v117 g115) rfl (Nat.le_of_ble_eq_true rfl) ⟨Nat.le_of_ble_eq_true rfl, Nat.le_of_ble_eq_true rfl⟩ (fun r118 g119 => ?_)
        refine aw_icmp_eq iL_law_585 ?_ ?_
        · refine aw_iinc (L' := [some (.inr 73), some (.inr 0), some (.inr 61), some (.inl (l3 + (6 : Int32)))]) (v := l3 + (6 : Int32)) iL_law_1068 rfl rfl (Nat.le_of_ble_eq_true rfl) rfl ?_
          refine aw_goto iL_law_1071 ?_
          exact ih (l3 + (6 : Int32)) g119
        · refine aw_iconst (v := 0) iL_law_588 (by decide) ?_
          exact aw_zretK iL_law_589 rfl (Or.inl rfl)
      refine aw_if (fun c120 => ?_) (fun c120 => ?_)
      · refine aw_tsw tL_law_33_14 c120 ?_
        refine aw_aload_n iL_law_590 rfl rfl ?_
        refine aw_aload_n iL_law_591 rfl rfl ?_
        refine aw_iload_n iL_law_592 rfl rfl ?_
        refine aw_iconst (v := 1) iL_law_593 (by decide) ?_
        refine aw_iadd iL_law_594 ?_
        refine aw_sld iL_law_595 rfl (fun v121 _ => ?_)
        refine aw_aload_n iL_law_596 rfl rfl ?_
        refine aw_iload_n iL_law_597 rfl rfl ?_
        refine aw_iconst (v := 2) iL_law_598 (by decide) ?_
        refine aw_iadd iL_law_599 ?_
        refine aw_sld iL_law_600 rfl (fun v122 _ => ?_)
        refine aw_callV (M' := mX6_says) (As := [.inl v121, .inl v122]) iL_law_601 lkL_74 mcX6_says mvX6_says rfl zrc0 (kX6_says v121 v122 g) rfl (Nat.le_of_ble_eq_true rfl) ⟨Nat.le_of_ble_eq_true rfl, Nat.le_of_ble_eq_true rfl⟩ (fun r123 g124 => ?_)
        refine aw_aload_n iL_law_604 rfl rfl ?_
        refine aw_aload_n iL_law_605 rfl rfl ?_
        refine aw_iload_n iL_law_606 rfl rfl ?_
        refine aw_iconst (v := 1) iL_law_607 (by decide) ?_
        refine aw_iadd iL_law_608 ?_
        refine aw_sld iL_law_609 rfl (fun v125 _ => ?_)
        refine aw_aload_n iL_law_610 rfl rfl ?_
        refine aw_iload_n iL_law_611 rfl rfl ?_
        refine aw_iconst (v := 2) iL_law_612 (by decide) ?_
        refine aw_iadd iL_law_613 ?_
        refine aw_sld iL_law_614 rfl (fun v126 _ => ?_)
        refine aw_callV (M' := mX7_says) (As := [.inl v125, .inl v126]) iL_law_615 lkL_77 mcX7_says mvX7_says rfl zrc61 (kX7_says v125 v126 g124) rfl (Nat.le_of_ble_eq_true rfl) ⟨Nat.le_of_ble_eq_true rfl, Nat.le_of_ble_eq_true rfl⟩ (fun r127 g128 => ?_)
        refine aw_icmp_eq iL_law_618 ?_ ?_
        · refine aw_iinc (L' := [some (.inr 73), some (.inr 0), some (.inr 61), some (.inl (l3 + (6 : Int32)))]) (v := l3 + (6 : Int32)) iL_law_1068 rfl rfl (Nat.le_of_ble_eq_true rfl) rfl ?_
          refine aw_goto iL_law_1071 ?_
          exact ih (l3 + (6 : Int32)) g128
        · refine aw_iconst (v := 0) iL_law_621 (by decide) ?_
          exact aw_zretK iL_law_622 rfl (Or.inl rfl)
      refine aw_if (fun c129 => ?_) (fun c129 => ?_)
      · refine aw_tsw tL_law_33_15 c129 ?_
        refine aw_aload_n iL_law_623 rfl rfl ?_
        refine aw_aload_n iL_law_624 rfl rfl ?_
        refine aw_iload_n iL_law_625 rfl rfl ?_
        refine aw_iconst (v := 1) iL_law_626 (by decide) ?_
        refine aw_iadd iL_law_627 ?_
        refine aw_sld iL_law_628 rfl (fun v130 _ => ?_)
        refine aw_aload_n iL_law_629 rfl rfl ?_
        refine aw_iload_n iL_law_630 rfl rfl ?_
        refine aw_iconst (v := 2) iL_law_631 (by decide) ?_
        refine aw_iadd iL_law_632 ?_
        refine aw_sld iL_law_633 rfl (fun v131 _ => ?_)
        refine aw_aload_n iL_law_634 rfl rfl ?_
        refine aw_iload_n iL_law_635 rfl rfl ?_
        refine aw_iconst (v := 3) iL_law_636 (by decide) ?_
        refine aw_iadd iL_law_637 ?_
        refine aw_sld iL_law_638 rfl (fun v132 _ => ?_)
        refine aw_callV (M' := mX6_riddleFor) (As := [.inl v130, .inl v131, .inl v132]) iL_law_639 lkL_78 mcX6_riddleFor mvX6_riddleFor rfl zrc0 (kX6_riddleFor v130 v131 v132 g) rfl (Nat.le_of_ble_eq_true rfl) ⟨Nat.le_of_ble_eq_true rfl, Nat.le_of_ble_eq_true rfl⟩ (fun r133 g134 => ?_)
        refine aw_aload_n iL_law_642 rfl rfl ?_
        refine aw_aload_n iL_law_643 rfl rfl ?_
        refine aw_iload_n iL_law_644 rfl rfl ?_
        refine aw_iconst (v := 1) iL_law_645 (by decide) ?_
        refine aw_iadd iL_law_646 ?_
        refine aw_sld iL_law_647 rfl (fun v135 _ => ?_)
        refine aw_aload_n iL_law_648 rfl rfl ?_
        refine aw_iload_n iL_law_649 rfl rfl ?_
        refine aw_iconst (v := 2) iL_law_650 (by decide) ?_
        refine aw_iadd iL_law_651 ?_
        refine aw_sld iL_law_652 rfl (fun v136 _ => ?_)
        refine aw_aload_n iL_law_653 rfl rfl ?_
        refine aw_iload_n iL_law_654 rfl rfl ?_
        refine aw_iconst (v := 3) iL_law_655 (by decide) ?_
        refine aw_iadd iL_law_656 ?_
        refine aw_sld iL_law_657 rfl (fun v137 _ => ?_)
        refine aw_callV (M' := mX7_riddleFor) (As := [.inl v135, .inl v136, .inl v137]) iL_law_658 lkL_81 mcX7_riddleFor mvX7_riddleFor rfl zrc61 (kX7_riddleFor v135 v136 v137 g134) rfl (Nat.le_of_ble_eq_true rfl) ⟨Nat.le_of_ble_eq_true rfl, Nat.le_of_ble_eq_true rfl⟩ (fun r138 g139 => ?_)
        refine aw_icmp_eq iL_law_661 ?_ ?_
        · refine aw_iinc (L' := [some (.inr 73), some (.inr 0), some (.inr 61), some (.inl (l3 + (6 : Int32)))]) (v := l3 + (6 : Int32)) iL_law_1068 rfl rfl (Nat.le_of_ble_eq_true rfl) rfl ?_
          refine aw_goto iL_law_1071 ?_
          exact ih (l3 + (6 : Int32)) g139
        · refine aw_iconst (v := 0) iL_law_664 (by decide) ?_
          exact aw_zretK iL_law_665 rfl (Or.inl rfl)
      refine aw_if (fun c140 => ?_) (fun c140 => ?_)
      · refine aw_tsw tL_law_33_16 c140 ?_
        refine aw_aload_n iL_law_666 rfl rfl ?_
        refine aw_aload_n iL_law_667 rfl rfl ?_
        refine aw_iload_n iL_law_668 rfl rfl ?_
        refine aw_iconst (v := 1) iL_law_669 (by decide) ?_
        refine aw_iadd iL_law_670 ?_
        refine aw_sld iL_law_671 rfl (fun v141 _ => ?_)
        refine aw_aload_n iL_law_672 rfl rfl ?_
        refine aw_iload_n iL_law_673 rfl rfl ?_
        refine aw_iconst (v := 2) iL_law_674 (by decide) ?_
        refine aw_iadd iL_law_675 ?_
        refine aw_sld iL_law_676 rfl (fun v142 _ => ?_)
        refine aw_callV (M' := mX6_hard) (As := [.inl v141, .inl v142]) iL_law_677 lkL_82 mcX6_hard mvX6_hard rfl zrc0 (kX6_hard v141 v142 g) rfl (Nat.le_of_ble_eq_true rfl) ⟨Nat.le_of_ble_eq_true rfl, Nat.le_of_ble_eq_true rfl⟩ (fun r143 g144 => ?_)
        refine aw_aload_n iL_law_680 rfl rfl ?_
        refine aw_aload_n iL_law_681 rfl rfl ?_
        refine aw_iload_n iL_law_682 rfl rfl ?_
        refine aw_iconst (v := 1) iL_law_683 (by decide) ?_
        refine aw_iadd iL_law_684 ?_
        refine aw_sld iL_law_685 rfl (fun v145 _ => ?_)
        refine aw_aload_n iL_law_686 rfl rfl ?_
        refine aw_iload_n iL_law_687 rfl rfl ?_
        refine aw_iconst (v := 2) iL_law_688 (by decide) ?_
        refine aw_iadd iL_law_689 ?_
        refine aw_sld iL_law_690 rfl (fun v146 _ => ?_)
        refine aw_callV (M' := mX7_hard) (As := [.inl v145, .inl v146]) iL_law_691 lkL_85 mcX7_hard mvX7_hard rfl zrc61 (kX7_hard v145 v146 g144) rfl (Nat.le_of_ble_eq_true rfl) ⟨Nat.le_of_ble_eq_true rfl, Nat.le_of_ble_eq_true rfl⟩ (fun r147 g148 => ?_)
        refine aw_icmp_eq iL_law_694 ?_ ?_
        · refine aw_iinc (L' := [some (.inr 73), some (.inr 0), some (.inr 61), some (.inl (l3 + (6 : Int32)))]) (v := l3 + (6 : Int32)) iL_law_1068 rfl rfl (Nat.le_of_ble_eq_true rfl) rfl ?_
          refine aw_goto iL_law_1071 ?_
          exact ih (l3 + (6 : Int32)) g148
        · refine aw_iconst (v := 0) iL_law_697 (by decide) ?_
          exact aw_zretK iL_law_698 rfl (Or.inl rfl)
      refine aw_if (fun c149 => ?_) (fun c149 => ?_)
      · refine aw_tsw tL_law_33_17 c149 ?_
        refine aw_aload_n iL_law_699 rfl rfl ?_
        refine aw_aload_n iL_law_700 rfl rfl ?_
        refine aw_iload_n iL_law_701 rfl rfl ?_
        refine aw_iconst (v := 1) iL_law_702 (by decide) ?_
        refine aw_iadd iL_law_703 ?_
        refine aw_sld iL_law_704 rfl (fun v150 _ => ?_)
        refine aw_aload_n iL_law_705 rfl rfl ?_
        refine aw_iload_n iL_law_706 rfl rfl ?_
        refine aw_iconst (v := 2) iL_law_707 (by decide) ?_
        refine aw_iadd iL_law_708 ?_
        refine aw_sld iL_law_709 rfl (fun v151 _ => ?_)
        refine aw_callV (M' := mX6_chance) (As := [.inl v150, .inl v151]) iL_law_710 lkL_86 mcX6_chance mvX6_chance rfl zrc0 (kX6_chance v150 v151 g) rfl (Nat.le_of_ble_eq_true rfl) ⟨Nat.le_of_ble_eq_true rfl, Nat.le_of_ble_eq_true rfl⟩ (fun r152 g153 => ?_)
        refine aw_aload_n iL_law_713 rfl rfl ?_
        refine aw_aload_n iL_law_714 rfl rfl ?_
        refine aw_iload_n iL_law_715 rfl rfl ?_
        refine aw_iconst (v := 1) iL_law_716 (by decide) ?_
        refine aw_iadd iL_law_717 ?_
        refine aw_sld iL_law_718 rfl (fun v154 _ => ?_)
        refine aw_aload_n iL_law_719 rfl rfl ?_
        refine aw_iload_n iL_law_720 rfl rfl ?_
        refine aw_iconst (v := 2) iL_law_721 (by decide) ?_
        refine aw_iadd iL_law_722 ?_
        refine aw_sld iL_law_723 rfl (fun v155 _ => ?_)
        refine aw_callV (M' := mX7_chance) (As := [.inl v154, .inl v155]) iL_law_724 lkL_89 mcX7_chance mvX7_chance rfl zrc61 (kX7_chance v154 v155 g153) rfl (Nat.le_of_ble_eq_true rfl) ⟨Nat.le_of_ble_eq_true rfl, Nat.le_of_ble_eq_true rfl⟩ (fun r156 g157 => ?_)
        refine aw_icmp_eq iL_law_727 ?_ ?_
        · refine aw_iinc (L' := [some (.inr 73), some (.inr 0), some (.inr 61), some (.inl (l3 + (6 : Int32)))]) (v := l3 + (6 : Int32)) iL_law_1068 rfl rfl (Nat.le_of_ble_eq_true rfl) rfl ?_
          refine aw_goto iL_law_1071 ?_
          exact ih (l3 + (6 : Int32)) g157
        · refine aw_iconst (v := 0) iL_law_730 (by decide) ?_
          exact aw_zretK iL_law_731 rfl (Or.inl rfl)
      refine aw_if (fun c158 => ?_) (fun c158 => ?_)
      · refine aw_tsw tL_law_33_18 c158 ?_
        refine aw_aload_n iL_law_732 rfl rfl ?_
        refine aw_aload_n iL_law_733 rfl rfl ?_
        refine aw_iload_n iL_law_734 rfl rfl ?_
        refine aw_iconst (v := 1) iL_law_735 (by decide) ?_
        refine aw_iadd iL_law_736 ?_
        refine aw_sld iL_law_737 rfl (fun v159 _ => ?_)
        refine aw_aload_n iL_law_738 rfl rfl ?_
        refine aw_iload_n iL_law_739 rfl rfl ?_
        refine aw_iconst (v := 2) iL_law_740 (by decide) ?_
        refine aw_iadd iL_law_741 ?_
        refine aw_sld iL_law_742 rfl (fun v160 _ => ?_)
        refine aw_callV (M' := mX6_toBuy) (As := [.inl v159, .inl v160]) iL_law_743 lkL_90 mcX6_toBuy mvX6_toBuy rfl zrc0 (kX6_toBuy v159 v160 g) rfl (Nat.le_of_ble_eq_true rfl) ⟨Nat.le_of_ble_eq_true rfl, Nat.le_of_ble_eq_true rfl⟩ (fun r161 g162 => ?_)
        refine aw_aload_n iL_law_746 rfl rfl ?_
        refine aw_aload_n iL_law_747 rfl rfl ?_
        refine aw_iload_n iL_law_748 rfl rfl ?_
        refine aw_iconst (v := 1) iL_law_749 (by decide) ?_
        refine aw_iadd iL_law_750 ?_
        refine aw_sld iL_law_751 rfl (fun v163 _ => ?_)
        refine aw_aload_n iL_law_752 rfl rfl ?_
        refine aw_iload_n iL_law_753 rfl rfl ?_
        refine aw_iconst (v := 2) iL_law_754 (by decide) ?_
        refine aw_iadd iL_law_755 ?_
        refine aw_sld iL_law_756 rfl (fun v164 _ => ?_)
        refine aw_callV (M' := mX7_toBuy) (As := [.inl v163, .inl v164]) iL_law_757 lkL_93 mcX7_toBuy mvX7_toBuy rfl zrc61 (kX7_toBuy v163 v164 g162) rfl (Nat.le_of_ble_eq_true rfl) ⟨Nat.le_of_ble_eq_true rfl, Nat.le_of_ble_eq_true rfl⟩ (fun r165 g166 => ?_)
        refine aw_icmp_eq iL_law_760 ?_ ?_
        · refine aw_iinc (L' := [some (.inr 73), some (.inr 0), some (.inr 61), some (.inl (l3 + (6 : Int32)))]) (v := l3 + (6 : Int32)) iL_law_1068 rfl rfl (Nat.le_of_ble_eq_true rfl) rfl ?_
          refine aw_goto iL_law_1071 ?_
          exact ih (l3 + (6 : Int32)) g166
        · refine aw_iconst (v := 0) iL_law_763 (by decide) ?_
          exact aw_zretK iL_law_764 rfl (Or.inl rfl)
      refine aw_if (fun c167 => ?_) (fun c167 => ?_)
      · refine aw_tsw tL_law_33_19 c167 ?_
        refine aw_aload_n iL_law_765 rfl rfl ?_
        refine aw_callV (M' := mX6_beats) (As := []) iL_law_766 lkL_94 mcX6_beats mvX6_beats rfl zrc0 (kX6_beats g) rfl (Nat.le_of_ble_eq_true rfl) ⟨Nat.le_of_ble_eq_true rfl, Nat.le_of_ble_eq_true rfl⟩ (fun r168 g169 => ?_)
        refine aw_aload_n iL_law_769 rfl rfl ?_
        refine aw_callV (M' := mX7_beats) (As := []) iL_law_770 lkL_97 mcX7_beats mvX7_beats rfl zrc61 (kX7_beats g169) rfl (Nat.le_of_ble_eq_true rfl) ⟨Nat.le_of_ble_eq_true rfl, Nat.le_of_ble_eq_true rfl⟩ (fun r170 g171 => ?_)
        refine aw_icmp_eq iL_law_773 ?_ ?_
        · refine aw_iinc (L' := [some (.inr 73), some (.inr 0), some (.inr 61), some (.inl (l3 + (6 : Int32)))]) (v := l3 + (6 : Int32)) iL_law_1068 rfl rfl (Nat.le_of_ble_eq_true rfl) rfl ?_
          refine aw_goto iL_law_1071 ?_
          exact ih (l3 + (6 : Int32)) g171
        · refine aw_iconst (v := 0) iL_law_776 (by decide) ?_
          exact aw_zretK iL_law_777 rfl (Or.inl rfl)
      refine aw_if (fun c172 => ?_) (fun c172 => ?_)
      · refine aw_tsw tL_law_33_20 c172 ?_
        refine aw_aload_n iL_law_778 rfl rfl ?_
        refine aw_aload_n iL_law_779 rfl rfl ?_
        refine aw_iload_n iL_law_780 rfl rfl ?_
        refine aw_iconst (v := 1) iL_law_781 (by decide) ?_
        refine aw_iadd iL_law_782 ?_
        refine aw_sld iL_law_783 rfl (fun v173 _ => ?_)
        refine aw_aload_n iL_law_784 rfl rfl ?_
        refine aw_iload_n iL_law_785 rfl rfl ?_
        refine aw_iconst (v := 2) iL_law_786 (by decide) ?_
        refine aw_iadd iL_law_787 ?_
        refine aw_sld iL_law_788 rfl (fun v174 _ => ?_)
        refine aw_callV (M' := mX6_tree) (As := [.inl v173, .inl v174]) iL_law_789 lkL_98 mcX6_tree mvX6_tree rfl zrc0 (kX6_tree v173 v174 g) rfl (Nat.le_of_ble_eq_true rfl) ⟨Nat.le_of_ble_eq_true rfl, Nat.le_of_ble_eq_true rfl⟩ (fun r175 g176 => ?_)
        refine aw_aload_n iL_law_792 rfl rfl ?_
        refine aw_aload_n iL_law_793 rfl rfl ?_
        refine aw_iload_n iL_law_794 rfl rfl ?_
        refine aw_iconst (v := 1) iL_law_795 (by decide) ?_
        refine aw_iadd iL_law_796 ?_
        refine aw_sld iL_law_797 rfl (fun v177 _ => ?_)
        refine aw_aload_n iL_law_798 rfl rfl ?_
        refine aw_iload_n iL_law_799 rfl rfl ?_
        refine aw_iconst (v := 2) iL_law_800 (by decide) ?_
        refine aw_iadd iL_law_801 ?_
        refine aw_sld iL_law_802 rfl (fun v178 _ => ?_)
        refine aw_callV (M' := mX7_tree) (As := [.inl v177, .inl v178]) iL_law_803 lkL_101 mcX7_tree mvX7_tree rfl zrc61 (kX7_tree v177 v178 g176) rfl (Nat.le_of_ble_eq_true rfl) ⟨Nat.le_of_ble_eq_true rfl, Nat.le_of_ble_eq_true rfl⟩ (fun r179 g180 => ?_)
        refine aw_icmp_eq iL_law_806 ?_ ?_
        · refine aw_iinc (L' := [some (.inr 73), some (.inr 0), some (.inr 61), some (.inl (l3 + (6 : Int32)))]) (v := l3 + (6 : Int32)) iL_law_1068 rfl rfl (Nat.le_of_ble_eq_true rfl) rfl ?_
          refine aw_goto iL_law_1071 ?_
          exact ih (l3 + (6 : Int32)) g180
        · refine aw_iconst (v := 0) iL_law_809 (by decide) ?_
          exact aw_zretK iL_law_810 rfl (Or.inl rfl)
      refine aw_if (fun c181 => ?_) (fun c181 => ?_)
      · refine aw_tsw tL_law_33_21 c181 ?_
        refine aw_aload_n iL_law_811 rfl rfl ?_
        refine aw_aload_n iL_law_812 rfl rfl ?_
        refine aw_iload_n iL_law_813 rfl rfl ?_
        refine aw_iconst (v := 1) iL_law_814 (by decide) ?_
        refine aw_iadd iL_law_815 ?_
        refine aw_sld iL_law_816 rfl (fun v182 _ => ?_)
        refine aw_aload_n iL_law_817 rfl rfl ?_
        refine aw_iload_n iL_law_818 rfl rfl ?_
        refine aw_iconst (v := 2) iL_law_819 (by decide) ?_
        refine aw_iadd iL_law_820 ?_
        refine aw_sld iL_law_821 rfl (fun v183 _ => ?_)
        refine aw_aload_n iL_law_822 rfl rfl ?_
        refine aw_iload_n iL_law_823 rfl rfl ?_
        refine aw_iconst (v := 3) iL_law_824 (by decide) ?_
        refine aw_iadd iL_law_825 ?_
        refine aw_sld iL_law_826 rfl (fun v184 _ => ?_)
        refine aw_aload_n iL_law_827 rfl rfl ?_
        refine aw_iload_n iL_law_828 rfl rfl ?_
        refine aw_iconst (v := 4) iL_law_829 (by decide) ?_
        refine aw_iadd iL_law_830 ?_
        refine aw_sld iL_law_831 rfl (fun v185 _ => ?_)
        refine aw_aload_n iL_law_832 rfl rfl ?_
        refine aw_iload_n iL_law_833 rfl rfl ?_
        refine aw_iconst (v := 5) iL_law_834 (by decide) ?_
        refine aw_iadd iL_law_835 ?_
        refine aw_sld iL_law_836 rfl (fun v186 _ => ?_)
        refine aw_callV (M' := mX6_said) (As := [.inl v182, .inl v183, .inl v184, .inl v185, .inl v186]) iL_law_837 lkL_102 mcX6_said mvX6_said rfl zrc0 (kX6_said v182 v183 v184 v185 v186 g) rfl (Nat.le_of_ble_eq_true rfl) ⟨Nat.le_of_ble_eq_true rfl, Nat.le_of_ble_eq_true rfl⟩ (fun r187 g188 => ?_)
        refine aw_aload_n iL_law_840 rfl rfl ?_
        refine aw_aload_n iL_law_841 rfl rfl ?_
        refine aw_iload_n iL_law_842 rfl rfl ?_
        refine aw_iconst (v := 1) iL_law_843 (by decide) ?_
        refine aw_iadd iL_law_844 ?_
        refine aw_sld iL_law_845 rfl (fun v189 _ => ?_)
        refine aw_aload_n iL_law_846 rfl rfl ?_
        refine aw_iload_n iL_law_847 rfl rfl ?_
        refine aw_iconst (v := 2) iL_law_848 (by decide) ?_
        refine aw_iadd iL_law_849 ?_
        refine aw_sld iL_law_850 rfl (fun v190 _ => ?_)
        refine aw_aload_n iL_law_851 rfl rfl ?_
        refine aw_iload_n iL_law_852 rfl rfl ?_
        refine aw_iconst (v := 3) iL_law_853 (by decide) ?_
        refine aw_iadd iL_law_854 ?_
        refine aw_sld iL_law_855 rfl (fun v191 _ => ?_)
        refine aw_aload_n iL_law_856 rfl rfl ?_
        refine aw_iload_n iL_law_857 rfl rfl ?_
        refine aw_iconst (v := 4) iL_law_858 (by decide) ?_
        refine aw_iadd iL_law_859 ?_
        refine aw_sld iL_law_860 rfl (fun v192 _ => ?_)
        refine aw_aload_n iL_law_861 rfl rfl ?_
        refine aw_iload_n iL_law_862 rfl rfl ?_
        refine aw_iconst (v := 5) iL_law_863 (by decide) ?_
        refine aw_iadd iL_law_864 ?_
        refine aw_sld iL_law_865 rfl (fun v193 _ => ?_)
        refine aw_callV (M' := mX7_said) (As := [.inl v189, .inl v190, .inl v191, .inl v192, .inl v193]) iL_law_866 lkL_105 mcX7_said mvX7_said rfl zrc61 (kX7_said v189 v190 v191 v192 v193 g188) rfl (Nat.le_of_ble_eq_true rfl) ⟨Nat.le_of_ble_eq_true rfl, Nat.le_of_ble_eq_true rfl⟩ (fun r194 g195 => ?_)
        refine aw_icmp_eq iL_law_869 ?_ ?_
        · refine aw_iinc (L' := [some (.inr 73), some (.inr 0), some (.inr 61), some (.inl (l3 + (6 : Int32)))]) (v := l3 + (6 : Int32)) iL_law_1068 rfl rfl (Nat.le_of_ble_eq_true rfl) rfl ?_
          refine aw_goto iL_law_1071 ?_
          exact ih (l3 + (6 : Int32)) g195
        · refine aw_iconst (v := 0) iL_law_872 (by decide) ?_
          exact aw_zretK iL_law_873 rfl (Or.inl rfl)
      refine aw_if (fun c196 => ?_) (fun c196 => ?_)
      · refine aw_tsw tL_law_33_22 c196 ?_
        refine aw_aload_n iL_law_874 rfl rfl ?_
        refine aw_aload_n iL_law_875 rfl rfl ?_
        refine aw_iload_n iL_law_876 rfl rfl ?_
        refine aw_iconst (v := 1) iL_law_877 (by decide) ?_
        refine aw_iadd iL_law_878 ?_
        refine aw_sld iL_law_879 rfl (fun v197 _ => ?_)
        refine aw_callV (M' := mX6_image) (As := [.inl v197]) iL_law_880 lkL_106 mcX6_image mvX6_image rfl zrc0 (kX6_image v197 g) rfl (Nat.le_of_ble_eq_true rfl) ⟨Nat.le_of_ble_eq_true rfl, Nat.le_of_ble_eq_true rfl⟩ (fun r198 g199 => ?_)
        refine aw_aload_n iL_law_883 rfl rfl ?_
        refine aw_aload_n iL_law_884 rfl rfl ?_
        refine aw_iload_n iL_law_885 rfl rfl ?_
        refine aw_iconst (v := 1) iL_law_886 (by decide) ?_
        refine aw_iadd iL_law_887 ?_
        refine aw_sld iL_law_888 rfl (fun v200 _ => ?_)
        refine aw_callV (M' := mX7_image) (As := [.inl v200]) iL_law_889 lkL_109 mcX7_image mvX7_image rfl zrc61 (kX7_image v200 g199) rfl (Nat.le_of_ble_eq_true rfl) ⟨Nat.le_of_ble_eq_true rfl, Nat.le_of_ble_eq_true rfl⟩ (fun r201 g202 => ?_)
        refine aw_icmp_eq iL_law_892 ?_ ?_
        · refine aw_iinc (L' := [some (.inr 73), some (.inr 0), some (.inr 61), some (.inl (l3 + (6 : Int32)))]) (v := l3 + (6 : Int32)) iL_law_1068 rfl rfl (Nat.le_of_ble_eq_true rfl) rfl ?_
          refine aw_goto iL_law_1071 ?_
          exact ih (l3 + (6 : Int32)) g202
        · refine aw_iconst (v := 0) iL_law_895 (by decide) ?_
          exact aw_zretK iL_law_896 rfl (Or.inl rfl)
      refine aw_if (fun c203 => ?_) (fun c203 => ?_)
      · refine aw_tsw tL_law_33_23 c203 ?_
        refine aw_aload_n iL_law_897 rfl rfl ?_
        refine aw_aload_n iL_law_898 rfl rfl ?_
        refine aw_iload_n iL_law_899 rfl rfl ?_
        refine aw_iconst (v := 1) iL_law_900 (by decide) ?_
        refine aw_iadd iL_law_901 ?_
        refine aw_sld iL_law_902 rfl (fun v204 _ => ?_)
        refine aw_callV (M' := mX6_restore) (As := [.inl v204]) iL_law_903 lkL_110 mcX6_restore mvX6_restore rfl zrc0 (kX6_restore v204 g) rfl (Nat.le_of_ble_eq_true rfl) ⟨Nat.le_of_ble_eq_true rfl, Nat.le_of_ble_eq_true rfl⟩ (fun r205 g206 => ?_)
        refine aw_aload_n iL_law_906 rfl rfl ?_
        refine aw_aload_n iL_law_907 rfl rfl ?_
        refine aw_iload_n iL_law_908 rfl rfl ?_
        refine aw_iconst (v := 1) iL_law_909 (by decide) ?_
        refine aw_iadd iL_law_910 ?_
        refine aw_sld iL_law_911 rfl (fun v207 _ => ?_)
        refine aw_callV (M' := mX7_restore) (As := [.inl v207]) iL_law_912 lkL_113 mcX7_restore mvX7_restore rfl zrc61 (kX7_restore v207 g206) rfl (Nat.le_of_ble_eq_true rfl) ⟨Nat.le_of_ble_eq_true rfl, Nat.le_of_ble_eq_true rfl⟩ (fun r208 g209 => ?_)
        refine aw_icmp_eq iL_law_915 ?_ ?_
        · refine aw_iinc (L' := [some (.inr 73), some (.inr 0), some (.inr 61), some (.inl (l3 + (6 : Int32)))]) (v := l3 + (6 : Int32)) iL_law_1068 rfl rfl (Nat.le_of_ble_eq_true rfl) rfl ?_
          refine aw_goto iL_law_1071 ?_
          exact ih (l3 + (6 : Int32)) g209
        · refine aw_iconst (v := 0) iL_law_918 (by decide) ?_
          exact aw_zretK iL_law_919 rfl (Or.inl rfl)
      refine aw_if (fun c210 => ?_) (fun c210 => ?_)
      · refine aw_tsw tL_law_33_24 c210 ?_
        refine aw_aload_n iL_law_920 rfl rfl ?_
        refine aw_aload_n iL_law_921 rfl rfl ?_
        refine aw_iload_n iL_law_922 rfl rfl ?_
        refine aw_iconst (v := 1) iL_law_923 (by decide) ?_
        refine aw_iadd iL_law_924 ?_
        refine aw_sld iL_law_925 rfl (fun v211 _ => ?_)
        refine aw_callV (M' := mX6_kind) (As := [.inl v211]) iL_law_926 lkL_114 mcX6_kind mvX6_kind rfl zrc0 (kX6_kind v211 g) rfl (Nat.le_of_ble_eq_true rfl) ⟨Nat.le_of_ble_eq_true rfl, Nat.le_of_ble_eq_true rfl⟩ (fun r212 g213 => ?_)
        refine aw_aload_n iL_law_929 rfl rfl ?_
        refine aw_aload_n iL_law_930 rfl rfl ?_
        refine aw_iload_n iL_law_931 rfl rfl ?_
        refine aw_iconst (v := 1) iL_law_932 (by decide) ?_
        refine aw_iadd iL_law_933 ?_
        refine aw_sld iL_law_934 rfl (fun v214 _ => ?_)
        refine aw_callV (M' := mX7_kind) (As := [.inl v214]) iL_law_935 lkL_117 mcX7_kind mvX7_kind rfl zrc61 (kX7_kind v214 g213) rfl (Nat.le_of_ble_eq_true rfl) ⟨Nat.le_of_ble_eq_true rfl, Nat.le_of_ble_eq_true rfl⟩ (fun r215 g216 => ?_)
        refine aw_icmp_eq iL_law_938 ?_ ?_
        · refine aw_iinc (L' := [some (.inr 73), some (.inr 0), some (.inr 61), some (.inl (l3 + (6 : Int32)))]) (v := l3 + (6 : Int32)) iL_law_1068 rfl rfl (Nat.le_of_ble_eq_true rfl) rfl ?_
          refine aw_goto iL_law_1071 ?_
          exact ih (l3 + (6 : Int32)) g216
        · refine aw_iconst (v := 0) iL_law_941 (by decide) ?_
          exact aw_zretK iL_law_942 rfl (Or.inl rfl)
      refine aw_if (fun c217 => ?_) (fun c217 => ?_)
      · refine aw_tsw tL_law_33_25 c217 ?_
        refine aw_aload_n iL_law_943 rfl rfl ?_
        refine aw_aload_n iL_law_944 rfl rfl ?_
        refine aw_iload_n iL_law_945 rfl rfl ?_
        refine aw_iconst (v := 1) iL_law_946 (by decide) ?_
        refine aw_iadd iL_law_947 ?_
        refine aw_sld iL_law_948 rfl (fun v218 _ => ?_)
        refine aw_aload_n iL_law_949 rfl rfl ?_
        refine aw_iload_n iL_law_950 rfl rfl ?_
        refine aw_iconst (v := 2) iL_law_951 (by decide) ?_
        refine aw_iadd iL_law_952 ?_
        refine aw_sld iL_law_953 rfl (fun v219 _ => ?_)
        refine aw_callV (M' := mX6_as) (As := [.inl v218, .inl v219]) iL_law_954 lkL_118 mcX6_as mvX6_as rfl zrc0 (kX6_as v218 v219 g) rfl (Nat.le_of_ble_eq_true rfl) ⟨Nat.le_of_ble_eq_true rfl, Nat.le_of_ble_eq_true rfl⟩ (fun r220 g221 => ?_)
        refine aw_aload_n iL_law_957 rfl rfl ?_
        refine aw_aload_n iL_law_958 rfl rfl ?_
        refine aw_iload_n iL_law_959 rfl rfl ?_
        refine aw_iconst (v := 1) iL_law_960 (by decide) ?_
        refine aw_iadd iL_law_961 ?_
        refine aw_sld iL_law_962 rfl (fun v222 _ => ?_)
        refine aw_aload_n iL_law_963 rfl rfl ?_
        refine aw_iload_n iL_law_964 rfl rfl ?_
        refine aw_iconst (v := 2) iL_law_965 (by decide) ?_
        refine aw_iadd iL_law_966 ?_
        refine aw_sld iL_law_967 rfl (fun v223 _ => ?_)
        refine aw_callV (M' := mX7_as) (As := [.inl v222, .inl v223]) iL_law_968 lkL_121 mcX7_as mvX7_as rfl zrc61 (kX7_as v222 v223 g221) rfl (Nat.le_of_ble_eq_true rfl) ⟨Nat.le_of_ble_eq_true rfl, Nat.le_of_ble_eq_true rfl⟩ (fun r224 g225 => ?_)
        refine aw_icmp_eq iL_law_971 ?_ ?_
        · refine aw_iinc (L' := [some (.inr 73), some (.inr 0), some (.inr 61), some (.inl (l3 + (6 : Int32)))]) (v := l3 + (6 : Int32)) iL_law_1068 rfl rfl (Nat.le_of_ble_eq_true rfl) rfl ?_
          refine aw_goto iL_law_1071 ?_
          exact ih (l3 + (6 : Int32)) g225
        · refine aw_iconst (v := 0) iL_law_974 (by decide) ?_
          exact aw_zretK iL_law_975 rfl (Or.inl rfl)
      refine aw_if (fun c226 => ?_) (fun c226 => ?_)
      · refine aw_tsw tL_law_33_26 c226 ?_
        refine aw_aload_n iL_law_976 rfl rfl ?_
        refine aw_aload_n iL_law_977 rfl rfl ?_
        refine aw_iload_n iL_law_978 rfl rfl ?_
        refine aw_iconst (v := 1) iL_law_979 (by decide) ?_
        refine aw_iadd iL_law_980 ?_
        refine aw_sld iL_law_981 rfl (fun v227 _ => ?_)
        refine aw_aload_n iL_law_982 rfl rfl ?_
        refine aw_iload_n iL_law_983 rfl rfl ?_
        refine aw_iconst (v := 2) iL_law_984 (by decide) ?_
        refine aw_iadd iL_law_985 ?_
        refine aw_sld iL_law_986 rfl (fun v228 _ => ?_)
        refine aw_callV (M' := mX6_ask) (As := [.inl v227, .inl v228]) iL_law_987 lkL_122 mcX6_ask mvX6_ask rfl zrc0 (kX6_ask v227 v228 g) rfl (Nat.le_of_ble_eq_true rfl) ⟨Nat.le_of_ble_eq_true rfl, Nat.le_of_ble_eq_true rfl⟩ (fun r229 g230 => ?_)
        refine aw_aload_n iL_law_990 rfl rfl ?_
        refine aw_aload_n iL_law_991 rfl rfl ?_
        refine aw_iload_n iL_law_992 rfl rfl ?_
        refine aw_iconst (v := 1) iL_law_993 (by decide) ?_
        refine aw_iadd iL_law_994 ?_
        refine aw_sld iL_law_995 rfl (fun v231 _ => ?_)
        refine aw_aload_n iL_law_996 rfl rfl ?_
        refine aw_iload_n iL_law_997 rfl rfl ?_
        refine aw_iconst (v := 2) iL_law_998 (by decide) ?_
        refine aw_iadd iL_law_999 ?_
        refine aw_sld iL_law_1000 rfl (fun v232 _ => ?_)
        refine aw_callV (M' := mX7_ask) (As := [.inl v231, .inl v232]) iL_law_1001 lkL_125 mcX7_ask mvX7_ask rfl zrc61 (kX7_ask v231 v232 g230) rfl (Nat.le_of_ble_eq_true rfl) ⟨Nat.le_of_ble_eq_true rfl, Nat.le_of_ble_eq_true rfl⟩ (fun r233 g234 => ?_)
        refine aw_icmp_eq iL_law_1004 ?_ ?_
        · refine aw_iinc (L' := [some (.inr 73), some (.inr 0), some (.inr 61), some (.inl (l3 + (6 : Int32)))]) (v := l3 + (6 : Int32)) iL_law_1068 rfl rfl (Nat.le_of_ble_eq_true rfl) rfl ?_
          refine aw_goto iL_law_1071 ?_
          exact ih (l3 + (6 : Int32)) g234
        · refine aw_iconst (v := 0) iL_law_1007 (by decide) ?_
          exact aw_zretK iL_law_1008 rfl (Or.inl rfl)
      refine aw_if (fun c235 => ?_) (fun c235 => ?_)
      · refine aw_tsw tL_law_33_27 c235 ?_
        refine aw_aload_n iL_law_1009 rfl rfl ?_
        refine aw_aload_n iL_law_1010 rfl rfl ?_
        refine aw_iload_n iL_law_1011 rfl rfl ?_
        refine aw_iconst (v := 1) iL_law_1012 (by decide) ?_
        refine aw_iadd iL_law_1013 ?_
        refine aw_sld iL_law_1014 rfl (fun v236 _ => ?_)
        refine aw_callV (M' := mX6_trace) (As := [.inl v236]) iL_law_1015 lkL_126 mcX6_trace mvX6_trace rfl zrc0 (kX6_trace v236 g) rfl (Nat.le_of_ble_eq_true rfl) ⟨Nat.le_of_ble_eq_true rfl, Nat.le_of_ble_eq_true rfl⟩ (fun r237 g238 => ?_)
        refine aw_aload_n iL_law_1018 rfl rfl ?_
        refine aw_aload_n iL_law_1019 rfl rfl ?_
        refine aw_iload_n iL_law_1020 rfl rfl ?_
        refine aw_iconst (v := 1) iL_law_1021 (by decide) ?_
        refine aw_iadd iL_law_1022 ?_
        refine aw_sld iL_law_1023 rfl (fun v239 _ => ?_)
        refine aw_callV (M' := mX7_trace) (As := [.inl v239]) iL_law_1024 lkL_129 mcX7_trace mvX7_trace rfl zrc61 (kX7_trace v239 g238) rfl (Nat.le_of_ble_eq_true rfl) ⟨Nat.le_of_ble_eq_true rfl, Nat.le_of_ble_eq_true rfl⟩ (fun r240 g241 => ?_)
        refine aw_icmp_eq iL_law_1027 ?_ ?_
        · refine aw_iinc (L' := [some (.inr 73), some (.inr 0), some (.inr 61), some (.inl (l3 + (6 : Int32)))]) (v := l3 + (6 : Int32)) iL_law_1068 rfl rfl (Nat.le_of_ble_eq_true rfl) rfl ?_
          refine aw_goto iL_law_1071 ?_
          exact ih (l3 + (6 : Int32)) g241
        · refine aw_iconst (v := 0) iL_law_1030 (by decide) ?_
          exact aw_zretK iL_law_1031 rfl (Or.inl rfl)
      refine aw_if (fun c242 => ?_) (fun c242 => ?_)
      · refine aw_tsw tL_law_33_28 c242 ?_
        refine aw_aload_n iL_law_1032 rfl rfl ?_
        refine aw_aload_n iL_law_1033 rfl rfl ?_
        refine aw_iload_n iL_law_1034 rfl rfl ?_
        refine aw_iconst (v := 1) iL_law_1035 (by decide) ?_
        refine aw_iadd iL_law_1036 ?_
        refine aw_sld iL_law_1037 rfl (fun v243 _ => ?_)
        refine aw_callV (M' := mX6_count) (As := [.inl v243]) iL_law_1038 lkL_130 mcX6_count mvX6_count rfl zrc0 (kX6_count v243 g) rfl (Nat.le_of_ble_eq_true rfl) ⟨Nat.le_of_ble_eq_true rfl, Nat.le_of_ble_eq_true rfl⟩ (fun r244 g245 => ?_)
        refine aw_aload_n iL_law_1041 rfl rfl ?_
        refine aw_aload_n iL_law_1042 rfl rfl ?_
        refine aw_iload_n iL_law_1043 rfl rfl ?_
        refine aw_iconst (v := 1) iL_law_1044 (by decide) ?_
        refine aw_iadd iL_law_1045 ?_
        refine aw_sld iL_law_1046 rfl (fun v246 _ => ?_)
        refine aw_callV (M' := mX7_count) (As := [.inl v246]) iL_law_1047 lkL_133 mcX7_count mvX7_count rfl zrc61 (kX7_count v246 g245) rfl (Nat.le_of_ble_eq_true rfl) ⟨Nat.le_of_ble_eq_true rfl, Nat.le_of_ble_eq_true rfl⟩ (fun r247 g248 => ?_)
        refine aw_icmp_eq iL_law_1050 ?_ ?_
        · refine aw_iinc (L' := [some (.inr 73), some (.inr 0), some (.inr 61), some (.inl (l3 + (6 : Int32)))]) (v := l3 + (6 : Int32)) iL_law_1068 rfl rfl (Nat.le_of_ble_eq_true rfl) rfl ?_
          refine aw_goto iL_law_1071 ?_
          exact ih (l3 + (6 : Int32)) g248
        · refine aw_iconst (v := 0) iL_law_1053 (by decide) ?_
          exact aw_zretK iL_law_1054 rfl (Or.inl rfl)
      refine aw_if (fun c249 => ?_) (fun c249 => ?_)
      · refine aw_tsw tL_law_33_29 c249 ?_
        refine aw_aload_n iL_law_1055 rfl rfl ?_
        refine aw_callV (M' := mX6_status) (As := []) iL_law_1056 lkL_134 mcX6_status mvX6_status rfl zrc0 (kX6_status g) rfl (Nat.le_of_ble_eq_true rfl) ⟨Nat.le_of_ble_eq_true rfl, Nat.le_of_ble_eq_true rfl⟩ (fun r250 g251 => ?_)
        refine aw_aload_n iL_law_1059 rfl rfl ?_
        refine aw_callV (M' := mX7_status) (As := []) iL_law_1060 lkL_137 mcX7_status mvX7_status rfl zrc61 (kX7_status g251) rfl (Nat.le_of_ble_eq_true rfl) ⟨Nat.le_of_ble_eq_true rfl, Nat.le_of_ble_eq_true rfl⟩ (fun r252 g253 => ?_)
        refine aw_icmp_eq iL_law_1063 ?_ ?_
        · refine aw_iinc (L' := [some (.inr 73), some (.inr 0), some (.inr 61), some (.inl (l3 + (6 : Int32)))]) (v := l3 + (6 : Int32)) iL_law_1068 rfl rfl (Nat.le_of_ble_eq_true rfl) rfl ?_
          refine aw_goto iL_law_1071 ?_
          exact ih (l3 + (6 : Int32)) g253
        · refine aw_iconst (v := 0) iL_law_1066 (by decide) ?_
          exact aw_zretK iL_law_1067 rfl (Or.inl rfl)
      refine aw_tsd tL_law_33_d (by have ec2 := ne_toInt c2 (a := 0) (by decide); have ec13 := ne_toInt c13 (a := 1) (by decide); have ec24 := ne_toInt c24 (a := 2) (by decide); have ec39 := ne_toInt c39 (a := 3) (by decide); have ec46 := ne_toInt c46 (a := 4) (by decide); have ec53 := ne_toInt c53 (a := 5) (by decide); have ec58 := ne_toInt c58 (a := 6) (by decide); have ec63 := ne_toInt c63 (a := 7) (by decide); have ec72 := ne_toInt c72 (a := 8) (by decide); have ec81 := ne_toInt c81 (a := 9) (by decide); have ec90 := ne_toInt c90 (a := 10) (by decide); have ec95 := ne_toInt c95 (a := 11) (by decide); have ec102 := ne_toInt c102 (a := 12) (by decide); have ec111 := ne_toInt c111 (a := 13) (by decide); have ec120 := ne_toInt c120 (a := 14) (by decide); have ec129 := ne_toInt c129 (a := 15) (by decide); have ec140 := ne_toInt c140 (a := 16) (by decide); have ec149 := ne_toInt c149 (a := 17) (by decide); have ec158 := ne_toInt c158 (a := 18) (by decide); have ec167 := ne_toInt c167 (a := 19) (by decide); have ec172 := ne_toInt c172 (a := 20) (by decide); have ec181 := ne_toInt c181 (a := 21) (by decide); have ec196 := ne_toInt c196 (a := 22) (by decide); have ec203 := ne_toInt c203 (a := 23) (by decide); have ec210 := ne_toInt c210 (a := 24) (by decide); have ec217 := ne_toInt c217 (a := 25) (by decide); have ec226 := ne_toInt c226 (a := 26) (by decide); have ec235 := ne_toInt c235 (a := 27) (by decide); have ec242 := ne_toInt c242 (a := 28) (by decide); have ec249 := ne_toInt c249 (a := 29) (by decide); omega) ?_
      refine aw_iinc (L' := [some (.inr 73), some (.inr 0), some (.inr 61), some (.inl (l3 + (6 : Int32)))]) (v := l3 + (6 : Int32)) iL_law_1068 rfl rfl (Nat.le_of_ble_eq_true rfl) rfl ?_
      refine aw_goto iL_law_1071 ?_
      exact ih (l3 + (6 : Int32)) g
set_option maxRecDepth 20000 in
set_option maxHeartbeats 4000000 in
theorem wL_law (sn : Nat) (xs : Nat → Int32) (g : Mem) : aw mL_law (some (sn, xs)) 16 [some (.inr 73), some (.inr 0), some (.inr 61), none] [] g (fL_law sn xs g) := by
  unfold fL_law
  refine aw_iconst (v := 0) iL_law_16 (by decide) ?_
  refine aw_istore_n (L' := [some (.inr 73), some (.inr 0), some (.inr 61), some (.inl (0 : Int32))]) iL_law_17 rfl (Nat.le_of_ble_eq_true rfl) rfl ?_
  refine wL_law_L18 sn xs _ (fun l254 g255 => ?_) FU (0 : Int32) g
  refine aw_iconst (v := 1) iL_law_1074 (by decide) ?_
  exact aw_zretK iL_law_1075 rfl (Or.inr rfl)
