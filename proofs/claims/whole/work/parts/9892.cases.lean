/-! THE LAW: a theorem a case -/
section LCASE
variable {Γ : zG} {b ob j k n : Nat} {xl : List Int32} {σ : zS} {C B : Nat → Nat}
set_option maxRecDepth 100000 in
theorem lc_0 (E : zE Γ cL_law RL 7 room_1) (hL : LL Γ b xl) (hj : 7 * j + 7 ≤ xl.length) (hI : LI σ C B ob) (hk : k ≤ 601000) (hn : n ≤ 7290000) (K : ∀ σ' k' n', k' ≤ k + 1 → n' ≤ n + 6 → LI σ' C B ob → zJ Γ 7 k' n' σ' 638 (LV b (C 0) (B 0) ob (nI (7 * j))) []) : zJ Γ 7 k n σ 108 (LV b (C 0) (B 0) ob (nI (7 * j))) [] := by
  refine zj_aload_n E dL_law_108 rfl 1 rfl ?_
  refine lw_arg (c := 1) E hL hj (by decide) dL_law_109 dL_law_110 dL_law_112 rfl dL_law_113 dL_law_114 ?_
  refine lw_arg (c := 2) E hL hj (by decide) dL_law_115 dL_law_116 dL_law_118 rfl dL_law_119 dL_law_120 ?_
  obtain ⟨r, s1, s2, e1, e2, hV, hF⟩ := v_type hI.1 (xa xl j 1) (xa xl j 2)
  refine zs_callV (As := [.int (xa xl j 1), .int (xa xl j 2)]) (rest := []) E zc10 lw_yX11_type lw_mX11_type (kX11_type _ _ _ _ _ e1) rfl rfl (v_main hI.1) rfl ⟨by decide, by decide⟩ (lw_room hk hn) (Nat.le_of_ble_eq_true rfl) dL_law_121 rfl (show zJ Γ 7 k n s1 124 (LV b (C 0) (B 0) ob (nI (7 * j))) [.int r] from ?_)
  refine zj_aload_n E dL_law_124 rfl 2 rfl ?_
  refine lw_arg (c := 1) E hL hj (by decide) dL_law_125 dL_law_126 dL_law_128 rfl dL_law_129 dL_law_130 ?_
  refine lw_arg (c := 2) E hL hj (by decide) dL_law_131 dL_law_132 dL_law_134 rfl dL_law_135 dL_law_136 ?_
  refine zs_callV (As := [.int (xa xl j 1), .int (xa xl j 2)]) (rest := [.int r]) E zc11 lw_yX12_type lw_mX12_type (kX12_type _ _ _ _ _ e2) rfl rfl (by unfold fX12_type at e2; exact lw_kB e2) rfl ⟨by decide, by decide⟩ (lw_room hk hn) (Nat.le_of_ble_eq_true rfl) dL_law_137 rfl (show zJ Γ 7 k n s2 140 (LV b (C 0) (B 0) ob (nI (7 * j))) [.int r, .int r] from ?_)
  exact lw_eqT (tgt := 638) E dL_law_140 (by decide) (K _ _ _ (Nat.le_succ _) (Nat.le_add_right _ _) (hI.fr hV hF))
set_option maxRecDepth 100000 in
theorem lc_1 (E : zE Γ cL_law RL 7 room_1) (hL : LL Γ b xl) (hj : 7 * j + 7 ≤ xl.length) (hI : LI σ C B ob) (hk : k ≤ 601000) (hn : n ≤ 7290000) (K : ∀ σ' k' n', k' ≤ k + 1 → n' ≤ n + 6 → LI σ' C B ob → zJ Γ 7 k' n' σ' 638 (LV b (C 0) (B 0) ob (nI (7 * j))) []) : zJ Γ 7 k n σ 145 (LV b (C 0) (B 0) ob (nI (7 * j))) [] := by
  refine zj_aload_n E dL_law_145 rfl 1 rfl ?_
  refine lw_arg (c := 1) E hL hj (by decide) dL_law_146 dL_law_147 dL_law_149 rfl dL_law_150 dL_law_151 ?_
  refine lw_arg (c := 2) E hL hj (by decide) dL_law_152 dL_law_153 dL_law_155 rfl dL_law_156 dL_law_157 ?_
  refine lw_arg (c := 3) E hL hj (by decide) dL_law_158 dL_law_159 dL_law_161 rfl dL_law_162 dL_law_163 ?_
  refine lw_arg (c := 4) E hL hj (by decide) dL_law_164 dL_law_165 dL_law_167 rfl dL_law_168 dL_law_169 ?_
  obtain ⟨r, s1, s2, e1, e2, hV, hF⟩ := v_words hI.1 (xa xl j 1) (xa xl j 2) (xa xl j 3) (xa xl j 4)
  refine zs_callV (As := [.int (xa xl j 1), .int (xa xl j 2), .int (xa xl j 3), .int (xa xl j 4)]) (rest := []) E zc10 lw_yX11_words lw_mX11_words (kX11_words _ _ _ _ _ e1) rfl rfl (v_main hI.1) rfl ⟨by decide, by decide⟩ (lw_room hk hn) (Nat.le_of_ble_eq_true rfl) dL_law_170 rfl (show zJ Γ 7 k n s1 173 (LV b (C 0) (B 0) ob (nI (7 * j))) [.int r] from ?_)
  refine zj_aload_n E dL_law_173 rfl 2 rfl ?_
  refine lw_arg (c := 1) E hL hj (by decide) dL_law_174 dL_law_175 dL_law_177 rfl dL_law_178 dL_law_179 ?_
  refine lw_arg (c := 2) E hL hj (by decide) dL_law_180 dL_law_181 dL_law_183 rfl dL_law_184 dL_law_185 ?_
  refine lw_arg (c := 3) E hL hj (by decide) dL_law_186 dL_law_187 dL_law_189 rfl dL_law_190 dL_law_191 ?_
  refine lw_arg (c := 4) E hL hj (by decide) dL_law_192 dL_law_193 dL_law_195 rfl dL_law_196 dL_law_197 ?_
  refine zs_callV (As := [.int (xa xl j 1), .int (xa xl j 2), .int (xa xl j 3), .int (xa xl j 4)]) (rest := [.int r]) E zc11 lw_yX12_words lw_mX12_words (kX12_words _ _ _ _ _ e2) rfl rfl (by unfold fX12_words at e2; exact lw_kB e2) rfl ⟨by decide, by decide⟩ (lw_room hk hn) (Nat.le_of_ble_eq_true rfl) dL_law_198 rfl (show zJ Γ 7 k n s2 201 (LV b (C 0) (B 0) ob (nI (7 * j))) [.int r, .int r] from ?_)
  exact lw_eqT (tgt := 638) E dL_law_201 (by decide) (K _ _ _ (Nat.le_succ _) (Nat.le_add_right _ _) (hI.fr hV hF))
set_option maxRecDepth 100000 in
theorem lc_2 (E : zE Γ cL_law RL 7 room_1) (hL : LL Γ b xl) (hj : 7 * j + 7 ≤ xl.length) (hI : LI σ C B ob) (hk : k ≤ 601000) (hn : n ≤ 7290000) (K : ∀ σ' k' n', k' ≤ k + 1 → n' ≤ n + 6 → LI σ' C B ob → zJ Γ 7 k' n' σ' 638 (LV b (C 0) (B 0) ob (nI (7 * j))) []) : zJ Γ 7 k n σ 206 (LV b (C 0) (B 0) ob (nI (7 * j))) [] := by
  refine zj_aload_n E dL_law_206 rfl 1 rfl ?_
  obtain ⟨r, s1, s2, e1, e2, hV, hF⟩ := v_read hI.1 
  refine zs_callV (As := []) (rest := []) E zc10 lw_yX11_read lw_mX11_read (kX11_read _ _ _ _ _ e1) rfl rfl (v_main hI.1) rfl ⟨by decide, by decide⟩ (lw_room hk hn) (Nat.le_of_ble_eq_true rfl) dL_law_207 rfl (show zJ Γ 7 k n s1 210 (LV b (C 0) (B 0) ob (nI (7 * j))) [.int r] from ?_)
  refine zj_aload_n E dL_law_210 rfl 2 rfl ?_
  refine zs_callV (As := []) (rest := [.int r]) E zc11 lw_yX12_read lw_mX12_read (kX12_read _ _ _ _ _ e2) rfl rfl (by unfold fX12_read at e2; exact lw_kB e2) rfl ⟨by decide, by decide⟩ (lw_room hk hn) (Nat.le_of_ble_eq_true rfl) dL_law_211 rfl (show zJ Γ 7 k n s2 214 (LV b (C 0) (B 0) ob (nI (7 * j))) [.int r, .int r] from ?_)
  exact lw_eqT (tgt := 638) E dL_law_214 (by decide) (K _ _ _ (Nat.le_succ _) (Nat.le_add_right _ _) (hI.fr hV hF))
set_option maxRecDepth 100000 in
theorem lc_3 (E : zE Γ cL_law RL 7 room_1) (hL : LL Γ b xl) (hj : 7 * j + 7 ≤ xl.length) (hI : LI σ C B ob) (hk : k ≤ 601000) (hn : n ≤ 7290000) (K : ∀ σ' k' n', k' ≤ k + 1 → n' ≤ n + 6 → LI σ' C B ob → zJ Γ 7 k' n' σ' 638 (LV b (C 0) (B 0) ob (nI (7 * j))) []) : zJ Γ 7 k n σ 219 (LV b (C 0) (B 0) ob (nI (7 * j))) [] := by
  refine zj_aload_n E dL_law_219 rfl 1 rfl ?_
  obtain ⟨r, s2, e1, e2, hV, hF⟩ := v_place hI.1 
  refine zs_callV (As := []) (rest := []) E zc10 lw_yX11_place lw_mX11_place (kX11_place _ _ _ _ _ e1) rfl rfl (v_main hI.1) rfl ⟨by decide, by decide⟩ (lw_room hk hn) (Nat.le_of_ble_eq_true rfl) dL_law_220 rfl (show zJ Γ 7 k n σ 223 (LV b (C 0) (B 0) ob (nI (7 * j))) [.int r] from ?_)
  refine zj_aload_n E dL_law_223 rfl 2 rfl ?_
  refine zs_callV (As := []) (rest := [.int r]) E zc11 lw_yX12_place lw_mX12_place (kX12_place _ _ _ _ _ e2) rfl rfl (v_thrown hI.1) rfl ⟨by decide, by decide⟩ (lw_room hk hn) (Nat.le_of_ble_eq_true rfl) dL_law_224 rfl (show zJ Γ 7 k n s2 227 (LV b (C 0) (B 0) ob (nI (7 * j))) [.int r, .int r] from ?_)
  exact lw_eqT (tgt := 638) E dL_law_227 (by decide) (K _ _ _ (Nat.le_succ _) (Nat.le_add_right _ _) (hI.fr hV hF))
set_option maxRecDepth 100000 in
theorem lc_4 (E : zE Γ cL_law RL 7 room_1) (hL : LL Γ b xl) (hj : 7 * j + 7 ≤ xl.length) (hI : LI σ C B ob) (hk : k ≤ 601000) (hn : n ≤ 7290000) (K : ∀ σ' k' n', k' ≤ k + 1 → n' ≤ n + 6 → LI σ' C B ob → zJ Γ 7 k' n' σ' 638 (LV b (C 0) (B 0) ob (nI (7 * j))) []) : zJ Γ 7 k n σ 232 (LV b (C 0) (B 0) ob (nI (7 * j))) [] := by
  refine zj_aload_n E dL_law_232 rfl 1 rfl ?_
  refine lw_arg (c := 1) E hL hj (by decide) dL_law_233 dL_law_234 dL_law_236 rfl dL_law_237 dL_law_238 ?_
  refine lw_arg (c := 2) E hL hj (by decide) dL_law_239 dL_law_240 dL_law_242 rfl dL_law_243 dL_law_244 ?_
  refine lw_arg (c := 3) E hL hj (by decide) dL_law_245 dL_law_246 dL_law_248 rfl dL_law_249 dL_law_250 ?_
  obtain ⟨r, s1, s2, e1, e2, hV, hF⟩ := v_begin hI.1 (xa xl j 1) (xa xl j 2) (xa xl j 3)
  refine zs_callV (As := [.int (xa xl j 1), .int (xa xl j 2), .int (xa xl j 3)]) (rest := []) E zc10 lw_yX11_begin lw_mX11_begin (kX11_begin _ _ _ _ _ e1) rfl rfl (v_main hI.1) rfl ⟨by decide, by decide⟩ (lw_room hk hn) (Nat.le_of_ble_eq_true rfl) dL_law_251 rfl (show zJ Γ 7 k n s1 254 (LV b (C 0) (B 0) ob (nI (7 * j))) [.int r] from ?_)
  refine zj_aload_n E dL_law_254 rfl 2 rfl ?_
  refine lw_arg (c := 1) E hL hj (by decide) dL_law_255 dL_law_256 dL_law_258 rfl dL_law_259 dL_law_260 ?_
  refine lw_arg (c := 2) E hL hj (by decide) dL_law_261 dL_law_262 dL_law_264 rfl dL_law_265 dL_law_266 ?_
  refine lw_arg (c := 3) E hL hj (by decide) dL_law_267 dL_law_268 dL_law_270 rfl dL_law_271 dL_law_272 ?_
  refine zs_callV (As := [.int (xa xl j 1), .int (xa xl j 2), .int (xa xl j 3)]) (rest := [.int r]) E zc11 lw_yX12_begin lw_mX12_begin (kX12_begin _ _ _ _ _ e2) rfl rfl (by unfold fX12_begin at e2; exact lw_kB e2) rfl ⟨by decide, by decide⟩ (lw_room hk hn) (Nat.le_of_ble_eq_true rfl) dL_law_273 rfl (show zJ Γ 7 k n s2 276 (LV b (C 0) (B 0) ob (nI (7 * j))) [.int r, .int r] from ?_)
  exact lw_eqT (tgt := 638) E dL_law_276 (by decide) (K _ _ _ (Nat.le_succ _) (Nat.le_add_right _ _) (hI.fr hV hF))
set_option maxRecDepth 100000 in
theorem lc_5 (E : zE Γ cL_law RL 7 room_1) (hL : LL Γ b xl) (hj : 7 * j + 7 ≤ xl.length) (hI : LI σ C B ob) (hk : k ≤ 601000) (hn : n ≤ 7290000) (K : ∀ σ' k' n', k' ≤ k + 1 → n' ≤ n + 6 → LI σ' C B ob → zJ Γ 7 k' n' σ' 638 (LV b (C 0) (B 0) ob (nI (7 * j))) []) : zJ Γ 7 k n σ 281 (LV b (C 0) (B 0) ob (nI (7 * j))) [] := by
  refine zj_aload_n E dL_law_281 rfl 1 rfl ?_
  refine lw_arg (c := 1) E hL hj (by decide) dL_law_282 dL_law_283 dL_law_285 rfl dL_law_286 dL_law_287 ?_
  refine lw_arg (c := 2) E hL hj (by decide) dL_law_288 dL_law_289 dL_law_291 rfl dL_law_292 dL_law_293 ?_
  refine lw_arg (c := 3) E hL hj (by decide) dL_law_294 dL_law_295 dL_law_297 rfl dL_law_298 dL_law_299 ?_
  refine lw_arg (c := 4) E hL hj (by decide) dL_law_300 dL_law_301 dL_law_303 rfl dL_law_304 dL_law_305 ?_
  refine lw_arg (c := 5) E hL hj (by decide) dL_law_306 dL_law_307 dL_law_309 rfl dL_law_310 dL_law_311 ?_
  refine lw_argB (c := 6) E hL hj (by decide) dL_law_312 dL_law_313 dL_law_315 rfl dL_law_317 dL_law_318 ?_
  obtain ⟨r, s1, s2, e1, e2, hV, hF⟩ := v_frame hI.1 (xa xl j 1) (xa xl j 2) (xa xl j 3) (xa xl j 4) (xa xl j 5) (xa xl j 6)
  refine zs_callV (As := [.int (xa xl j 1), .int (xa xl j 2), .int (xa xl j 3), .int (xa xl j 4), .int (xa xl j 5), .int (xa xl j 6)]) (rest := []) E zc10 lw_yX11_frame lw_mX11_frame (kX11_frame _ _ _ _ _ e1) rfl rfl (v_main hI.1) rfl ⟨by decide, by decide⟩ (lw_room hk hn) (Nat.le_of_ble_eq_true rfl) dL_law_319 rfl (show zJ Γ 7 k n s1 322 (LV b (C 0) (B 0) ob (nI (7 * j))) [.int r] from ?_)
  refine zj_aload_n E dL_law_322 rfl 2 rfl ?_
  refine lw_arg (c := 1) E hL hj (by decide) dL_law_323 dL_law_324 dL_law_326 rfl dL_law_327 dL_law_328 ?_
  refine lw_arg (c := 2) E hL hj (by decide) dL_law_329 dL_law_330 dL_law_332 rfl dL_law_333 dL_law_334 ?_
  refine lw_arg (c := 3) E hL hj (by decide) dL_law_335 dL_law_336 dL_law_338 rfl dL_law_339 dL_law_340 ?_
  refine lw_arg (c := 4) E hL hj (by decide) dL_law_341 dL_law_342 dL_law_344 rfl dL_law_345 dL_law_346 ?_
  refine lw_arg (c := 5) E hL hj (by decide) dL_law_347 dL_law_348 dL_law_350 rfl dL_law_351 dL_law_352 ?_
  refine lw_argB (c := 6) E hL hj (by decide) dL_law_353 dL_law_354 dL_law_356 rfl dL_law_358 dL_law_359 ?_
  refine zs_callV (As := [.int (xa xl j 1), .int (xa xl j 2), .int (xa xl j 3), .int (xa xl j 4), .int (xa xl j 5), .int (xa xl j 6)]) (rest := [.int r]) E zc11 lw_yX12_frame lw_mX12_frame (kX12_frame _ _ _ _ _ e2) rfl rfl (by unfold fX12_frame at e2; exact lw_kB e2) rfl ⟨by decide, by decide⟩ (lw_room hk hn) (Nat.le_of_ble_eq_true rfl) dL_law_360 rfl (show zJ Γ 7 k n s2 363 (LV b (C 0) (B 0) ob (nI (7 * j))) [.int r, .int r] from ?_)
  exact lw_eqT (tgt := 638) E dL_law_363 (by decide) (K _ _ _ (Nat.le_succ _) (Nat.le_add_right _ _) (hI.fr hV hF))
set_option maxRecDepth 100000 in
theorem lc_6 (E : zE Γ cL_law RL 7 room_1) (hL : LL Γ b xl) (hj : 7 * j + 7 ≤ xl.length) (hI : LI σ C B ob) (hk : k ≤ 601000) (hn : n ≤ 7290000) (K : ∀ σ' k' n', k' ≤ k + 1 → n' ≤ n + 6 → LI σ' C B ob → zJ Γ 7 k' n' σ' 638 (LV b (C 0) (B 0) ob (nI (7 * j))) []) : zJ Γ 7 k n σ 368 (LV b (C 0) (B 0) ob (nI (7 * j))) [] := by
  refine zj_aload_n E dL_law_368 rfl 1 rfl ?_
  refine lw_arg (c := 1) E hL hj (by decide) dL_law_369 dL_law_370 dL_law_372 rfl dL_law_373 dL_law_374 ?_
  refine lw_arg (c := 2) E hL hj (by decide) dL_law_375 dL_law_376 dL_law_378 rfl dL_law_379 dL_law_380 ?_
  refine lw_arg (c := 3) E hL hj (by decide) dL_law_381 dL_law_382 dL_law_384 rfl dL_law_385 dL_law_386 ?_
  refine lw_arg (c := 4) E hL hj (by decide) dL_law_387 dL_law_388 dL_law_390 rfl dL_law_391 dL_law_392 ?_
  obtain ⟨r, s1, s2, e1, e2, hV, hF⟩ := v_paint hI.1 (xa xl j 1) (xa xl j 2) (xa xl j 3) (xa xl j 4)
  refine zs_callV (As := [.int (xa xl j 1), .int (xa xl j 2), .int (xa xl j 3), .int (xa xl j 4)]) (rest := []) E zc10 lw_yX11_paint lw_mX11_paint (kX11_paint _ _ _ _ _ e1) rfl rfl (v_main hI.1) rfl ⟨by decide, by decide⟩ (lw_room hk hn) (Nat.le_of_ble_eq_true rfl) dL_law_393 rfl (show zJ Γ 7 k n s1 396 (LV b (C 0) (B 0) ob (nI (7 * j))) [.int r] from ?_)
  refine zj_aload_n E dL_law_396 rfl 2 rfl ?_
  refine lw_arg (c := 1) E hL hj (by decide) dL_law_397 dL_law_398 dL_law_400 rfl dL_law_401 dL_law_402 ?_
  refine lw_arg (c := 2) E hL hj (by decide) dL_law_403 dL_law_404 dL_law_406 rfl dL_law_407 dL_law_408 ?_
  refine lw_arg (c := 3) E hL hj (by decide) dL_law_409 dL_law_410 dL_law_412 rfl dL_law_413 dL_law_414 ?_
  refine lw_arg (c := 4) E hL hj (by decide) dL_law_415 dL_law_416 dL_law_418 rfl dL_law_419 dL_law_420 ?_
  refine zs_callV (As := [.int (xa xl j 1), .int (xa xl j 2), .int (xa xl j 3), .int (xa xl j 4)]) (rest := [.int r]) E zc11 lw_yX12_paint lw_mX12_paint (kX12_paint _ _ _ _ _ e2) rfl rfl (by unfold fX12_paint at e2; exact lw_kB e2) rfl ⟨by decide, by decide⟩ (lw_room hk hn) (Nat.le_of_ble_eq_true rfl) dL_law_421 rfl (show zJ Γ 7 k n s2 424 (LV b (C 0) (B 0) ob (nI (7 * j))) [.int r, .int r] from ?_)
  exact lw_eqT (tgt := 638) E dL_law_424 (by decide) (K _ _ _ (Nat.le_succ _) (Nat.le_add_right _ _) (hI.fr hV hF))
set_option maxRecDepth 100000 in
theorem lc_8 (E : zE Γ cL_law RL 7 room_1) (hL : LL Γ b xl) (hj : 7 * j + 7 ≤ xl.length) (hI : LI σ C B ob) (hk : k ≤ 601000) (hn : n ≤ 7290000) (K : ∀ σ' k' n', k' ≤ k + 1 → n' ≤ n + 6 → LI σ' C B ob → zJ Γ 7 k' n' σ' 638 (LV b (C 0) (B 0) ob (nI (7 * j))) []) : zJ Γ 7 k n σ 470 (LV b (C 0) (B 0) ob (nI (7 * j))) [] := by
  refine zj_aload_n E dL_law_470 rfl 1 rfl ?_
  refine lw_arg (c := 1) E hL hj (by decide) dL_law_471 dL_law_472 dL_law_474 rfl dL_law_475 dL_law_476 ?_
  refine lw_arg (c := 2) E hL hj (by decide) dL_law_477 dL_law_478 dL_law_480 rfl dL_law_481 dL_law_482 ?_
  obtain ⟨r, s2, e1, e2, hV, hF⟩ := v_about hI.1 (xa xl j 1) (xa xl j 2)
  refine zs_callV (As := [.int (xa xl j 1), .int (xa xl j 2)]) (rest := []) E zc10 lw_yX11_about lw_mX11_about (kX11_about _ _ _ _ _ e1) rfl rfl (v_main hI.1) rfl ⟨by decide, by decide⟩ (lw_room hk hn) (Nat.le_of_ble_eq_true rfl) dL_law_483 rfl (show zJ Γ 7 k n σ 486 (LV b (C 0) (B 0) ob (nI (7 * j))) [.int r] from ?_)
  refine zj_aload_n E dL_law_486 rfl 2 rfl ?_
  refine lw_arg (c := 1) E hL hj (by decide) dL_law_487 dL_law_488 dL_law_490 rfl dL_law_491 dL_law_492 ?_
  refine lw_arg (c := 2) E hL hj (by decide) dL_law_493 dL_law_494 dL_law_496 rfl dL_law_497 dL_law_498 ?_
  refine zs_callV (As := [.int (xa xl j 1), .int (xa xl j 2)]) (rest := [.int r]) E zc11 lw_yX12_about lw_mX12_about (kX12_about _ _ _ _ _ e2) rfl rfl (v_thrown hI.1) rfl ⟨by decide, by decide⟩ (lw_room hk hn) (Nat.le_of_ble_eq_true rfl) dL_law_499 rfl (show zJ Γ 7 k n s2 502 (LV b (C 0) (B 0) ob (nI (7 * j))) [.int r, .int r] from ?_)
  exact lw_eqT (tgt := 638) E dL_law_502 (by decide) (K _ _ _ (Nat.le_succ _) (Nat.le_add_right _ _) (hI.fr hV hF))
set_option maxRecDepth 100000 in
theorem lc_9 (E : zE Γ cL_law RL 7 room_1) (hL : LL Γ b xl) (hj : 7 * j + 7 ≤ xl.length) (hI : LI σ C B ob) (hk : k ≤ 601000) (hn : n ≤ 7290000) (K : ∀ σ' k' n', k' ≤ k + 1 → n' ≤ n + 6 → LI σ' C B ob → zJ Γ 7 k' n' σ' 638 (LV b (C 0) (B 0) ob (nI (7 * j))) []) : zJ Γ 7 k n σ 507 (LV b (C 0) (B 0) ob (nI (7 * j))) [] := by
  refine zj_aload_n E dL_law_507 rfl 1 rfl ?_
  refine lw_arg (c := 1) E hL hj (by decide) dL_law_508 dL_law_509 dL_law_511 rfl dL_law_512 dL_law_513 ?_
  obtain ⟨r, s1, s2, e1, e2, hV, hF⟩ := v_show hI.1 (xa xl j 1)
  refine zs_callV (As := [.int (xa xl j 1)]) (rest := []) E zc10 lw_yX11_show lw_mX11_show (kX11_show _ _ _ _ _ e1) rfl rfl (v_main hI.1) rfl ⟨by decide, by decide⟩ (lw_room hk hn) (Nat.le_of_ble_eq_true rfl) dL_law_514 rfl (show zJ Γ 7 k n s1 517 (LV b (C 0) (B 0) ob (nI (7 * j))) [.int r] from ?_)
  refine zj_aload_n E dL_law_517 rfl 2 rfl ?_
  refine lw_arg (c := 1) E hL hj (by decide) dL_law_518 dL_law_519 dL_law_521 rfl dL_law_522 dL_law_523 ?_
  refine zs_callV (As := [.int (xa xl j 1)]) (rest := [.int r]) E zc11 lw_yX12_show lw_mX12_show (kX12_show _ _ _ _ _ e2) rfl rfl (by unfold fX12_show at e2; exact lw_kB e2) rfl ⟨by decide, by decide⟩ (lw_room hk hn) (Nat.le_of_ble_eq_true rfl) dL_law_524 rfl (show zJ Γ 7 k n s2 527 (LV b (C 0) (B 0) ob (nI (7 * j))) [.int r, .int r] from ?_)
  exact lw_eqT (tgt := 638) E dL_law_527 (by decide) (K _ _ _ (Nat.le_succ _) (Nat.le_add_right _ _) (hI.fr hV hF))
set_option maxRecDepth 100000 in
theorem lc_11 (E : zE Γ cL_law RL 7 room_1) (hL : LL Γ b xl) (hj : 7 * j + 7 ≤ xl.length) (hI : LI σ C B ob) (hk : k ≤ 601000) (hn : n ≤ 7290000) (K : ∀ σ' k' n', k' ≤ k + 1 → n' ≤ n + 6 → LI σ' C B ob → zJ Γ 7 k' n' σ' 638 (LV b (C 0) (B 0) ob (nI (7 * j))) []) : zJ Γ 7 k n σ 600 (LV b (C 0) (B 0) ob (nI (7 * j))) [] := by
  refine zj_aload_n E dL_law_600 rfl 1 rfl ?_
  obtain ⟨r, s1, s2, e1, e2, hV, hF⟩ := v_write hI.1 
  refine zs_callV (As := []) (rest := []) E zc10 lw_yX11_write lw_mX11_write (kX11_write _ _ _ _ _ e1) rfl rfl (v_main hI.1) rfl ⟨by decide, by decide⟩ (lw_room hk hn) (Nat.le_of_ble_eq_true rfl) dL_law_601 rfl (show zJ Γ 7 k n s1 604 (LV b (C 0) (B 0) ob (nI (7 * j))) [.int r] from ?_)
  refine zj_aload_n E dL_law_604 rfl 2 rfl ?_
  refine zs_callV (As := []) (rest := [.int r]) E zc11 lw_yX12_write lw_mX12_write (kX12_write _ _ _ _ _ e2) rfl rfl (by unfold fX12_write at e2; exact lw_kB e2) rfl ⟨by decide, by decide⟩ (lw_room hk hn) (Nat.le_of_ble_eq_true rfl) dL_law_605 rfl (show zJ Γ 7 k n s2 608 (LV b (C 0) (B 0) ob (nI (7 * j))) [.int r, .int r] from ?_)
  exact lw_eqT (tgt := 638) E dL_law_608 (by decide) (K _ _ _ (Nat.le_succ _) (Nat.le_add_right _ _) (hI.fr hV hF))
set_option maxRecDepth 100000 in
theorem lc_12 (E : zE Γ cL_law RL 7 room_1) (hL : LL Γ b xl) (hj : 7 * j + 7 ≤ xl.length) (hI : LI σ C B ob) (hk : k ≤ 601000) (hn : n ≤ 7290000) (K : ∀ σ' k' n', k' ≤ k + 1 → n' ≤ n + 6 → LI σ' C B ob → zJ Γ 7 k' n' σ' 638 (LV b (C 0) (B 0) ob (nI (7 * j))) []) : zJ Γ 7 k n σ 613 (LV b (C 0) (B 0) ob (nI (7 * j))) [] := by
  refine zj_aload_n E dL_law_613 rfl 1 rfl ?_
  refine lw_arg (c := 1) E hL hj (by decide) dL_law_614 dL_law_615 dL_law_617 rfl dL_law_618 dL_law_619 ?_
  obtain ⟨r, s2, e1, e2, hV, hF⟩ := v_out hI.1 (xa xl j 1)
  refine zs_callV (As := [.int (xa xl j 1)]) (rest := []) E zc10 lw_yX11_out lw_mX11_out (kX11_out _ _ _ _ _ e1) rfl rfl (v_main hI.1) rfl ⟨by decide, by decide⟩ (lw_room hk hn) (Nat.le_of_ble_eq_true rfl) dL_law_620 rfl (show zJ Γ 7 k n σ 623 (LV b (C 0) (B 0) ob (nI (7 * j))) [.int r] from ?_)
  refine zj_aload_n E dL_law_623 rfl 2 rfl ?_
  refine lw_arg (c := 1) E hL hj (by decide) dL_law_624 dL_law_625 dL_law_627 rfl dL_law_628 dL_law_629 ?_
  refine zs_callV (As := [.int (xa xl j 1)]) (rest := [.int r]) E zc11 lw_yX12_out lw_mX12_out (kX12_out _ _ _ _ _ e2) rfl rfl (v_thrown hI.1) rfl ⟨by decide, by decide⟩ (lw_room hk hn) (Nat.le_of_ble_eq_true rfl) dL_law_630 rfl (show zJ Γ 7 k n s2 633 (LV b (C 0) (B 0) ob (nI (7 * j))) [.int r, .int r] from ?_)
  exact lw_eqT (tgt := 638) E dL_law_633 (by decide) (K _ _ _ (Nat.le_succ _) (Nat.le_add_right _ _) (hI.fr hV hF))
end LCASE
