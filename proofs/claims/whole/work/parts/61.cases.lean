/-! the law: its 25 cases, written by a program of ours out of the listing -/
theorem ok_7 : okId 7 0 0 := ⟨by decide, rfl, rfl⟩
theorem ok_20 : okId 20 0 0 := ⟨by decide, rfl, rfl⟩
section CASES
variable {p : Program} {l : Launch} {e : Env} {s : State} {m : MethodId} {below : List Frame} {meth : Method} {c : Code} {b L : Nat} {xs : Nat → Int32} {G : mG} {i : Nat} {h : mH} {B : Int}
theorem k_set (F : lwF p s m meth c b L xs G) (I : Iv B h) (hi : i + 6 ≤ L) (hB : B ≤ 785000) (kk : ∀ h2, Iv (B + 1536) h2 → lwE p l e s m below meth c b G 893 i [] h2) : lwE p l e s m below meth c b G 148 i [] h := by
  refine l_cls F dL_law_148 ?_
  refine l_rd (k := 1) F dL_law_149 dL_law_150 dL_law_151 dL_law_152 dL_law_153 (by decide +kernel) (by omega) ?_
  refine l_rd (k := 2) F dL_law_154 dL_law_155 dL_law_156 dL_law_157 dL_law_158 (by decide +kernel) (by omega) ?_
  refine l_call (as := [.inl (xs (i + 1)), .inl (xs (i + 2))]) (K := (fun x h1 => mC M7_set (ref_ :: [.inl (xs (i + 1)), .inl (xs (i + 2))]) h1 (kI (fun y h2 => x = y ∧ Iv (B + 1536) h2)))) F dL_law_159 cal6_set vir6_set (tb_of 285 (by decide +kernel) rfl) ⟨by decide, by decide⟩ ok_7 rfl rfl (List.forall_mem_cons.mpr ⟨trivial, (List.forall_mem_cons.mpr ⟨trivial, (fun v hv => by cases hv)⟩)⟩) rfl rfl (Nat.le_of_ble_eq_true rfl) (Nat.zero_le _) (st_set I _ _) (fun x h1 k1 => ?_)
  refine l_ref F dL_law_162 ?_
  refine l_rd (k := 1) F dL_law_163 dL_law_164 dL_law_165 dL_law_166 dL_law_167 (by decide +kernel) (by omega) ?_
  refine l_rd (k := 2) F dL_law_168 dL_law_169 dL_law_170 dL_law_171 dL_law_172 (by decide +kernel) (by omega) ?_
  refine l_call (as := [.inl (xs (i + 1)), .inl (xs (i + 2))]) (K := fun y h2 => x = y ∧ Iv (B + 1536) h2) (st := [.int x]) F dL_law_173 cal7_set vir7_set (tb_of 703 (by decide +kernel) rfl) ⟨by decide, by decide⟩ ok_20 rfl rfl (List.forall_mem_cons.mpr ⟨trivial, (List.forall_mem_cons.mpr ⟨trivial, (fun v hv => by cases hv)⟩)⟩) rfl rfl (Nat.le_of_ble_eq_true rfl) (Nat.le_of_ble_eq_true rfl) k1 (fun y h2 k2 => ?_)
  exact l_same F dL_law_176 rfl k2.1 (kk h2 k2.2)
theorem k_loop (F : lwF p s m meth c b L xs G) (I : Iv B h) (hi : i + 6 ≤ L) (hB : B ≤ 785000) (kk : ∀ h2, Iv (B + 1536) h2 → lwE p l e s m below meth c b G 893 i [] h2) : lwE p l e s m below meth c b G 181 i [] h := by
  refine l_cls F dL_law_181 ?_
  refine l_rd (k := 1) F dL_law_182 dL_law_183 dL_law_184 dL_law_185 dL_law_186 (by decide +kernel) (by omega) ?_
  refine l_rd (k := 2) F dL_law_187 dL_law_188 dL_law_189 dL_law_190 dL_law_191 (by decide +kernel) (by omega) ?_
  refine l_rd (k := 3) F dL_law_192 dL_law_193 dL_law_194 dL_law_195 dL_law_196 (by decide +kernel) (by omega) ?_
  refine l_rd (k := 4) F dL_law_197 dL_law_198 dL_law_199 dL_law_200 dL_law_201 (by decide +kernel) (by omega) ?_
  refine l_rd (k := 5) F dL_law_202 dL_law_203 dL_law_204 dL_law_205 dL_law_206 (by decide +kernel) (by omega) ?_
  refine l_call (as := [.inl (xs (i + 1)), .inl (xs (i + 2)), .inl (xs (i + 3)), .inl (xs (i + 4)), .inl (xs (i + 5))]) (K := (fun x h1 => mC M7_loop (ref_ :: [.inl (xs (i + 1)), .inl (xs (i + 2)), .inl (xs (i + 3)), .inl (xs (i + 4)), .inl (xs (i + 5))]) h1 (kI (fun y h2 => x = y ∧ Iv (B + 1536) h2)))) F dL_law_207 cal6_loop vir6_loop (tb_of 335 (by decide +kernel) rfl) ⟨by decide, by decide⟩ ok_7 rfl rfl (List.forall_mem_cons.mpr ⟨trivial, (List.forall_mem_cons.mpr ⟨trivial, (List.forall_mem_cons.mpr ⟨trivial, (List.forall_mem_cons.mpr ⟨trivial, (List.forall_mem_cons.mpr ⟨trivial, (fun v hv => by cases hv)⟩)⟩)⟩)⟩)⟩) rfl rfl (Nat.le_of_ble_eq_true rfl) (Nat.zero_le _) (st_loop I _ _ _ _ _) (fun x h1 k1 => ?_)
  refine l_ref F dL_law_210 ?_
  refine l_rd (k := 1) F dL_law_211 dL_law_212 dL_law_213 dL_law_214 dL_law_215 (by decide +kernel) (by omega) ?_
  refine l_rd (k := 2) F dL_law_216 dL_law_217 dL_law_218 dL_law_219 dL_law_220 (by decide +kernel) (by omega) ?_
  refine l_rd (k := 3) F dL_law_221 dL_law_222 dL_law_223 dL_law_224 dL_law_225 (by decide +kernel) (by omega) ?_
  refine l_rd (k := 4) F dL_law_226 dL_law_227 dL_law_228 dL_law_229 dL_law_230 (by decide +kernel) (by omega) ?_
  refine l_rd (k := 5) F dL_law_231 dL_law_232 dL_law_233 dL_law_234 dL_law_235 (by decide +kernel) (by omega) ?_
  refine l_call (as := [.inl (xs (i + 1)), .inl (xs (i + 2)), .inl (xs (i + 3)), .inl (xs (i + 4)), .inl (xs (i + 5))]) (K := fun y h2 => x = y ∧ Iv (B + 1536) h2) (st := [.int x]) F dL_law_236 cal7_loop vir7_loop (tb_of 714 (by decide +kernel) rfl) ⟨by decide, by decide⟩ ok_20 rfl rfl (List.forall_mem_cons.mpr ⟨trivial, (List.forall_mem_cons.mpr ⟨trivial, (List.forall_mem_cons.mpr ⟨trivial, (List.forall_mem_cons.mpr ⟨trivial, (List.forall_mem_cons.mpr ⟨trivial, (fun v hv => by cases hv)⟩)⟩)⟩)⟩)⟩) rfl rfl (Nat.le_of_ble_eq_true rfl) (Nat.le_of_ble_eq_true rfl) k1 (fun y h2 k2 => ?_)
  exact l_same F dL_law_239 rfl k2.1 (kk h2 k2.2)
theorem k_bounds (F : lwF p s m meth c b L xs G) (I : Iv B h) (hi : i + 6 ≤ L) (hB : B ≤ 785000) (kk : ∀ h2, Iv (B + 1536) h2 → lwE p l e s m below meth c b G 893 i [] h2) : lwE p l e s m below meth c b G 244 i [] h := by
  refine l_cls F dL_law_244 ?_
  refine l_rd (k := 1) F dL_law_245 dL_law_246 dL_law_247 dL_law_248 dL_law_249 (by decide +kernel) (by omega) ?_
  refine l_rd (k := 2) F dL_law_250 dL_law_251 dL_law_252 dL_law_253 dL_law_254 (by decide +kernel) (by omega) ?_
  refine l_rd (k := 3) F dL_law_255 dL_law_256 dL_law_257 dL_law_258 dL_law_259 (by decide +kernel) (by omega) ?_
  refine l_call (as := [.inl (xs (i + 1)), .inl (xs (i + 2)), .inl (xs (i + 3))]) (K := (fun x h1 => mC M7_bounds (ref_ :: [.inl (xs (i + 1)), .inl (xs (i + 2)), .inl (xs (i + 3))]) h1 (kI (fun y h2 => x = y ∧ Iv (B + 1536) h2)))) F dL_law_260 cal6_bounds vir6_bounds (tb_of 359 (by decide +kernel) rfl) ⟨by decide, by decide⟩ ok_7 rfl rfl (List.forall_mem_cons.mpr ⟨trivial, (List.forall_mem_cons.mpr ⟨trivial, (List.forall_mem_cons.mpr ⟨trivial, (fun v hv => by cases hv)⟩)⟩)⟩) rfl rfl (Nat.le_of_ble_eq_true rfl) (Nat.zero_le _) (st_bounds I _ _ _) (fun x h1 k1 => ?_)
  refine l_ref F dL_law_263 ?_
  refine l_rd (k := 1) F dL_law_264 dL_law_265 dL_law_266 dL_law_267 dL_law_268 (by decide +kernel) (by omega) ?_
  refine l_rd (k := 2) F dL_law_269 dL_law_270 dL_law_271 dL_law_272 dL_law_273 (by decide +kernel) (by omega) ?_
  refine l_rd (k := 3) F dL_law_274 dL_law_275 dL_law_276 dL_law_277 dL_law_278 (by decide +kernel) (by omega) ?_
  refine l_call (as := [.inl (xs (i + 1)), .inl (xs (i + 2)), .inl (xs (i + 3))]) (K := fun y h2 => x = y ∧ Iv (B + 1536) h2) (st := [.int x]) F dL_law_279 cal7_bounds vir7_bounds (tb_of 749 (by decide +kernel) rfl) ⟨by decide, by decide⟩ ok_20 rfl rfl (List.forall_mem_cons.mpr ⟨trivial, (List.forall_mem_cons.mpr ⟨trivial, (List.forall_mem_cons.mpr ⟨trivial, (fun v hv => by cases hv)⟩)⟩)⟩) rfl rfl (Nat.le_of_ble_eq_true rfl) (Nat.le_of_ble_eq_true rfl) k1 (fun y h2 k2 => ?_)
  exact l_same F dL_law_282 rfl k2.1 (kk h2 k2.2)
theorem k_come (F : lwF p s m meth c b L xs G) (I : Iv B h) (hi : i + 6 ≤ L) (hB : B ≤ 785000) (kk : ∀ h2, Iv (B + 1536) h2 → lwE p l e s m below meth c b G 893 i [] h2) : lwE p l e s m below meth c b G 287 i [] h := by
  refine l_cls F dL_law_287 ?_
  refine l_rd (k := 1) F dL_law_288 dL_law_289 dL_law_290 dL_law_291 dL_law_292 (by decide +kernel) (by omega) ?_
  refine l_rd (k := 2) F dL_law_293 dL_law_294 dL_law_295 dL_law_296 dL_law_297 (by decide +kernel) (by omega) ?_
  refine l_rd (k := 3) F dL_law_298 dL_law_299 dL_law_300 dL_law_301 dL_law_302 (by decide +kernel) (by omega) ?_
  refine l_rd (k := 4) F dL_law_303 dL_law_304 dL_law_305 dL_law_306 dL_law_307 (by decide +kernel) (by omega) ?_
  refine l_call (as := [.inl (xs (i + 1)), .inl (xs (i + 2)), .inl (xs (i + 3)), .inl (xs (i + 4))]) (K := (fun x h1 => mC M7_come (ref_ :: [.inl (xs (i + 1)), .inl (xs (i + 2)), .inl (xs (i + 3)), .inl (xs (i + 4))]) h1 (kI (fun y h2 => x = y ∧ Iv (B + 1536) h2)))) F dL_law_308 cal6_come vir6_come (tb_of 367 (by decide +kernel) rfl) ⟨by decide, by decide⟩ ok_7 rfl rfl (List.forall_mem_cons.mpr ⟨trivial, (List.forall_mem_cons.mpr ⟨trivial, (List.forall_mem_cons.mpr ⟨trivial, (List.forall_mem_cons.mpr ⟨trivial, (fun v hv => by cases hv)⟩)⟩)⟩)⟩) rfl rfl (Nat.le_of_ble_eq_true rfl) (Nat.zero_le _) (st_come I _ _ _ _) (fun x h1 k1 => ?_)
  refine l_ref F dL_law_311 ?_
  refine l_rd (k := 1) F dL_law_312 dL_law_313 dL_law_314 dL_law_315 dL_law_316 (by decide +kernel) (by omega) ?_
  refine l_rd (k := 2) F dL_law_317 dL_law_318 dL_law_319 dL_law_320 dL_law_321 (by decide +kernel) (by omega) ?_
  refine l_rd (k := 3) F dL_law_322 dL_law_323 dL_law_324 dL_law_325 dL_law_326 (by decide +kernel) (by omega) ?_
  refine l_rd (k := 4) F dL_law_327 dL_law_328 dL_law_329 dL_law_330 dL_law_331 (by decide +kernel) (by omega) ?_
  refine l_call (as := [.inl (xs (i + 1)), .inl (xs (i + 2)), .inl (xs (i + 3)), .inl (xs (i + 4))]) (K := fun y h2 => x = y ∧ Iv (B + 1536) h2) (st := [.int x]) F dL_law_332 cal7_come vir7_come (tb_of 757 (by decide +kernel) rfl) ⟨by decide, by decide⟩ ok_20 rfl rfl (List.forall_mem_cons.mpr ⟨trivial, (List.forall_mem_cons.mpr ⟨trivial, (List.forall_mem_cons.mpr ⟨trivial, (List.forall_mem_cons.mpr ⟨trivial, (fun v hv => by cases hv)⟩)⟩)⟩)⟩) rfl rfl (Nat.le_of_ble_eq_true rfl) (Nat.le_of_ble_eq_true rfl) k1 (fun y h2 k2 => ?_)
  exact l_same F dL_law_335 rfl k2.1 (kk h2 k2.2)
theorem k_want (F : lwF p s m meth c b L xs G) (I : Iv B h) (hi : i + 6 ≤ L) (hB : B ≤ 785000) (kk : ∀ h2, Iv (B + 1536) h2 → lwE p l e s m below meth c b G 893 i [] h2) : lwE p l e s m below meth c b G 340 i [] h := by
  refine l_cls F dL_law_340 ?_
  refine l_rd (k := 1) F dL_law_341 dL_law_342 dL_law_343 dL_law_344 dL_law_345 (by decide +kernel) (by omega) ?_
  refine l_call (as := [.inl (xs (i + 1))]) (K := (fun x h1 => mC M7_want (ref_ :: [.inl (xs (i + 1))]) h1 (kI (fun y h2 => x = y ∧ Iv (B + 1536) h2)))) F dL_law_346 cal6_want vir6_want (tb_of 387 (by decide +kernel) rfl) ⟨by decide, by decide⟩ ok_7 rfl rfl (List.forall_mem_cons.mpr ⟨trivial, (fun v hv => by cases hv)⟩) rfl rfl (Nat.le_of_ble_eq_true rfl) (Nat.zero_le _) (st_want I _) (fun x h1 k1 => ?_)
  refine l_ref F dL_law_349 ?_
  refine l_rd (k := 1) F dL_law_350 dL_law_351 dL_law_352 dL_law_353 dL_law_354 (by decide +kernel) (by omega) ?_
  refine l_call (as := [.inl (xs (i + 1))]) (K := fun y h2 => x = y ∧ Iv (B + 1536) h2) (st := [.int x]) F dL_law_355 cal7_want vir7_want (tb_of 773 (by decide +kernel) rfl) ⟨by decide, by decide⟩ ok_20 rfl rfl (List.forall_mem_cons.mpr ⟨trivial, (fun v hv => by cases hv)⟩) rfl rfl (Nat.le_of_ble_eq_true rfl) (Nat.le_of_ble_eq_true rfl) k1 (fun y h2 k2 => ?_)
  exact l_same F dL_law_358 rfl k2.1 (kk h2 k2.2)
theorem k_speed (F : lwF p s m meth c b L xs G) (I : Iv B h) (hi : i + 6 ≤ L) (hB : B ≤ 785000) (kk : ∀ h2, Iv (B + 1536) h2 → lwE p l e s m below meth c b G 893 i [] h2) : lwE p l e s m below meth c b G 363 i [] h := by
  refine l_cls F dL_law_363 ?_
  refine l_rd (k := 1) F dL_law_364 dL_law_365 dL_law_366 dL_law_367 dL_law_368 (by decide +kernel) (by omega) ?_
  refine l_rd (k := 2) F dL_law_369 dL_law_370 dL_law_371 dL_law_372 dL_law_373 (by decide +kernel) (by omega) ?_
  refine l_call (as := [.inl (xs (i + 1)), .inl (xs (i + 2))]) (K := (fun x h1 => mC M7_speed (ref_ :: [.inl (xs (i + 1)), .inl (xs (i + 2))]) h1 (kI (fun y h2 => x = y ∧ Iv (B + 1536) h2)))) F dL_law_374 cal6_speed vir6_speed (tb_of 395 (by decide +kernel) rfl) ⟨by decide, by decide⟩ ok_7 rfl rfl (List.forall_mem_cons.mpr ⟨trivial, (List.forall_mem_cons.mpr ⟨trivial, (fun v hv => by cases hv)⟩)⟩) rfl rfl (Nat.le_of_ble_eq_true rfl) (Nat.zero_le _) (st_speed I _ _) (fun x h1 k1 => ?_)
  refine l_ref F dL_law_377 ?_
  refine l_rd (k := 1) F dL_law_378 dL_law_379 dL_law_380 dL_law_381 dL_law_382 (by decide +kernel) (by omega) ?_
  refine l_rd (k := 2) F dL_law_383 dL_law_384 dL_law_385 dL_law_386 dL_law_387 (by decide +kernel) (by omega) ?_
  refine l_call (as := [.inl (xs (i + 1)), .inl (xs (i + 2))]) (K := fun y h2 => x = y ∧ Iv (B + 1536) h2) (st := [.int x]) F dL_law_388 cal7_speed vir7_speed (tb_of 781 (by decide +kernel) rfl) ⟨by decide, by decide⟩ ok_20 rfl rfl (List.forall_mem_cons.mpr ⟨trivial, (List.forall_mem_cons.mpr ⟨trivial, (fun v hv => by cases hv)⟩)⟩) rfl rfl (Nat.le_of_ble_eq_true rfl) (Nat.le_of_ble_eq_true rfl) k1 (fun y h2 k2 => ?_)
  exact l_same F dL_law_391 rfl k2.1 (kk h2 k2.2)
theorem k_ticks (F : lwF p s m meth c b L xs G) (I : Iv B h) (hi : i + 6 ≤ L) (hB : B ≤ 785000) (kk : ∀ h2, Iv (B + 1536) h2 → lwE p l e s m below meth c b G 893 i [] h2) : lwE p l e s m below meth c b G 396 i [] h := by
  refine l_cls F dL_law_396 ?_
  refine l_rd (k := 1) F dL_law_397 dL_law_398 dL_law_399 dL_law_400 dL_law_401 (by decide +kernel) (by omega) ?_
  refine l_call (as := [.inl (xs (i + 1))]) (K := (fun x h1 => mC M7_ticks (ref_ :: [.inl (xs (i + 1))]) h1 (kI (fun y h2 => x = y ∧ Iv (B + 1536) h2)))) F dL_law_402 cal6_ticks vir6_ticks (tb_of 403 (by decide +kernel) rfl) ⟨by decide, by decide⟩ ok_7 rfl rfl (List.forall_mem_cons.mpr ⟨trivial, (fun v hv => by cases hv)⟩) rfl rfl (Nat.le_of_ble_eq_true rfl) (Nat.zero_le _) (st_ticks I (by omega) _) (fun x h1 k1 => ?_)
  refine l_ref F dL_law_405 ?_
  refine l_rd (k := 1) F dL_law_406 dL_law_407 dL_law_408 dL_law_409 dL_law_410 (by decide +kernel) (by omega) ?_
  refine l_call (as := [.inl (xs (i + 1))]) (K := fun y h2 => x = y ∧ Iv (B + 1536) h2) (st := [.int x]) F dL_law_411 cal7_ticks vir7_ticks (tb_of 785 (by decide +kernel) rfl) ⟨by decide, by decide⟩ ok_20 rfl rfl (List.forall_mem_cons.mpr ⟨trivial, (fun v hv => by cases hv)⟩) rfl rfl (Nat.le_of_ble_eq_true rfl) (Nat.le_of_ble_eq_true rfl) k1 (fun y h2 k2 => ?_)
  exact l_same F dL_law_414 rfl k2.1 (kk h2 k2.2)
theorem k_ofCar (F : lwF p s m meth c b L xs G) (I : Iv B h) (hi : i + 6 ≤ L) (hB : B ≤ 785000) (kk : ∀ h2, Iv (B + 1536) h2 → lwE p l e s m below meth c b G 893 i [] h2) : lwE p l e s m below meth c b G 419 i [] h := by
  refine l_cls F dL_law_419 ?_
  refine l_rd (k := 1) F dL_law_420 dL_law_421 dL_law_422 dL_law_423 dL_law_424 (by decide +kernel) (by omega) ?_
  refine l_rd (k := 2) F dL_law_425 dL_law_426 dL_law_427 dL_law_428 dL_law_429 (by decide +kernel) (by omega) ?_
  refine l_call (as := [.inl (xs (i + 1)), .inl (xs (i + 2))]) (K := (fun x h1 => mC M7_ofCar (ref_ :: [.inl (xs (i + 1)), .inl (xs (i + 2))]) h1 (kI (fun y h2 => x = y ∧ Iv (B + 1536) h2)))) F dL_law_430 cal6_ofCar vir6_ofCar (tb_of 470 (by decide +kernel) rfl) ⟨by decide, by decide⟩ ok_7 rfl rfl (List.forall_mem_cons.mpr ⟨trivial, (List.forall_mem_cons.mpr ⟨trivial, (fun v hv => by cases hv)⟩)⟩) rfl rfl (Nat.le_of_ble_eq_true rfl) (Nat.zero_le _) (st_ofCar I _ _) (fun x h1 k1 => ?_)
  refine l_ref F dL_law_433 ?_
  refine l_rd (k := 1) F dL_law_434 dL_law_435 dL_law_436 dL_law_437 dL_law_438 (by decide +kernel) (by omega) ?_
  refine l_rd (k := 2) F dL_law_439 dL_law_440 dL_law_441 dL_law_442 dL_law_443 (by decide +kernel) (by omega) ?_
  refine l_call (as := [.inl (xs (i + 1)), .inl (xs (i + 2))]) (K := fun y h2 => x = y ∧ Iv (B + 1536) h2) (st := [.int x]) F dL_law_444 cal7_ofCar vir7_ofCar (tb_of 829 (by decide +kernel) rfl) ⟨by decide, by decide⟩ ok_20 rfl rfl (List.forall_mem_cons.mpr ⟨trivial, (List.forall_mem_cons.mpr ⟨trivial, (fun v hv => by cases hv)⟩)⟩) rfl rfl (Nat.le_of_ble_eq_true rfl) (Nat.le_of_ble_eq_true rfl) k1 (fun y h2 k2 => ?_)
  exact l_same F dL_law_447 rfl k2.1 (kk h2 k2.2)
theorem k_ofLoop (F : lwF p s m meth c b L xs G) (I : Iv B h) (hi : i + 6 ≤ L) (hB : B ≤ 785000) (kk : ∀ h2, Iv (B + 1536) h2 → lwE p l e s m below meth c b G 893 i [] h2) : lwE p l e s m below meth c b G 452 i [] h := by
  refine l_cls F dL_law_452 ?_
  refine l_rd (k := 1) F dL_law_453 dL_law_454 dL_law_455 dL_law_456 dL_law_457 (by decide +kernel) (by omega) ?_
  refine l_rd (k := 2) F dL_law_458 dL_law_459 dL_law_460 dL_law_461 dL_law_462 (by decide +kernel) (by omega) ?_
  refine l_call (as := [.inl (xs (i + 1)), .inl (xs (i + 2))]) (K := (fun x h1 => mC M7_ofLoop (ref_ :: [.inl (xs (i + 1)), .inl (xs (i + 2))]) h1 (kI (fun y h2 => x = y ∧ Iv (B + 1536) h2)))) F dL_law_463 cal6_ofLoop vir6_ofLoop (tb_of 480 (by decide +kernel) rfl) ⟨by decide, by decide⟩ ok_7 rfl rfl (List.forall_mem_cons.mpr ⟨trivial, (List.forall_mem_cons.mpr ⟨trivial, (fun v hv => by cases hv)⟩)⟩) rfl rfl (Nat.le_of_ble_eq_true rfl) (Nat.zero_le _) (st_ofLoop I _ _) (fun x h1 k1 => ?_)
  refine l_ref F dL_law_466 ?_
  refine l_rd (k := 1) F dL_law_467 dL_law_468 dL_law_469 dL_law_470 dL_law_471 (by decide +kernel) (by omega) ?_
  refine l_rd (k := 2) F dL_law_472 dL_law_473 dL_law_474 dL_law_475 dL_law_476 (by decide +kernel) (by omega) ?_
  refine l_call (as := [.inl (xs (i + 1)), .inl (xs (i + 2))]) (K := fun y h2 => x = y ∧ Iv (B + 1536) h2) (st := [.int x]) F dL_law_477 cal7_ofLoop vir7_ofLoop (tb_of 833 (by decide +kernel) rfl) ⟨by decide, by decide⟩ ok_20 rfl rfl (List.forall_mem_cons.mpr ⟨trivial, (List.forall_mem_cons.mpr ⟨trivial, (fun v hv => by cases hv)⟩)⟩) rfl rfl (Nat.le_of_ble_eq_true rfl) (Nat.le_of_ble_eq_true rfl) k1 (fun y h2 k2 => ?_)
  exact l_same F dL_law_480 rfl k2.1 (kk h2 k2.2)
theorem k_error (F : lwF p s m meth c b L xs G) (I : Iv B h) (hi : i + 6 ≤ L) (hB : B ≤ 785000) (kk : ∀ h2, Iv (B + 1536) h2 → lwE p l e s m below meth c b G 893 i [] h2) : lwE p l e s m below meth c b G 485 i [] h := by
  refine l_cls F dL_law_485 ?_
  refine l_rd (k := 1) F dL_law_486 dL_law_487 dL_law_488 dL_law_489 dL_law_490 (by decide +kernel) (by omega) ?_
  refine l_call (as := [.inl (xs (i + 1))]) (K := (fun x h1 => mC M7_error (ref_ :: [.inl (xs (i + 1))]) h1 (kI (fun y h2 => x = y ∧ Iv (B + 1536) h2)))) F dL_law_491 cal6_error vir6_error (tb_of 490 (by decide +kernel) rfl) ⟨by decide, by decide⟩ ok_7 rfl rfl (List.forall_mem_cons.mpr ⟨trivial, (fun v hv => by cases hv)⟩) rfl rfl (Nat.le_of_ble_eq_true rfl) (Nat.zero_le _) (st_error I _) (fun x h1 k1 => ?_)
  refine l_ref F dL_law_494 ?_
  refine l_rd (k := 1) F dL_law_495 dL_law_496 dL_law_497 dL_law_498 dL_law_499 (by decide +kernel) (by omega) ?_
  refine l_call (as := [.inl (xs (i + 1))]) (K := fun y h2 => x = y ∧ Iv (B + 1536) h2) (st := [.int x]) F dL_law_500 cal7_error vir7_error (tb_of 837 (by decide +kernel) rfl) ⟨by decide, by decide⟩ ok_20 rfl rfl (List.forall_mem_cons.mpr ⟨trivial, (fun v hv => by cases hv)⟩) rfl rfl (Nat.le_of_ble_eq_true rfl) (Nat.le_of_ble_eq_true rfl) k1 (fun y h2 k2 => ?_)
  exact l_same F dL_law_503 rfl k2.1 (kk h2 k2.2)
theorem k_carAt (F : lwF p s m meth c b L xs G) (I : Iv B h) (hi : i + 6 ≤ L) (hB : B ≤ 785000) (kk : ∀ h2, Iv (B + 1536) h2 → lwE p l e s m below meth c b G 893 i [] h2) : lwE p l e s m below meth c b G 508 i [] h := by
  refine l_cls F dL_law_508 ?_
  refine l_rd (k := 1) F dL_law_509 dL_law_510 dL_law_511 dL_law_512 dL_law_513 (by decide +kernel) (by omega) ?_
  refine l_rd (k := 2) F dL_law_514 dL_law_515 dL_law_516 dL_law_517 dL_law_518 (by decide +kernel) (by omega) ?_
  refine l_call (as := [.inl (xs (i + 1)), .inl (xs (i + 2))]) (K := (fun x h1 => mC M7_carAt (ref_ :: [.inl (xs (i + 1)), .inl (xs (i + 2))]) h1 (kI (fun y h2 => x = y ∧ Iv (B + 1536) h2)))) F dL_law_519 cal6_carAt vir6_carAt (tb_of 498 (by decide +kernel) rfl) ⟨by decide, by decide⟩ ok_7 rfl rfl (List.forall_mem_cons.mpr ⟨trivial, (List.forall_mem_cons.mpr ⟨trivial, (fun v hv => by cases hv)⟩)⟩) rfl rfl (Nat.le_of_ble_eq_true rfl) (Nat.zero_le _) (st_carAt I _ _) (fun x h1 k1 => ?_)
  refine l_ref F dL_law_522 ?_
  refine l_rd (k := 1) F dL_law_523 dL_law_524 dL_law_525 dL_law_526 dL_law_527 (by decide +kernel) (by omega) ?_
  refine l_rd (k := 2) F dL_law_528 dL_law_529 dL_law_530 dL_law_531 dL_law_532 (by decide +kernel) (by omega) ?_
  refine l_call (as := [.inl (xs (i + 1)), .inl (xs (i + 2))]) (K := fun y h2 => x = y ∧ Iv (B + 1536) h2) (st := [.int x]) F dL_law_533 cal7_carAt vir7_carAt (tb_of 845 (by decide +kernel) rfl) ⟨by decide, by decide⟩ ok_20 rfl rfl (List.forall_mem_cons.mpr ⟨trivial, (List.forall_mem_cons.mpr ⟨trivial, (fun v hv => by cases hv)⟩)⟩) rfl rfl (Nat.le_of_ble_eq_true rfl) (Nat.le_of_ble_eq_true rfl) k1 (fun y h2 k2 => ?_)
  exact l_same F dL_law_536 rfl k2.1 (kk h2 k2.2)
theorem k_count (F : lwF p s m meth c b L xs G) (I : Iv B h) (hi : i + 6 ≤ L) (hB : B ≤ 785000) (kk : ∀ h2, Iv (B + 1536) h2 → lwE p l e s m below meth c b G 893 i [] h2) : lwE p l e s m below meth c b G 541 i [] h := by
  refine l_cls F dL_law_541 ?_
  refine l_rd (k := 1) F dL_law_542 dL_law_543 dL_law_544 dL_law_545 dL_law_546 (by decide +kernel) (by omega) ?_
  refine l_call (as := [.inl (xs (i + 1))]) (K := (fun x h1 => mC M7_count (ref_ :: [.inl (xs (i + 1))]) h1 (kI (fun y h2 => x = y ∧ Iv (B + 1536) h2)))) F dL_law_547 cal6_count vir6_count (tb_of 503 (by decide +kernel) rfl) ⟨by decide, by decide⟩ ok_7 rfl rfl (List.forall_mem_cons.mpr ⟨trivial, (fun v hv => by cases hv)⟩) rfl rfl (Nat.le_of_ble_eq_true rfl) (Nat.zero_le _) (st_count I _) (fun x h1 k1 => ?_)
  refine l_ref F dL_law_550 ?_
  refine l_rd (k := 1) F dL_law_551 dL_law_552 dL_law_553 dL_law_554 dL_law_555 (by decide +kernel) (by omega) ?_
  refine l_call (as := [.inl (xs (i + 1))]) (K := fun y h2 => x = y ∧ Iv (B + 1536) h2) (st := [.int x]) F dL_law_556 cal7_count vir7_count (tb_of 849 (by decide +kernel) rfl) ⟨by decide, by decide⟩ ok_20 rfl rfl (List.forall_mem_cons.mpr ⟨trivial, (fun v hv => by cases hv)⟩) rfl rfl (Nat.le_of_ble_eq_true rfl) (Nat.le_of_ble_eq_true rfl) k1 (fun y h2 k2 => ?_)
  exact l_same F dL_law_559 rfl k2.1 (kk h2 k2.2)
theorem k_inside (F : lwF p s m meth c b L xs G) (I : Iv B h) (hi : i + 6 ≤ L) (hB : B ≤ 785000) (kk : ∀ h2, Iv (B + 1536) h2 → lwE p l e s m below meth c b G 893 i [] h2) : lwE p l e s m below meth c b G 564 i [] h := by
  refine l_cls F dL_law_564 ?_
  refine l_rd (k := 1) F dL_law_565 dL_law_566 dL_law_567 dL_law_568 dL_law_569 (by decide +kernel) (by omega) ?_
  refine l_rd (k := 2) F dL_law_570 dL_law_571 dL_law_572 dL_law_573 dL_law_574 (by decide +kernel) (by omega) ?_
  refine l_call (as := [.inl (xs (i + 1)), .inl (xs (i + 2))]) (K := (fun x h1 => mC M7_inside (ref_ :: [.inl (xs (i + 1)), .inl (xs (i + 2))]) h1 (kI (fun y h2 => x = y ∧ Iv (B + 1536) h2)))) F dL_law_575 cal6_inside vir6_inside (tb_of 517 (by decide +kernel) rfl) ⟨by decide, by decide⟩ ok_7 rfl rfl (List.forall_mem_cons.mpr ⟨trivial, (List.forall_mem_cons.mpr ⟨trivial, (fun v hv => by cases hv)⟩)⟩) rfl rfl (Nat.le_of_ble_eq_true rfl) (Nat.zero_le _) (st_inside I _ _) (fun x h1 k1 => ?_)
  refine l_ref F dL_law_578 ?_
  refine l_rd (k := 1) F dL_law_579 dL_law_580 dL_law_581 dL_law_582 dL_law_583 (by decide +kernel) (by omega) ?_
  refine l_rd (k := 2) F dL_law_584 dL_law_585 dL_law_586 dL_law_587 dL_law_588 (by decide +kernel) (by omega) ?_
  refine l_call (as := [.inl (xs (i + 1)), .inl (xs (i + 2))]) (K := fun y h2 => x = y ∧ Iv (B + 1536) h2) (st := [.int x]) F dL_law_589 cal7_inside vir7_inside (tb_of 861 (by decide +kernel) rfl) ⟨by decide, by decide⟩ ok_20 rfl rfl (List.forall_mem_cons.mpr ⟨trivial, (List.forall_mem_cons.mpr ⟨trivial, (fun v hv => by cases hv)⟩)⟩) rfl rfl (Nat.le_of_ble_eq_true rfl) (Nat.le_of_ble_eq_true rfl) k1 (fun y h2 k2 => ?_)
  exact l_same F dL_law_592 rfl k2.1 (kk h2 k2.2)
theorem k_countsIn (F : lwF p s m meth c b L xs G) (I : Iv B h) (hi : i + 6 ≤ L) (hB : B ≤ 785000) (kk : ∀ h2, Iv (B + 1536) h2 → lwE p l e s m below meth c b G 893 i [] h2) : lwE p l e s m below meth c b G 597 i [] h := by
  refine l_cls F dL_law_597 ?_
  refine l_rd (k := 1) F dL_law_598 dL_law_599 dL_law_600 dL_law_601 dL_law_602 (by decide +kernel) (by omega) ?_
  refine l_rd (k := 2) F dL_law_603 dL_law_604 dL_law_605 dL_law_606 dL_law_607 (by decide +kernel) (by omega) ?_
  refine l_call (as := [.inl (xs (i + 1)), .inl (xs (i + 2))]) (K := (fun x h1 => mC M7_countsIn (ref_ :: [.inl (xs (i + 1)), .inl (xs (i + 2))]) h1 (kI (fun y h2 => x = y ∧ Iv (B + 1536) h2)))) F dL_law_608 cal6_countsIn vir6_countsIn (tb_of 521 (by decide +kernel) rfl) ⟨by decide, by decide⟩ ok_7 rfl rfl (List.forall_mem_cons.mpr ⟨trivial, (List.forall_mem_cons.mpr ⟨trivial, (fun v hv => by cases hv)⟩)⟩) rfl rfl (Nat.le_of_ble_eq_true rfl) (Nat.zero_le _) (st_countsIn I _ _) (fun x h1 k1 => ?_)
  refine l_ref F dL_law_611 ?_
  refine l_rd (k := 1) F dL_law_612 dL_law_613 dL_law_614 dL_law_615 dL_law_616 (by decide +kernel) (by omega) ?_
  refine l_rd (k := 2) F dL_law_617 dL_law_618 dL_law_619 dL_law_620 dL_law_621 (by decide +kernel) (by omega) ?_
  refine l_call (as := [.inl (xs (i + 1)), .inl (xs (i + 2))]) (K := fun y h2 => x = y ∧ Iv (B + 1536) h2) (st := [.int x]) F dL_law_622 cal7_countsIn vir7_countsIn (tb_of 865 (by decide +kernel) rfl) ⟨by decide, by decide⟩ ok_20 rfl rfl (List.forall_mem_cons.mpr ⟨trivial, (List.forall_mem_cons.mpr ⟨trivial, (fun v hv => by cases hv)⟩)⟩) rfl rfl (Nat.le_of_ble_eq_true rfl) (Nat.le_of_ble_eq_true rfl) k1 (fun y h2 k2 => ?_)
  exact l_same F dL_law_625 rfl k2.1 (kk h2 k2.2)
theorem k_countsAlone (F : lwF p s m meth c b L xs G) (I : Iv B h) (hi : i + 6 ≤ L) (hB : B ≤ 785000) (kk : ∀ h2, Iv (B + 1536) h2 → lwE p l e s m below meth c b G 893 i [] h2) : lwE p l e s m below meth c b G 630 i [] h := by
  refine l_cls F dL_law_630 ?_
  refine l_rd (k := 1) F dL_law_631 dL_law_632 dL_law_633 dL_law_634 dL_law_635 (by decide +kernel) (by omega) ?_
  refine l_rd (k := 2) F dL_law_636 dL_law_637 dL_law_638 dL_law_639 dL_law_640 (by decide +kernel) (by omega) ?_
  refine l_call (as := [.inl (xs (i + 1)), .inl (xs (i + 2))]) (K := (fun x h1 => mC M7_countsAlone (ref_ :: [.inl (xs (i + 1)), .inl (xs (i + 2))]) h1 (kI (fun y h2 => x = y ∧ Iv (B + 1536) h2)))) F dL_law_641 cal6_countsAlone vir6_countsAlone (tb_of 527 (by decide +kernel) rfl) ⟨by decide, by decide⟩ ok_7 rfl rfl (List.forall_mem_cons.mpr ⟨trivial, (List.forall_mem_cons.mpr ⟨trivial, (fun v hv => by cases hv)⟩)⟩) rfl rfl (Nat.le_of_ble_eq_true rfl) (Nat.zero_le _) (st_countsAlone I _ _) (fun x h1 k1 => ?_)
  refine l_ref F dL_law_644 ?_
  refine l_rd (k := 1) F dL_law_645 dL_law_646 dL_law_647 dL_law_648 dL_law_649 (by decide +kernel) (by omega) ?_
  refine l_rd (k := 2) F dL_law_650 dL_law_651 dL_law_652 dL_law_653 dL_law_654 (by decide +kernel) (by omega) ?_
  refine l_call (as := [.inl (xs (i + 1)), .inl (xs (i + 2))]) (K := fun y h2 => x = y ∧ Iv (B + 1536) h2) (st := [.int x]) F dL_law_655 cal7_countsAlone vir7_countsAlone (tb_of 881 (by decide +kernel) rfl) ⟨by decide, by decide⟩ ok_20 rfl rfl (List.forall_mem_cons.mpr ⟨trivial, (List.forall_mem_cons.mpr ⟨trivial, (fun v hv => by cases hv)⟩)⟩) rfl rfl (Nat.le_of_ble_eq_true rfl) (Nat.le_of_ble_eq_true rfl) k1 (fun y h2 k2 => ?_)
  exact l_same F dL_law_658 rfl k2.1 (kk h2 k2.2)
theorem k_bestUpper (F : lwF p s m meth c b L xs G) (I : Iv B h) (hi : i + 6 ≤ L) (hB : B ≤ 785000) (kk : ∀ h2, Iv (B + 1536) h2 → lwE p l e s m below meth c b G 893 i [] h2) : lwE p l e s m below meth c b G 663 i [] h := by
  refine l_cls F dL_law_663 ?_
  refine l_rd (k := 1) F dL_law_664 dL_law_665 dL_law_666 dL_law_667 dL_law_668 (by decide +kernel) (by omega) ?_
  refine l_rd (k := 2) F dL_law_669 dL_law_670 dL_law_671 dL_law_672 dL_law_673 (by decide +kernel) (by omega) ?_
  refine l_call (as := [.inl (xs (i + 1)), .inl (xs (i + 2))]) (K := (fun x h1 => mC M7_bestUpper (ref_ :: [.inl (xs (i + 1)), .inl (xs (i + 2))]) h1 (kI (fun y h2 => x = y ∧ Iv (B + 1536) h2)))) F dL_law_674 cal6_bestUpper vir6_bestUpper (tb_of 532 (by decide +kernel) rfl) ⟨by decide, by decide⟩ ok_7 rfl rfl (List.forall_mem_cons.mpr ⟨trivial, (List.forall_mem_cons.mpr ⟨trivial, (fun v hv => by cases hv)⟩)⟩) rfl rfl (Nat.le_of_ble_eq_true rfl) (Nat.zero_le _) (st_bestUpper I hB _ _) (fun x h1 k1 => ?_)
  refine l_ref F dL_law_677 ?_
  refine l_rd (k := 1) F dL_law_678 dL_law_679 dL_law_680 dL_law_681 dL_law_682 (by decide +kernel) (by omega) ?_
  refine l_rd (k := 2) F dL_law_683 dL_law_684 dL_law_685 dL_law_686 dL_law_687 (by decide +kernel) (by omega) ?_
  refine l_call (as := [.inl (xs (i + 1)), .inl (xs (i + 2))]) (K := fun y h2 => x = y ∧ Iv (B + 1536) h2) (st := [.int x]) F dL_law_688 cal7_bestUpper vir7_bestUpper (tb_of 885 (by decide +kernel) rfl) ⟨by decide, by decide⟩ ok_20 rfl rfl (List.forall_mem_cons.mpr ⟨trivial, (List.forall_mem_cons.mpr ⟨trivial, (fun v hv => by cases hv)⟩)⟩) rfl rfl (Nat.le_of_ble_eq_true rfl) (Nat.le_of_ble_eq_true rfl) k1 (fun y h2 k2 => ?_)
  exact l_same F dL_law_691 rfl k2.1 (kk h2 k2.2)
theorem k_bestTurn (F : lwF p s m meth c b L xs G) (I : Iv B h) (hi : i + 6 ≤ L) (hB : B ≤ 785000) (kk : ∀ h2, Iv (B + 1536) h2 → lwE p l e s m below meth c b G 893 i [] h2) : lwE p l e s m below meth c b G 696 i [] h := by
  refine l_cls F dL_law_696 ?_
  refine l_rd (k := 1) F dL_law_697 dL_law_698 dL_law_699 dL_law_700 dL_law_701 (by decide +kernel) (by omega) ?_
  refine l_call (as := [.inl (xs (i + 1))]) (K := (fun x h1 => mC M7_bestTurn (ref_ :: [.inl (xs (i + 1))]) h1 (kI (fun y h2 => x = y ∧ Iv (B + 1536) h2)))) F dL_law_702 cal6_bestTurn vir6_bestTurn (tb_of 550 (by decide +kernel) rfl) ⟨by decide, by decide⟩ ok_7 rfl rfl (List.forall_mem_cons.mpr ⟨trivial, (fun v hv => by cases hv)⟩) rfl rfl (Nat.le_of_ble_eq_true rfl) (Nat.zero_le _) (st_bestTurn I hB _) (fun x h1 k1 => ?_)
  refine l_ref F dL_law_705 ?_
  refine l_rd (k := 1) F dL_law_706 dL_law_707 dL_law_708 dL_law_709 dL_law_710 (by decide +kernel) (by omega) ?_
  refine l_call (as := [.inl (xs (i + 1))]) (K := fun y h2 => x = y ∧ Iv (B + 1536) h2) (st := [.int x]) F dL_law_711 cal7_bestTurn vir7_bestTurn (tb_of 892 (by decide +kernel) rfl) ⟨by decide, by decide⟩ ok_20 rfl rfl (List.forall_mem_cons.mpr ⟨trivial, (fun v hv => by cases hv)⟩) rfl rfl (Nat.le_of_ble_eq_true rfl) (Nat.le_of_ble_eq_true rfl) k1 (fun y h2 k2 => ?_)
  exact l_same F dL_law_714 rfl k2.1 (kk h2 k2.2)
theorem k_goneIn (F : lwF p s m meth c b L xs G) (I : Iv B h) (hi : i + 6 ≤ L) (hB : B ≤ 785000) (kk : ∀ h2, Iv (B + 1536) h2 → lwE p l e s m below meth c b G 893 i [] h2) : lwE p l e s m below meth c b G 719 i [] h := by
  refine l_cls F dL_law_719 ?_
  refine l_rd (k := 1) F dL_law_720 dL_law_721 dL_law_722 dL_law_723 dL_law_724 (by decide +kernel) (by omega) ?_
  refine l_call (as := [.inl (xs (i + 1))]) (K := (fun x h1 => mC M7_goneIn (ref_ :: [.inl (xs (i + 1))]) h1 (kI (fun y h2 => x = y ∧ Iv (B + 1536) h2)))) F dL_law_725 cal6_goneIn vir6_goneIn (tb_of 560 (by decide +kernel) rfl) ⟨by decide, by decide⟩ ok_7 rfl rfl (List.forall_mem_cons.mpr ⟨trivial, (fun v hv => by cases hv)⟩) rfl rfl (Nat.le_of_ble_eq_true rfl) (Nat.zero_le _) (st_goneIn I _) (fun x h1 k1 => ?_)
  refine l_ref F dL_law_728 ?_
  refine l_rd (k := 1) F dL_law_729 dL_law_730 dL_law_731 dL_law_732 dL_law_733 (by decide +kernel) (by omega) ?_
  refine l_call (as := [.inl (xs (i + 1))]) (K := fun y h2 => x = y ∧ Iv (B + 1536) h2) (st := [.int x]) F dL_law_734 cal7_goneIn vir7_goneIn (tb_of 896 (by decide +kernel) rfl) ⟨by decide, by decide⟩ ok_20 rfl rfl (List.forall_mem_cons.mpr ⟨trivial, (fun v hv => by cases hv)⟩) rfl rfl (Nat.le_of_ble_eq_true rfl) (Nat.le_of_ble_eq_true rfl) k1 (fun y h2 k2 => ?_)
  exact l_same F dL_law_737 rfl k2.1 (kk h2 k2.2)
theorem k_put (F : lwF p s m meth c b L xs G) (I : Iv B h) (hi : i + 6 ≤ L) (hB : B ≤ 785000) (kk : ∀ h2, Iv (B + 1536) h2 → lwE p l e s m below meth c b G 893 i [] h2) : lwE p l e s m below meth c b G 742 i [] h := by
  refine l_cls F dL_law_742 ?_
  refine l_rd (k := 1) F dL_law_743 dL_law_744 dL_law_745 dL_law_746 dL_law_747 (by decide +kernel) (by omega) ?_
  refine l_i2l F dL_law_748 ?_
  refine l_bipush (v := 32) F dL_law_749 (by decide +kernel) ?_
  refine l_lshl F dL_law_751 ?_
  refine l_rd (k := 2) F dL_law_752 dL_law_753 dL_law_754 dL_law_755 dL_law_756 (by decide +kernel) (by omega) ?_
  refine l_i2l F dL_law_757 ?_
  refine l_ldc2 (v := 4294967295) F dL_law_758 (tb_of 956 (by decide +kernel) rfl) ?_
  refine l_land F dL_law_761 ?_
  refine l_lor F dL_law_762 ?_
  refine l_call (as := [.inr (.inl ((xs (i + 1)).toInt64 <<< ((32 : Int32).toInt64 &&& 63) ||| (xs (i + 2)).toInt64 &&& 4294967295))]) (K := (fun x h1 => mC M7_put (ref_ :: [.inr (.inl ((xs (i + 1)).toInt64 <<< ((32 : Int32).toInt64 &&& 63) ||| (xs (i + 2)).toInt64 &&& 4294967295))]) h1 (kI (fun y h2 => x = y ∧ Iv (B + 1536) h2)))) F dL_law_763 cal6_put vir6_put (tb_of 564 (by decide +kernel) rfl) ⟨by decide, by decide⟩ ok_7 rfl rfl (List.forall_mem_cons.mpr ⟨trivial, (fun v hv => by cases hv)⟩) rfl rfl (Nat.le_of_ble_eq_true rfl) (Nat.zero_le _) (st_put I _) (fun x h1 k1 => ?_)
  refine l_ref F dL_law_766 ?_
  refine l_rd (k := 1) F dL_law_767 dL_law_768 dL_law_769 dL_law_770 dL_law_771 (by decide +kernel) (by omega) ?_
  refine l_i2l F dL_law_772 ?_
  refine l_bipush (v := 32) F dL_law_773 (by decide +kernel) ?_
  refine l_lshl F dL_law_775 ?_
  refine l_rd (k := 2) F dL_law_776 dL_law_777 dL_law_778 dL_law_779 dL_law_780 (by decide +kernel) (by omega) ?_
  refine l_i2l F dL_law_781 ?_
  refine l_ldc2 (v := 4294967295) F dL_law_782 (tb_of 956 (by decide +kernel) rfl) ?_
  refine l_land F dL_law_785 ?_
  refine l_lor F dL_law_786 ?_
  refine l_call (as := [.inr (.inl ((xs (i + 1)).toInt64 <<< ((32 : Int32).toInt64 &&& 63) ||| (xs (i + 2)).toInt64 &&& 4294967295))]) (K := fun y h2 => x = y ∧ Iv (B + 1536) h2) (st := [.int x]) F dL_law_787 cal7_put vir7_put (tb_of 900 (by decide +kernel) rfl) ⟨by decide, by decide⟩ ok_20 rfl rfl (List.forall_mem_cons.mpr ⟨trivial, (fun v hv => by cases hv)⟩) rfl rfl (Nat.le_of_ble_eq_true rfl) (Nat.le_of_ble_eq_true rfl) k1 (fun y h2 k2 => ?_)
  exact l_same F dL_law_790 rfl k2.1 (kk h2 k2.2)
theorem k_wipe (F : lwF p s m meth c b L xs G) (I : Iv B h) (hi : i + 6 ≤ L) (hB : B ≤ 785000) (kk : ∀ h2, Iv (B + 1536) h2 → lwE p l e s m below meth c b G 893 i [] h2) : lwE p l e s m below meth c b G 795 i [] h := by
  refine l_cls F dL_law_795 ?_
  refine l_call (as := []) (K := (fun x h1 => mC M7_wipe (ref_ :: []) h1 (kI (fun y h2 => x = y ∧ Iv (B + 1536) h2)))) F dL_law_796 cal6_wipe vir6_wipe (tb_of 577 (by decide +kernel) rfl) ⟨by decide, by decide⟩ ok_7 rfl rfl (fun v hv => by cases hv) rfl rfl (Nat.le_of_ble_eq_true rfl) (Nat.zero_le _) (st_wipe I) (fun x h1 k1 => ?_)
  refine l_ref F dL_law_799 ?_
  refine l_call (as := []) (K := fun y h2 => x = y ∧ Iv (B + 1536) h2) (st := [.int x]) F dL_law_800 cal7_wipe vir7_wipe (tb_of 905 (by decide +kernel) rfl) ⟨by decide, by decide⟩ ok_20 rfl rfl (fun v hv => by cases hv) rfl rfl (Nat.le_of_ble_eq_true rfl) (Nat.le_of_ble_eq_true rfl) k1 (fun y h2 k2 => ?_)
  exact l_same F dL_law_803 rfl k2.1 (kk h2 k2.2)
theorem k_fault (F : lwF p s m meth c b L xs G) (I : Iv B h) (hi : i + 6 ≤ L) (hB : B ≤ 785000) (kk : ∀ h2, Iv (B + 1536) h2 → lwE p l e s m below meth c b G 893 i [] h2) : lwE p l e s m below meth c b G 808 i [] h := by
  refine l_cls F dL_law_808 ?_
  refine l_call (as := []) (K := (fun x h1 => mC M7_fault (ref_ :: []) h1 (kI (fun y h2 => x = y ∧ Iv (B + 1536) h2)))) F dL_law_809 cal6_fault vir6_fault (tb_of 585 (by decide +kernel) rfl) ⟨by decide, by decide⟩ ok_7 rfl rfl (fun v hv => by cases hv) rfl rfl (Nat.le_of_ble_eq_true rfl) (Nat.zero_le _) (st_fault I) (fun x h1 k1 => ?_)
  refine l_ref F dL_law_812 ?_
  refine l_call (as := []) (K := fun y h2 => x = y ∧ Iv (B + 1536) h2) (st := [.int x]) F dL_law_813 cal7_fault vir7_fault (tb_of 909 (by decide +kernel) rfl) ⟨by decide, by decide⟩ ok_20 rfl rfl (fun v hv => by cases hv) rfl rfl (Nat.le_of_ble_eq_true rfl) (Nat.le_of_ble_eq_true rfl) k1 (fun y h2 k2 => ?_)
  exact l_same F dL_law_816 rfl k2.1 (kk h2 k2.2)
theorem k_carryOut (F : lwF p s m meth c b L xs G) (I : Iv B h) (hi : i + 6 ≤ L) (hB : B ≤ 785000) (kk : ∀ h2, Iv (B + 1536) h2 → lwE p l e s m below meth c b G 893 i [] h2) : lwE p l e s m below meth c b G 821 i [] h := by
  refine l_cls F dL_law_821 ?_
  refine l_call (as := []) (K := (fun x h1 => mC M7_carryOut (ref_ :: []) h1 (kI (fun y h2 => x = y ∧ Iv (B + 1536) h2)))) F dL_law_822 cal6_carryOut vir6_carryOut (tb_of 600 (by decide +kernel) rfl) ⟨by decide, by decide⟩ ok_7 rfl rfl (fun v hv => by cases hv) rfl rfl (Nat.le_of_ble_eq_true rfl) (Nat.zero_le _) (st_carryOut I (by omega)) (fun x h1 k1 => ?_)
  refine l_ref F dL_law_825 ?_
  refine l_call (as := []) (K := fun y h2 => x = y ∧ Iv (B + 1536) h2) (st := [.int x]) F dL_law_826 cal7_carryOut vir7_carryOut (tb_of 933 (by decide +kernel) rfl) ⟨by decide, by decide⟩ ok_20 rfl rfl (fun v hv => by cases hv) rfl rfl (Nat.le_of_ble_eq_true rfl) (Nat.le_of_ble_eq_true rfl) k1 (fun y h2 k2 => ?_)
  exact l_same F dL_law_829 rfl k2.1 (kk h2 k2.2)
theorem k_undo (F : lwF p s m meth c b L xs G) (I : Iv B h) (hi : i + 6 ≤ L) (hB : B ≤ 785000) (kk : ∀ h2, Iv (B + 1536) h2 → lwE p l e s m below meth c b G 893 i [] h2) : lwE p l e s m below meth c b G 834 i [] h := by
  refine l_cls F dL_law_834 ?_
  refine l_call (as := []) (K := (fun x h1 => mC M7_undo (ref_ :: []) h1 (kI (fun y h2 => x = y ∧ Iv (B + 1536) h2)))) F dL_law_835 cal6_undo vir6_undo (tb_of 622 (by decide +kernel) rfl) ⟨by decide, by decide⟩ ok_7 rfl rfl (fun v hv => by cases hv) rfl rfl (Nat.le_of_ble_eq_true rfl) (Nat.zero_le _) (st_undo I) (fun x h1 k1 => ?_)
  refine l_ref F dL_law_838 ?_
  refine l_call (as := []) (K := fun y h2 => x = y ∧ Iv (B + 1536) h2) (st := [.int x]) F dL_law_839 cal7_undo vir7_undo (tb_of 944 (by decide +kernel) rfl) ⟨by decide, by decide⟩ ok_20 rfl rfl (fun v hv => by cases hv) rfl rfl (Nat.le_of_ble_eq_true rfl) (Nat.le_of_ble_eq_true rfl) k1 (fun y h2 k2 => ?_)
  exact l_same F dL_law_842 rfl k2.1 (kk h2 k2.2)
theorem k_save (F : lwF p s m meth c b L xs G) (I : Iv B h) (hi : i + 6 ≤ L) (hB : B ≤ 785000) (kk : ∀ h2, Iv (B + 1536) h2 → lwE p l e s m below meth c b G 893 i [] h2) : lwE p l e s m below meth c b G 847 i [] h := by
  refine l_cls F dL_law_847 ?_
  refine l_rd (k := 1) F dL_law_848 dL_law_849 dL_law_850 dL_law_851 dL_law_852 (by decide +kernel) (by omega) ?_
  refine l_call (as := [.inl (xs (i + 1))]) (K := (fun x h1 => mC M7_save (ref_ :: [.inl (xs (i + 1))]) h1 (kI (fun y h2 => x = y ∧ Iv (B + 1536) h2)))) F dL_law_853 cal6_save vir6_save (tb_of 630 (by decide +kernel) rfl) ⟨by decide, by decide⟩ ok_7 rfl rfl (List.forall_mem_cons.mpr ⟨trivial, (fun v hv => by cases hv)⟩) rfl rfl (Nat.le_of_ble_eq_true rfl) (Nat.zero_le _) (st_save I _) (fun x h1 k1 => ?_)
  refine l_ref F dL_law_856 ?_
  refine l_rd (k := 1) F dL_law_857 dL_law_858 dL_law_859 dL_law_860 dL_law_861 (by decide +kernel) (by omega) ?_
  refine l_call (as := [.inl (xs (i + 1))]) (K := fun y h2 => x = y ∧ Iv (B + 1536) h2) (st := [.int x]) F dL_law_862 cal7_save vir7_save (tb_of 948 (by decide +kernel) rfl) ⟨by decide, by decide⟩ ok_20 rfl rfl (List.forall_mem_cons.mpr ⟨trivial, (fun v hv => by cases hv)⟩) rfl rfl (Nat.le_of_ble_eq_true rfl) (Nat.le_of_ble_eq_true rfl) k1 (fun y h2 k2 => ?_)
  exact l_same F dL_law_865 rfl k2.1 (kk h2 k2.2)
theorem k_restore (F : lwF p s m meth c b L xs G) (I : Iv B h) (hi : i + 6 ≤ L) (hB : B ≤ 785000) (kk : ∀ h2, Iv (B + 1536) h2 → lwE p l e s m below meth c b G 893 i [] h2) : lwE p l e s m below meth c b G 870 i [] h := by
  refine l_cls F dL_law_870 ?_
  refine l_rd (k := 1) F dL_law_871 dL_law_872 dL_law_873 dL_law_874 dL_law_875 (by decide +kernel) (by omega) ?_
  refine l_call (as := [.inl (xs (i + 1))]) (K := (fun x h1 => mC M7_restore (ref_ :: [.inl (xs (i + 1))]) h1 (kI (fun y h2 => x = y ∧ Iv (B + 1536) h2)))) F dL_law_876 cal6_restore vir6_restore (tb_of 643 (by decide +kernel) rfl) ⟨by decide, by decide⟩ ok_7 rfl rfl (List.forall_mem_cons.mpr ⟨trivial, (fun v hv => by cases hv)⟩) rfl rfl (Nat.le_of_ble_eq_true rfl) (Nat.zero_le _) (st_restore I (by omega) _) (fun x h1 k1 => ?_)
  refine l_ref F dL_law_879 ?_
  refine l_rd (k := 1) F dL_law_880 dL_law_881 dL_law_882 dL_law_883 dL_law_884 (by decide +kernel) (by omega) ?_
  refine l_call (as := [.inl (xs (i + 1))]) (K := fun y h2 => x = y ∧ Iv (B + 1536) h2) (st := [.int x]) F dL_law_885 cal7_restore vir7_restore (tb_of 952 (by decide +kernel) rfl) ⟨by decide, by decide⟩ ok_20 rfl rfl (List.forall_mem_cons.mpr ⟨trivial, (fun v hv => by cases hv)⟩) rfl rfl (Nat.le_of_ble_eq_true rfl) (Nat.le_of_ble_eq_true rfl) k1 (fun y h2 k2 => ?_)
  exact l_same F dL_law_888 rfl k2.1 (kk h2 k2.2)
end CASES
