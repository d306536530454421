/-! the law: its cases; written by mklaw.py -/
section LC
variable {p : Program} {l : Launch} {e : Env} {s : State} {m : MethodId} {args : Array Value} {below : List Frame} {meth : Method} {c : Code} {H : Heap} {locs : List Loc} {cells slots : Nat} {Q : State → Prop}
variable {ls : Array Slot} {dC : Nat → ClassId} {dI : Nat → Nat → Nat} {cy : Nat → ClassId} {b L qx qy i : Nat} {xs : Nat → Int32}

theorem lc_0 {ad0 : Nat → Nat} (C : zC p s m args meth c mL dC dI cy ad0 (lA s)) (hX : va_X b L xs s s.heap) (hbl : b < s.heap.size) (hi : i + 5 < L ∧ L < 100000) (hcs : cells ≤ room_1.cells ∧ slots ≤ room_1.slots) (hl : lv_has ls 4 [(0, .ref b), (1, .ref qx), (2, .ref qy), (3, .int (nI i))]) (ih : ∀ (H : Heap) (locs : List Loc) (ls : Array Slot), LPw dC dI cy ad0 s qx qy H locs → lv_has ls 4 [(0, .ref b), (1, .ref qx), (2, .ref qy), (3, .int (nI i))] → W p l e room_1 s m args below meth c H locs cells slots Q (F0 m 1567 ls [])) (hp : LPw dC dI cy ad0 s qx qy H locs) : W p l e room_1 s m args below meth c H locs cells slots Q (F0 m 204 ls []) := by
  obtain ⟨ax, ay, X, Y, hx0, hy0, hax, hay, hR, hP, hD, hS⟩ := hp
  refine lv_aload_n C.1 C.2.1 dL_204 rfl (lv_at hl 1 rfl) ?_
  refine l_arg 1 (by decide) C hX hbl hl hi dL_205 dL_206 dL_207 dL_208 dL_209 hS ?_
  refine l_arg 2 (by decide) C hX hbl hl hi dL_210 dL_211 dL_212 dL_213 dL_214 hS ?_
  obtain ⟨v, QX, QY, hcx, hcy, hR2⟩ := (ag_place hR ((xs (i + 1))) ((xs (i + 2)))).c
  refine l_cx (as := [.int (xs (i + 1)), .int (xs (i + 2))]) C dL_215 iX9_place vX9_place (zGm (zm2 111 rfl) rfl) rfl ⟨Nat.le_of_ble_eq_true rfl, Nat.le_of_ble_eq_true rfl⟩ rfl rfl rfl (Nat.le_of_ble_eq_true rfl) hcx hP hD hS hl.1 hx0 hax hcs (fun v2 X2 ax2 H locs hx2 hax2 hv hP hD hS => ?_)
  obtain ⟨rfl, hqx⟩ := hv
  refine lv_aload_n C.1 C.2.1 dL_218 rfl (lv_at hl 2 rfl) ?_
  refine l_arg 1 (by decide) C hX hbl hl hi dL_219 dL_220 dL_221 dL_222 dL_223 hS ?_
  refine l_arg 2 (by decide) C hX hbl hl hi dL_224 dL_225 dL_226 dL_227 dL_228 hS ?_
  refine l_cy (as := [.int (xs (i + 1)), .int (xs (i + 2))]) (ay := ay) (Y := Y) C dL_229 iX10_place vX10_place (zGm (zm5 43 rfl) rfl) rfl ⟨Nat.le_of_ble_eq_true rfl, Nat.le_of_ble_eq_true rfl⟩ rfl rfl rfl (Nat.le_of_ble_eq_true rfl) hcy hay hP hD hS hl.1 hy0 hcs (fun v3 Y2 H locs hv hP hD hS => ?_)
  obtain ⟨rfl, hqy⟩ := hv
  exact lv_icmp_eq (tgt := 1567) C.1 C.2.1 dL_232 rfl (fun _ => ih H locs ls ⟨ax2, ay, X2, Y2, hx2, hy0, hax2, hay, hR2 X2 Y2 hqx hqy, hP, hD, hS⟩ hl) (fun q => absurd rfl q)
theorem lc_1 {ad0 : Nat → Nat} (C : zC p s m args meth c mL dC dI cy ad0 (lA s)) (hX : va_X b L xs s s.heap) (hbl : b < s.heap.size) (hi : i + 5 < L ∧ L < 100000) (hcs : cells ≤ room_1.cells ∧ slots ≤ room_1.slots) (hl : lv_has ls 4 [(0, .ref b), (1, .ref qx), (2, .ref qy), (3, .int (nI i))]) (ih : ∀ (H : Heap) (locs : List Loc) (ls : Array Slot), LPw dC dI cy ad0 s qx qy H locs → lv_has ls 4 [(0, .ref b), (1, .ref qx), (2, .ref qy), (3, .int (nI i))] → W p l e room_1 s m args below meth c H locs cells slots Q (F0 m 1567 ls [])) (hp : LPw dC dI cy ad0 s qx qy H locs) : W p l e room_1 s m args below meth c H locs cells slots Q (F0 m 237 ls []) := by
  obtain ⟨ax, ay, X, Y, hx0, hy0, hax, hay, hR, hP, hD, hS⟩ := hp
  refine lv_aload_n C.1 C.2.1 dL_237 rfl (lv_at hl 1 rfl) ?_
  refine l_arg 1 (by decide) C hX hbl hl hi dL_238 dL_239 dL_240 dL_241 dL_242 hS ?_
  refine l_arg 2 (by decide) C hX hbl hl hi dL_243 dL_244 dL_245 dL_246 dL_247 hS ?_
  refine l_arg 3 (by decide) C hX hbl hl hi dL_248 dL_249 dL_250 dL_251 dL_252 hS ?_
  refine l_arg 4 (by decide) C hX hbl hl hi dL_253 dL_254 dL_255 dL_256 dL_257 hS ?_
  refine l_arg 5 (by decide) C hX hbl hl hi dL_258 dL_259 dL_260 dL_261 dL_262 hS ?_
  obtain ⟨v, QX, QY, hcx, hcy, hR2⟩ := (ag_verse hR ((xs (i + 1))) ((xs (i + 2))) ((xs (i + 3))) ((xs (i + 4))) ((xs (i + 5)))).c
  refine l_cx (as := [.int (xs (i + 1)), .int (xs (i + 2)), .int (xs (i + 3)), .int (xs (i + 4)), .int (xs (i + 5))]) C dL_263 iX9_verse vX9_verse (zGm (zm2 122 rfl) rfl) rfl ⟨Nat.le_of_ble_eq_true rfl, Nat.le_of_ble_eq_true rfl⟩ rfl rfl rfl (Nat.le_of_ble_eq_true rfl) hcx hP hD hS hl.1 hx0 hax hcs (fun v2 X2 ax2 H locs hx2 hax2 hv hP hD hS => ?_)
  obtain ⟨rfl, hqx⟩ := hv
  refine lv_aload_n C.1 C.2.1 dL_266 rfl (lv_at hl 2 rfl) ?_
  refine l_arg 1 (by decide) C hX hbl hl hi dL_267 dL_268 dL_269 dL_270 dL_271 hS ?_
  refine l_arg 2 (by decide) C hX hbl hl hi dL_272 dL_273 dL_274 dL_275 dL_276 hS ?_
  refine l_arg 3 (by decide) C hX hbl hl hi dL_277 dL_278 dL_279 dL_280 dL_281 hS ?_
  refine l_arg 4 (by decide) C hX hbl hl hi dL_282 dL_283 dL_284 dL_285 dL_286 hS ?_
  refine l_arg 5 (by decide) C hX hbl hl hi dL_287 dL_288 dL_289 dL_290 dL_291 hS ?_
  refine l_cy (as := [.int (xs (i + 1)), .int (xs (i + 2)), .int (xs (i + 3)), .int (xs (i + 4)), .int (xs (i + 5))]) (ay := ay) (Y := Y) C dL_292 iX10_verse vX10_verse (zGm (zm5 52 rfl) rfl) rfl ⟨Nat.le_of_ble_eq_true rfl, Nat.le_of_ble_eq_true rfl⟩ rfl rfl rfl (Nat.le_of_ble_eq_true rfl) hcy hay hP hD hS hl.1 hy0 hcs (fun v3 Y2 H locs hv hP hD hS => ?_)
  obtain ⟨rfl, hqy⟩ := hv
  exact lv_icmp_eq (tgt := 1567) C.1 C.2.1 dL_295 rfl (fun _ => ih H locs ls ⟨ax2, ay, X2, Y2, hx2, hy0, hax2, hay, hR2 X2 Y2 hqx hqy, hP, hD, hS⟩ hl) (fun q => absurd rfl q)
theorem lc_2 {ad0 : Nat → Nat} (C : zC p s m args meth c mL dC dI cy ad0 (lA s)) (hX : va_X b L xs s s.heap) (hbl : b < s.heap.size) (hi : i + 5 < L ∧ L < 100000) (hcs : cells ≤ room_1.cells ∧ slots ≤ room_1.slots) (hl : lv_has ls 4 [(0, .ref b), (1, .ref qx), (2, .ref qy), (3, .int (nI i))]) (ih : ∀ (H : Heap) (locs : List Loc) (ls : Array Slot), LPw dC dI cy ad0 s qx qy H locs → lv_has ls 4 [(0, .ref b), (1, .ref qx), (2, .ref qy), (3, .int (nI i))] → W p l e room_1 s m args below meth c H locs cells slots Q (F0 m 1567 ls [])) (hp : LPw dC dI cy ad0 s qx qy H locs) : W p l e room_1 s m args below meth c H locs cells slots Q (F0 m 300 ls []) := by
  obtain ⟨ax, ay, X, Y, hx0, hy0, hax, hay, hR, hP, hD, hS⟩ := hp
  refine lv_aload_n C.1 C.2.1 dL_300 rfl (lv_at hl 1 rfl) ?_
  refine l_arg 1 (by decide) C hX hbl hl hi dL_301 dL_302 dL_303 dL_304 dL_305 hS ?_
  refine l_arg 2 (by decide) C hX hbl hl hi dL_306 dL_307 dL_308 dL_309 dL_310 hS ?_
  refine l_arg 3 (by decide) C hX hbl hl hi dL_311 dL_312 dL_313 dL_314 dL_315 hS ?_
  obtain ⟨v, QX, QY, hcx, hcy, hR2⟩ := (ag_one hR ((xs (i + 1))) ((xs (i + 2))) ((xs (i + 3)))).c
  refine l_cx (as := [.int (xs (i + 1)), .int (xs (i + 2)), .int (xs (i + 3))]) C dL_316 iX9_one vX9_one (zGm (zm2 130 rfl) rfl) rfl ⟨Nat.le_of_ble_eq_true rfl, Nat.le_of_ble_eq_true rfl⟩ rfl rfl rfl (Nat.le_of_ble_eq_true rfl) hcx hP hD hS hl.1 hx0 hax hcs (fun v2 X2 ax2 H locs hx2 hax2 hv hP hD hS => ?_)
  obtain ⟨rfl, hqx⟩ := hv
  refine lv_aload_n C.1 C.2.1 dL_319 rfl (lv_at hl 2 rfl) ?_
  refine l_arg 1 (by decide) C hX hbl hl hi dL_320 dL_321 dL_322 dL_323 dL_324 hS ?_
  refine l_arg 2 (by decide) C hX hbl hl hi dL_325 dL_326 dL_327 dL_328 dL_329 hS ?_
  refine l_arg 3 (by decide) C hX hbl hl hi dL_330 dL_331 dL_332 dL_333 dL_334 hS ?_
  refine l_cy (as := [.int (xs (i + 1)), .int (xs (i + 2)), .int (xs (i + 3))]) (ay := ay) (Y := Y) C dL_335 iX10_one vX10_one (zGm (zm5 70 rfl) rfl) rfl ⟨Nat.le_of_ble_eq_true rfl, Nat.le_of_ble_eq_true rfl⟩ rfl rfl rfl (Nat.le_of_ble_eq_true rfl) hcy hay hP hD hS hl.1 hy0 hcs (fun v3 Y2 H locs hv hP hD hS => ?_)
  obtain ⟨rfl, hqy⟩ := hv
  exact lv_icmp_eq (tgt := 1567) C.1 C.2.1 dL_338 rfl (fun _ => ih H locs ls ⟨ax2, ay, X2, Y2, hx2, hy0, hax2, hay, hR2 X2 Y2 hqx hqy, hP, hD, hS⟩ hl) (fun q => absurd rfl q)
theorem lc_3 {ad0 : Nat → Nat} (C : zC p s m args meth c mL dC dI cy ad0 (lA s)) (hX : va_X b L xs s s.heap) (hbl : b < s.heap.size) (hi : i + 5 < L ∧ L < 100000) (hcs : cells ≤ room_1.cells ∧ slots ≤ room_1.slots) (hl : lv_has ls 4 [(0, .ref b), (1, .ref qx), (2, .ref qy), (3, .int (nI i))]) (ih : ∀ (H : Heap) (locs : List Loc) (ls : Array Slot), LPw dC dI cy ad0 s qx qy H locs → lv_has ls 4 [(0, .ref b), (1, .ref qx), (2, .ref qy), (3, .int (nI i))] → W p l e room_1 s m args below meth c H locs cells slots Q (F0 m 1567 ls [])) (hp : LPw dC dI cy ad0 s qx qy H locs) : W p l e room_1 s m args below meth c H locs cells slots Q (F0 m 343 ls []) := by
  obtain ⟨ax, ay, X, Y, hx0, hy0, hax, hay, hR, hP, hD, hS⟩ := hp
  by_cases hz : xs (i + 3) = 0
  · refine lv_aload_n C.1 C.2.1 dL_343 rfl (lv_at hl 1 rfl) ?_
    refine l_arg 1 (by decide) C hX hbl hl hi dL_344 dL_345 dL_346 dL_347 dL_348 hS ?_
    refine l_arg 2 (by decide) C hX hbl hl hi dL_349 dL_350 dL_351 dL_352 dL_353 hS ?_
    refine l_arg 3 (by decide) C hX hbl hl hi dL_354 dL_355 dL_356 dL_357 dL_358 hS ?_
    refine lv_if_eq (tgt := 366) C.1 C.2.1 dL_359 rfl (fun _ => ?_) (fun q => absurd hz q)
    refine lv_iconst (v := 0) C.1 C.2.1 dL_366 rfl ?_
    obtain ⟨v, QX, QY, hcx, hcy, hR2⟩ := (ag_has hR ((xs (i + 1))) ((xs (i + 2))) (0)).c
    refine l_cx (as := [.int (xs (i + 1)), .int (xs (i + 2)), .int 0]) C dL_367 iX9_has vX9_has (zGm (zm2 138 rfl) rfl) rfl ⟨Nat.le_of_ble_eq_true rfl, Nat.le_of_ble_eq_true rfl⟩ rfl rfl rfl (Nat.le_of_ble_eq_true rfl) hcx hP hD hS hl.1 hx0 hax hcs (fun v2 X2 ax2 H locs hx2 hax2 hv hP hD hS => ?_)
    obtain ⟨rfl, hqx⟩ := hv
    refine lv_aload_n C.1 C.2.1 dL_370 rfl (lv_at hl 2 rfl) ?_
    refine l_arg 1 (by decide) C hX hbl hl hi dL_371 dL_372 dL_373 dL_374 dL_375 hS ?_
    refine l_arg 2 (by decide) C hX hbl hl hi dL_376 dL_377 dL_378 dL_379 dL_380 hS ?_
    refine l_arg 3 (by decide) C hX hbl hl hi dL_381 dL_382 dL_383 dL_384 dL_385 hS ?_
    refine lv_if_eq (tgt := 393) C.1 C.2.1 dL_386 rfl (fun _ => ?_) (fun q => absurd hz q)
    refine lv_iconst (v := 0) C.1 C.2.1 dL_393 rfl ?_
    refine l_cy (as := [.int (xs (i + 1)), .int (xs (i + 2)), .int 0]) (ay := ay) (Y := Y) C dL_394 iX10_has vX10_has (zGm (zm5 76 rfl) rfl) rfl ⟨Nat.le_of_ble_eq_true rfl, Nat.le_of_ble_eq_true rfl⟩ rfl rfl rfl (Nat.le_of_ble_eq_true rfl) hcy hay hP hD hS hl.1 hy0 hcs (fun v3 Y2 H locs hv hP hD hS => ?_)
    obtain ⟨rfl, hqy⟩ := hv
    exact lv_icmp_eq (tgt := 1567) C.1 C.2.1 dL_397 rfl (fun _ => ih H locs ls ⟨ax2, ay, X2, Y2, hx2, hy0, hax2, hay, hR2 X2 Y2 hqx hqy, hP, hD, hS⟩ hl) (fun q => absurd rfl q)
  · refine lv_aload_n C.1 C.2.1 dL_343 rfl (lv_at hl 1 rfl) ?_
    refine l_arg 1 (by decide) C hX hbl hl hi dL_344 dL_345 dL_346 dL_347 dL_348 hS ?_
    refine l_arg 2 (by decide) C hX hbl hl hi dL_349 dL_350 dL_351 dL_352 dL_353 hS ?_
    refine l_arg 3 (by decide) C hX hbl hl hi dL_354 dL_355 dL_356 dL_357 dL_358 hS ?_
    refine lv_if_eq (tgt := 366) C.1 C.2.1 dL_359 rfl (fun q => absurd q hz) (fun _ => ?_)
    refine lv_iconst (v := 1) C.1 C.2.1 dL_362 rfl ?_
    refine lv_goto (tgt := 367) C.1 C.2.1 dL_363 rfl ?_
    obtain ⟨v, QX, QY, hcx, hcy, hR2⟩ := (ag_has hR ((xs (i + 1))) ((xs (i + 2))) (1)).c
    refine l_cx (as := [.int (xs (i + 1)), .int (xs (i + 2)), .int 1]) C dL_367 iX9_has vX9_has (zGm (zm2 138 rfl) rfl) rfl ⟨Nat.le_of_ble_eq_true rfl, Nat.le_of_ble_eq_true rfl⟩ rfl rfl rfl (Nat.le_of_ble_eq_true rfl) hcx hP hD hS hl.1 hx0 hax hcs (fun v2 X2 ax2 H locs hx2 hax2 hv hP hD hS => ?_)
    obtain ⟨rfl, hqx⟩ := hv
    refine lv_aload_n C.1 C.2.1 dL_370 rfl (lv_at hl 2 rfl) ?_
    refine l_arg 1 (by decide) C hX hbl hl hi dL_371 dL_372 dL_373 dL_374 dL_375 hS ?_
    refine l_arg 2 (by decide) C hX hbl hl hi dL_376 dL_377 dL_378 dL_379 dL_380 hS ?_
    refine l_arg 3 (by decide) C hX hbl hl hi dL_381 dL_382 dL_383 dL_384 dL_385 hS ?_
    refine lv_if_eq (tgt := 393) C.1 C.2.1 dL_386 rfl (fun q => absurd q hz) (fun _ => ?_)
    refine lv_iconst (v := 1) C.1 C.2.1 dL_389 rfl ?_
    refine lv_goto (tgt := 394) C.1 C.2.1 dL_390 rfl ?_
    refine l_cy (as := [.int (xs (i + 1)), .int (xs (i + 2)), .int 1]) (ay := ay) (Y := Y) C dL_394 iX10_has vX10_has (zGm (zm5 76 rfl) rfl) rfl ⟨Nat.le_of_ble_eq_true rfl, Nat.le_of_ble_eq_true rfl⟩ rfl rfl rfl (Nat.le_of_ble_eq_true rfl) hcy hay hP hD hS hl.1 hy0 hcs (fun v3 Y2 H locs hv hP hD hS => ?_)
    obtain ⟨rfl, hqy⟩ := hv
    exact lv_icmp_eq (tgt := 1567) C.1 C.2.1 dL_397 rfl (fun _ => ih H locs ls ⟨ax2, ay, X2, Y2, hx2, hy0, hax2, hay, hR2 X2 Y2 hqx hqy, hP, hD, hS⟩ hl) (fun q => absurd rfl q)
theorem lc_4 {ad0 : Nat → Nat} (C : zC p s m args meth c mL dC dI cy ad0 (lA s)) (hX : va_X b L xs s s.heap) (hbl : b < s.heap.size) (hi : i + 5 < L ∧ L < 100000) (hcs : cells ≤ room_1.cells ∧ slots ≤ room_1.slots) (hl : lv_has ls 4 [(0, .ref b), (1, .ref qx), (2, .ref qy), (3, .int (nI i))]) (ih : ∀ (H : Heap) (locs : List Loc) (ls : Array Slot), LPw dC dI cy ad0 s qx qy H locs → lv_has ls 4 [(0, .ref b), (1, .ref qx), (2, .ref qy), (3, .int (nI i))] → W p l e room_1 s m args below meth c H locs cells slots Q (F0 m 1567 ls [])) (hp : LPw dC dI cy ad0 s qx qy H locs) : W p l e room_1 s m args below meth c H locs cells slots Q (F0 m 402 ls []) := by
  obtain ⟨ax, ay, X, Y, hx0, hy0, hax, hay, hR, hP, hD, hS⟩ := hp
  refine lv_aload_n C.1 C.2.1 dL_402 rfl (lv_at hl 1 rfl) ?_
  refine l_arg 1 (by decide) C hX hbl hl hi dL_403 dL_404 dL_405 dL_406 dL_407 hS ?_
  obtain ⟨v, QX, QY, hcx, hcy, hR2⟩ := (ag_dies hR ((xs (i + 1)))).c
  refine l_cx (as := [.int (xs (i + 1))]) C dL_408 iX9_dies vX9_dies (zGm (zm2 142 rfl) rfl) rfl ⟨Nat.le_of_ble_eq_true rfl, Nat.le_of_ble_eq_true rfl⟩ rfl rfl rfl (Nat.le_of_ble_eq_true rfl) hcx hP hD hS hl.1 hx0 hax hcs (fun v2 X2 ax2 H locs hx2 hax2 hv hP hD hS => ?_)
  obtain ⟨rfl, hqx⟩ := hv
  refine lv_aload_n C.1 C.2.1 dL_411 rfl (lv_at hl 2 rfl) ?_
  refine l_arg 1 (by decide) C hX hbl hl hi dL_412 dL_413 dL_414 dL_415 dL_416 hS ?_
  refine l_cy (as := [.int (xs (i + 1))]) (ay := ay) (Y := Y) C dL_417 iX10_dies vX10_dies (zGm (zm5 88 rfl) rfl) rfl ⟨Nat.le_of_ble_eq_true rfl, Nat.le_of_ble_eq_true rfl⟩ rfl rfl rfl (Nat.le_of_ble_eq_true rfl) hcy hay hP hD hS hl.1 hy0 hcs (fun v3 Y2 H locs hv hP hD hS => ?_)
  obtain ⟨rfl, hqy⟩ := hv
  exact lv_icmp_eq (tgt := 1567) C.1 C.2.1 dL_420 rfl (fun _ => ih H locs ls ⟨ax2, ay, X2, Y2, hx2, hy0, hax2, hay, hR2 X2 Y2 hqx hqy, hP, hD, hS⟩ hl) (fun q => absurd rfl q)
theorem lc_5 {ad0 : Nat → Nat} (C : zC p s m args meth c mL dC dI cy ad0 (lA s)) (hX : va_X b L xs s s.heap) (hbl : b < s.heap.size) (hi : i + 5 < L ∧ L < 100000) (hcs : cells ≤ room_1.cells ∧ slots ≤ room_1.slots) (hl : lv_has ls 4 [(0, .ref b), (1, .ref qx), (2, .ref qy), (3, .int (nI i))]) (ih : ∀ (H : Heap) (locs : List Loc) (ls : Array Slot), LPw dC dI cy ad0 s qx qy H locs → lv_has ls 4 [(0, .ref b), (1, .ref qx), (2, .ref qy), (3, .int (nI i))] → W p l e room_1 s m args below meth c H locs cells slots Q (F0 m 1567 ls [])) (hp : LPw dC dI cy ad0 s qx qy H locs) : W p l e room_1 s m args below meth c H locs cells slots Q (F0 m 425 ls []) := by
  obtain ⟨ax, ay, X, Y, hx0, hy0, hax, hay, hR, hP, hD, hS⟩ := hp
  refine lv_aload_n C.1 C.2.1 dL_425 rfl (lv_at hl 1 rfl) ?_
  refine l_arg 1 (by decide) C hX hbl hl hi dL_426 dL_427 dL_428 dL_429 dL_430 hS ?_
  refine l_arg 2 (by decide) C hX hbl hl hi dL_431 dL_432 dL_433 dL_434 dL_435 hS ?_
  obtain ⟨v, QX, QY, hcx, hcy, hR2⟩ := (ag_now hR ((xs (i + 1))) ((xs (i + 2)))).c
  refine l_cx (as := [.int (xs (i + 1)), .int (xs (i + 2))]) C dL_436 iX9_now vX9_now (zGm (zm2 156 rfl) rfl) rfl ⟨Nat.le_of_ble_eq_true rfl, Nat.le_of_ble_eq_true rfl⟩ rfl rfl rfl (Nat.le_of_ble_eq_true rfl) hcx hP hD hS hl.1 hx0 hax hcs (fun v2 X2 ax2 H locs hx2 hax2 hv hP hD hS => ?_)
  obtain ⟨rfl, hqx⟩ := hv
  refine lv_aload_n C.1 C.2.1 dL_439 rfl (lv_at hl 2 rfl) ?_
  refine l_arg 1 (by decide) C hX hbl hl hi dL_440 dL_441 dL_442 dL_443 dL_444 hS ?_
  refine l_arg 2 (by decide) C hX hbl hl hi dL_445 dL_446 dL_447 dL_448 dL_449 hS ?_
  refine l_cy (as := [.int (xs (i + 1)), .int (xs (i + 2))]) (ay := ay) (Y := Y) C dL_450 iX10_now vX10_now (zGm (zm5 100 rfl) rfl) rfl ⟨Nat.le_of_ble_eq_true rfl, Nat.le_of_ble_eq_true rfl⟩ rfl rfl rfl (Nat.le_of_ble_eq_true rfl) hcy hay hP hD hS hl.1 hy0 hcs (fun v3 Y2 H locs hv hP hD hS => ?_)
  obtain ⟨rfl, hqy⟩ := hv
  exact lv_icmp_eq (tgt := 1567) C.1 C.2.1 dL_453 rfl (fun _ => ih H locs ls ⟨ax2, ay, X2, Y2, hx2, hy0, hax2, hay, hR2 X2 Y2 hqx hqy, hP, hD, hS⟩ hl) (fun q => absurd rfl q)
theorem lc_6 {ad0 : Nat → Nat} (C : zC p s m args meth c mL dC dI cy ad0 (lA s)) (hX : va_X b L xs s s.heap) (hbl : b < s.heap.size) (hi : i + 5 < L ∧ L < 100000) (hcs : cells ≤ room_1.cells ∧ slots ≤ room_1.slots) (hl : lv_has ls 4 [(0, .ref b), (1, .ref qx), (2, .ref qy), (3, .int (nI i))]) (ih : ∀ (H : Heap) (locs : List Loc) (ls : Array Slot), LPw dC dI cy ad0 s qx qy H locs → lv_has ls 4 [(0, .ref b), (1, .ref qx), (2, .ref qy), (3, .int (nI i))] → W p l e room_1 s m args below meth c H locs cells slots Q (F0 m 1567 ls [])) (hp : LPw dC dI cy ad0 s qx qy H locs) : W p l e room_1 s m args below meth c H locs cells slots Q (F0 m 458 ls []) := by
  obtain ⟨ax, ay, X, Y, hx0, hy0, hax, hay, hR, hP, hD, hS⟩ := hp
  refine lv_aload_n C.1 C.2.1 dL_458 rfl (lv_at hl 1 rfl) ?_
  refine l_arg 1 (by decide) C hX hbl hl hi dL_459 dL_460 dL_461 dL_462 dL_463 hS ?_
  refine l_arg 2 (by decide) C hX hbl hl hi dL_464 dL_465 dL_466 dL_467 dL_468 hS ?_
  obtain ⟨v, QX, QY, hcx, hcy, hR2⟩ := (ag_placeOf hR ((xs (i + 1))) ((xs (i + 2)))).c
  refine l_cx (as := [.int (xs (i + 1)), .int (xs (i + 2))]) C dL_469 iX9_placeOf vX9_placeOf (zGm (zm2 160 rfl) rfl) rfl ⟨Nat.le_of_ble_eq_true rfl, Nat.le_of_ble_eq_true rfl⟩ rfl rfl rfl (Nat.le_of_ble_eq_true rfl) hcx hP hD hS hl.1 hx0 hax hcs (fun v2 X2 ax2 H locs hx2 hax2 hv hP hD hS => ?_)
  obtain ⟨rfl, hqx⟩ := hv
  refine lv_aload_n C.1 C.2.1 dL_472 rfl (lv_at hl 2 rfl) ?_
  refine l_arg 1 (by decide) C hX hbl hl hi dL_473 dL_474 dL_475 dL_476 dL_477 hS ?_
  refine l_arg 2 (by decide) C hX hbl hl hi dL_478 dL_479 dL_480 dL_481 dL_482 hS ?_
  refine l_cy (as := [.int (xs (i + 1)), .int (xs (i + 2))]) (ay := ay) (Y := Y) C dL_483 iX10_placeOf vX10_placeOf (zGm (zm5 104 rfl) rfl) rfl ⟨Nat.le_of_ble_eq_true rfl, Nat.le_of_ble_eq_true rfl⟩ rfl rfl rfl (Nat.le_of_ble_eq_true rfl) hcy hay hP hD hS hl.1 hy0 hcs (fun v3 Y2 H locs hv hP hD hS => ?_)
  obtain ⟨rfl, hqy⟩ := hv
  exact lv_icmp_eq (tgt := 1567) C.1 C.2.1 dL_486 rfl (fun _ => ih H locs ls ⟨ax2, ay, X2, Y2, hx2, hy0, hax2, hay, hR2 X2 Y2 hqx hqy, hP, hD, hS⟩ hl) (fun q => absurd rfl q)
theorem lc_7 {ad0 : Nat → Nat} (C : zC p s m args meth c mL dC dI cy ad0 (lA s)) (hX : va_X b L xs s s.heap) (hbl : b < s.heap.size) (hi : i + 5 < L ∧ L < 100000) (hcs : cells ≤ room_1.cells ∧ slots ≤ room_1.slots) (hl : lv_has ls 4 [(0, .ref b), (1, .ref qx), (2, .ref qy), (3, .int (nI i))]) (ih : ∀ (H : Heap) (locs : List Loc) (ls : Array Slot), LPw dC dI cy ad0 s qx qy H locs → lv_has ls 4 [(0, .ref b), (1, .ref qx), (2, .ref qy), (3, .int (nI i))] → W p l e room_1 s m args below meth c H locs cells slots Q (F0 m 1567 ls [])) (hp : LPw dC dI cy ad0 s qx qy H locs) : W p l e room_1 s m args below meth c H locs cells slots Q (F0 m 491 ls []) := by
  obtain ⟨ax, ay, X, Y, hx0, hy0, hax, hay, hR, hP, hD, hS⟩ := hp
  refine lv_aload_n C.1 C.2.1 dL_491 rfl (lv_at hl 1 rfl) ?_
  refine l_arg 1 (by decide) C hX hbl hl hi dL_492 dL_493 dL_494 dL_495 dL_496 hS ?_
  refine l_arg 2 (by decide) C hX hbl hl hi dL_497 dL_498 dL_499 dL_500 dL_501 hS ?_
  obtain ⟨v, QX, QY, hcx, hcy, hR2⟩ := (ag_verseOf hR ((xs (i + 1))) ((xs (i + 2)))).c
  refine l_cx (as := [.int (xs (i + 1)), .int (xs (i + 2))]) C dL_502 iX9_verseOf vX9_verseOf (zGm (zm2 172 rfl) rfl) rfl ⟨Nat.le_of_ble_eq_true rfl, Nat.le_of_ble_eq_true rfl⟩ rfl rfl rfl (Nat.le_of_ble_eq_true rfl) hcx hP hD hS hl.1 hx0 hax hcs (fun v2 X2 ax2 H locs hx2 hax2 hv hP hD hS => ?_)
  obtain ⟨rfl, hqx⟩ := hv
  refine lv_aload_n C.1 C.2.1 dL_505 rfl (lv_at hl 2 rfl) ?_
  refine l_arg 1 (by decide) C hX hbl hl hi dL_506 dL_507 dL_508 dL_509 dL_510 hS ?_
  refine l_arg 2 (by decide) C hX hbl hl hi dL_511 dL_512 dL_513 dL_514 dL_515 hS ?_
  refine l_cy (as := [.int (xs (i + 1)), .int (xs (i + 2))]) (ay := ay) (Y := Y) C dL_516 iX10_verseOf vX10_verseOf (zGm (zm5 116 rfl) rfl) rfl ⟨Nat.le_of_ble_eq_true rfl, Nat.le_of_ble_eq_true rfl⟩ rfl rfl rfl (Nat.le_of_ble_eq_true rfl) hcy hay hP hD hS hl.1 hy0 hcs (fun v3 Y2 H locs hv hP hD hS => ?_)
  obtain ⟨rfl, hqy⟩ := hv
  exact lv_icmp_eq (tgt := 1567) C.1 C.2.1 dL_519 rfl (fun _ => ih H locs ls ⟨ax2, ay, X2, Y2, hx2, hy0, hax2, hay, hR2 X2 Y2 hqx hqy, hP, hD, hS⟩ hl) (fun q => absurd rfl q)
theorem lc_8 {ad0 : Nat → Nat} (C : zC p s m args meth c mL dC dI cy ad0 (lA s)) (hX : va_X b L xs s s.heap) (hbl : b < s.heap.size) (hi : i + 5 < L ∧ L < 100000) (hcs : cells ≤ room_1.cells ∧ slots ≤ room_1.slots) (hl : lv_has ls 4 [(0, .ref b), (1, .ref qx), (2, .ref qy), (3, .int (nI i))]) (ih : ∀ (H : Heap) (locs : List Loc) (ls : Array Slot), LPw dC dI cy ad0 s qx qy H locs → lv_has ls 4 [(0, .ref b), (1, .ref qx), (2, .ref qy), (3, .int (nI i))] → W p l e room_1 s m args below meth c H locs cells slots Q (F0 m 1567 ls [])) (hp : LPw dC dI cy ad0 s qx qy H locs) : W p l e room_1 s m args below meth c H locs cells slots Q (F0 m 524 ls []) := by
  obtain ⟨ax, ay, X, Y, hx0, hy0, hax, hay, hR, hP, hD, hS⟩ := hp
  refine lv_aload_n C.1 C.2.1 dL_524 rfl (lv_at hl 1 rfl) ?_
  refine l_arg 1 (by decide) C hX hbl hl hi dL_525 dL_526 dL_527 dL_528 dL_529 hS ?_
  refine l_arg 2 (by decide) C hX hbl hl hi dL_530 dL_531 dL_532 dL_533 dL_534 hS ?_
  obtain ⟨v, QX, QY, hcx, hcy, hR2⟩ := (ag_oneOf hR ((xs (i + 1))) ((xs (i + 2)))).c
  refine l_cx (as := [.int (xs (i + 1)), .int (xs (i + 2))]) C dL_535 iX9_oneOf vX9_oneOf (zGm (zm2 180 rfl) rfl) rfl ⟨Nat.le_of_ble_eq_true rfl, Nat.le_of_ble_eq_true rfl⟩ rfl rfl rfl (Nat.le_of_ble_eq_true rfl) hcx hP hD hS hl.1 hx0 hax hcs (fun v2 X2 ax2 H locs hx2 hax2 hv hP hD hS => ?_)
  obtain ⟨rfl, hqx⟩ := hv
  refine lv_aload_n C.1 C.2.1 dL_538 rfl (lv_at hl 2 rfl) ?_
  refine l_arg 1 (by decide) C hX hbl hl hi dL_539 dL_540 dL_541 dL_542 dL_543 hS ?_
  refine l_arg 2 (by decide) C hX hbl hl hi dL_544 dL_545 dL_546 dL_547 dL_548 hS ?_
  refine l_cy (as := [.int (xs (i + 1)), .int (xs (i + 2))]) (ay := ay) (Y := Y) C dL_549 iX10_oneOf vX10_oneOf (zGm (zm5 121 rfl) rfl) rfl ⟨Nat.le_of_ble_eq_true rfl, Nat.le_of_ble_eq_true rfl⟩ rfl rfl rfl (Nat.le_of_ble_eq_true rfl) hcy hay hP hD hS hl.1 hy0 hcs (fun v3 Y2 H locs hv hP hD hS => ?_)
  obtain ⟨rfl, hqy⟩ := hv
  exact lv_icmp_eq (tgt := 1567) C.1 C.2.1 dL_552 rfl (fun _ => ih H locs ls ⟨ax2, ay, X2, Y2, hx2, hy0, hax2, hay, hR2 X2 Y2 hqx hqy, hP, hD, hS⟩ hl) (fun q => absurd rfl q)
theorem lc_9 {ad0 : Nat → Nat} (C : zC p s m args meth c mL dC dI cy ad0 (lA s)) (hX : va_X b L xs s s.heap) (hbl : b < s.heap.size) (hi : i + 5 < L ∧ L < 100000) (hcs : cells ≤ room_1.cells ∧ slots ≤ room_1.slots) (hl : lv_has ls 4 [(0, .ref b), (1, .ref qx), (2, .ref qy), (3, .int (nI i))]) (ih : ∀ (H : Heap) (locs : List Loc) (ls : Array Slot), LPw dC dI cy ad0 s qx qy H locs → lv_has ls 4 [(0, .ref b), (1, .ref qx), (2, .ref qy), (3, .int (nI i))] → W p l e room_1 s m args below meth c H locs cells slots Q (F0 m 1567 ls [])) (hp : LPw dC dI cy ad0 s qx qy H locs) : W p l e room_1 s m args below meth c H locs cells slots Q (F0 m 557 ls []) := by
  obtain ⟨ax, ay, X, Y, hx0, hy0, hax, hay, hR, hP, hD, hS⟩ := hp
  refine lv_aload_n C.1 C.2.1 dL_557 rfl (lv_at hl 1 rfl) ?_
  refine l_arg 1 (by decide) C hX hbl hl hi dL_558 dL_559 dL_560 dL_561 dL_562 hS ?_
  refine lv_i2l C.1 C.2.1 dL_563 rfl ?_
  refine lv_bipush (v := 32) C.1 C.2.1 dL_564 rfl ?_
  refine lv_lshl C.1 C.2.1 dL_566 rfl ?_
  refine l_arg 2 (by decide) C hX hbl hl hi dL_567 dL_568 dL_569 dL_570 dL_571 hS ?_
  refine lv_i2l C.1 C.2.1 dL_572 rfl ?_
  refine lv_ldc2 C.1 C.2.1 (own := RL) (v := 4294967295) C.2.2.2.2.1 (C.2.2.2.2.2.1 _ (zGm (zm6 142 rfl) rfl)) dL_573 ?_
  refine lv_land C.1 C.2.1 dL_576 ?_
  refine lv_lor C.1 C.2.1 dL_577 ?_
  refine lv_topl (fun z0 ez0 => ?_)
  obtain ⟨v, QX, QY, hcx, hcy, hR2⟩ := (ag_feed hR (z0)).c
  refine l_cx (as := [.long z0]) C dL_578 iX9_feed vX9_feed (zGm (zm2 188 rfl) rfl) rfl ⟨Nat.le_of_ble_eq_true rfl, Nat.le_of_ble_eq_true rfl⟩ rfl rfl rfl (Nat.le_of_ble_eq_true rfl) hcx hP hD hS hl.1 hx0 hax hcs (fun v2 X2 ax2 H locs hx2 hax2 hv hP hD hS => ?_)
  obtain ⟨rfl, hqx⟩ := hv
  refine lv_aload_n C.1 C.2.1 dL_581 rfl (lv_at hl 2 rfl) ?_
  refine l_arg 1 (by decide) C hX hbl hl hi dL_582 dL_583 dL_584 dL_585 dL_586 hS ?_
  refine lv_i2l C.1 C.2.1 dL_587 rfl ?_
  refine lv_bipush (v := 32) C.1 C.2.1 dL_588 rfl ?_
  refine lv_lshl C.1 C.2.1 dL_590 rfl ?_
  refine l_arg 2 (by decide) C hX hbl hl hi dL_591 dL_592 dL_593 dL_594 dL_595 hS ?_
  refine lv_i2l C.1 C.2.1 dL_596 rfl ?_
  refine lv_ldc2 C.1 C.2.1 (own := RL) (v := 4294967295) C.2.2.2.2.1 (C.2.2.2.2.2.1 _ (zGm (zm6 142 rfl) rfl)) dL_597 ?_
  refine lv_land C.1 C.2.1 dL_600 ?_
  refine lv_lor C.1 C.2.1 dL_601 ?_
  refine lv_topl (fun z1 ez1 => ?_)
  obtain rfl : z1 = z0 := ez1.trans ez0.symm
  refine l_cy (as := [.long z1]) (ay := ay) (Y := Y) C dL_602 iX10_feed vX10_feed (zGm (zm5 129 rfl) rfl) rfl ⟨Nat.le_of_ble_eq_true rfl, Nat.le_of_ble_eq_true rfl⟩ rfl rfl rfl (Nat.le_of_ble_eq_true rfl) hcy hay hP hD hS hl.1 hy0 hcs (fun v3 Y2 H locs hv hP hD hS => ?_)
  obtain ⟨rfl, hqy⟩ := hv
  exact lv_icmp_eq (tgt := 1567) C.1 C.2.1 dL_605 rfl (fun _ => ih H locs ls ⟨ax2, ay, X2, Y2, hx2, hy0, hax2, hay, hR2 X2 Y2 hqx hqy, hP, hD, hS⟩ hl) (fun q => absurd rfl q)
theorem lc_10 {ad0 : Nat → Nat} (C : zC p s m args meth c mL dC dI cy ad0 (lA s)) (hX : va_X b L xs s s.heap) (hbl : b < s.heap.size) (hi : i + 5 < L ∧ L < 100000) (hcs : cells ≤ room_1.cells ∧ slots ≤ room_1.slots) (hl : lv_has ls 4 [(0, .ref b), (1, .ref qx), (2, .ref qy), (3, .int (nI i))]) (ih : ∀ (H : Heap) (locs : List Loc) (ls : Array Slot), LPw dC dI cy ad0 s qx qy H locs → lv_has ls 4 [(0, .ref b), (1, .ref qx), (2, .ref qy), (3, .int (nI i))] → W p l e room_1 s m args below meth c H locs cells slots Q (F0 m 1567 ls [])) (hp : LPw dC dI cy ad0 s qx qy H locs) : W p l e room_1 s m args below meth c H locs cells slots Q (F0 m 610 ls []) := by
  obtain ⟨ax, ay, X, Y, hx0, hy0, hax, hay, hR, hP, hD, hS⟩ := hp
  refine lv_aload_n C.1 C.2.1 dL_610 rfl (lv_at hl 1 rfl) ?_
  refine l_arg 1 (by decide) C hX hbl hl hi dL_611 dL_612 dL_613 dL_614 dL_615 hS ?_
  obtain ⟨v, QX, QY, hcx, hcy, hR2⟩ := (ag_end hR ((xs (i + 1)))).c
  refine l_cx (as := [.int (xs (i + 1))]) C dL_616 iX9_end vX9_end (zGm (zm2 196 rfl) rfl) rfl ⟨Nat.le_of_ble_eq_true rfl, Nat.le_of_ble_eq_true rfl⟩ rfl rfl rfl (Nat.le_of_ble_eq_true rfl) hcx hP hD hS hl.1 hx0 hax hcs (fun v2 X2 ax2 H locs hx2 hax2 hv hP hD hS => ?_)
  obtain ⟨rfl, hqx⟩ := hv
  refine lv_aload_n C.1 C.2.1 dL_619 rfl (lv_at hl 2 rfl) ?_
  refine l_arg 1 (by decide) C hX hbl hl hi dL_620 dL_621 dL_622 dL_623 dL_624 hS ?_
  refine l_cy (as := [.int (xs (i + 1))]) (ay := ay) (Y := Y) C dL_625 iX10_end vX10_end (zGm (zm5 134 rfl) rfl) rfl ⟨Nat.le_of_ble_eq_true rfl, Nat.le_of_ble_eq_true rfl⟩ rfl rfl rfl (Nat.le_of_ble_eq_true rfl) hcy hay hP hD hS hl.1 hy0 hcs (fun v3 Y2 H locs hv hP hD hS => ?_)
  obtain ⟨rfl, hqy⟩ := hv
  exact lv_icmp_eq (tgt := 1567) C.1 C.2.1 dL_628 rfl (fun _ => ih H locs ls ⟨ax2, ay, X2, Y2, hx2, hy0, hax2, hay, hR2 X2 Y2 hqx hqy, hP, hD, hS⟩ hl) (fun q => absurd rfl q)
theorem lc_11 {ad0 : Nat → Nat} (C : zC p s m args meth c mL dC dI cy ad0 (lA s)) (hX : va_X b L xs s s.heap) (hbl : b < s.heap.size) (hi : i + 5 < L ∧ L < 100000) (hcs : cells ≤ room_1.cells ∧ slots ≤ room_1.slots) (hl : lv_has ls 4 [(0, .ref b), (1, .ref qx), (2, .ref qy), (3, .int (nI i))]) (ih : ∀ (H : Heap) (locs : List Loc) (ls : Array Slot), LPw dC dI cy ad0 s qx qy H locs → lv_has ls 4 [(0, .ref b), (1, .ref qx), (2, .ref qy), (3, .int (nI i))] → W p l e room_1 s m args below meth c H locs cells slots Q (F0 m 1567 ls [])) (hp : LPw dC dI cy ad0 s qx qy H locs) : W p l e room_1 s m args below meth c H locs cells slots Q (F0 m 633 ls []) := by
  obtain ⟨ax, ay, X, Y, hx0, hy0, hax, hay, hR, hP, hD, hS⟩ := hp
  refine lv_aload_n C.1 C.2.1 dL_633 rfl (lv_at hl 1 rfl) ?_
  obtain ⟨v, QX, QY, hcx, hcy, hR2⟩ := (ag_rules hR)
  refine l_cx (as := []) C dL_634 iX9_rules vX9_rules (zGm (zm2 204 rfl) rfl) rfl ⟨Nat.le_of_ble_eq_true rfl, Nat.le_of_ble_eq_true rfl⟩ rfl rfl rfl (Nat.le_of_ble_eq_true rfl) hcx hP hD hS hl.1 hx0 hax hcs (fun v2 X2 ax2 H locs hx2 hax2 hv hP hD hS => ?_)
  obtain ⟨rfl, hqx⟩ := hv
  refine lv_aload_n C.1 C.2.1 dL_637 rfl (lv_at hl 2 rfl) ?_
  refine l_cy (as := []) (ay := ay) (Y := Y) C dL_638 iX10_rules vX10_rules (zGm (zm5 138 rfl) rfl) rfl ⟨Nat.le_of_ble_eq_true rfl, Nat.le_of_ble_eq_true rfl⟩ rfl rfl rfl (Nat.le_of_ble_eq_true rfl) hcy hay hP hD hS hl.1 hy0 hcs (fun v3 Y2 H locs hv hP hD hS => ?_)
  obtain ⟨rfl, hqy⟩ := hv
  exact lv_icmp_eq (tgt := 1567) C.1 C.2.1 dL_641 rfl (fun _ => ih H locs ls ⟨ax2, ay, X2, Y2, hx2, hy0, hax2, hay, hR2 X2 Y2 hqx hqy, hP, hD, hS⟩ hl) (fun q => absurd rfl q)
theorem lc_12 {ad0 : Nat → Nat} (C : zC p s m args meth c mL dC dI cy ad0 (lA s)) (hX : va_X b L xs s s.heap) (hbl : b < s.heap.size) (hi : i + 5 < L ∧ L < 100000) (hcs : cells ≤ room_1.cells ∧ slots ≤ room_1.slots) (hl : lv_has ls 4 [(0, .ref b), (1, .ref qx), (2, .ref qy), (3, .int (nI i))]) (ih : ∀ (H : Heap) (locs : List Loc) (ls : Array Slot), LPw dC dI cy ad0 s qx qy H locs → lv_has ls 4 [(0, .ref b), (1, .ref qx), (2, .ref qy), (3, .int (nI i))] → W p l e room_1 s m args below meth c H locs cells slots Q (F0 m 1567 ls [])) (hp : LPw dC dI cy ad0 s qx qy H locs) : W p l e room_1 s m args below meth c H locs cells slots Q (F0 m 646 ls []) := by
  obtain ⟨ax, ay, X, Y, hx0, hy0, hax, hay, hR, hP, hD, hS⟩ := hp
  refine lv_aload_n C.1 C.2.1 dL_646 rfl (lv_at hl 1 rfl) ?_
  obtain ⟨v, QX, QY, hcx, hcy, hR2⟩ := (ag_fault hR ).c
  refine l_cx (as := []) C dL_647 iX9_fault vX9_fault (zGm (zm3 87 rfl) rfl) rfl ⟨Nat.le_of_ble_eq_true rfl, Nat.le_of_ble_eq_true rfl⟩ rfl rfl rfl (Nat.le_of_ble_eq_true rfl) hcx hP hD hS hl.1 hx0 hax hcs (fun v2 X2 ax2 H locs hx2 hax2 hv hP hD hS => ?_)
  obtain ⟨rfl, hqx⟩ := hv
  refine lv_aload_n C.1 C.2.1 dL_650 rfl (lv_at hl 2 rfl) ?_
  refine l_cy (as := []) (ay := ay) (Y := Y) C dL_651 iX10_fault vX10_fault (zGm (zm5 190 rfl) rfl) rfl ⟨Nat.le_of_ble_eq_true rfl, Nat.le_of_ble_eq_true rfl⟩ rfl rfl rfl (Nat.le_of_ble_eq_true rfl) hcy hay hP hD hS hl.1 hy0 hcs (fun v3 Y2 H locs hv hP hD hS => ?_)
  obtain ⟨rfl, hqy⟩ := hv
  exact lv_icmp_eq (tgt := 1567) C.1 C.2.1 dL_654 rfl (fun _ => ih H locs ls ⟨ax2, ay, X2, Y2, hx2, hy0, hax2, hay, hR2 X2 Y2 hqx hqy, hP, hD, hS⟩ hl) (fun q => absurd rfl q)
theorem lc_13 {ad0 : Nat → Nat} (C : zC p s m args meth c mL dC dI cy ad0 (lA s)) (hX : va_X b L xs s s.heap) (hbl : b < s.heap.size) (hi : i + 5 < L ∧ L < 100000) (hcs : cells ≤ room_1.cells ∧ slots ≤ room_1.slots) (hl : lv_has ls 4 [(0, .ref b), (1, .ref qx), (2, .ref qy), (3, .int (nI i))]) (ih : ∀ (H : Heap) (locs : List Loc) (ls : Array Slot), LPw dC dI cy ad0 s qx qy H locs → lv_has ls 4 [(0, .ref b), (1, .ref qx), (2, .ref qy), (3, .int (nI i))] → W p l e room_1 s m args below meth c H locs cells slots Q (F0 m 1567 ls [])) (hp : LPw dC dI cy ad0 s qx qy H locs) : W p l e room_1 s m args below meth c H locs cells slots Q (F0 m 659 ls []) := by
  obtain ⟨ax, ay, X, Y, hx0, hy0, hax, hay, hR, hP, hD, hS⟩ := hp
  refine lv_aload_n C.1 C.2.1 dL_659 rfl (lv_at hl 1 rfl) ?_
  refine l_arg 1 (by decide) C hX hbl hl hi dL_660 dL_661 dL_662 dL_663 dL_664 hS ?_
  obtain ⟨v, QX, QY, hcx, hcy, hR2⟩ := (ag_rule hR ((xs (i + 1)))).c
  refine l_cx (as := [.int (xs (i + 1))]) C dL_665 iX9_rule vX9_rule (zGm (zm3 91 rfl) rfl) rfl ⟨Nat.le_of_ble_eq_true rfl, Nat.le_of_ble_eq_true rfl⟩ rfl rfl rfl (Nat.le_of_ble_eq_true rfl) hcx hP hD hS hl.1 hx0 hax hcs (fun v2 X2 ax2 H locs hx2 hax2 hv hP hD hS => ?_)
  obtain ⟨rfl, hqx⟩ := hv
  refine lv_aload_n C.1 C.2.1 dL_668 rfl (lv_at hl 2 rfl) ?_
  refine l_arg 1 (by decide) C hX hbl hl hi dL_669 dL_670 dL_671 dL_672 dL_673 hS ?_
  refine l_cy (as := [.int (xs (i + 1))]) (ay := ay) (Y := Y) C dL_674 iX10_rule vX10_rule (zGm (zm5 194 rfl) rfl) rfl ⟨Nat.le_of_ble_eq_true rfl, Nat.le_of_ble_eq_true rfl⟩ rfl rfl rfl (Nat.le_of_ble_eq_true rfl) hcy hay hP hD hS hl.1 hy0 hcs (fun v3 Y2 H locs hv hP hD hS => ?_)
  obtain ⟨rfl, hqy⟩ := hv
  exact lv_icmp_eq (tgt := 1567) C.1 C.2.1 dL_677 rfl (fun _ => ih H locs ls ⟨ax2, ay, X2, Y2, hx2, hy0, hax2, hay, hR2 X2 Y2 hqx hqy, hP, hD, hS⟩ hl) (fun q => absurd rfl q)
theorem lc_14 {ad0 : Nat → Nat} (C : zC p s m args meth c mL dC dI cy ad0 (lA s)) (hX : va_X b L xs s s.heap) (hbl : b < s.heap.size) (hi : i + 5 < L ∧ L < 100000) (hcs : cells ≤ room_1.cells ∧ slots ≤ room_1.slots) (hl : lv_has ls 4 [(0, .ref b), (1, .ref qx), (2, .ref qy), (3, .int (nI i))]) (ih : ∀ (H : Heap) (locs : List Loc) (ls : Array Slot), LPw dC dI cy ad0 s qx qy H locs → lv_has ls 4 [(0, .ref b), (1, .ref qx), (2, .ref qy), (3, .int (nI i))] → W p l e room_1 s m args below meth c H locs cells slots Q (F0 m 1567 ls [])) (hp : LPw dC dI cy ad0 s qx qy H locs) : W p l e room_1 s m args below meth c H locs cells slots Q (F0 m 682 ls []) := by
  obtain ⟨ax, ay, X, Y, hx0, hy0, hax, hay, hR, hP, hD, hS⟩ := hp
  refine lv_aload_n C.1 C.2.1 dL_682 rfl (lv_at hl 1 rfl) ?_
  refine l_arg 1 (by decide) C hX hbl hl hi dL_683 dL_684 dL_685 dL_686 dL_687 hS ?_
  refine l_arg 2 (by decide) C hX hbl hl hi dL_688 dL_689 dL_690 dL_691 dL_692 hS ?_
  obtain ⟨v, QX, QY, hcx, hcy, hR2⟩ := (ag_may hR ((xs (i + 1))) ((xs (i + 2)))).c
  refine l_cx (as := [.int (xs (i + 1)), .int (xs (i + 2))]) C dL_693 iX9_may vX9_may (zGm (zm3 95 rfl) rfl) rfl ⟨Nat.le_of_ble_eq_true rfl, Nat.le_of_ble_eq_true rfl⟩ rfl rfl rfl (Nat.le_of_ble_eq_true rfl) hcx hP hD hS hl.1 hx0 hax hcs (fun v2 X2 ax2 H locs hx2 hax2 hv hP hD hS => ?_)
  obtain ⟨rfl, hqx⟩ := hv
  refine lv_aload_n C.1 C.2.1 dL_696 rfl (lv_at hl 2 rfl) ?_
  refine l_arg 1 (by decide) C hX hbl hl hi dL_697 dL_698 dL_699 dL_700 dL_701 hS ?_
  refine l_arg 2 (by decide) C hX hbl hl hi dL_702 dL_703 dL_704 dL_705 dL_706 hS ?_
  refine l_cy (as := [.int (xs (i + 1)), .int (xs (i + 2))]) (ay := ay) (Y := Y) C dL_707 iX10_may vX10_may (zGm (zm5 203 rfl) rfl) rfl ⟨Nat.le_of_ble_eq_true rfl, Nat.le_of_ble_eq_true rfl⟩ rfl rfl rfl (Nat.le_of_ble_eq_true rfl) hcy hay hP hD hS hl.1 hy0 hcs (fun v3 Y2 H locs hv hP hD hS => ?_)
  obtain ⟨rfl, hqy⟩ := hv
  exact lv_icmp_eq (tgt := 1567) C.1 C.2.1 dL_710 rfl (fun _ => ih H locs ls ⟨ax2, ay, X2, Y2, hx2, hy0, hax2, hay, hR2 X2 Y2 hqx hqy, hP, hD, hS⟩ hl) (fun q => absurd rfl q)
theorem lc_15 {ad0 : Nat → Nat} (C : zC p s m args meth c mL dC dI cy ad0 (lA s)) (hX : va_X b L xs s s.heap) (hbl : b < s.heap.size) (hi : i + 5 < L ∧ L < 100000) (hcs : cells ≤ room_1.cells ∧ slots ≤ room_1.slots) (hl : lv_has ls 4 [(0, .ref b), (1, .ref qx), (2, .ref qy), (3, .int (nI i))]) (ih : ∀ (H : Heap) (locs : List Loc) (ls : Array Slot), LPw dC dI cy ad0 s qx qy H locs → lv_has ls 4 [(0, .ref b), (1, .ref qx), (2, .ref qy), (3, .int (nI i))] → W p l e room_1 s m args below meth c H locs cells slots Q (F0 m 1567 ls [])) (hp : LPw dC dI cy ad0 s qx qy H locs) : W p l e room_1 s m args below meth c H locs cells slots Q (F0 m 715 ls []) := by
  obtain ⟨ax, ay, X, Y, hx0, hy0, hax, hay, hR, hP, hD, hS⟩ := hp
  refine lv_aload_n C.1 C.2.1 dL_715 rfl (lv_at hl 1 rfl) ?_
  refine l_arg 1 (by decide) C hX hbl hl hi dL_716 dL_717 dL_718 dL_719 dL_720 hS ?_
  refine l_arg 2 (by decide) C hX hbl hl hi dL_721 dL_722 dL_723 dL_724 dL_725 hS ?_
  refine l_arg 3 (by decide) C hX hbl hl hi dL_726 dL_727 dL_728 dL_729 dL_730 hS ?_
  obtain ⟨v, QX, QY, hcx, hcy, hR2⟩ := (ag_asks hR ((xs (i + 1))) ((xs (i + 2))) ((xs (i + 3)))).c
  refine l_cx (as := [.int (xs (i + 1)), .int (xs (i + 2)), .int (xs (i + 3))]) C dL_731 iX9_asks vX9_asks (zGm (zm3 111 rfl) rfl) rfl ⟨Nat.le_of_ble_eq_true rfl, Nat.le_of_ble_eq_true rfl⟩ rfl rfl rfl (Nat.le_of_ble_eq_true rfl) hcx hP hD hS hl.1 hx0 hax hcs (fun v2 X2 ax2 H locs hx2 hax2 hv hP hD hS => ?_)
  obtain ⟨rfl, hqx⟩ := hv
  refine lv_aload_n C.1 C.2.1 dL_734 rfl (lv_at hl 2 rfl) ?_
  refine l_arg 1 (by decide) C hX hbl hl hi dL_735 dL_736 dL_737 dL_738 dL_739 hS ?_
  refine l_arg 2 (by decide) C hX hbl hl hi dL_740 dL_741 dL_742 dL_743 dL_744 hS ?_
  refine l_arg 3 (by decide) C hX hbl hl hi dL_745 dL_746 dL_747 dL_748 dL_749 hS ?_
  refine l_cy (as := [.int (xs (i + 1)), .int (xs (i + 2)), .int (xs (i + 3))]) (ay := ay) (Y := Y) C dL_750 iX10_asks vX10_asks (zGm (zm5 215 rfl) rfl) rfl ⟨Nat.le_of_ble_eq_true rfl, Nat.le_of_ble_eq_true rfl⟩ rfl rfl rfl (Nat.le_of_ble_eq_true rfl) hcy hay hP hD hS hl.1 hy0 hcs (fun v3 Y2 H locs hv hP hD hS => ?_)
  obtain ⟨rfl, hqy⟩ := hv
  exact lv_icmp_eq (tgt := 1567) C.1 C.2.1 dL_753 rfl (fun _ => ih H locs ls ⟨ax2, ay, X2, Y2, hx2, hy0, hax2, hay, hR2 X2 Y2 hqx hqy, hP, hD, hS⟩ hl) (fun q => absurd rfl q)
theorem lc_16 {ad0 : Nat → Nat} (C : zC p s m args meth c mL dC dI cy ad0 (lA s)) (hX : va_X b L xs s s.heap) (hbl : b < s.heap.size) (hi : i + 5 < L ∧ L < 100000) (hcs : cells ≤ room_1.cells ∧ slots ≤ room_1.slots) (hl : lv_has ls 4 [(0, .ref b), (1, .ref qx), (2, .ref qy), (3, .int (nI i))]) (ih : ∀ (H : Heap) (locs : List Loc) (ls : Array Slot), LPw dC dI cy ad0 s qx qy H locs → lv_has ls 4 [(0, .ref b), (1, .ref qx), (2, .ref qy), (3, .int (nI i))] → W p l e room_1 s m args below meth c H locs cells slots Q (F0 m 1567 ls [])) (hp : LPw dC dI cy ad0 s qx qy H locs) : W p l e room_1 s m args below meth c H locs cells slots Q (F0 m 758 ls []) := by
  obtain ⟨ax, ay, X, Y, hx0, hy0, hax, hay, hR, hP, hD, hS⟩ := hp
  refine lv_aload_n C.1 C.2.1 dL_758 rfl (lv_at hl 1 rfl) ?_
  refine l_arg 1 (by decide) C hX hbl hl hi dL_759 dL_760 dL_761 dL_762 dL_763 hS ?_
  obtain ⟨v, QX, QY, hcx, hcy, hR2⟩ := (ag_led hR ((xs (i + 1)))).c
  refine l_cx (as := [.int (xs (i + 1))]) C dL_764 iX9_led vX9_led (zGm (zm3 123 rfl) rfl) rfl ⟨Nat.le_of_ble_eq_true rfl, Nat.le_of_ble_eq_true rfl⟩ rfl rfl rfl (Nat.le_of_ble_eq_true rfl) hcx hP hD hS hl.1 hx0 hax hcs (fun v2 X2 ax2 H locs hx2 hax2 hv hP hD hS => ?_)
  obtain ⟨rfl, hqx⟩ := hv
  refine lv_aload_n C.1 C.2.1 dL_767 rfl (lv_at hl 2 rfl) ?_
  refine l_arg 1 (by decide) C hX hbl hl hi dL_768 dL_769 dL_770 dL_771 dL_772 hS ?_
  refine l_cy (as := [.int (xs (i + 1))]) (ay := ay) (Y := Y) C dL_773 iX10_led vX10_led (zGm (zm5 219 rfl) rfl) rfl ⟨Nat.le_of_ble_eq_true rfl, Nat.le_of_ble_eq_true rfl⟩ rfl rfl rfl (Nat.le_of_ble_eq_true rfl) hcy hay hP hD hS hl.1 hy0 hcs (fun v3 Y2 H locs hv hP hD hS => ?_)
  obtain ⟨rfl, hqy⟩ := hv
  exact lv_icmp_eq (tgt := 1567) C.1 C.2.1 dL_776 rfl (fun _ => ih H locs ls ⟨ax2, ay, X2, Y2, hx2, hy0, hax2, hay, hR2 X2 Y2 hqx hqy, hP, hD, hS⟩ hl) (fun q => absurd rfl q)
theorem lc_17 {ad0 : Nat → Nat} (C : zC p s m args meth c mL dC dI cy ad0 (lA s)) (hX : va_X b L xs s s.heap) (hbl : b < s.heap.size) (hi : i + 5 < L ∧ L < 100000) (hcs : cells ≤ room_1.cells ∧ slots ≤ room_1.slots) (hl : lv_has ls 4 [(0, .ref b), (1, .ref qx), (2, .ref qy), (3, .int (nI i))]) (ih : ∀ (H : Heap) (locs : List Loc) (ls : Array Slot), LPw dC dI cy ad0 s qx qy H locs → lv_has ls 4 [(0, .ref b), (1, .ref qx), (2, .ref qy), (3, .int (nI i))] → W p l e room_1 s m args below meth c H locs cells slots Q (F0 m 1567 ls [])) (hp : LPw dC dI cy ad0 s qx qy H locs) : W p l e room_1 s m args below meth c H locs cells slots Q (F0 m 781 ls []) := by
  obtain ⟨ax, ay, X, Y, hx0, hy0, hax, hay, hR, hP, hD, hS⟩ := hp
  refine lv_aload_n C.1 C.2.1 dL_781 rfl (lv_at hl 1 rfl) ?_
  refine l_arg 1 (by decide) C hX hbl hl hi dL_782 dL_783 dL_784 dL_785 dL_786 hS ?_
  obtain ⟨v, QX, QY, hcx, hcy, hR2⟩ := (ag_need hR ((xs (i + 1)))).c
  refine l_cx (as := [.int (xs (i + 1))]) C dL_787 iX9_need vX9_need (zGm (zm3 147 rfl) rfl) rfl ⟨Nat.le_of_ble_eq_true rfl, Nat.le_of_ble_eq_true rfl⟩ rfl rfl rfl (Nat.le_of_ble_eq_true rfl) hcx hP hD hS hl.1 hx0 hax hcs (fun v2 X2 ax2 H locs hx2 hax2 hv hP hD hS => ?_)
  obtain ⟨rfl, hqx⟩ := hv
  refine lv_aload_n C.1 C.2.1 dL_790 rfl (lv_at hl 2 rfl) ?_
  refine l_arg 1 (by decide) C hX hbl hl hi dL_791 dL_792 dL_793 dL_794 dL_795 hS ?_
  refine l_cy (as := [.int (xs (i + 1))]) (ay := ay) (Y := Y) C dL_796 iX10_need vX10_need (zGm (zm5 235 rfl) rfl) rfl ⟨Nat.le_of_ble_eq_true rfl, Nat.le_of_ble_eq_true rfl⟩ rfl rfl rfl (Nat.le_of_ble_eq_true rfl) hcy hay hP hD hS hl.1 hy0 hcs (fun v3 Y2 H locs hv hP hD hS => ?_)
  obtain ⟨rfl, hqy⟩ := hv
  exact lv_icmp_eq (tgt := 1567) C.1 C.2.1 dL_799 rfl (fun _ => ih H locs ls ⟨ax2, ay, X2, Y2, hx2, hy0, hax2, hay, hR2 X2 Y2 hqx hqy, hP, hD, hS⟩ hl) (fun q => absurd rfl q)
theorem lc_18 {ad0 : Nat → Nat} (C : zC p s m args meth c mL dC dI cy ad0 (lA s)) (hX : va_X b L xs s s.heap) (hbl : b < s.heap.size) (hi : i + 5 < L ∧ L < 100000) (hcs : cells ≤ room_1.cells ∧ slots ≤ room_1.slots) (hl : lv_has ls 4 [(0, .ref b), (1, .ref qx), (2, .ref qy), (3, .int (nI i))]) (ih : ∀ (H : Heap) (locs : List Loc) (ls : Array Slot), LPw dC dI cy ad0 s qx qy H locs → lv_has ls 4 [(0, .ref b), (1, .ref qx), (2, .ref qy), (3, .int (nI i))] → W p l e room_1 s m args below meth c H locs cells slots Q (F0 m 1567 ls [])) (hp : LPw dC dI cy ad0 s qx qy H locs) : W p l e room_1 s m args below meth c H locs cells slots Q (F0 m 804 ls []) := by
  obtain ⟨ax, ay, X, Y, hx0, hy0, hax, hay, hR, hP, hD, hS⟩ := hp
  refine lv_aload_n C.1 C.2.1 dL_804 rfl (lv_at hl 1 rfl) ?_
  refine l_arg 1 (by decide) C hX hbl hl hi dL_805 dL_806 dL_807 dL_808 dL_809 hS ?_
  refine l_arg 2 (by decide) C hX hbl hl hi dL_810 dL_811 dL_812 dL_813 dL_814 hS ?_
  refine l_arg 3 (by decide) C hX hbl hl hi dL_815 dL_816 dL_817 dL_818 dL_819 hS ?_
  obtain ⟨v, QX, QY, hcx, hcy, hR2⟩ := (ag_way hR ((xs (i + 1))) ((xs (i + 2))) ((xs (i + 3)))).c
  refine l_cx (as := [.int (xs (i + 1)), .int (xs (i + 2)), .int (xs (i + 3))]) C dL_820 iX9_way vX9_way (zGm (zm3 159 rfl) rfl) rfl ⟨Nat.le_of_ble_eq_true rfl, Nat.le_of_ble_eq_true rfl⟩ rfl rfl rfl (Nat.le_of_ble_eq_true rfl) hcx hP hD hS hl.1 hx0 hax hcs (fun v2 X2 ax2 H locs hx2 hax2 hv hP hD hS => ?_)
  obtain ⟨rfl, hqx⟩ := hv
  refine lv_aload_n C.1 C.2.1 dL_823 rfl (lv_at hl 2 rfl) ?_
  refine l_arg 1 (by decide) C hX hbl hl hi dL_824 dL_825 dL_826 dL_827 dL_828 hS ?_
  refine l_arg 2 (by decide) C hX hbl hl hi dL_829 dL_830 dL_831 dL_832 dL_833 hS ?_
  refine l_arg 3 (by decide) C hX hbl hl hi dL_834 dL_835 dL_836 dL_837 dL_838 hS ?_
  refine l_cy (as := [.int (xs (i + 1)), .int (xs (i + 2)), .int (xs (i + 3))]) (ay := ay) (Y := Y) C dL_839 iX10_way vX10_way (zGm (zm5 239 rfl) rfl) rfl ⟨Nat.le_of_ble_eq_true rfl, Nat.le_of_ble_eq_true rfl⟩ rfl rfl rfl (Nat.le_of_ble_eq_true rfl) hcy hay hP hD hS hl.1 hy0 hcs (fun v3 Y2 H locs hv hP hD hS => ?_)
  obtain ⟨rfl, hqy⟩ := hv
  exact lv_icmp_eq (tgt := 1567) C.1 C.2.1 dL_842 rfl (fun _ => ih H locs ls ⟨ax2, ay, X2, Y2, hx2, hy0, hax2, hay, hR2 X2 Y2 hqx hqy, hP, hD, hS⟩ hl) (fun q => absurd rfl q)
theorem lc_19 {ad0 : Nat → Nat} (C : zC p s m args meth c mL dC dI cy ad0 (lA s)) (hX : va_X b L xs s s.heap) (hbl : b < s.heap.size) (hi : i + 5 < L ∧ L < 100000) (hcs : cells ≤ room_1.cells ∧ slots ≤ room_1.slots) (hl : lv_has ls 4 [(0, .ref b), (1, .ref qx), (2, .ref qy), (3, .int (nI i))]) (ih : ∀ (H : Heap) (locs : List Loc) (ls : Array Slot), LPw dC dI cy ad0 s qx qy H locs → lv_has ls 4 [(0, .ref b), (1, .ref qx), (2, .ref qy), (3, .int (nI i))] → W p l e room_1 s m args below meth c H locs cells slots Q (F0 m 1567 ls [])) (hp : LPw dC dI cy ad0 s qx qy H locs) : W p l e room_1 s m args below meth c H locs cells slots Q (F0 m 847 ls []) := by
  obtain ⟨ax, ay, X, Y, hx0, hy0, hax, hay, hR, hP, hD, hS⟩ := hp
  refine lv_aload_n C.1 C.2.1 dL_847 rfl (lv_at hl 1 rfl) ?_
  refine l_arg 1 (by decide) C hX hbl hl hi dL_848 dL_849 dL_850 dL_851 dL_852 hS ?_
  refine l_arg 2 (by decide) C hX hbl hl hi dL_853 dL_854 dL_855 dL_856 dL_857 hS ?_
  refine l_arg 3 (by decide) C hX hbl hl hi dL_858 dL_859 dL_860 dL_861 dL_862 hS ?_
  obtain ⟨v, QX, QY, hcx, hcy, hR2⟩ := (ag_wanting hR ((xs (i + 1))) ((xs (i + 2))) ((xs (i + 3)))).c
  refine l_cx (as := [.int (xs (i + 1)), .int (xs (i + 2)), .int (xs (i + 3))]) C dL_863 iX9_wanting vX9_wanting (zGm (zm3 204 rfl) rfl) rfl ⟨Nat.le_of_ble_eq_true rfl, Nat.le_of_ble_eq_true rfl⟩ rfl rfl rfl (Nat.le_of_ble_eq_true rfl) hcx hP hD hS hl.1 hx0 hax hcs (fun v2 X2 ax2 H locs hx2 hax2 hv hP hD hS => ?_)
  obtain ⟨rfl, hqx⟩ := hv
  refine lv_aload_n C.1 C.2.1 dL_866 rfl (lv_at hl 2 rfl) ?_
  refine l_arg 1 (by decide) C hX hbl hl hi dL_867 dL_868 dL_869 dL_870 dL_871 hS ?_
  refine l_arg 2 (by decide) C hX hbl hl hi dL_872 dL_873 dL_874 dL_875 dL_876 hS ?_
  refine l_arg 3 (by decide) C hX hbl hl hi dL_877 dL_878 dL_879 dL_880 dL_881 hS ?_
  refine l_cy (as := [.int (xs (i + 1)), .int (xs (i + 2)), .int (xs (i + 3))]) (ay := ay) (Y := Y) C dL_882 iX10_wanting vX10_wanting (zGm (zm6 24 rfl) rfl) rfl ⟨Nat.le_of_ble_eq_true rfl, Nat.le_of_ble_eq_true rfl⟩ rfl rfl rfl (Nat.le_of_ble_eq_true rfl) hcy hay hP hD hS hl.1 hy0 hcs (fun v3 Y2 H locs hv hP hD hS => ?_)
  obtain ⟨rfl, hqy⟩ := hv
  exact lv_icmp_eq (tgt := 1567) C.1 C.2.1 dL_885 rfl (fun _ => ih H locs ls ⟨ax2, ay, X2, Y2, hx2, hy0, hax2, hay, hR2 X2 Y2 hqx hqy, hP, hD, hS⟩ hl) (fun q => absurd rfl q)
theorem lc_20 {ad0 : Nat → Nat} (C : zC p s m args meth c mL dC dI cy ad0 (lA s)) (hX : va_X b L xs s s.heap) (hbl : b < s.heap.size) (hi : i + 5 < L ∧ L < 100000) (hcs : cells ≤ room_1.cells ∧ slots ≤ room_1.slots) (hl : lv_has ls 4 [(0, .ref b), (1, .ref qx), (2, .ref qy), (3, .int (nI i))]) (ih : ∀ (H : Heap) (locs : List Loc) (ls : Array Slot), LPw dC dI cy ad0 s qx qy H locs → lv_has ls 4 [(0, .ref b), (1, .ref qx), (2, .ref qy), (3, .int (nI i))] → W p l e room_1 s m args below meth c H locs cells slots Q (F0 m 1567 ls [])) (hp : LPw dC dI cy ad0 s qx qy H locs) : W p l e room_1 s m args below meth c H locs cells slots Q (F0 m 890 ls []) := by
  obtain ⟨ax, ay, X, Y, hx0, hy0, hax, hay, hR, hP, hD, hS⟩ := hp
  refine lv_aload_n C.1 C.2.1 dL_890 rfl (lv_at hl 1 rfl) ?_
  refine l_arg 1 (by decide) C hX hbl hl hi dL_891 dL_892 dL_893 dL_894 dL_895 hS ?_
  refine l_arg 2 (by decide) C hX hbl hl hi dL_896 dL_897 dL_898 dL_899 dL_900 hS ?_
  obtain ⟨v, QX, QY, hcx, hcy, hR2⟩ := (ag_reach hR ((xs (i + 1))) ((xs (i + 2)))).c
  refine l_cx (as := [.int (xs (i + 1)), .int (xs (i + 2))]) C dL_901 iX9_reach vX9_reach (zGm (zm3 208 rfl) rfl) rfl ⟨Nat.le_of_ble_eq_true rfl, Nat.le_of_ble_eq_true rfl⟩ rfl rfl rfl (Nat.le_of_ble_eq_true rfl) hcx hP hD hS hl.1 hx0 hax hcs (fun v2 X2 ax2 H locs hx2 hax2 hv hP hD hS => ?_)
  obtain ⟨rfl, hqx⟩ := hv
  refine lv_aload_n C.1 C.2.1 dL_904 rfl (lv_at hl 2 rfl) ?_
  refine l_arg 1 (by decide) C hX hbl hl hi dL_905 dL_906 dL_907 dL_908 dL_909 hS ?_
  refine l_arg 2 (by decide) C hX hbl hl hi dL_910 dL_911 dL_912 dL_913 dL_914 hS ?_
  refine l_cy (as := [.int (xs (i + 1)), .int (xs (i + 2))]) (ay := ay) (Y := Y) C dL_915 iX10_reach vX10_reach (zGm (zm6 28 rfl) rfl) rfl ⟨Nat.le_of_ble_eq_true rfl, Nat.le_of_ble_eq_true rfl⟩ rfl rfl rfl (Nat.le_of_ble_eq_true rfl) hcy hay hP hD hS hl.1 hy0 hcs (fun v3 Y2 H locs hv hP hD hS => ?_)
  obtain ⟨rfl, hqy⟩ := hv
  exact lv_icmp_eq (tgt := 1567) C.1 C.2.1 dL_918 rfl (fun _ => ih H locs ls ⟨ax2, ay, X2, Y2, hx2, hy0, hax2, hay, hR2 X2 Y2 hqx hqy, hP, hD, hS⟩ hl) (fun q => absurd rfl q)
theorem lc_21 {ad0 : Nat → Nat} (C : zC p s m args meth c mL dC dI cy ad0 (lA s)) (hX : va_X b L xs s s.heap) (hbl : b < s.heap.size) (hi : i + 5 < L ∧ L < 100000) (hcs : cells ≤ room_1.cells ∧ slots ≤ room_1.slots) (hl : lv_has ls 4 [(0, .ref b), (1, .ref qx), (2, .ref qy), (3, .int (nI i))]) (ih : ∀ (H : Heap) (locs : List Loc) (ls : Array Slot), LPw dC dI cy ad0 s qx qy H locs → lv_has ls 4 [(0, .ref b), (1, .ref qx), (2, .ref qy), (3, .int (nI i))] → W p l e room_1 s m args below meth c H locs cells slots Q (F0 m 1567 ls [])) (hp : LPw dC dI cy ad0 s qx qy H locs) : W p l e room_1 s m args below meth c H locs cells slots Q (F0 m 923 ls []) := by
  obtain ⟨ax, ay, X, Y, hx0, hy0, hax, hay, hR, hP, hD, hS⟩ := hp
  refine lv_aload_n C.1 C.2.1 dL_923 rfl (lv_at hl 1 rfl) ?_
  refine l_arg 1 (by decide) C hX hbl hl hi dL_924 dL_925 dL_926 dL_927 dL_928 hS ?_
  refine l_arg 2 (by decide) C hX hbl hl hi dL_929 dL_930 dL_931 dL_932 dL_933 hS ?_
  refine l_arg 3 (by decide) C hX hbl hl hi dL_934 dL_935 dL_936 dL_937 dL_938 hS ?_
  obtain ⟨v, QX, QY, hcx, hcy, hR2⟩ := (ag_party hR ((xs (i + 1))) ((xs (i + 2))) ((xs (i + 3)))).c
  refine l_cx (as := [.int (xs (i + 1)), .int (xs (i + 2)), .int (xs (i + 3))]) C dL_939 iX9_party vX9_party (zGm (zm3 212 rfl) rfl) rfl ⟨Nat.le_of_ble_eq_true rfl, Nat.le_of_ble_eq_true rfl⟩ rfl rfl rfl (Nat.le_of_ble_eq_true rfl) hcx hP hD hS hl.1 hx0 hax hcs (fun v2 X2 ax2 H locs hx2 hax2 hv hP hD hS => ?_)
  obtain ⟨rfl, hqx⟩ := hv
  refine lv_aload_n C.1 C.2.1 dL_942 rfl (lv_at hl 2 rfl) ?_
  refine l_arg 1 (by decide) C hX hbl hl hi dL_943 dL_944 dL_945 dL_946 dL_947 hS ?_
  refine l_arg 2 (by decide) C hX hbl hl hi dL_948 dL_949 dL_950 dL_951 dL_952 hS ?_
  refine l_arg 3 (by decide) C hX hbl hl hi dL_953 dL_954 dL_955 dL_956 dL_957 hS ?_
  refine l_cy (as := [.int (xs (i + 1)), .int (xs (i + 2)), .int (xs (i + 3))]) (ay := ay) (Y := Y) C dL_958 iX10_party vX10_party (zGm (zm6 32 rfl) rfl) rfl ⟨Nat.le_of_ble_eq_true rfl, Nat.le_of_ble_eq_true rfl⟩ rfl rfl rfl (Nat.le_of_ble_eq_true rfl) hcy hay hP hD hS hl.1 hy0 hcs (fun v3 Y2 H locs hv hP hD hS => ?_)
  obtain ⟨rfl, hqy⟩ := hv
  exact lv_icmp_eq (tgt := 1567) C.1 C.2.1 dL_961 rfl (fun _ => ih H locs ls ⟨ax2, ay, X2, Y2, hx2, hy0, hax2, hay, hR2 X2 Y2 hqx hqy, hP, hD, hS⟩ hl) (fun q => absurd rfl q)
theorem lc_22 {ad0 : Nat → Nat} (C : zC p s m args meth c mL dC dI cy ad0 (lA s)) (hX : va_X b L xs s s.heap) (hbl : b < s.heap.size) (hi : i + 5 < L ∧ L < 100000) (hcs : cells ≤ room_1.cells ∧ slots ≤ room_1.slots) (hl : lv_has ls 4 [(0, .ref b), (1, .ref qx), (2, .ref qy), (3, .int (nI i))]) (ih : ∀ (H : Heap) (locs : List Loc) (ls : Array Slot), LPw dC dI cy ad0 s qx qy H locs → lv_has ls 4 [(0, .ref b), (1, .ref qx), (2, .ref qy), (3, .int (nI i))] → W p l e room_1 s m args below meth c H locs cells slots Q (F0 m 1567 ls [])) (hp : LPw dC dI cy ad0 s qx qy H locs) : W p l e room_1 s m args below meth c H locs cells slots Q (F0 m 966 ls []) := by
  obtain ⟨ax, ay, X, Y, hx0, hy0, hax, hay, hR, hP, hD, hS⟩ := hp
  refine lv_aload_n C.1 C.2.1 dL_966 rfl (lv_at hl 1 rfl) ?_
  refine l_arg 1 (by decide) C hX hbl hl hi dL_967 dL_968 dL_969 dL_970 dL_971 hS ?_
  refine l_arg 2 (by decide) C hX hbl hl hi dL_972 dL_973 dL_974 dL_975 dL_976 hS ?_
  obtain ⟨v, QX, QY, hcx, hcy, hR2⟩ := (ag_cut hR ((xs (i + 1))) ((xs (i + 2)))).c
  refine l_cx (as := [.int (xs (i + 1)), .int (xs (i + 2))]) C dL_977 iX9_cut vX9_cut (zGm (zm3 220 rfl) rfl) rfl ⟨Nat.le_of_ble_eq_true rfl, Nat.le_of_ble_eq_true rfl⟩ rfl rfl rfl (Nat.le_of_ble_eq_true rfl) hcx hP hD hS hl.1 hx0 hax hcs (fun v2 X2 ax2 H locs hx2 hax2 hv hP hD hS => ?_)
  obtain ⟨rfl, hqx⟩ := hv
  refine lv_aload_n C.1 C.2.1 dL_980 rfl (lv_at hl 2 rfl) ?_
  refine l_arg 1 (by decide) C hX hbl hl hi dL_981 dL_982 dL_983 dL_984 dL_985 hS ?_
  refine l_arg 2 (by decide) C hX hbl hl hi dL_986 dL_987 dL_988 dL_989 dL_990 hS ?_
  refine l_cy (as := [.int (xs (i + 1)), .int (xs (i + 2))]) (ay := ay) (Y := Y) C dL_991 iX10_cut vX10_cut (zGm (zm6 39 rfl) rfl) rfl ⟨Nat.le_of_ble_eq_true rfl, Nat.le_of_ble_eq_true rfl⟩ rfl rfl rfl (Nat.le_of_ble_eq_true rfl) hcy hay hP hD hS hl.1 hy0 hcs (fun v3 Y2 H locs hv hP hD hS => ?_)
  obtain ⟨rfl, hqy⟩ := hv
  exact lv_icmp_eq (tgt := 1567) C.1 C.2.1 dL_994 rfl (fun _ => ih H locs ls ⟨ax2, ay, X2, Y2, hx2, hy0, hax2, hay, hR2 X2 Y2 hqx hqy, hP, hD, hS⟩ hl) (fun q => absurd rfl q)
theorem lc_23 {ad0 : Nat → Nat} (C : zC p s m args meth c mL dC dI cy ad0 (lA s)) (hX : va_X b L xs s s.heap) (hbl : b < s.heap.size) (hi : i + 5 < L ∧ L < 100000) (hcs : cells ≤ room_1.cells ∧ slots ≤ room_1.slots) (hl : lv_has ls 4 [(0, .ref b), (1, .ref qx), (2, .ref qy), (3, .int (nI i))]) (ih : ∀ (H : Heap) (locs : List Loc) (ls : Array Slot), LPw dC dI cy ad0 s qx qy H locs → lv_has ls 4 [(0, .ref b), (1, .ref qx), (2, .ref qy), (3, .int (nI i))] → W p l e room_1 s m args below meth c H locs cells slots Q (F0 m 1567 ls [])) (hp : LPw dC dI cy ad0 s qx qy H locs) : W p l e room_1 s m args below meth c H locs cells slots Q (F0 m 999 ls []) := by
  obtain ⟨ax, ay, X, Y, hx0, hy0, hax, hay, hR, hP, hD, hS⟩ := hp
  refine lv_aload_n C.1 C.2.1 dL_999 rfl (lv_at hl 1 rfl) ?_
  refine l_arg 1 (by decide) C hX hbl hl hi dL_1000 dL_1001 dL_1002 dL_1003 dL_1004 hS ?_
  refine l_arg 2 (by decide) C hX hbl hl hi dL_1005 dL_1006 dL_1007 dL_1008 dL_1009 hS ?_
  refine l_arg 3 (by decide) C hX hbl hl hi dL_1010 dL_1011 dL_1012 dL_1013 dL_1014 hS ?_
  obtain ⟨v, QX, QY, hcx, hcy, hR2⟩ := (ag_cutTold hR ((xs (i + 1))) ((xs (i + 2))) ((xs (i + 3)))).c
  refine l_cx (as := [.int (xs (i + 1)), .int (xs (i + 2)), .int (xs (i + 3))]) C dL_1015 iX9_cutTold vX9_cutTold (zGm (zm3 232 rfl) rfl) rfl ⟨Nat.le_of_ble_eq_true rfl, Nat.le_of_ble_eq_true rfl⟩ rfl rfl rfl (Nat.le_of_ble_eq_true rfl) hcx hP hD hS hl.1 hx0 hax hcs (fun v2 X2 ax2 H locs hx2 hax2 hv hP hD hS => ?_)
  obtain ⟨rfl, hqx⟩ := hv
  refine lv_aload_n C.1 C.2.1 dL_1018 rfl (lv_at hl 2 rfl) ?_
  refine l_arg 1 (by decide) C hX hbl hl hi dL_1019 dL_1020 dL_1021 dL_1022 dL_1023 hS ?_
  refine l_arg 2 (by decide) C hX hbl hl hi dL_1024 dL_1025 dL_1026 dL_1027 dL_1028 hS ?_
  refine l_arg 3 (by decide) C hX hbl hl hi dL_1029 dL_1030 dL_1031 dL_1032 dL_1033 hS ?_
  refine l_cy (as := [.int (xs (i + 1)), .int (xs (i + 2)), .int (xs (i + 3))]) (ay := ay) (Y := Y) C dL_1034 iX10_cutTold vX10_cutTold (zGm (zm6 51 rfl) rfl) rfl ⟨Nat.le_of_ble_eq_true rfl, Nat.le_of_ble_eq_true rfl⟩ rfl rfl rfl (Nat.le_of_ble_eq_true rfl) hcy hay hP hD hS hl.1 hy0 hcs (fun v3 Y2 H locs hv hP hD hS => ?_)
  obtain ⟨rfl, hqy⟩ := hv
  exact lv_icmp_eq (tgt := 1567) C.1 C.2.1 dL_1037 rfl (fun _ => ih H locs ls ⟨ax2, ay, X2, Y2, hx2, hy0, hax2, hay, hR2 X2 Y2 hqx hqy, hP, hD, hS⟩ hl) (fun q => absurd rfl q)
theorem lc_24 {ad0 : Nat → Nat} (C : zC p s m args meth c mL dC dI cy ad0 (lA s)) (hX : va_X b L xs s s.heap) (hbl : b < s.heap.size) (hi : i + 5 < L ∧ L < 100000) (hcs : cells ≤ room_1.cells ∧ slots ≤ room_1.slots) (hl : lv_has ls 4 [(0, .ref b), (1, .ref qx), (2, .ref qy), (3, .int (nI i))]) (ih : ∀ (H : Heap) (locs : List Loc) (ls : Array Slot), LPw dC dI cy ad0 s qx qy H locs → lv_has ls 4 [(0, .ref b), (1, .ref qx), (2, .ref qy), (3, .int (nI i))] → W p l e room_1 s m args below meth c H locs cells slots Q (F0 m 1567 ls [])) (hp : LPw dC dI cy ad0 s qx qy H locs) : W p l e room_1 s m args below meth c H locs cells slots Q (F0 m 1042 ls []) := by
  obtain ⟨ax, ay, X, Y, hx0, hy0, hax, hay, hR, hP, hD, hS⟩ := hp
  refine lv_aload_n C.1 C.2.1 dL_1042 rfl (lv_at hl 1 rfl) ?_
  refine l_arg 1 (by decide) C hX hbl hl hi dL_1043 dL_1044 dL_1045 dL_1046 dL_1047 hS ?_
  obtain ⟨v, QX, QY, hcx, hcy, hR2⟩ := (ag_tune hR ((xs (i + 1)))).c
  refine l_cx (as := [.int (xs (i + 1))]) C dL_1048 iX9_tune vX9_tune (zGm (zm3 236 rfl) rfl) rfl ⟨Nat.le_of_ble_eq_true rfl, Nat.le_of_ble_eq_true rfl⟩ rfl rfl rfl (Nat.le_of_ble_eq_true rfl) hcx hP hD hS hl.1 hx0 hax hcs (fun v2 X2 ax2 H locs hx2 hax2 hv hP hD hS => ?_)
  obtain ⟨rfl, hqx⟩ := hv
  refine lv_aload_n C.1 C.2.1 dL_1051 rfl (lv_at hl 2 rfl) ?_
  refine l_arg 1 (by decide) C hX hbl hl hi dL_1052 dL_1053 dL_1054 dL_1055 dL_1056 hS ?_
  refine l_cy (as := [.int (xs (i + 1))]) (ay := ay) (Y := Y) C dL_1057 iX10_tune vX10_tune (zGm (zm6 55 rfl) rfl) rfl ⟨Nat.le_of_ble_eq_true rfl, Nat.le_of_ble_eq_true rfl⟩ rfl rfl rfl (Nat.le_of_ble_eq_true rfl) hcy hay hP hD hS hl.1 hy0 hcs (fun v3 Y2 H locs hv hP hD hS => ?_)
  obtain ⟨rfl, hqy⟩ := hv
  exact lv_icmp_eq (tgt := 1567) C.1 C.2.1 dL_1060 rfl (fun _ => ih H locs ls ⟨ax2, ay, X2, Y2, hx2, hy0, hax2, hay, hR2 X2 Y2 hqx hqy, hP, hD, hS⟩ hl) (fun q => absurd rfl q)
theorem lc_25 {ad0 : Nat → Nat} (C : zC p s m args meth c mL dC dI cy ad0 (lA s)) (hX : va_X b L xs s s.heap) (hbl : b < s.heap.size) (hi : i + 5 < L ∧ L < 100000) (hcs : cells ≤ room_1.cells ∧ slots ≤ room_1.slots) (hl : lv_has ls 4 [(0, .ref b), (1, .ref qx), (2, .ref qy), (3, .int (nI i))]) (ih : ∀ (H : Heap) (locs : List Loc) (ls : Array Slot), LPw dC dI cy ad0 s qx qy H locs → lv_has ls 4 [(0, .ref b), (1, .ref qx), (2, .ref qy), (3, .int (nI i))] → W p l e room_1 s m args below meth c H locs cells slots Q (F0 m 1567 ls [])) (hp : LPw dC dI cy ad0 s qx qy H locs) : W p l e room_1 s m args below meth c H locs cells slots Q (F0 m 1065 ls []) := by
  obtain ⟨ax, ay, X, Y, hx0, hy0, hax, hay, hR, hP, hD, hS⟩ := hp
  refine lv_aload_n C.1 C.2.1 dL_1065 rfl (lv_at hl 1 rfl) ?_
  refine l_arg 1 (by decide) C hX hbl hl hi dL_1066 dL_1067 dL_1068 dL_1069 dL_1070 hS ?_
  refine l_arg 2 (by decide) C hX hbl hl hi dL_1071 dL_1072 dL_1073 dL_1074 dL_1075 hS ?_
  refine l_arg 3 (by decide) C hX hbl hl hi dL_1076 dL_1077 dL_1078 dL_1079 dL_1080 hS ?_
  obtain ⟨v, QX, QY, hcx, hcy, hR2⟩ := (ag_where hR ((xs (i + 1))) ((xs (i + 2))) ((xs (i + 3)))).c
  refine l_cx (as := [.int (xs (i + 1)), .int (xs (i + 2)), .int (xs (i + 3))]) C dL_1081 iX9_where vX9_where (zGm (zm4 4 rfl) rfl) rfl ⟨Nat.le_of_ble_eq_true rfl, Nat.le_of_ble_eq_true rfl⟩ rfl rfl rfl (Nat.le_of_ble_eq_true rfl) hcx hP hD hS hl.1 hx0 hax hcs (fun v2 X2 ax2 H locs hx2 hax2 hv hP hD hS => ?_)
  obtain ⟨rfl, hqx⟩ := hv
  refine lv_aload_n C.1 C.2.1 dL_1084 rfl (lv_at hl 2 rfl) ?_
  refine l_arg 1 (by decide) C hX hbl hl hi dL_1085 dL_1086 dL_1087 dL_1088 dL_1089 hS ?_
  refine l_arg 2 (by decide) C hX hbl hl hi dL_1090 dL_1091 dL_1092 dL_1093 dL_1094 hS ?_
  refine l_arg 3 (by decide) C hX hbl hl hi dL_1095 dL_1096 dL_1097 dL_1098 dL_1099 hS ?_
  refine l_cy (as := [.int (xs (i + 1)), .int (xs (i + 2)), .int (xs (i + 3))]) (ay := ay) (Y := Y) C dL_1100 iX10_where vX10_where (zGm (zm6 63 rfl) rfl) rfl ⟨Nat.le_of_ble_eq_true rfl, Nat.le_of_ble_eq_true rfl⟩ rfl rfl rfl (Nat.le_of_ble_eq_true rfl) hcy hay hP hD hS hl.1 hy0 hcs (fun v3 Y2 H locs hv hP hD hS => ?_)
  obtain ⟨rfl, hqy⟩ := hv
  exact lv_icmp_eq (tgt := 1567) C.1 C.2.1 dL_1103 rfl (fun _ => ih H locs ls ⟨ax2, ay, X2, Y2, hx2, hy0, hax2, hay, hR2 X2 Y2 hqx hqy, hP, hD, hS⟩ hl) (fun q => absurd rfl q)
theorem lc_26 {ad0 : Nat → Nat} (C : zC p s m args meth c mL dC dI cy ad0 (lA s)) (hX : va_X b L xs s s.heap) (hbl : b < s.heap.size) (hi : i + 5 < L ∧ L < 100000) (hcs : cells ≤ room_1.cells ∧ slots ≤ room_1.slots) (hl : lv_has ls 4 [(0, .ref b), (1, .ref qx), (2, .ref qy), (3, .int (nI i))]) (ih : ∀ (H : Heap) (locs : List Loc) (ls : Array Slot), LPw dC dI cy ad0 s qx qy H locs → lv_has ls 4 [(0, .ref b), (1, .ref qx), (2, .ref qy), (3, .int (nI i))] → W p l e room_1 s m args below meth c H locs cells slots Q (F0 m 1567 ls [])) (hp : LPw dC dI cy ad0 s qx qy H locs) : W p l e room_1 s m args below meth c H locs cells slots Q (F0 m 1108 ls []) := by
  obtain ⟨ax, ay, X, Y, hx0, hy0, hax, hay, hR, hP, hD, hS⟩ := hp
  refine lv_aload_n C.1 C.2.1 dL_1108 rfl (lv_at hl 1 rfl) ?_
  refine l_arg 1 (by decide) C hX hbl hl hi dL_1109 dL_1110 dL_1111 dL_1112 dL_1113 hS ?_
  obtain ⟨v, QX, QY, hcx, hcy, hR2⟩ := (ag_sure hR ((xs (i + 1)))).c
  refine l_cx (as := [.int (xs (i + 1))]) C dL_1114 iX9_sure vX9_sure (zGm (zm4 23 rfl) rfl) rfl ⟨Nat.le_of_ble_eq_true rfl, Nat.le_of_ble_eq_true rfl⟩ rfl rfl rfl (Nat.le_of_ble_eq_true rfl) hcx hP hD hS hl.1 hx0 hax hcs (fun v2 X2 ax2 H locs hx2 hax2 hv hP hD hS => ?_)
  obtain ⟨rfl, hqx⟩ := hv
  refine lv_aload_n C.1 C.2.1 dL_1117 rfl (lv_at hl 2 rfl) ?_
  refine l_arg 1 (by decide) C hX hbl hl hi dL_1118 dL_1119 dL_1120 dL_1121 dL_1122 hS ?_
  refine l_cy (as := [.int (xs (i + 1))]) (ay := ay) (Y := Y) C dL_1123 iX10_sure vX10_sure (zGm (zm6 82 rfl) rfl) rfl ⟨Nat.le_of_ble_eq_true rfl, Nat.le_of_ble_eq_true rfl⟩ rfl rfl rfl (Nat.le_of_ble_eq_true rfl) hcy hay hP hD hS hl.1 hy0 hcs (fun v3 Y2 H locs hv hP hD hS => ?_)
  obtain ⟨rfl, hqy⟩ := hv
  exact lv_icmp_eq (tgt := 1567) C.1 C.2.1 dL_1126 rfl (fun _ => ih H locs ls ⟨ax2, ay, X2, Y2, hx2, hy0, hax2, hay, hR2 X2 Y2 hqx hqy, hP, hD, hS⟩ hl) (fun q => absurd rfl q)
theorem lc_27 {ad0 : Nat → Nat} (C : zC p s m args meth c mL dC dI cy ad0 (lA s)) (hX : va_X b L xs s s.heap) (hbl : b < s.heap.size) (hi : i + 5 < L ∧ L < 100000) (hcs : cells ≤ room_1.cells ∧ slots ≤ room_1.slots) (hl : lv_has ls 4 [(0, .ref b), (1, .ref qx), (2, .ref qy), (3, .int (nI i))]) (ih : ∀ (H : Heap) (locs : List Loc) (ls : Array Slot), LPw dC dI cy ad0 s qx qy H locs → lv_has ls 4 [(0, .ref b), (1, .ref qx), (2, .ref qy), (3, .int (nI i))] → W p l e room_1 s m args below meth c H locs cells slots Q (F0 m 1567 ls [])) (hp : LPw dC dI cy ad0 s qx qy H locs) : W p l e room_1 s m args below meth c H locs cells slots Q (F0 m 1131 ls []) := by
  obtain ⟨ax, ay, X, Y, hx0, hy0, hax, hay, hR, hP, hD, hS⟩ := hp
  refine lv_aload_n C.1 C.2.1 dL_1131 rfl (lv_at hl 1 rfl) ?_
  refine l_arg 1 (by decide) C hX hbl hl hi dL_1132 dL_1133 dL_1134 dL_1135 dL_1136 hS ?_
  refine l_arg 2 (by decide) C hX hbl hl hi dL_1137 dL_1138 dL_1139 dL_1140 dL_1141 hS ?_
  refine l_arg 3 (by decide) C hX hbl hl hi dL_1142 dL_1143 dL_1144 dL_1145 dL_1146 hS ?_
  obtain ⟨v, QX, QY, hcx, hcy, hR2⟩ := (ag_faster hR ((xs (i + 1))) ((xs (i + 2))) ((xs (i + 3)))).c
  refine l_cx (as := [.int (xs (i + 1)), .int (xs (i + 2)), .int (xs (i + 3))]) C dL_1147 iX9_faster vX9_faster (zGm (zm4 27 rfl) rfl) rfl ⟨Nat.le_of_ble_eq_true rfl, Nat.le_of_ble_eq_true rfl⟩ rfl rfl rfl (Nat.le_of_ble_eq_true rfl) hcx hP hD hS hl.1 hx0 hax hcs (fun v2 X2 ax2 H locs hx2 hax2 hv hP hD hS => ?_)
  obtain ⟨rfl, hqx⟩ := hv
  refine lv_aload_n C.1 C.2.1 dL_1150 rfl (lv_at hl 2 rfl) ?_
  refine l_arg 1 (by decide) C hX hbl hl hi dL_1151 dL_1152 dL_1153 dL_1154 dL_1155 hS ?_
  refine l_arg 2 (by decide) C hX hbl hl hi dL_1156 dL_1157 dL_1158 dL_1159 dL_1160 hS ?_
  refine l_arg 3 (by decide) C hX hbl hl hi dL_1161 dL_1162 dL_1163 dL_1164 dL_1165 hS ?_
  refine l_cy (as := [.int (xs (i + 1)), .int (xs (i + 2)), .int (xs (i + 3))]) (ay := ay) (Y := Y) C dL_1166 iX10_faster vX10_faster (zGm (zm6 86 rfl) rfl) rfl ⟨Nat.le_of_ble_eq_true rfl, Nat.le_of_ble_eq_true rfl⟩ rfl rfl rfl (Nat.le_of_ble_eq_true rfl) hcy hay hP hD hS hl.1 hy0 hcs (fun v3 Y2 H locs hv hP hD hS => ?_)
  obtain ⟨rfl, hqy⟩ := hv
  exact lv_icmp_eq (tgt := 1567) C.1 C.2.1 dL_1169 rfl (fun _ => ih H locs ls ⟨ax2, ay, X2, Y2, hx2, hy0, hax2, hay, hR2 X2 Y2 hqx hqy, hP, hD, hS⟩ hl) (fun q => absurd rfl q)
theorem lc_28 {ad0 : Nat → Nat} (C : zC p s m args meth c mL dC dI cy ad0 (lA s)) (hX : va_X b L xs s s.heap) (hbl : b < s.heap.size) (hi : i + 5 < L ∧ L < 100000) (hcs : cells ≤ room_1.cells ∧ slots ≤ room_1.slots) (hl : lv_has ls 4 [(0, .ref b), (1, .ref qx), (2, .ref qy), (3, .int (nI i))]) (ih : ∀ (H : Heap) (locs : List Loc) (ls : Array Slot), LPw dC dI cy ad0 s qx qy H locs → lv_has ls 4 [(0, .ref b), (1, .ref qx), (2, .ref qy), (3, .int (nI i))] → W p l e room_1 s m args below meth c H locs cells slots Q (F0 m 1567 ls [])) (hp : LPw dC dI cy ad0 s qx qy H locs) : W p l e room_1 s m args below meth c H locs cells slots Q (F0 m 1174 ls []) := by
  obtain ⟨ax, ay, X, Y, hx0, hy0, hax, hay, hR, hP, hD, hS⟩ := hp
  refine lv_aload_n C.1 C.2.1 dL_1174 rfl (lv_at hl 1 rfl) ?_
  refine l_arg 1 (by decide) C hX hbl hl hi dL_1175 dL_1176 dL_1177 dL_1178 dL_1179 hS ?_
  refine l_arg 2 (by decide) C hX hbl hl hi dL_1180 dL_1181 dL_1182 dL_1183 dL_1184 hS ?_
  refine l_arg 3 (by decide) C hX hbl hl hi dL_1185 dL_1186 dL_1187 dL_1188 dL_1189 hS ?_
  obtain ⟨v, QX, QY, hcx, hcy, hR2⟩ := (ag_cross hR ((xs (i + 1))) ((xs (i + 2))) ((xs (i + 3)))).c
  refine l_cx (as := [.int (xs (i + 1)), .int (xs (i + 2)), .int (xs (i + 3))]) C dL_1190 iX9_cross vX9_cross (zGm (zm4 31 rfl) rfl) rfl ⟨Nat.le_of_ble_eq_true rfl, Nat.le_of_ble_eq_true rfl⟩ rfl rfl rfl (Nat.le_of_ble_eq_true rfl) hcx hP hD hS hl.1 hx0 hax hcs (fun v2 X2 ax2 H locs hx2 hax2 hv hP hD hS => ?_)
  obtain ⟨rfl, hqx⟩ := hv
  refine lv_aload_n C.1 C.2.1 dL_1193 rfl (lv_at hl 2 rfl) ?_
  refine l_arg 1 (by decide) C hX hbl hl hi dL_1194 dL_1195 dL_1196 dL_1197 dL_1198 hS ?_
  refine l_arg 2 (by decide) C hX hbl hl hi dL_1199 dL_1200 dL_1201 dL_1202 dL_1203 hS ?_
  refine l_arg 3 (by decide) C hX hbl hl hi dL_1204 dL_1205 dL_1206 dL_1207 dL_1208 hS ?_
  refine l_cy (as := [.int (xs (i + 1)), .int (xs (i + 2)), .int (xs (i + 3))]) (ay := ay) (Y := Y) C dL_1209 iX10_cross vX10_cross (zGm (zm6 90 rfl) rfl) rfl ⟨Nat.le_of_ble_eq_true rfl, Nat.le_of_ble_eq_true rfl⟩ rfl rfl rfl (Nat.le_of_ble_eq_true rfl) hcy hay hP hD hS hl.1 hy0 hcs (fun v3 Y2 H locs hv hP hD hS => ?_)
  obtain ⟨rfl, hqy⟩ := hv
  exact lv_icmp_eq (tgt := 1567) C.1 C.2.1 dL_1212 rfl (fun _ => ih H locs ls ⟨ax2, ay, X2, Y2, hx2, hy0, hax2, hay, hR2 X2 Y2 hqx hqy, hP, hD, hS⟩ hl) (fun q => absurd rfl q)
theorem lc_29 {ad0 : Nat → Nat} (C : zC p s m args meth c mL dC dI cy ad0 (lA s)) (hX : va_X b L xs s s.heap) (hbl : b < s.heap.size) (hi : i + 5 < L ∧ L < 100000) (hcs : cells ≤ room_1.cells ∧ slots ≤ room_1.slots) (hl : lv_has ls 4 [(0, .ref b), (1, .ref qx), (2, .ref qy), (3, .int (nI i))]) (ih : ∀ (H : Heap) (locs : List Loc) (ls : Array Slot), LPw dC dI cy ad0 s qx qy H locs → lv_has ls 4 [(0, .ref b), (1, .ref qx), (2, .ref qy), (3, .int (nI i))] → W p l e room_1 s m args below meth c H locs cells slots Q (F0 m 1567 ls [])) (hp : LPw dC dI cy ad0 s qx qy H locs) : W p l e room_1 s m args below meth c H locs cells slots Q (F0 m 1217 ls []) := by
  obtain ⟨ax, ay, X, Y, hx0, hy0, hax, hay, hR, hP, hD, hS⟩ := hp
  refine lv_aload_n C.1 C.2.1 dL_1217 rfl (lv_at hl 1 rfl) ?_
  refine l_arg 1 (by decide) C hX hbl hl hi dL_1218 dL_1219 dL_1220 dL_1221 dL_1222 hS ?_
  obtain ⟨v, QX, QY, hcx, hcy, hR2⟩ := (ag_soon hR ((xs (i + 1)))).c
  refine l_cx (as := [.int (xs (i + 1))]) C dL_1223 iX9_soon vX9_soon (zGm (zm4 35 rfl) rfl) rfl ⟨Nat.le_of_ble_eq_true rfl, Nat.le_of_ble_eq_true rfl⟩ rfl rfl rfl (Nat.le_of_ble_eq_true rfl) hcx hP hD hS hl.1 hx0 hax hcs (fun v2 X2 ax2 H locs hx2 hax2 hv hP hD hS => ?_)
  obtain ⟨rfl, hqx⟩ := hv
  refine lv_aload_n C.1 C.2.1 dL_1226 rfl (lv_at hl 2 rfl) ?_
  refine l_arg 1 (by decide) C hX hbl hl hi dL_1227 dL_1228 dL_1229 dL_1230 dL_1231 hS ?_
  refine l_cy (as := [.int (xs (i + 1))]) (ay := ay) (Y := Y) C dL_1232 iX10_soon vX10_soon (zGm (zm6 94 rfl) rfl) rfl ⟨Nat.le_of_ble_eq_true rfl, Nat.le_of_ble_eq_true rfl⟩ rfl rfl rfl (Nat.le_of_ble_eq_true rfl) hcy hay hP hD hS hl.1 hy0 hcs (fun v3 Y2 H locs hv hP hD hS => ?_)
  obtain ⟨rfl, hqy⟩ := hv
  exact lv_icmp_eq (tgt := 1567) C.1 C.2.1 dL_1235 rfl (fun _ => ih H locs ls ⟨ax2, ay, X2, Y2, hx2, hy0, hax2, hay, hR2 X2 Y2 hqx hqy, hP, hD, hS⟩ hl) (fun q => absurd rfl q)
theorem lc_30 {ad0 : Nat → Nat} (C : zC p s m args meth c mL dC dI cy ad0 (lA s)) (hX : va_X b L xs s s.heap) (hbl : b < s.heap.size) (hi : i + 5 < L ∧ L < 100000) (hcs : cells ≤ room_1.cells ∧ slots ≤ room_1.slots) (hl : lv_has ls 4 [(0, .ref b), (1, .ref qx), (2, .ref qy), (3, .int (nI i))]) (ih : ∀ (H : Heap) (locs : List Loc) (ls : Array Slot), LPw dC dI cy ad0 s qx qy H locs → lv_has ls 4 [(0, .ref b), (1, .ref qx), (2, .ref qy), (3, .int (nI i))] → W p l e room_1 s m args below meth c H locs cells slots Q (F0 m 1567 ls [])) (hp : LPw dC dI cy ad0 s qx qy H locs) : W p l e room_1 s m args below meth c H locs cells slots Q (F0 m 1240 ls []) := by
  obtain ⟨ax, ay, X, Y, hx0, hy0, hax, hay, hR, hP, hD, hS⟩ := hp
  refine lv_aload_n C.1 C.2.1 dL_1240 rfl (lv_at hl 1 rfl) ?_
  refine l_arg 1 (by decide) C hX hbl hl hi dL_1241 dL_1242 dL_1243 dL_1244 dL_1245 hS ?_
  refine l_arg 2 (by decide) C hX hbl hl hi dL_1246 dL_1247 dL_1248 dL_1249 dL_1250 hS ?_
  refine l_arg 3 (by decide) C hX hbl hl hi dL_1251 dL_1252 dL_1253 dL_1254 dL_1255 hS ?_
  obtain ⟨v, QX, QY, hcx, hcy, hR2⟩ := (ag_can hR ((xs (i + 1))) ((xs (i + 2))) ((xs (i + 3)))).c
  refine l_cx (as := [.int (xs (i + 1)), .int (xs (i + 2)), .int (xs (i + 3))]) C dL_1256 iX9_can vX9_can (zGm (zm4 39 rfl) rfl) rfl ⟨Nat.le_of_ble_eq_true rfl, Nat.le_of_ble_eq_true rfl⟩ rfl rfl rfl (Nat.le_of_ble_eq_true rfl) hcx hP hD hS hl.1 hx0 hax hcs (fun v2 X2 ax2 H locs hx2 hax2 hv hP hD hS => ?_)
  obtain ⟨rfl, hqx⟩ := hv
  refine lv_aload_n C.1 C.2.1 dL_1259 rfl (lv_at hl 2 rfl) ?_
  refine l_arg 1 (by decide) C hX hbl hl hi dL_1260 dL_1261 dL_1262 dL_1263 dL_1264 hS ?_
  refine l_arg 2 (by decide) C hX hbl hl hi dL_1265 dL_1266 dL_1267 dL_1268 dL_1269 hS ?_
  refine l_arg 3 (by decide) C hX hbl hl hi dL_1270 dL_1271 dL_1272 dL_1273 dL_1274 hS ?_
  refine l_cy (as := [.int (xs (i + 1)), .int (xs (i + 2)), .int (xs (i + 3))]) (ay := ay) (Y := Y) C dL_1275 iX10_can vX10_can (zGm (zm6 98 rfl) rfl) rfl ⟨Nat.le_of_ble_eq_true rfl, Nat.le_of_ble_eq_true rfl⟩ rfl rfl rfl (Nat.le_of_ble_eq_true rfl) hcy hay hP hD hS hl.1 hy0 hcs (fun v3 Y2 H locs hv hP hD hS => ?_)
  obtain ⟨rfl, hqy⟩ := hv
  exact lv_icmp_eq (tgt := 1567) C.1 C.2.1 dL_1278 rfl (fun _ => ih H locs ls ⟨ax2, ay, X2, Y2, hx2, hy0, hax2, hay, hR2 X2 Y2 hqx hqy, hP, hD, hS⟩ hl) (fun q => absurd rfl q)
theorem lc_31 {ad0 : Nat → Nat} (C : zC p s m args meth c mL dC dI cy ad0 (lA s)) (hX : va_X b L xs s s.heap) (hbl : b < s.heap.size) (hi : i + 5 < L ∧ L < 100000) (hcs : cells ≤ room_1.cells ∧ slots ≤ room_1.slots) (hl : lv_has ls 4 [(0, .ref b), (1, .ref qx), (2, .ref qy), (3, .int (nI i))]) (ih : ∀ (H : Heap) (locs : List Loc) (ls : Array Slot), LPw dC dI cy ad0 s qx qy H locs → lv_has ls 4 [(0, .ref b), (1, .ref qx), (2, .ref qy), (3, .int (nI i))] → W p l e room_1 s m args below meth c H locs cells slots Q (F0 m 1567 ls [])) (hp : LPw dC dI cy ad0 s qx qy H locs) : W p l e room_1 s m args below meth c H locs cells slots Q (F0 m 1283 ls []) := by
  obtain ⟨ax, ay, X, Y, hx0, hy0, hax, hay, hR, hP, hD, hS⟩ := hp
  refine lv_aload_n C.1 C.2.1 dL_1283 rfl (lv_at hl 1 rfl) ?_
  refine l_arg 1 (by decide) C hX hbl hl hi dL_1284 dL_1285 dL_1286 dL_1287 dL_1288 hS ?_
  refine l_arg 2 (by decide) C hX hbl hl hi dL_1289 dL_1290 dL_1291 dL_1292 dL_1293 hS ?_
  refine l_arg 3 (by decide) C hX hbl hl hi dL_1294 dL_1295 dL_1296 dL_1297 dL_1298 hS ?_
  obtain ⟨v, QX, QY, hcx, hcy, hR2⟩ := (ag_teach hR ((xs (i + 1))) ((xs (i + 2))) ((xs (i + 3)))).c
  refine l_cx (as := [.int (xs (i + 1)), .int (xs (i + 2)), .int (xs (i + 3))]) C dL_1299 iX9_teach vX9_teach (zGm (zm4 59 rfl) rfl) rfl ⟨Nat.le_of_ble_eq_true rfl, Nat.le_of_ble_eq_true rfl⟩ rfl rfl rfl (Nat.le_of_ble_eq_true rfl) hcx hP hD hS hl.1 hx0 hax hcs (fun v2 X2 ax2 H locs hx2 hax2 hv hP hD hS => ?_)
  obtain ⟨rfl, hqx⟩ := hv
  refine lv_aload_n C.1 C.2.1 dL_1302 rfl (lv_at hl 2 rfl) ?_
  refine l_arg 1 (by decide) C hX hbl hl hi dL_1303 dL_1304 dL_1305 dL_1306 dL_1307 hS ?_
  refine l_arg 2 (by decide) C hX hbl hl hi dL_1308 dL_1309 dL_1310 dL_1311 dL_1312 hS ?_
  refine l_arg 3 (by decide) C hX hbl hl hi dL_1313 dL_1314 dL_1315 dL_1316 dL_1317 hS ?_
  refine l_cy (as := [.int (xs (i + 1)), .int (xs (i + 2)), .int (xs (i + 3))]) (ay := ay) (Y := Y) C dL_1318 iX10_teach vX10_teach (zGm (zm6 106 rfl) rfl) rfl ⟨Nat.le_of_ble_eq_true rfl, Nat.le_of_ble_eq_true rfl⟩ rfl rfl rfl (Nat.le_of_ble_eq_true rfl) hcy hay hP hD hS hl.1 hy0 hcs (fun v3 Y2 H locs hv hP hD hS => ?_)
  obtain ⟨rfl, hqy⟩ := hv
  exact lv_icmp_eq (tgt := 1567) C.1 C.2.1 dL_1321 rfl (fun _ => ih H locs ls ⟨ax2, ay, X2, Y2, hx2, hy0, hax2, hay, hR2 X2 Y2 hqx hqy, hP, hD, hS⟩ hl) (fun q => absurd rfl q)
theorem lc_32 {ad0 : Nat → Nat} (C : zC p s m args meth c mL dC dI cy ad0 (lA s)) (hX : va_X b L xs s s.heap) (hbl : b < s.heap.size) (hi : i + 5 < L ∧ L < 100000) (hcs : cells ≤ room_1.cells ∧ slots ≤ room_1.slots) (hl : lv_has ls 4 [(0, .ref b), (1, .ref qx), (2, .ref qy), (3, .int (nI i))]) (ih : ∀ (H : Heap) (locs : List Loc) (ls : Array Slot), LPw dC dI cy ad0 s qx qy H locs → lv_has ls 4 [(0, .ref b), (1, .ref qx), (2, .ref qy), (3, .int (nI i))] → W p l e room_1 s m args below meth c H locs cells slots Q (F0 m 1567 ls [])) (hp : LPw dC dI cy ad0 s qx qy H locs) : W p l e room_1 s m args below meth c H locs cells slots Q (F0 m 1326 ls []) := by
  obtain ⟨ax, ay, X, Y, hx0, hy0, hax, hay, hR, hP, hD, hS⟩ := hp
  refine lv_aload_n C.1 C.2.1 dL_1326 rfl (lv_at hl 1 rfl) ?_
  refine l_arg 1 (by decide) C hX hbl hl hi dL_1327 dL_1328 dL_1329 dL_1330 dL_1331 hS ?_
  obtain ⟨v, QX, QY, hcx, hcy, hR2⟩ := (ag_keep hR ((xs (i + 1)))).c
  refine l_cx (as := [.int (xs (i + 1))]) C dL_1332 iX9_keep vX9_keep (zGm (zm4 63 rfl) rfl) rfl ⟨Nat.le_of_ble_eq_true rfl, Nat.le_of_ble_eq_true rfl⟩ rfl rfl rfl (Nat.le_of_ble_eq_true rfl) hcx hP hD hS hl.1 hx0 hax hcs (fun v2 X2 ax2 H locs hx2 hax2 hv hP hD hS => ?_)
  obtain ⟨rfl, hqx⟩ := hv
  refine lv_aload_n C.1 C.2.1 dL_1335 rfl (lv_at hl 2 rfl) ?_
  refine l_arg 1 (by decide) C hX hbl hl hi dL_1336 dL_1337 dL_1338 dL_1339 dL_1340 hS ?_
  refine l_cy (as := [.int (xs (i + 1))]) (ay := ay) (Y := Y) C dL_1341 iX10_keep vX10_keep (zGm (zm6 110 rfl) rfl) rfl ⟨Nat.le_of_ble_eq_true rfl, Nat.le_of_ble_eq_true rfl⟩ rfl rfl rfl (Nat.le_of_ble_eq_true rfl) hcy hay hP hD hS hl.1 hy0 hcs (fun v3 Y2 H locs hv hP hD hS => ?_)
  obtain ⟨rfl, hqy⟩ := hv
  exact lv_icmp_eq (tgt := 1567) C.1 C.2.1 dL_1344 rfl (fun _ => ih H locs ls ⟨ax2, ay, X2, Y2, hx2, hy0, hax2, hay, hR2 X2 Y2 hqx hqy, hP, hD, hS⟩ hl) (fun q => absurd rfl q)
theorem lc_33 {ad0 : Nat → Nat} (C : zC p s m args meth c mL dC dI cy ad0 (lA s)) (hX : va_X b L xs s s.heap) (hbl : b < s.heap.size) (hi : i + 5 < L ∧ L < 100000) (hcs : cells ≤ room_1.cells ∧ slots ≤ room_1.slots) (hl : lv_has ls 4 [(0, .ref b), (1, .ref qx), (2, .ref qy), (3, .int (nI i))]) (ih : ∀ (H : Heap) (locs : List Loc) (ls : Array Slot), LPw dC dI cy ad0 s qx qy H locs → lv_has ls 4 [(0, .ref b), (1, .ref qx), (2, .ref qy), (3, .int (nI i))] → W p l e room_1 s m args below meth c H locs cells slots Q (F0 m 1567 ls [])) (hp : LPw dC dI cy ad0 s qx qy H locs) : W p l e room_1 s m args below meth c H locs cells slots Q (F0 m 1349 ls []) := by
  obtain ⟨ax, ay, X, Y, hx0, hy0, hax, hay, hR, hP, hD, hS⟩ := hp
  refine lv_aload_n C.1 C.2.1 dL_1349 rfl (lv_at hl 1 rfl) ?_
  refine l_arg 1 (by decide) C hX hbl hl hi dL_1350 dL_1351 dL_1352 dL_1353 dL_1354 hS ?_
  refine l_arg 2 (by decide) C hX hbl hl hi dL_1355 dL_1356 dL_1357 dL_1358 dL_1359 hS ?_
  obtain ⟨v, QX, QY, hcx, hcy, hR2⟩ := (ag_map hR ((xs (i + 1))) ((xs (i + 2)))).c
  refine l_cx (as := [.int (xs (i + 1)), .int (xs (i + 2))]) C dL_1360 iX9_map vX9_map (zGm (zm4 78 rfl) rfl) rfl ⟨Nat.le_of_ble_eq_true rfl, Nat.le_of_ble_eq_true rfl⟩ rfl rfl rfl (Nat.le_of_ble_eq_true rfl) hcx hP hD hS hl.1 hx0 hax hcs (fun v2 X2 ax2 H locs hx2 hax2 hv hP hD hS => ?_)
  obtain ⟨rfl, hqx⟩ := hv
  refine lv_aload_n C.1 C.2.1 dL_1363 rfl (lv_at hl 2 rfl) ?_
  refine l_arg 1 (by decide) C hX hbl hl hi dL_1364 dL_1365 dL_1366 dL_1367 dL_1368 hS ?_
  refine l_arg 2 (by decide) C hX hbl hl hi dL_1369 dL_1370 dL_1371 dL_1372 dL_1373 hS ?_
  refine l_cy (as := [.int (xs (i + 1)), .int (xs (i + 2))]) (ay := ay) (Y := Y) C dL_1374 iX10_map vX10_map (zGm (zm6 114 rfl) rfl) rfl ⟨Nat.le_of_ble_eq_true rfl, Nat.le_of_ble_eq_true rfl⟩ rfl rfl rfl (Nat.le_of_ble_eq_true rfl) hcy hay hP hD hS hl.1 hy0 hcs (fun v3 Y2 H locs hv hP hD hS => ?_)
  obtain ⟨rfl, hqy⟩ := hv
  exact lv_icmp_eq (tgt := 1567) C.1 C.2.1 dL_1377 rfl (fun _ => ih H locs ls ⟨ax2, ay, X2, Y2, hx2, hy0, hax2, hay, hR2 X2 Y2 hqx hqy, hP, hD, hS⟩ hl) (fun q => absurd rfl q)
theorem lc_34 {ad0 : Nat → Nat} (C : zC p s m args meth c mL dC dI cy ad0 (lA s)) (hX : va_X b L xs s s.heap) (hbl : b < s.heap.size) (hi : i + 5 < L ∧ L < 100000) (hcs : cells ≤ room_1.cells ∧ slots ≤ room_1.slots) (hl : lv_has ls 4 [(0, .ref b), (1, .ref qx), (2, .ref qy), (3, .int (nI i))]) (ih : ∀ (H : Heap) (locs : List Loc) (ls : Array Slot), LPw dC dI cy ad0 s qx qy H locs → lv_has ls 4 [(0, .ref b), (1, .ref qx), (2, .ref qy), (3, .int (nI i))] → W p l e room_1 s m args below meth c H locs cells slots Q (F0 m 1567 ls [])) (hp : LPw dC dI cy ad0 s qx qy H locs) : W p l e room_1 s m args below meth c H locs cells slots Q (F0 m 1382 ls []) := by
  obtain ⟨ax, ay, X, Y, hx0, hy0, hax, hay, hR, hP, hD, hS⟩ := hp
  refine lv_aload_n C.1 C.2.1 dL_1382 rfl (lv_at hl 1 rfl) ?_
  refine l_arg 1 (by decide) C hX hbl hl hi dL_1383 dL_1384 dL_1385 dL_1386 dL_1387 hS ?_
  refine l_arg 2 (by decide) C hX hbl hl hi dL_1388 dL_1389 dL_1390 dL_1391 dL_1392 hS ?_
  refine l_arg 3 (by decide) C hX hbl hl hi dL_1393 dL_1394 dL_1395 dL_1396 dL_1397 hS ?_
  obtain ⟨v, QX, QY, hcx, hcy, hR2⟩ := (ag_sheet hR ((xs (i + 1))) ((xs (i + 2))) ((xs (i + 3)))).c
  refine l_cx (as := [.int (xs (i + 1)), .int (xs (i + 2)), .int (xs (i + 3))]) C dL_1398 iX9_sheet vX9_sheet (zGm (zm4 94 rfl) rfl) rfl ⟨Nat.le_of_ble_eq_true rfl, Nat.le_of_ble_eq_true rfl⟩ rfl rfl rfl (Nat.le_of_ble_eq_true rfl) hcx hP hD hS hl.1 hx0 hax hcs (fun v2 X2 ax2 H locs hx2 hax2 hv hP hD hS => ?_)
  obtain ⟨rfl, hqx⟩ := hv
  refine lv_aload_n C.1 C.2.1 dL_1401 rfl (lv_at hl 2 rfl) ?_
  refine l_arg 1 (by decide) C hX hbl hl hi dL_1402 dL_1403 dL_1404 dL_1405 dL_1406 hS ?_
  refine l_arg 2 (by decide) C hX hbl hl hi dL_1407 dL_1408 dL_1409 dL_1410 dL_1411 hS ?_
  refine l_arg 3 (by decide) C hX hbl hl hi dL_1412 dL_1413 dL_1414 dL_1415 dL_1416 hS ?_
  refine l_cy (as := [.int (xs (i + 1)), .int (xs (i + 2)), .int (xs (i + 3))]) (ay := ay) (Y := Y) C dL_1417 iX10_sheet vX10_sheet (zGm (zm6 118 rfl) rfl) rfl ⟨Nat.le_of_ble_eq_true rfl, Nat.le_of_ble_eq_true rfl⟩ rfl rfl rfl (Nat.le_of_ble_eq_true rfl) hcy hay hP hD hS hl.1 hy0 hcs (fun v3 Y2 H locs hv hP hD hS => ?_)
  obtain ⟨rfl, hqy⟩ := hv
  exact lv_icmp_eq (tgt := 1567) C.1 C.2.1 dL_1420 rfl (fun _ => ih H locs ls ⟨ax2, ay, X2, Y2, hx2, hy0, hax2, hay, hR2 X2 Y2 hqx hqy, hP, hD, hS⟩ hl) (fun q => absurd rfl q)
theorem lc_35 {ad0 : Nat → Nat} (C : zC p s m args meth c mL dC dI cy ad0 (lA s)) (hX : va_X b L xs s s.heap) (hbl : b < s.heap.size) (hi : i + 5 < L ∧ L < 100000) (hcs : cells ≤ room_1.cells ∧ slots ≤ room_1.slots) (hl : lv_has ls 4 [(0, .ref b), (1, .ref qx), (2, .ref qy), (3, .int (nI i))]) (ih : ∀ (H : Heap) (locs : List Loc) (ls : Array Slot), LPw dC dI cy ad0 s qx qy H locs → lv_has ls 4 [(0, .ref b), (1, .ref qx), (2, .ref qy), (3, .int (nI i))] → W p l e room_1 s m args below meth c H locs cells slots Q (F0 m 1567 ls [])) (hp : LPw dC dI cy ad0 s qx qy H locs) : W p l e room_1 s m args below meth c H locs cells slots Q (F0 m 1425 ls []) := by
  obtain ⟨ax, ay, X, Y, hx0, hy0, hax, hay, hR, hP, hD, hS⟩ := hp
  refine lv_aload_n C.1 C.2.1 dL_1425 rfl (lv_at hl 1 rfl) ?_
  refine l_arg 1 (by decide) C hX hbl hl hi dL_1426 dL_1427 dL_1428 dL_1429 dL_1430 hS ?_
  refine l_arg 2 (by decide) C hX hbl hl hi dL_1431 dL_1432 dL_1433 dL_1434 dL_1435 hS ?_
  refine l_arg 3 (by decide) C hX hbl hl hi dL_1436 dL_1437 dL_1438 dL_1439 dL_1440 hS ?_
  obtain ⟨v, QX, QY, hcx, hcy, hR2⟩ := (ag_lay hR ((xs (i + 1))) ((xs (i + 2))) ((xs (i + 3)))).c
  refine l_cx (as := [.int (xs (i + 1)), .int (xs (i + 2)), .int (xs (i + 3))]) C dL_1441 iX9_lay vX9_lay (zGm (zm4 102 rfl) rfl) rfl ⟨Nat.le_of_ble_eq_true rfl, Nat.le_of_ble_eq_true rfl⟩ rfl rfl rfl (Nat.le_of_ble_eq_true rfl) hcx hP hD hS hl.1 hx0 hax hcs (fun v2 X2 ax2 H locs hx2 hax2 hv hP hD hS => ?_)
  obtain ⟨rfl, hqx⟩ := hv
  refine lv_aload_n C.1 C.2.1 dL_1444 rfl (lv_at hl 2 rfl) ?_
  refine l_arg 1 (by decide) C hX hbl hl hi dL_1445 dL_1446 dL_1447 dL_1448 dL_1449 hS ?_
  refine l_arg 2 (by decide) C hX hbl hl hi dL_1450 dL_1451 dL_1452 dL_1453 dL_1454 hS ?_
  refine l_arg 3 (by decide) C hX hbl hl hi dL_1455 dL_1456 dL_1457 dL_1458 dL_1459 hS ?_
  refine l_cy (as := [.int (xs (i + 1)), .int (xs (i + 2)), .int (xs (i + 3))]) (ay := ay) (Y := Y) C dL_1460 iX10_lay vX10_lay (zGm (zm6 125 rfl) rfl) rfl ⟨Nat.le_of_ble_eq_true rfl, Nat.le_of_ble_eq_true rfl⟩ rfl rfl rfl (Nat.le_of_ble_eq_true rfl) hcy hay hP hD hS hl.1 hy0 hcs (fun v3 Y2 H locs hv hP hD hS => ?_)
  obtain ⟨rfl, hqy⟩ := hv
  exact lv_icmp_eq (tgt := 1567) C.1 C.2.1 dL_1463 rfl (fun _ => ih H locs ls ⟨ax2, ay, X2, Y2, hx2, hy0, hax2, hay, hR2 X2 Y2 hqx hqy, hP, hD, hS⟩ hl) (fun q => absurd rfl q)
theorem lc_36 {ad0 : Nat → Nat} (C : zC p s m args meth c mL dC dI cy ad0 (lA s)) (hX : va_X b L xs s s.heap) (hbl : b < s.heap.size) (hi : i + 5 < L ∧ L < 100000) (hcs : cells ≤ room_1.cells ∧ slots ≤ room_1.slots) (hl : lv_has ls 4 [(0, .ref b), (1, .ref qx), (2, .ref qy), (3, .int (nI i))]) (ih : ∀ (H : Heap) (locs : List Loc) (ls : Array Slot), LPw dC dI cy ad0 s qx qy H locs → lv_has ls 4 [(0, .ref b), (1, .ref qx), (2, .ref qy), (3, .int (nI i))] → W p l e room_1 s m args below meth c H locs cells slots Q (F0 m 1567 ls [])) (hp : LPw dC dI cy ad0 s qx qy H locs) : W p l e room_1 s m args below meth c H locs cells slots Q (F0 m 1468 ls []) := by
  obtain ⟨ax, ay, X, Y, hx0, hy0, hax, hay, hR, hP, hD, hS⟩ := hp
  refine lv_aload_n C.1 C.2.1 dL_1468 rfl (lv_at hl 1 rfl) ?_
  refine l_arg 1 (by decide) C hX hbl hl hi dL_1469 dL_1470 dL_1471 dL_1472 dL_1473 hS ?_
  refine l_arg 2 (by decide) C hX hbl hl hi dL_1474 dL_1475 dL_1476 dL_1477 dL_1478 hS ?_
  refine l_arg 3 (by decide) C hX hbl hl hi dL_1479 dL_1480 dL_1481 dL_1482 dL_1483 hS ?_
  refine l_arg 4 (by decide) C hX hbl hl hi dL_1484 dL_1485 dL_1486 dL_1487 dL_1488 hS ?_
  refine l_arg 5 (by decide) C hX hbl hl hi dL_1489 dL_1490 dL_1491 dL_1492 dL_1493 hS ?_
  obtain ⟨v, QX, QY, hcx, hcy, hR2⟩ := (ag_read hR ((xs (i + 1))) ((xs (i + 2))) ((xs (i + 3))) ((xs (i + 4))) ((xs (i + 5)))).c
  refine l_cx (as := [.int (xs (i + 1)), .int (xs (i + 2)), .int (xs (i + 3)), .int (xs (i + 4)), .int (xs (i + 5))]) C dL_1494 iX9_read vX9_read (zGm (zm4 114 rfl) rfl) rfl ⟨Nat.le_of_ble_eq_true rfl, Nat.le_of_ble_eq_true rfl⟩ rfl rfl rfl (Nat.le_of_ble_eq_true rfl) hcx hP hD hS hl.1 hx0 hax hcs (fun v2 X2 ax2 H locs hx2 hax2 hv hP hD hS => ?_)
  obtain ⟨rfl, hqx⟩ := hv
  refine lv_aload_n C.1 C.2.1 dL_1497 rfl (lv_at hl 2 rfl) ?_
  refine l_arg 1 (by decide) C hX hbl hl hi dL_1498 dL_1499 dL_1500 dL_1501 dL_1502 hS ?_
  refine l_arg 2 (by decide) C hX hbl hl hi dL_1503 dL_1504 dL_1505 dL_1506 dL_1507 hS ?_
  refine l_arg 3 (by decide) C hX hbl hl hi dL_1508 dL_1509 dL_1510 dL_1511 dL_1512 hS ?_
  refine l_arg 4 (by decide) C hX hbl hl hi dL_1513 dL_1514 dL_1515 dL_1516 dL_1517 hS ?_
  refine l_arg 5 (by decide) C hX hbl hl hi dL_1518 dL_1519 dL_1520 dL_1521 dL_1522 hS ?_
  refine l_cy (as := [.int (xs (i + 1)), .int (xs (i + 2)), .int (xs (i + 3)), .int (xs (i + 4)), .int (xs (i + 5))]) (ay := ay) (Y := Y) C dL_1523 iX10_read vX10_read (zGm (zm6 129 rfl) rfl) rfl ⟨Nat.le_of_ble_eq_true rfl, Nat.le_of_ble_eq_true rfl⟩ rfl rfl rfl (Nat.le_of_ble_eq_true rfl) hcy hay hP hD hS hl.1 hy0 hcs (fun v3 Y2 H locs hv hP hD hS => ?_)
  obtain ⟨rfl, hqy⟩ := hv
  exact lv_icmp_eq (tgt := 1567) C.1 C.2.1 dL_1526 rfl (fun _ => ih H locs ls ⟨ax2, ay, X2, Y2, hx2, hy0, hax2, hay, hR2 X2 Y2 hqx hqy, hP, hD, hS⟩ hl) (fun q => absurd rfl q)
theorem lc_37 {ad0 : Nat → Nat} (C : zC p s m args meth c mL dC dI cy ad0 (lA s)) (hX : va_X b L xs s s.heap) (hbl : b < s.heap.size) (hi : i + 5 < L ∧ L < 100000) (hcs : cells ≤ room_1.cells ∧ slots ≤ room_1.slots) (hl : lv_has ls 4 [(0, .ref b), (1, .ref qx), (2, .ref qy), (3, .int (nI i))]) (ih : ∀ (H : Heap) (locs : List Loc) (ls : Array Slot), LPw dC dI cy ad0 s qx qy H locs → lv_has ls 4 [(0, .ref b), (1, .ref qx), (2, .ref qy), (3, .int (nI i))] → W p l e room_1 s m args below meth c H locs cells slots Q (F0 m 1567 ls [])) (hp : LPw dC dI cy ad0 s qx qy H locs) : W p l e room_1 s m args below meth c H locs cells slots Q (F0 m 1531 ls []) := by
  obtain ⟨ax, ay, X, Y, hx0, hy0, hax, hay, hR, hP, hD, hS⟩ := hp
  refine lv_aload_n C.1 C.2.1 dL_1531 rfl (lv_at hl 1 rfl) ?_
  obtain ⟨v, QX, QY, hcx, hcy, hR2⟩ := (ag_torn hR ).c
  refine l_cx (as := []) C dL_1532 iX9_torn vX9_torn (zGm (zm4 118 rfl) rfl) rfl ⟨Nat.le_of_ble_eq_true rfl, Nat.le_of_ble_eq_true rfl⟩ rfl rfl rfl (Nat.le_of_ble_eq_true rfl) hcx hP hD hS hl.1 hx0 hax hcs (fun v2 X2 ax2 H locs hx2 hax2 hv hP hD hS => ?_)
  obtain ⟨rfl, hqx⟩ := hv
  refine lv_aload_n C.1 C.2.1 dL_1535 rfl (lv_at hl 2 rfl) ?_
  refine l_cy (as := []) (ay := ay) (Y := Y) C dL_1536 iX10_torn vX10_torn (zGm (zm6 134 rfl) rfl) rfl ⟨Nat.le_of_ble_eq_true rfl, Nat.le_of_ble_eq_true rfl⟩ rfl rfl rfl (Nat.le_of_ble_eq_true rfl) hcy hay hP hD hS hl.1 hy0 hcs (fun v3 Y2 H locs hv hP hD hS => ?_)
  obtain ⟨rfl, hqy⟩ := hv
  exact lv_icmp_eq (tgt := 1567) C.1 C.2.1 dL_1539 rfl (fun _ => ih H locs ls ⟨ax2, ay, X2, Y2, hx2, hy0, hax2, hay, hR2 X2 Y2 hqx hqy, hP, hD, hS⟩ hl) (fun q => absurd rfl q)
theorem lc_38 {ad0 : Nat → Nat} (C : zC p s m args meth c mL dC dI cy ad0 (lA s)) (hX : va_X b L xs s s.heap) (hbl : b < s.heap.size) (hi : i + 5 < L ∧ L < 100000) (hcs : cells ≤ room_1.cells ∧ slots ≤ room_1.slots) (hl : lv_has ls 4 [(0, .ref b), (1, .ref qx), (2, .ref qy), (3, .int (nI i))]) (ih : ∀ (H : Heap) (locs : List Loc) (ls : Array Slot), LPw dC dI cy ad0 s qx qy H locs → lv_has ls 4 [(0, .ref b), (1, .ref qx), (2, .ref qy), (3, .int (nI i))] → W p l e room_1 s m args below meth c H locs cells slots Q (F0 m 1567 ls [])) (hp : LPw dC dI cy ad0 s qx qy H locs) : W p l e room_1 s m args below meth c H locs cells slots Q (F0 m 1544 ls []) := by
  obtain ⟨ax, ay, X, Y, hx0, hy0, hax, hay, hR, hP, hD, hS⟩ := hp
  refine lv_aload_n C.1 C.2.1 dL_1544 rfl (lv_at hl 1 rfl) ?_
  refine l_arg 1 (by decide) C hX hbl hl hi dL_1545 dL_1546 dL_1547 dL_1548 dL_1549 hS ?_
  obtain ⟨v, QX, QY, hcx, hcy, hR2⟩ := (ag_count hR ((xs (i + 1)))).c
  refine l_cx (as := [.int (xs (i + 1))]) C dL_1550 iX9_count vX9_count (zGm (zm4 122 rfl) rfl) rfl ⟨Nat.le_of_ble_eq_true rfl, Nat.le_of_ble_eq_true rfl⟩ rfl rfl rfl (Nat.le_of_ble_eq_true rfl) hcx hP hD hS hl.1 hx0 hax hcs (fun v2 X2 ax2 H locs hx2 hax2 hv hP hD hS => ?_)
  obtain ⟨rfl, hqx⟩ := hv
  refine lv_aload_n C.1 C.2.1 dL_1553 rfl (lv_at hl 2 rfl) ?_
  refine l_arg 1 (by decide) C hX hbl hl hi dL_1554 dL_1555 dL_1556 dL_1557 dL_1558 hS ?_
  refine l_cy (as := [.int (xs (i + 1))]) (ay := ay) (Y := Y) C dL_1559 iX10_count vX10_count (zGm (zm6 138 rfl) rfl) rfl ⟨Nat.le_of_ble_eq_true rfl, Nat.le_of_ble_eq_true rfl⟩ rfl rfl rfl (Nat.le_of_ble_eq_true rfl) hcy hay hP hD hS hl.1 hy0 hcs (fun v3 Y2 H locs hv hP hD hS => ?_)
  obtain ⟨rfl, hqy⟩ := hv
  exact lv_icmp_eq (tgt := 1567) C.1 C.2.1 dL_1562 rfl (fun _ => ih H locs ls ⟨ax2, ay, X2, Y2, hx2, hy0, hax2, hay, hR2 X2 Y2 hqx hqy, hP, hD, hS⟩ hl) (fun q => absurd rfl q)
end LC
