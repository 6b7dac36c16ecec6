/-! the law's cases -/
theorem okNil : ∀ v ∈ ([] : List xV), x_ok v := fun _ w => absurd w List.not_mem_nil
theorem okU {z : Int} {l : List xV} (hz : inR z) (h : ∀ v ∈ l, x_ok v) : ∀ v ∈ vI z :: l, x_ok v := List.forall_mem_cons.mpr ⟨hz, h⟩
theorem bi_ok {q : Prop} [Decidable q] : inR (bi q) := by
  rcases bi_or q with h | h <;> rw [h] <;> decide
section Cases
variable {p : Program} {l : Launch} {e : Env} {s : State} {m : MethodId} {below : List Frame} {meth : Method} {c : Code} {b Ln : Nat} {xs : Nat → Int32} {G : xG} {H : Heap} {locs : List Loc} {ls : Array Slot} {cells slots : Nat} {QQ : State → Prop} {i : Int} {P : xP} {M : xM}
theorem law_newCase (C : x_C YL none G p s m #[Value.ref b] meth c H locs (82, P, M)) (X : LX s b Ln xs G) (hl : LL G b ls i) (hi : 0 ≤ i ∧ i + 6 ≤ Ln) (hP : x_PP P) (hR : Rel M) (hc : cells ≤ 1000 ∧ slots ≤ 100000) (kend : ∀ H' locs' M', x_C YL none G p s m #[Value.ref b] meth c H' locs' (82, P, M') → Rel M' → W p l e room_1 s m #[Value.ref b] below meth c H' locs' cells slots QQ (F0 m 1455 ls [])) : W p l e room_1 s m #[Value.ref b] below meth c H locs cells slots QQ (F0 m 216 ls []) := by
  refine lv_aload_n (cc := code) C.2.1.1 C.2.1.2.1 dL_law_216 rfl (lv_at hl 1 rfl) ?_
  refine lawArg dL_law_217 dL_law_218 dL_law_219 dL_law_220 dL_law_221 C X hl (by omega) ?_
  refine lawArg dL_law_222 dL_law_223 dL_law_224 dL_law_225 dL_law_226 C X hl (by omega) ?_
  refine lawArg dL_law_227 dL_law_228 dL_law_229 dL_law_230 dL_law_231 C X hl (by omega) ?_
  refine lawArg dL_law_232 dL_law_233 dL_law_234 dL_law_235 dL_law_236 C X hl (by omega) ?_
  refine lawV (As := [vI (xv xs (i + 1)), vI (xv xs (i + 2)), vI (xv xs (i + 3)), vI (xv xs (i + 4))]) (rest := []) (a := 0) (mc' := 0) (ms' := 0) (d := 200) dL_law_237 mv_L_13 rfl (Nat.le_of_ble_eq_true rfl) rfl hl.1 (okU (xv_ok _ _) (okU (xv_ok _ _) (okU (xv_ok _ _) (okU (xv_ok _ _) okNil)))) (Nat.le_of_ble_eq_true rfl) (by omega) (Nat.le_of_ble_eq_true rfl) C (op_newCase (d := 100) (Nat.le_refl _) hP hR) (fun h1 r1 H1 locs1 q1 _ C1 => ?_)
  obtain ⟨M1, z1, rfl, rfl, q1⟩ := q1
  refine lv_aload_n (cc := code) C1.2.1.1 C1.2.1.2.1 dL_law_240 rfl (lv_at hl 2 rfl) ?_
  refine lawArg dL_law_241 dL_law_242 dL_law_243 dL_law_244 dL_law_245 C1 X hl (by omega) ?_
  refine lawArg dL_law_246 dL_law_247 dL_law_248 dL_law_249 dL_law_250 C1 X hl (by omega) ?_
  refine lawArg dL_law_251 dL_law_252 dL_law_253 dL_law_254 dL_law_255 C1 X hl (by omega) ?_
  refine lawArg dL_law_256 dL_law_257 dL_law_258 dL_law_259 dL_law_260 C1 X hl (by omega) ?_
  refine lawV (As := [vI (xv xs (i + 1)), vI (xv xs (i + 2)), vI (xv xs (i + 3)), vI (xv xs (i + 4))]) (rest := [.int (Int32.ofInt z1)]) (a := 64) (mc' := 0) (ms' := 0) (d := 200) dL_law_261 mv_L_17 rfl (Nat.le_of_ble_eq_true rfl) rfl hl.1 (okU (xv_ok _ _) (okU (xv_ok _ _) (okU (xv_ok _ _) (okU (xv_ok _ _) okNil)))) (Nat.le_of_ble_eq_true rfl) (by omega) (Nat.le_of_ble_eq_true rfl) C1 q1 (fun h2 r2 H2 locs2 q2 _ C2 => ?_)
  obtain ⟨M2, z2, rfl, rfl, rfl, R2⟩ := q2
  exact lv_icmp_eq (cc := code) (x := Int32.ofInt z2) (y := Int32.ofInt z2) (tgt := 1455) C2.2.1.1 C2.2.1.2.1 dL_law_264 (by decide) (fun _ => kend H2 locs2 M2 C2 R2) (fun w => absurd rfl w)
theorem law_feed (C : x_C YL none G p s m #[Value.ref b] meth c H locs (82, P, M)) (X : LX s b Ln xs G) (hl : LL G b ls i) (hi : 0 ≤ i ∧ i + 6 ≤ Ln) (hP : x_PP P) (hR : Rel M) (hc : cells ≤ 1000 ∧ slots ≤ 100000) (kend : ∀ H' locs' M', x_C YL none G p s m #[Value.ref b] meth c H' locs' (82, P, M') → Rel M' → W p l e room_1 s m #[Value.ref b] below meth c H' locs' cells slots QQ (F0 m 1455 ls [])) : W p l e room_1 s m #[Value.ref b] below meth c H locs cells slots QQ (F0 m 269 ls []) := by
  refine lv_aload_n (cc := code) C.2.1.1 C.2.1.2.1 dL_law_269 rfl (lv_at hl 1 rfl) ?_
  refine lawArg dL_law_270 dL_law_271 dL_law_272 dL_law_273 dL_law_274 C X hl (by omega) ?_
  refine lawArg dL_law_275 dL_law_276 dL_law_277 dL_law_278 dL_law_279 C X hl (by omega) ?_
  refine lawArg dL_law_280 dL_law_281 dL_law_282 dL_law_283 dL_law_284 C X hl (by omega) ?_
  refine lawArg dL_law_285 dL_law_286 dL_law_287 dL_law_288 dL_law_289 C X hl (by omega) ?_
  refine lawArg dL_law_290 dL_law_291 dL_law_292 dL_law_293 dL_law_294 C X hl (by omega) ?_
  refine lawV (As := [vI (xv xs (i + 1)), vI (xv xs (i + 2)), vI (xv xs (i + 3)), vI (xv xs (i + 4)), vI (xv xs (i + 5))]) (rest := []) (a := 0) (mc' := 0) (ms' := 0) (d := 200) dL_law_295 mv_L_18 rfl (Nat.le_of_ble_eq_true rfl) rfl hl.1 (okU (xv_ok _ _) (okU (xv_ok _ _) (okU (xv_ok _ _) (okU (xv_ok _ _) (okU (xv_ok _ _) okNil))))) (Nat.le_of_ble_eq_true rfl) (by omega) (Nat.le_of_ble_eq_true rfl) C (op_feed (d := 100) (Nat.le_refl _) hP hR) (fun h1 r1 H1 locs1 q1 _ C1 => ?_)
  obtain ⟨M1, z1, rfl, rfl, q1⟩ := q1
  refine lv_aload_n (cc := code) C1.2.1.1 C1.2.1.2.1 dL_law_298 rfl (lv_at hl 2 rfl) ?_
  refine lawArg dL_law_299 dL_law_300 dL_law_301 dL_law_302 dL_law_303 C1 X hl (by omega) ?_
  refine lawArg dL_law_304 dL_law_305 dL_law_306 dL_law_307 dL_law_308 C1 X hl (by omega) ?_
  refine lawArg dL_law_309 dL_law_310 dL_law_311 dL_law_312 dL_law_313 C1 X hl (by omega) ?_
  refine lawArg dL_law_314 dL_law_315 dL_law_316 dL_law_317 dL_law_318 C1 X hl (by omega) ?_
  refine lawArg dL_law_319 dL_law_320 dL_law_321 dL_law_322 dL_law_323 C1 X hl (by omega) ?_
  refine lawV (As := [vI (xv xs (i + 1)), vI (xv xs (i + 2)), vI (xv xs (i + 3)), vI (xv xs (i + 4)), vI (xv xs (i + 5))]) (rest := [.int (Int32.ofInt z1)]) (a := 64) (mc' := 0) (ms' := 0) (d := 200) dL_law_324 mv_L_22 rfl (Nat.le_of_ble_eq_true rfl) rfl hl.1 (okU (xv_ok _ _) (okU (xv_ok _ _) (okU (xv_ok _ _) (okU (xv_ok _ _) (okU (xv_ok _ _) okNil))))) (Nat.le_of_ble_eq_true rfl) (by omega) (Nat.le_of_ble_eq_true rfl) C1 q1 (fun h2 r2 H2 locs2 q2 _ C2 => ?_)
  obtain ⟨M2, z2, rfl, rfl, rfl, R2⟩ := q2
  exact lv_icmp_eq (cc := code) (x := Int32.ofInt z2) (y := Int32.ofInt z2) (tgt := 1455) C2.2.1.1 C2.2.1.2.1 dL_law_327 (by decide) (fun _ => kend H2 locs2 M2 C2 R2) (fun w => absurd rfl w)
theorem law_end (C : x_C YL none G p s m #[Value.ref b] meth c H locs (82, P, M)) (X : LX s b Ln xs G) (hl : LL G b ls i) (hi : 0 ≤ i ∧ i + 6 ≤ Ln) (hP : x_PP P) (hR : Rel M) (hc : cells ≤ 1000 ∧ slots ≤ 100000) (kend : ∀ H' locs' M', x_C YL none G p s m #[Value.ref b] meth c H' locs' (82, P, M') → Rel M' → W p l e room_1 s m #[Value.ref b] below meth c H' locs' cells slots QQ (F0 m 1455 ls [])) : W p l e room_1 s m #[Value.ref b] below meth c H locs cells slots QQ (F0 m 332 ls []) := by
  refine lv_aload_n (cc := code) C.2.1.1 C.2.1.2.1 dL_law_332 rfl (lv_at hl 1 rfl) ?_
  refine lawArg dL_law_333 dL_law_334 dL_law_335 dL_law_336 dL_law_337 C X hl (by omega) ?_
  refine lawV (As := [vI (xv xs (i + 1))]) (rest := []) (a := 0) (mc' := 0) (ms' := 0) (d := 200) dL_law_338 mv_L_23 rfl (Nat.le_of_ble_eq_true rfl) rfl hl.1 (okU (xv_ok _ _) okNil) (Nat.le_of_ble_eq_true rfl) (by omega) (Nat.le_of_ble_eq_true rfl) C (op_end (d := 100) (Nat.le_refl _) hP hR) (fun h1 r1 H1 locs1 q1 _ C1 => ?_)
  obtain ⟨M1, z1, rfl, rfl, q1⟩ := q1
  refine lv_aload_n (cc := code) C1.2.1.1 C1.2.1.2.1 dL_law_341 rfl (lv_at hl 2 rfl) ?_
  refine lawArg dL_law_342 dL_law_343 dL_law_344 dL_law_345 dL_law_346 C1 X hl (by omega) ?_
  refine lawV (As := [vI (xv xs (i + 1))]) (rest := [.int (Int32.ofInt z1)]) (a := 64) (mc' := 0) (ms' := 0) (d := 200) dL_law_347 mv_L_27 rfl (Nat.le_of_ble_eq_true rfl) rfl hl.1 (okU (xv_ok _ _) okNil) (Nat.le_of_ble_eq_true rfl) (by omega) (Nat.le_of_ble_eq_true rfl) C1 q1 (fun h2 r2 H2 locs2 q2 _ C2 => ?_)
  obtain ⟨M2, z2, rfl, rfl, rfl, R2⟩ := q2
  exact lv_icmp_eq (cc := code) (x := Int32.ofInt z2) (y := Int32.ofInt z2) (tgt := 1455) C2.2.1.1 C2.2.1.2.1 dL_law_350 (by decide) (fun _ => kend H2 locs2 M2 C2 R2) (fun w => absurd rfl w)
theorem law_fault (C : x_C YL none G p s m #[Value.ref b] meth c H locs (82, P, M)) (X : LX s b Ln xs G) (hl : LL G b ls i) (hi : 0 ≤ i ∧ i + 6 ≤ Ln) (hP : x_PP P) (hR : Rel M) (hc : cells ≤ 1000 ∧ slots ≤ 100000) (kend : ∀ H' locs' M', x_C YL none G p s m #[Value.ref b] meth c H' locs' (82, P, M') → Rel M' → W p l e room_1 s m #[Value.ref b] below meth c H' locs' cells slots QQ (F0 m 1455 ls [])) : W p l e room_1 s m #[Value.ref b] below meth c H locs cells slots QQ (F0 m 368 ls []) := by
  refine lv_aload_n (cc := code) C.2.1.1 C.2.1.2.1 dL_law_368 rfl (lv_at hl 1 rfl) ?_
  refine lawArg dL_law_369 dL_law_370 dL_law_371 dL_law_372 dL_law_373 C X hl (by omega) ?_
  refine lawV (As := [vI (xv xs (i + 1))]) (rest := []) (a := 0) (mc' := 0) (ms' := 0) (d := 200) dL_law_374 mv_L_33 rfl (Nat.le_of_ble_eq_true rfl) rfl hl.1 (okU (xv_ok _ _) okNil) (Nat.le_of_ble_eq_true rfl) (by omega) (Nat.le_of_ble_eq_true rfl) C (op_fault (d := 100) (Nat.le_refl _) hP hR) (fun h1 r1 H1 locs1 q1 _ C1 => ?_)
  obtain ⟨M1, z1, rfl, rfl, q1⟩ := q1
  refine lv_aload_n (cc := code) C1.2.1.1 C1.2.1.2.1 dL_law_377 rfl (lv_at hl 2 rfl) ?_
  refine lawArg dL_law_378 dL_law_379 dL_law_380 dL_law_381 dL_law_382 C1 X hl (by omega) ?_
  refine lawV (As := [vI (xv xs (i + 1))]) (rest := [.int (Int32.ofInt z1)]) (a := 64) (mc' := 0) (ms' := 0) (d := 200) dL_law_383 mv_L_36 rfl (Nat.le_of_ble_eq_true rfl) rfl hl.1 (okU (xv_ok _ _) okNil) (Nat.le_of_ble_eq_true rfl) (by omega) (Nat.le_of_ble_eq_true rfl) C1 q1 (fun h2 r2 H2 locs2 q2 _ C2 => ?_)
  obtain ⟨M2, z2, rfl, rfl, rfl, R2⟩ := q2
  exact lv_icmp_eq (cc := code) (x := Int32.ofInt z2) (y := Int32.ofInt z2) (tgt := 1455) C2.2.1.1 C2.2.1.2.1 dL_law_386 (by decide) (fun _ => kend H2 locs2 M2 C2 R2) (fun w => absurd rfl w)
theorem law_by (C : x_C YL none G p s m #[Value.ref b] meth c H locs (82, P, M)) (X : LX s b Ln xs G) (hl : LL G b ls i) (hi : 0 ≤ i ∧ i + 6 ≤ Ln) (hP : x_PP P) (hR : Rel M) (hc : cells ≤ 1000 ∧ slots ≤ 100000) (kend : ∀ H' locs' M', x_C YL none G p s m #[Value.ref b] meth c H' locs' (82, P, M') → Rel M' → W p l e room_1 s m #[Value.ref b] below meth c H' locs' cells slots QQ (F0 m 1455 ls [])) : W p l e room_1 s m #[Value.ref b] below meth c H locs cells slots QQ (F0 m 391 ls []) := by
  refine lv_aload_n (cc := code) C.2.1.1 C.2.1.2.1 dL_law_391 rfl (lv_at hl 1 rfl) ?_
  refine lawArg dL_law_392 dL_law_393 dL_law_394 dL_law_395 dL_law_396 C X hl (by omega) ?_
  refine lawV (As := [vI (xv xs (i + 1))]) (rest := []) (a := 0) (mc' := 0) (ms' := 0) (d := 200) dL_law_397 mv_L_37 rfl (Nat.le_of_ble_eq_true rfl) rfl hl.1 (okU (xv_ok _ _) okNil) (Nat.le_of_ble_eq_true rfl) (by omega) (Nat.le_of_ble_eq_true rfl) C (op_by (d := 100) (Nat.le_refl _) hP hR) (fun h1 r1 H1 locs1 q1 _ C1 => ?_)
  obtain ⟨M1, z1, rfl, rfl, q1⟩ := q1
  refine lv_aload_n (cc := code) C1.2.1.1 C1.2.1.2.1 dL_law_400 rfl (lv_at hl 2 rfl) ?_
  refine lawArg dL_law_401 dL_law_402 dL_law_403 dL_law_404 dL_law_405 C1 X hl (by omega) ?_
  refine lawV (As := [vI (xv xs (i + 1))]) (rest := [.int (Int32.ofInt z1)]) (a := 64) (mc' := 0) (ms' := 0) (d := 200) dL_law_406 mv_L_41 rfl (Nat.le_of_ble_eq_true rfl) rfl hl.1 (okU (xv_ok _ _) okNil) (Nat.le_of_ble_eq_true rfl) (by omega) (Nat.le_of_ble_eq_true rfl) C1 q1 (fun h2 r2 H2 locs2 q2 _ C2 => ?_)
  obtain ⟨M2, z2, rfl, rfl, rfl, R2⟩ := q2
  exact lv_icmp_eq (cc := code) (x := Int32.ofInt z2) (y := Int32.ofInt z2) (tgt := 1455) C2.2.1.1 C2.2.1.2.1 dL_law_409 (by decide) (fun _ => kend H2 locs2 M2 C2 R2) (fun w => absurd rfl w)
theorem law_call (C : x_C YL none G p s m #[Value.ref b] meth c H locs (82, P, M)) (X : LX s b Ln xs G) (hl : LL G b ls i) (hi : 0 ≤ i ∧ i + 6 ≤ Ln) (hP : x_PP P) (hR : Rel M) (hc : cells ≤ 1000 ∧ slots ≤ 100000) (kend : ∀ H' locs' M', x_C YL none G p s m #[Value.ref b] meth c H' locs' (82, P, M') → Rel M' → W p l e room_1 s m #[Value.ref b] below meth c H' locs' cells slots QQ (F0 m 1455 ls [])) : W p l e room_1 s m #[Value.ref b] below meth c H locs cells slots QQ (F0 m 414 ls []) := by
  refine lv_aload_n (cc := code) C.2.1.1 C.2.1.2.1 dL_law_414 rfl (lv_at hl 1 rfl) ?_
  refine lawArg dL_law_415 dL_law_416 dL_law_417 dL_law_418 dL_law_419 C X hl (by omega) ?_
  refine lawV (As := [vI (xv xs (i + 1))]) (rest := []) (a := 0) (mc' := 0) (ms' := 0) (d := 200) dL_law_420 mv_L_42 rfl (Nat.le_of_ble_eq_true rfl) rfl hl.1 (okU (xv_ok _ _) okNil) (Nat.le_of_ble_eq_true rfl) (by omega) (Nat.le_of_ble_eq_true rfl) C (op_call (d := 100) (Nat.le_refl _) hP hR) (fun h1 r1 H1 locs1 q1 _ C1 => ?_)
  obtain ⟨M1, z1, rfl, rfl, q1⟩ := q1
  refine lv_aload_n (cc := code) C1.2.1.1 C1.2.1.2.1 dL_law_423 rfl (lv_at hl 2 rfl) ?_
  refine lawArg dL_law_424 dL_law_425 dL_law_426 dL_law_427 dL_law_428 C1 X hl (by omega) ?_
  refine lawV (As := [vI (xv xs (i + 1))]) (rest := [.int (Int32.ofInt z1)]) (a := 64) (mc' := 0) (ms' := 0) (d := 200) dL_law_429 mv_L_45 rfl (Nat.le_of_ble_eq_true rfl) rfl hl.1 (okU (xv_ok _ _) okNil) (Nat.le_of_ble_eq_true rfl) (by omega) (Nat.le_of_ble_eq_true rfl) C1 q1 (fun h2 r2 H2 locs2 q2 _ C2 => ?_)
  obtain ⟨M2, z2, rfl, rfl, rfl, R2⟩ := q2
  exact lv_icmp_eq (cc := code) (x := Int32.ofInt z2) (y := Int32.ofInt z2) (tgt := 1455) C2.2.1.1 C2.2.1.2.1 dL_law_432 (by decide) (fun _ => kend H2 locs2 M2 C2 R2) (fun w => absurd rfl w)
theorem law_delay (C : x_C YL none G p s m #[Value.ref b] meth c H locs (82, P, M)) (X : LX s b Ln xs G) (hl : LL G b ls i) (hi : 0 ≤ i ∧ i + 6 ≤ Ln) (hP : x_PP P) (hR : Rel M) (hc : cells ≤ 1000 ∧ slots ≤ 100000) (kend : ∀ H' locs' M', x_C YL none G p s m #[Value.ref b] meth c H' locs' (82, P, M') → Rel M' → W p l e room_1 s m #[Value.ref b] below meth c H' locs' cells slots QQ (F0 m 1455 ls [])) : W p l e room_1 s m #[Value.ref b] below meth c H locs cells slots QQ (F0 m 437 ls []) := by
  refine lv_aload_n (cc := code) C.2.1.1 C.2.1.2.1 dL_law_437 rfl (lv_at hl 1 rfl) ?_
  refine lawV (As := []) (rest := []) (a := 0) (mc' := 0) (ms' := 0) (d := 200) dL_law_438 mv_L_46 rfl (Nat.le_of_ble_eq_true rfl) rfl hl.1 okNil (Nat.le_of_ble_eq_true rfl) (by omega) (Nat.le_of_ble_eq_true rfl) C (op_delay (d := 100) (Nat.le_refl _) hP hR) (fun h1 r1 H1 locs1 q1 _ C1 => ?_)
  obtain ⟨M1, z1, rfl, rfl, q1⟩ := q1
  refine lv_aload_n (cc := code) C1.2.1.1 C1.2.1.2.1 dL_law_441 rfl (lv_at hl 2 rfl) ?_
  refine lawV (As := []) (rest := [.int (Int32.ofInt z1)]) (a := 64) (mc' := 0) (ms' := 0) (d := 200) dL_law_442 mv_L_49 rfl (Nat.le_of_ble_eq_true rfl) rfl hl.1 okNil (Nat.le_of_ble_eq_true rfl) (by omega) (Nat.le_of_ble_eq_true rfl) C1 q1 (fun h2 r2 H2 locs2 q2 _ C2 => ?_)
  obtain ⟨M2, z2, rfl, rfl, rfl, R2⟩ := q2
  exact lv_icmp_eq (cc := code) (x := Int32.ofInt z2) (y := Int32.ofInt z2) (tgt := 1455) C2.2.1.1 C2.2.1.2.1 dL_law_445 (by decide) (fun _ => kend H2 locs2 M2 C2 R2) (fun w => absurd rfl w)
theorem law_appeal (C : x_C YL none G p s m #[Value.ref b] meth c H locs (82, P, M)) (X : LX s b Ln xs G) (hl : LL G b ls i) (hi : 0 ≤ i ∧ i + 6 ≤ Ln) (hP : x_PP P) (hR : Rel M) (hc : cells ≤ 1000 ∧ slots ≤ 100000) (kend : ∀ H' locs' M', x_C YL none G p s m #[Value.ref b] meth c H' locs' (82, P, M') → Rel M' → W p l e room_1 s m #[Value.ref b] below meth c H' locs' cells slots QQ (F0 m 1455 ls [])) : W p l e room_1 s m #[Value.ref b] below meth c H locs cells slots QQ (F0 m 450 ls []) := by
  refine lv_aload_n (cc := code) C.2.1.1 C.2.1.2.1 dL_law_450 rfl (lv_at hl 1 rfl) ?_
  refine lawArg dL_law_451 dL_law_452 dL_law_453 dL_law_454 dL_law_455 C X hl (by omega) ?_
  refine lawV (As := [vI (xv xs (i + 1))]) (rest := []) (a := 0) (mc' := 0) (ms' := 0) (d := 200) dL_law_456 mv_L_50 rfl (Nat.le_of_ble_eq_true rfl) rfl hl.1 (okU (xv_ok _ _) okNil) (Nat.le_of_ble_eq_true rfl) (by omega) (Nat.le_of_ble_eq_true rfl) C (op_appeal (d := 100) (Nat.le_refl _) hP hR) (fun h1 r1 H1 locs1 q1 _ C1 => ?_)
  obtain ⟨M1, z1, rfl, rfl, q1⟩ := q1
  refine lv_aload_n (cc := code) C1.2.1.1 C1.2.1.2.1 dL_law_459 rfl (lv_at hl 2 rfl) ?_
  refine lawArg dL_law_460 dL_law_461 dL_law_462 dL_law_463 dL_law_464 C1 X hl (by omega) ?_
  refine lawV (As := [vI (xv xs (i + 1))]) (rest := [.int (Int32.ofInt z1)]) (a := 64) (mc' := 0) (ms' := 0) (d := 200) dL_law_465 mv_L_53 rfl (Nat.le_of_ble_eq_true rfl) rfl hl.1 (okU (xv_ok _ _) okNil) (Nat.le_of_ble_eq_true rfl) (by omega) (Nat.le_of_ble_eq_true rfl) C1 q1 (fun h2 r2 H2 locs2 q2 _ C2 => ?_)
  obtain ⟨M2, z2, rfl, rfl, rfl, R2⟩ := q2
  exact lv_icmp_eq (cc := code) (x := Int32.ofInt z2) (y := Int32.ofInt z2) (tgt := 1455) C2.2.1.1 C2.2.1.2.1 dL_law_468 (by decide) (fun _ => kend H2 locs2 M2 C2 R2) (fun w => absurd rfl w)
theorem law_gust (C : x_C YL none G p s m #[Value.ref b] meth c H locs (82, P, M)) (X : LX s b Ln xs G) (hl : LL G b ls i) (hi : 0 ≤ i ∧ i + 6 ≤ Ln) (hP : x_PP P) (hR : Rel M) (hc : cells ≤ 1000 ∧ slots ≤ 100000) (kend : ∀ H' locs' M', x_C YL none G p s m #[Value.ref b] meth c H' locs' (82, P, M') → Rel M' → W p l e room_1 s m #[Value.ref b] below meth c H' locs' cells slots QQ (F0 m 1455 ls [])) : W p l e room_1 s m #[Value.ref b] below meth c H locs cells slots QQ (F0 m 473 ls []) := by
  refine lv_aload_n (cc := code) C.2.1.1 C.2.1.2.1 dL_law_473 rfl (lv_at hl 1 rfl) ?_
  refine lawArg dL_law_474 dL_law_475 dL_law_476 dL_law_477 dL_law_478 C X hl (by omega) ?_
  refine lawArg dL_law_479 dL_law_480 dL_law_481 dL_law_482 dL_law_483 C X hl (by omega) ?_
  refine lawV (As := [vI (xv xs (i + 1)), vI (xv xs (i + 2))]) (rest := []) (a := 0) (mc' := 0) (ms' := 0) (d := 200) dL_law_484 mv_L_54 rfl (Nat.le_of_ble_eq_true rfl) rfl hl.1 (okU (xv_ok _ _) (okU (xv_ok _ _) okNil)) (Nat.le_of_ble_eq_true rfl) (by omega) (Nat.le_of_ble_eq_true rfl) C (op_gust (d := 100) (Nat.le_refl _) hP hR) (fun h1 r1 H1 locs1 q1 _ C1 => ?_)
  obtain ⟨M1, z1, rfl, rfl, q1⟩ := q1
  refine lv_aload_n (cc := code) C1.2.1.1 C1.2.1.2.1 dL_law_487 rfl (lv_at hl 2 rfl) ?_
  refine lawArg dL_law_488 dL_law_489 dL_law_490 dL_law_491 dL_law_492 C1 X hl (by omega) ?_
  refine lawArg dL_law_493 dL_law_494 dL_law_495 dL_law_496 dL_law_497 C1 X hl (by omega) ?_
  refine lawV (As := [vI (xv xs (i + 1)), vI (xv xs (i + 2))]) (rest := [.int (Int32.ofInt z1)]) (a := 64) (mc' := 0) (ms' := 0) (d := 200) dL_law_498 mv_L_58 rfl (Nat.le_of_ble_eq_true rfl) rfl hl.1 (okU (xv_ok _ _) (okU (xv_ok _ _) okNil)) (Nat.le_of_ble_eq_true rfl) (by omega) (Nat.le_of_ble_eq_true rfl) C1 q1 (fun h2 r2 H2 locs2 q2 _ C2 => ?_)
  obtain ⟨M2, z2, rfl, rfl, rfl, R2⟩ := q2
  exact lv_icmp_eq (cc := code) (x := Int32.ofInt z2) (y := Int32.ofInt z2) (tgt := 1455) C2.2.1.1 C2.2.1.2.1 dL_law_501 (by decide) (fun _ => kend H2 locs2 M2 C2 R2) (fun w => absurd rfl w)
theorem law_withdraw (C : x_C YL none G p s m #[Value.ref b] meth c H locs (82, P, M)) (X : LX s b Ln xs G) (hl : LL G b ls i) (hi : 0 ≤ i ∧ i + 6 ≤ Ln) (hP : x_PP P) (hR : Rel M) (hc : cells ≤ 1000 ∧ slots ≤ 100000) (kend : ∀ H' locs' M', x_C YL none G p s m #[Value.ref b] meth c H' locs' (82, P, M') → Rel M' → W p l e room_1 s m #[Value.ref b] below meth c H' locs' cells slots QQ (F0 m 1455 ls [])) : W p l e room_1 s m #[Value.ref b] below meth c H locs cells slots QQ (F0 m 506 ls []) := by
  refine lv_aload_n (cc := code) C.2.1.1 C.2.1.2.1 dL_law_506 rfl (lv_at hl 1 rfl) ?_
  refine lawV (As := []) (rest := []) (a := 0) (mc' := 0) (ms' := 0) (d := 200) dL_law_507 mv_L_59 rfl (Nat.le_of_ble_eq_true rfl) rfl hl.1 okNil (Nat.le_of_ble_eq_true rfl) (by omega) (Nat.le_of_ble_eq_true rfl) C (op_withdraw (d := 100) (Nat.le_refl _) hP hR) (fun h1 r1 H1 locs1 q1 _ C1 => ?_)
  obtain ⟨M1, z1, rfl, rfl, q1⟩ := q1
  refine lv_aload_n (cc := code) C1.2.1.1 C1.2.1.2.1 dL_law_510 rfl (lv_at hl 2 rfl) ?_
  refine lawV (As := []) (rest := [.int (Int32.ofInt z1)]) (a := 64) (mc' := 0) (ms' := 0) (d := 200) dL_law_511 mv_L_62 rfl (Nat.le_of_ble_eq_true rfl) rfl hl.1 okNil (Nat.le_of_ble_eq_true rfl) (by omega) (Nat.le_of_ble_eq_true rfl) C1 q1 (fun h2 r2 H2 locs2 q2 _ C2 => ?_)
  obtain ⟨M2, z2, rfl, rfl, rfl, R2⟩ := q2
  exact lv_icmp_eq (cc := code) (x := Int32.ofInt z2) (y := Int32.ofInt z2) (tgt := 1455) C2.2.1.1 C2.2.1.2.1 dL_law_514 (by decide) (fun _ => kend H2 locs2 M2 C2 R2) (fun w => absurd rfl w)
theorem law_hour (C : x_C YL none G p s m #[Value.ref b] meth c H locs (82, P, M)) (X : LX s b Ln xs G) (hl : LL G b ls i) (hi : 0 ≤ i ∧ i + 6 ≤ Ln) (hP : x_PP P) (hR : Rel M) (hc : cells ≤ 1000 ∧ slots ≤ 100000) (kend : ∀ H' locs' M', x_C YL none G p s m #[Value.ref b] meth c H' locs' (82, P, M') → Rel M' → W p l e room_1 s m #[Value.ref b] below meth c H' locs' cells slots QQ (F0 m 1455 ls [])) : W p l e room_1 s m #[Value.ref b] below meth c H locs cells slots QQ (F0 m 519 ls []) := by
  refine lv_aload_n (cc := code) C.2.1.1 C.2.1.2.1 dL_law_519 rfl (lv_at hl 1 rfl) ?_
  refine lawArg dL_law_520 dL_law_521 dL_law_522 dL_law_523 dL_law_524 C X hl (by omega) ?_
  refine lawV (As := [vI (xv xs (i + 1))]) (rest := []) (a := 0) (mc' := 0) (ms' := 0) (d := 200) dL_law_525 mv_L_63 rfl (Nat.le_of_ble_eq_true rfl) rfl hl.1 (okU (xv_ok _ _) okNil) (Nat.le_of_ble_eq_true rfl) (by omega) (Nat.le_of_ble_eq_true rfl) C (op_hour (d := 100) (Nat.le_refl _) hP hR) (fun h1 r1 H1 locs1 q1 _ C1 => ?_)
  obtain ⟨M1, z1, rfl, rfl, q1⟩ := q1
  refine lv_aload_n (cc := code) C1.2.1.1 C1.2.1.2.1 dL_law_528 rfl (lv_at hl 2 rfl) ?_
  refine lawArg dL_law_529 dL_law_530 dL_law_531 dL_law_532 dL_law_533 C1 X hl (by omega) ?_
  refine lawV (As := [vI (xv xs (i + 1))]) (rest := [.int (Int32.ofInt z1)]) (a := 64) (mc' := 0) (ms' := 0) (d := 200) dL_law_534 mv_L_66 rfl (Nat.le_of_ble_eq_true rfl) rfl hl.1 (okU (xv_ok _ _) okNil) (Nat.le_of_ble_eq_true rfl) (by omega) (Nat.le_of_ble_eq_true rfl) C1 q1 (fun h2 r2 H2 locs2 q2 _ C2 => ?_)
  obtain ⟨M2, z2, rfl, rfl, rfl, R2⟩ := q2
  exact lv_icmp_eq (cc := code) (x := Int32.ofInt z2) (y := Int32.ofInt z2) (tgt := 1455) C2.2.1.1 C2.2.1.2.1 dL_law_537 (by decide) (fun _ => kend H2 locs2 M2 C2 R2) (fun w => absurd rfl w)
theorem law_played (C : x_C YL none G p s m #[Value.ref b] meth c H locs (82, P, M)) (X : LX s b Ln xs G) (hl : LL G b ls i) (hi : 0 ≤ i ∧ i + 6 ≤ Ln) (hP : x_PP P) (hR : Rel M) (hc : cells ≤ 1000 ∧ slots ≤ 100000) (kend : ∀ H' locs' M', x_C YL none G p s m #[Value.ref b] meth c H' locs' (82, P, M') → Rel M' → W p l e room_1 s m #[Value.ref b] below meth c H' locs' cells slots QQ (F0 m 1455 ls [])) : W p l e room_1 s m #[Value.ref b] below meth c H locs cells slots QQ (F0 m 542 ls []) := by
  refine lv_aload_n (cc := code) C.2.1.1 C.2.1.2.1 dL_law_542 rfl (lv_at hl 1 rfl) ?_
  refine lawArg dL_law_543 dL_law_544 dL_law_545 dL_law_546 dL_law_547 C X hl (by omega) ?_
  refine lawV (As := [vI (xv xs (i + 1))]) (rest := []) (a := 0) (mc' := 0) (ms' := 0) (d := 200) dL_law_548 mv_L_67 rfl (Nat.le_of_ble_eq_true rfl) rfl hl.1 (okU (xv_ok _ _) okNil) (Nat.le_of_ble_eq_true rfl) (by omega) (Nat.le_of_ble_eq_true rfl) C (op_played (d := 100) (Nat.le_refl _) hP hR) (fun h1 r1 H1 locs1 q1 _ C1 => ?_)
  obtain ⟨M1, z1, rfl, rfl, q1⟩ := q1
  refine lv_aload_n (cc := code) C1.2.1.1 C1.2.1.2.1 dL_law_551 rfl (lv_at hl 2 rfl) ?_
  refine lawArg dL_law_552 dL_law_553 dL_law_554 dL_law_555 dL_law_556 C1 X hl (by omega) ?_
  refine lawV (As := [vI (xv xs (i + 1))]) (rest := [.int (Int32.ofInt z1)]) (a := 64) (mc' := 0) (ms' := 0) (d := 200) dL_law_557 mv_L_70 rfl (Nat.le_of_ble_eq_true rfl) rfl hl.1 (okU (xv_ok _ _) okNil) (Nat.le_of_ble_eq_true rfl) (by omega) (Nat.le_of_ble_eq_true rfl) C1 q1 (fun h2 r2 H2 locs2 q2 _ C2 => ?_)
  obtain ⟨M2, z2, rfl, rfl, rfl, R2⟩ := q2
  exact lv_icmp_eq (cc := code) (x := Int32.ofInt z2) (y := Int32.ofInt z2) (tgt := 1455) C2.2.1.1 C2.2.1.2.1 dL_law_560 (by decide) (fun _ => kend H2 locs2 M2 C2 R2) (fun w => absurd rfl w)
theorem law_decades (C : x_C YL none G p s m #[Value.ref b] meth c H locs (82, P, M)) (X : LX s b Ln xs G) (hl : LL G b ls i) (hi : 0 ≤ i ∧ i + 6 ≤ Ln) (hP : x_PP P) (hR : Rel M) (hc : cells ≤ 1000 ∧ slots ≤ 100000) (kend : ∀ H' locs' M', x_C YL none G p s m #[Value.ref b] meth c H' locs' (82, P, M') → Rel M' → W p l e room_1 s m #[Value.ref b] below meth c H' locs' cells slots QQ (F0 m 1455 ls [])) : W p l e room_1 s m #[Value.ref b] below meth c H locs cells slots QQ (F0 m 565 ls []) := by
  refine lv_aload_n (cc := code) C.2.1.1 C.2.1.2.1 dL_law_565 rfl (lv_at hl 1 rfl) ?_
  refine lawArg dL_law_566 dL_law_567 dL_law_568 dL_law_569 dL_law_570 C X hl (by omega) ?_
  refine lawArg dL_law_571 dL_law_572 dL_law_573 dL_law_574 dL_law_575 C X hl (by omega) ?_
  refine lawV (As := [vI (xv xs (i + 1)), vI (xv xs (i + 2))]) (rest := []) (a := 0) (mc' := 0) (ms' := 0) (d := 200) dL_law_576 mv_L_71 rfl (Nat.le_of_ble_eq_true rfl) rfl hl.1 (okU (xv_ok _ _) (okU (xv_ok _ _) okNil)) (Nat.le_of_ble_eq_true rfl) (by omega) (Nat.le_of_ble_eq_true rfl) C (op_decades (d := 100) (Nat.le_refl _) hP hR) (fun h1 r1 H1 locs1 q1 _ C1 => ?_)
  obtain ⟨M1, z1, rfl, rfl, q1⟩ := q1
  refine lv_aload_n (cc := code) C1.2.1.1 C1.2.1.2.1 dL_law_579 rfl (lv_at hl 2 rfl) ?_
  refine lawArg dL_law_580 dL_law_581 dL_law_582 dL_law_583 dL_law_584 C1 X hl (by omega) ?_
  refine lawArg dL_law_585 dL_law_586 dL_law_587 dL_law_588 dL_law_589 C1 X hl (by omega) ?_
  refine lawV (As := [vI (xv xs (i + 1)), vI (xv xs (i + 2))]) (rest := [.int (Int32.ofInt z1)]) (a := 64) (mc' := 0) (ms' := 0) (d := 200) dL_law_590 mv_L_75 rfl (Nat.le_of_ble_eq_true rfl) rfl hl.1 (okU (xv_ok _ _) (okU (xv_ok _ _) okNil)) (Nat.le_of_ble_eq_true rfl) (by omega) (Nat.le_of_ble_eq_true rfl) C1 q1 (fun h2 r2 H2 locs2 q2 _ C2 => ?_)
  obtain ⟨M2, z2, rfl, rfl, rfl, R2⟩ := q2
  exact lv_icmp_eq (cc := code) (x := Int32.ofInt z2) (y := Int32.ofInt z2) (tgt := 1455) C2.2.1.1 C2.2.1.2.1 dL_law_593 (by decide) (fun _ => kend H2 locs2 M2 C2 R2) (fun w => absurd rfl w)
theorem law_undo (C : x_C YL none G p s m #[Value.ref b] meth c H locs (82, P, M)) (X : LX s b Ln xs G) (hl : LL G b ls i) (hi : 0 ≤ i ∧ i + 6 ≤ Ln) (hP : x_PP P) (hR : Rel M) (hc : cells ≤ 1000 ∧ slots ≤ 100000) (kend : ∀ H' locs' M', x_C YL none G p s m #[Value.ref b] meth c H' locs' (82, P, M') → Rel M' → W p l e room_1 s m #[Value.ref b] below meth c H' locs' cells slots QQ (F0 m 1455 ls [])) : W p l e room_1 s m #[Value.ref b] below meth c H locs cells slots QQ (F0 m 598 ls []) := by
  refine lv_aload_n (cc := code) C.2.1.1 C.2.1.2.1 dL_law_598 rfl (lv_at hl 1 rfl) ?_
  refine lawV (As := []) (rest := []) (a := 0) (mc' := 0) (ms' := 0) (d := 200) dL_law_599 mv_L_76 rfl (Nat.le_of_ble_eq_true rfl) rfl hl.1 okNil (Nat.le_of_ble_eq_true rfl) (by omega) (Nat.le_of_ble_eq_true rfl) C (op_undo (d := 100) (Nat.le_refl _) hP hR) (fun h1 r1 H1 locs1 q1 _ C1 => ?_)
  obtain ⟨M1, z1, rfl, rfl, q1⟩ := q1
  refine lv_aload_n (cc := code) C1.2.1.1 C1.2.1.2.1 dL_law_602 rfl (lv_at hl 2 rfl) ?_
  refine lawV (As := []) (rest := [.int (Int32.ofInt z1)]) (a := 64) (mc' := 0) (ms' := 0) (d := 200) dL_law_603 mv_L_79 rfl (Nat.le_of_ble_eq_true rfl) rfl hl.1 okNil (Nat.le_of_ble_eq_true rfl) (by omega) (Nat.le_of_ble_eq_true rfl) C1 q1 (fun h2 r2 H2 locs2 q2 _ C2 => ?_)
  obtain ⟨M2, z2, rfl, rfl, rfl, R2⟩ := q2
  exact lv_icmp_eq (cc := code) (x := Int32.ofInt z2) (y := Int32.ofInt z2) (tgt := 1455) C2.2.1.1 C2.2.1.2.1 dL_law_606 (by decide) (fun _ => kend H2 locs2 M2 C2 R2) (fun w => absurd rfl w)
theorem law_ofCase (C : x_C YL none G p s m #[Value.ref b] meth c H locs (82, P, M)) (X : LX s b Ln xs G) (hl : LL G b ls i) (hi : 0 ≤ i ∧ i + 6 ≤ Ln) (hP : x_PP P) (hR : Rel M) (hc : cells ≤ 1000 ∧ slots ≤ 100000) (kend : ∀ H' locs' M', x_C YL none G p s m #[Value.ref b] meth c H' locs' (82, P, M') → Rel M' → W p l e room_1 s m #[Value.ref b] below meth c H' locs' cells slots QQ (F0 m 1455 ls [])) : W p l e room_1 s m #[Value.ref b] below meth c H locs cells slots QQ (F0 m 611 ls []) := by
  refine lv_aload_n (cc := code) C.2.1.1 C.2.1.2.1 dL_law_611 rfl (lv_at hl 1 rfl) ?_
  refine lawArg dL_law_612 dL_law_613 dL_law_614 dL_law_615 dL_law_616 C X hl (by omega) ?_
  refine lawArg dL_law_617 dL_law_618 dL_law_619 dL_law_620 dL_law_621 C X hl (by omega) ?_
  refine lawV (As := [vI (xv xs (i + 1)), vI (xv xs (i + 2))]) (rest := []) (a := 0) (mc' := 0) (ms' := 0) (d := 200) dL_law_622 mv_L_80 rfl (Nat.le_of_ble_eq_true rfl) rfl hl.1 (okU (xv_ok _ _) (okU (xv_ok _ _) okNil)) (Nat.le_of_ble_eq_true rfl) (by omega) (Nat.le_of_ble_eq_true rfl) C (op_ofCase (d := 100) (Nat.le_refl _) hP hR) (fun h1 r1 H1 locs1 q1 _ C1 => ?_)
  obtain ⟨M1, z1, rfl, rfl, q1⟩ := q1
  refine lv_aload_n (cc := code) C1.2.1.1 C1.2.1.2.1 dL_law_625 rfl (lv_at hl 2 rfl) ?_
  refine lawArg dL_law_626 dL_law_627 dL_law_628 dL_law_629 dL_law_630 C1 X hl (by omega) ?_
  refine lawArg dL_law_631 dL_law_632 dL_law_633 dL_law_634 dL_law_635 C1 X hl (by omega) ?_
  refine lawV (As := [vI (xv xs (i + 1)), vI (xv xs (i + 2))]) (rest := [.int (Int32.ofInt z1)]) (a := 64) (mc' := 0) (ms' := 0) (d := 200) dL_law_636 mv_L_83 rfl (Nat.le_of_ble_eq_true rfl) rfl hl.1 (okU (xv_ok _ _) (okU (xv_ok _ _) okNil)) (Nat.le_of_ble_eq_true rfl) (by omega) (Nat.le_of_ble_eq_true rfl) C1 q1 (fun h2 r2 H2 locs2 q2 _ C2 => ?_)
  obtain ⟨M2, z2, rfl, rfl, rfl, R2⟩ := q2
  exact lv_icmp_eq (cc := code) (x := Int32.ofInt z2) (y := Int32.ofInt z2) (tgt := 1455) C2.2.1.1 C2.2.1.2.1 dL_law_639 (by decide) (fun _ => kend H2 locs2 M2 C2 R2) (fun w => absurd rfl w)
theorem law_is (C : x_C YL none G p s m #[Value.ref b] meth c H locs (82, P, M)) (X : LX s b Ln xs G) (hl : LL G b ls i) (hi : 0 ≤ i ∧ i + 6 ≤ Ln) (hP : x_PP P) (hR : Rel M) (hc : cells ≤ 1000 ∧ slots ≤ 100000) (kend : ∀ H' locs' M', x_C YL none G p s m #[Value.ref b] meth c H' locs' (82, P, M') → Rel M' → W p l e room_1 s m #[Value.ref b] below meth c H' locs' cells slots QQ (F0 m 1455 ls [])) : W p l e room_1 s m #[Value.ref b] below meth c H locs cells slots QQ (F0 m 644 ls []) := by
  refine lv_aload_n (cc := code) C.2.1.1 C.2.1.2.1 dL_law_644 rfl (lv_at hl 1 rfl) ?_
  refine lawArg dL_law_645 dL_law_646 dL_law_647 dL_law_648 dL_law_649 C X hl (by omega) ?_
  refine lawV (As := [vI (xv xs (i + 1))]) (rest := []) (a := 0) (mc' := 0) (ms' := 0) (d := 200) dL_law_650 mv_L_84 rfl (Nat.le_of_ble_eq_true rfl) rfl hl.1 (okU (xv_ok _ _) okNil) (Nat.le_of_ble_eq_true rfl) (by omega) (Nat.le_of_ble_eq_true rfl) C (op_is (d := 100) (Nat.le_refl _) hP hR) (fun h1 r1 H1 locs1 q1 _ C1 => ?_)
  obtain ⟨M1, z1, rfl, rfl, q1⟩ := q1
  refine lv_aload_n (cc := code) C1.2.1.1 C1.2.1.2.1 dL_law_653 rfl (lv_at hl 2 rfl) ?_
  refine lawArg dL_law_654 dL_law_655 dL_law_656 dL_law_657 dL_law_658 C1 X hl (by omega) ?_
  refine lawV (As := [vI (xv xs (i + 1))]) (rest := [.int (Int32.ofInt z1)]) (a := 64) (mc' := 0) (ms' := 0) (d := 200) dL_law_659 mv_L_87 rfl (Nat.le_of_ble_eq_true rfl) rfl hl.1 (okU (xv_ok _ _) okNil) (Nat.le_of_ble_eq_true rfl) (by omega) (Nat.le_of_ble_eq_true rfl) C1 q1 (fun h2 r2 H2 locs2 q2 _ C2 => ?_)
  obtain ⟨M2, z2, rfl, rfl, rfl, R2⟩ := q2
  exact lv_icmp_eq (cc := code) (x := Int32.ofInt z2) (y := Int32.ofInt z2) (tgt := 1455) C2.2.1.1 C2.2.1.2.1 dL_law_662 (by decide) (fun _ => kend H2 locs2 M2 C2 R2) (fun w => absurd rfl w)
theorem law_book (C : x_C YL none G p s m #[Value.ref b] meth c H locs (82, P, M)) (X : LX s b Ln xs G) (hl : LL G b ls i) (hi : 0 ≤ i ∧ i + 6 ≤ Ln) (hP : x_PP P) (hR : Rel M) (hc : cells ≤ 1000 ∧ slots ≤ 100000) (kend : ∀ H' locs' M', x_C YL none G p s m #[Value.ref b] meth c H' locs' (82, P, M') → Rel M' → W p l e room_1 s m #[Value.ref b] below meth c H' locs' cells slots QQ (F0 m 1455 ls [])) : W p l e room_1 s m #[Value.ref b] below meth c H locs cells slots QQ (F0 m 667 ls []) := by
  refine lv_aload_n (cc := code) C.2.1.1 C.2.1.2.1 dL_law_667 rfl (lv_at hl 1 rfl) ?_
  refine lawArg dL_law_668 dL_law_669 dL_law_670 dL_law_671 dL_law_672 C X hl (by omega) ?_
  refine lawArg dL_law_673 dL_law_674 dL_law_675 dL_law_676 dL_law_677 C X hl (by omega) ?_
  refine lawV (As := [vI (xv xs (i + 1)), vI (xv xs (i + 2))]) (rest := []) (a := 0) (mc' := 0) (ms' := 0) (d := 200) dL_law_678 mv_L_88 rfl (Nat.le_of_ble_eq_true rfl) rfl hl.1 (okU (xv_ok _ _) (okU (xv_ok _ _) okNil)) (Nat.le_of_ble_eq_true rfl) (by omega) (Nat.le_of_ble_eq_true rfl) C (op_book (d := 100) (Nat.le_refl _) hP hR) (fun h1 r1 H1 locs1 q1 _ C1 => ?_)
  obtain ⟨M1, z1, rfl, rfl, q1⟩ := q1
  refine lv_aload_n (cc := code) C1.2.1.1 C1.2.1.2.1 dL_law_681 rfl (lv_at hl 2 rfl) ?_
  refine lawArg dL_law_682 dL_law_683 dL_law_684 dL_law_685 dL_law_686 C1 X hl (by omega) ?_
  refine lawArg dL_law_687 dL_law_688 dL_law_689 dL_law_690 dL_law_691 C1 X hl (by omega) ?_
  refine lawV (As := [vI (xv xs (i + 1)), vI (xv xs (i + 2))]) (rest := [.int (Int32.ofInt z1)]) (a := 64) (mc' := 0) (ms' := 0) (d := 200) dL_law_692 mv_L_91 rfl (Nat.le_of_ble_eq_true rfl) rfl hl.1 (okU (xv_ok _ _) (okU (xv_ok _ _) okNil)) (Nat.le_of_ble_eq_true rfl) (by omega) (Nat.le_of_ble_eq_true rfl) C1 q1 (fun h2 r2 H2 locs2 q2 _ C2 => ?_)
  obtain ⟨M2, z2, rfl, rfl, rfl, R2⟩ := q2
  exact lv_icmp_eq (cc := code) (x := Int32.ofInt z2) (y := Int32.ofInt z2) (tgt := 1455) C2.2.1.1 C2.2.1.2.1 dL_law_695 (by decide) (fun _ => kend H2 locs2 M2 C2 R2) (fun w => absurd rfl w)
theorem law_foretold (C : x_C YL none G p s m #[Value.ref b] meth c H locs (82, P, M)) (X : LX s b Ln xs G) (hl : LL G b ls i) (hi : 0 ≤ i ∧ i + 6 ≤ Ln) (hP : x_PP P) (hR : Rel M) (hc : cells ≤ 1000 ∧ slots ≤ 100000) (kend : ∀ H' locs' M', x_C YL none G p s m #[Value.ref b] meth c H' locs' (82, P, M') → Rel M' → W p l e room_1 s m #[Value.ref b] below meth c H' locs' cells slots QQ (F0 m 1455 ls [])) : W p l e room_1 s m #[Value.ref b] below meth c H locs cells slots QQ (F0 m 700 ls []) := by
  refine lv_aload_n (cc := code) C.2.1.1 C.2.1.2.1 dL_law_700 rfl (lv_at hl 1 rfl) ?_
  refine lawArg dL_law_701 dL_law_702 dL_law_703 dL_law_704 dL_law_705 C X hl (by omega) ?_
  refine lawArg dL_law_706 dL_law_707 dL_law_708 dL_law_709 dL_law_710 C X hl (by omega) ?_
  refine lawV (As := [vI (xv xs (i + 1)), vI (xv xs (i + 2))]) (rest := []) (a := 0) (mc' := 0) (ms' := 0) (d := 200) dL_law_711 mv_L_92 rfl (Nat.le_of_ble_eq_true rfl) rfl hl.1 (okU (xv_ok _ _) (okU (xv_ok _ _) okNil)) (Nat.le_of_ble_eq_true rfl) (by omega) (Nat.le_of_ble_eq_true rfl) C (op_foretold (d := 100) (Nat.le_refl _) hP hR) (fun h1 r1 H1 locs1 q1 _ C1 => ?_)
  obtain ⟨M1, z1, rfl, rfl, q1⟩ := q1
  refine lv_aload_n (cc := code) C1.2.1.1 C1.2.1.2.1 dL_law_714 rfl (lv_at hl 2 rfl) ?_
  refine lawArg dL_law_715 dL_law_716 dL_law_717 dL_law_718 dL_law_719 C1 X hl (by omega) ?_
  refine lawArg dL_law_720 dL_law_721 dL_law_722 dL_law_723 dL_law_724 C1 X hl (by omega) ?_
  refine lawV (As := [vI (xv xs (i + 1)), vI (xv xs (i + 2))]) (rest := [.int (Int32.ofInt z1)]) (a := 64) (mc' := 0) (ms' := 0) (d := 200) dL_law_725 mv_L_95 rfl (Nat.le_of_ble_eq_true rfl) rfl hl.1 (okU (xv_ok _ _) (okU (xv_ok _ _) okNil)) (Nat.le_of_ble_eq_true rfl) (by omega) (Nat.le_of_ble_eq_true rfl) C1 q1 (fun h2 r2 H2 locs2 q2 _ C2 => ?_)
  obtain ⟨M2, z2, rfl, rfl, rfl, R2⟩ := q2
  exact lv_icmp_eq (cc := code) (x := Int32.ofInt z2) (y := Int32.ofInt z2) (tgt := 1455) C2.2.1.1 C2.2.1.2.1 dL_law_728 (by decide) (fun _ => kend H2 locs2 M2 C2 R2) (fun w => absurd rfl w)
theorem law_ends (C : x_C YL none G p s m #[Value.ref b] meth c H locs (82, P, M)) (X : LX s b Ln xs G) (hl : LL G b ls i) (hi : 0 ≤ i ∧ i + 6 ≤ Ln) (hP : x_PP P) (hR : Rel M) (hc : cells ≤ 1000 ∧ slots ≤ 100000) (kend : ∀ H' locs' M', x_C YL none G p s m #[Value.ref b] meth c H' locs' (82, P, M') → Rel M' → W p l e room_1 s m #[Value.ref b] below meth c H' locs' cells slots QQ (F0 m 1455 ls [])) : W p l e room_1 s m #[Value.ref b] below meth c H locs cells slots QQ (F0 m 733 ls []) := by
  refine lv_aload_n (cc := code) C.2.1.1 C.2.1.2.1 dL_law_733 rfl (lv_at hl 1 rfl) ?_
  refine lawArg dL_law_734 dL_law_735 dL_law_736 dL_law_737 dL_law_738 C X hl (by omega) ?_
  refine lawArg dL_law_739 dL_law_740 dL_law_741 dL_law_742 dL_law_743 C X hl (by omega) ?_
  refine lawArg dL_law_744 dL_law_745 dL_law_746 dL_law_747 dL_law_748 C X hl (by omega) ?_
  refine lawArg dL_law_749 dL_law_750 dL_law_751 dL_law_752 dL_law_753 C X hl (by omega) ?_
  refine lawV (As := [vI (xv xs (i + 1)), vI (xv xs (i + 2)), vI (xv xs (i + 3)), vI (xv xs (i + 4))]) (rest := []) (a := 0) (mc' := 0) (ms' := 0) (d := 200) dL_law_754 mv_L_96 rfl (Nat.le_of_ble_eq_true rfl) rfl hl.1 (okU (xv_ok _ _) (okU (xv_ok _ _) (okU (xv_ok _ _) (okU (xv_ok _ _) okNil)))) (Nat.le_of_ble_eq_true rfl) (by omega) (Nat.le_of_ble_eq_true rfl) C (op_ends (d := 100) (Nat.le_refl _) hP hR) (fun h1 r1 H1 locs1 q1 _ C1 => ?_)
  obtain ⟨M1, z1, rfl, rfl, q1⟩ := q1
  refine lv_aload_n (cc := code) C1.2.1.1 C1.2.1.2.1 dL_law_757 rfl (lv_at hl 2 rfl) ?_
  refine lawArg dL_law_758 dL_law_759 dL_law_760 dL_law_761 dL_law_762 C1 X hl (by omega) ?_
  refine lawArg dL_law_763 dL_law_764 dL_law_765 dL_law_766 dL_law_767 C1 X hl (by omega) ?_
  refine lawArg dL_law_768 dL_law_769 dL_law_770 dL_law_771 dL_law_772 C1 X hl (by omega) ?_
  refine lawArg dL_law_773 dL_law_774 dL_law_775 dL_law_776 dL_law_777 C1 X hl (by omega) ?_
  refine lawV (As := [vI (xv xs (i + 1)), vI (xv xs (i + 2)), vI (xv xs (i + 3)), vI (xv xs (i + 4))]) (rest := [.int (Int32.ofInt z1)]) (a := 64) (mc' := 0) (ms' := 0) (d := 200) dL_law_778 mv_L_99 rfl (Nat.le_of_ble_eq_true rfl) rfl hl.1 (okU (xv_ok _ _) (okU (xv_ok _ _) (okU (xv_ok _ _) (okU (xv_ok _ _) okNil)))) (Nat.le_of_ble_eq_true rfl) (by omega) (Nat.le_of_ble_eq_true rfl) C1 q1 (fun h2 r2 H2 locs2 q2 _ C2 => ?_)
  obtain ⟨M2, z2, rfl, rfl, rfl, R2⟩ := q2
  exact lv_icmp_eq (cc := code) (x := Int32.ofInt z2) (y := Int32.ofInt z2) (tgt := 1455) C2.2.1.1 C2.2.1.2.1 dL_law_781 (by decide) (fun _ => kend H2 locs2 M2 C2 R2) (fun w => absurd rfl w)
theorem law_best (C : x_C YL none G p s m #[Value.ref b] meth c H locs (82, P, M)) (X : LX s b Ln xs G) (hl : LL G b ls i) (hi : 0 ≤ i ∧ i + 6 ≤ Ln) (hP : x_PP P) (hR : Rel M) (hc : cells ≤ 1000 ∧ slots ≤ 100000) (kend : ∀ H' locs' M', x_C YL none G p s m #[Value.ref b] meth c H' locs' (82, P, M') → Rel M' → W p l e room_1 s m #[Value.ref b] below meth c H' locs' cells slots QQ (F0 m 1455 ls [])) : W p l e room_1 s m #[Value.ref b] below meth c H locs cells slots QQ (F0 m 786 ls []) := by
  refine lv_aload_n (cc := code) C.2.1.1 C.2.1.2.1 dL_law_786 rfl (lv_at hl 1 rfl) ?_
  refine lawArg dL_law_787 dL_law_788 dL_law_789 dL_law_790 dL_law_791 C X hl (by omega) ?_
  refine lawArg dL_law_792 dL_law_793 dL_law_794 dL_law_795 dL_law_796 C X hl (by omega) ?_
  refine lawBool dL_law_797 dL_law_800 dL_law_801 dL_law_804 C (xv_ok _ _) ?_
  refine lawArg dL_law_805 dL_law_806 dL_law_807 dL_law_808 dL_law_809 C X hl (by omega) ?_
  refine lawV (As := [vI (xv xs (i + 1)), vI (bi (xv xs (i + 2) ≠ 0)), vI (xv xs (i + 3))]) (rest := []) (a := 0) (mc' := 0) (ms' := 0) (d := 200) dL_law_810 mv_L_100 rfl (Nat.le_of_ble_eq_true rfl) rfl hl.1 (okU (xv_ok _ _) (okU bi_ok (okU (xv_ok _ _) okNil))) (Nat.le_of_ble_eq_true rfl) (by omega) (Nat.le_of_ble_eq_true rfl) C (op_best (d := 100) (Nat.le_refl _) hP hR) (fun h1 r1 H1 locs1 q1 _ C1 => ?_)
  obtain ⟨M1, z1, rfl, rfl, q1⟩ := q1
  refine lv_aload_n (cc := code) C1.2.1.1 C1.2.1.2.1 dL_law_813 rfl (lv_at hl 2 rfl) ?_
  refine lawArg dL_law_814 dL_law_815 dL_law_816 dL_law_817 dL_law_818 C1 X hl (by omega) ?_
  refine lawArg dL_law_819 dL_law_820 dL_law_821 dL_law_822 dL_law_823 C1 X hl (by omega) ?_
  refine lawBool dL_law_824 dL_law_827 dL_law_828 dL_law_831 C1 (xv_ok _ _) ?_
  refine lawArg dL_law_832 dL_law_833 dL_law_834 dL_law_835 dL_law_836 C1 X hl (by omega) ?_
  refine lawV (As := [vI (xv xs (i + 1)), vI (bi (xv xs (i + 2) ≠ 0)), vI (xv xs (i + 3))]) (rest := [.int (Int32.ofInt z1)]) (a := 64) (mc' := 0) (ms' := 0) (d := 200) dL_law_837 mv_L_104 rfl (Nat.le_of_ble_eq_true rfl) rfl hl.1 (okU (xv_ok _ _) (okU bi_ok (okU (xv_ok _ _) okNil))) (Nat.le_of_ble_eq_true rfl) (by omega) (Nat.le_of_ble_eq_true rfl) C1 q1 (fun h2 r2 H2 locs2 q2 _ C2 => ?_)
  obtain ⟨M2, z2, rfl, rfl, rfl, R2⟩ := q2
  exact lv_icmp_eq (cc := code) (x := Int32.ofInt z2) (y := Int32.ofInt z2) (tgt := 1455) C2.2.1.1 C2.2.1.2.1 dL_law_840 (by decide) (fun _ => kend H2 locs2 M2 C2 R2) (fun w => absurd rfl w)
theorem law_harshest (C : x_C YL none G p s m #[Value.ref b] meth c H locs (82, P, M)) (X : LX s b Ln xs G) (hl : LL G b ls i) (hi : 0 ≤ i ∧ i + 6 ≤ Ln) (hP : x_PP P) (hR : Rel M) (hc : cells ≤ 1000 ∧ slots ≤ 100000) (kend : ∀ H' locs' M', x_C YL none G p s m #[Value.ref b] meth c H' locs' (82, P, M') → Rel M' → W p l e room_1 s m #[Value.ref b] below meth c H' locs' cells slots QQ (F0 m 1455 ls [])) : W p l e room_1 s m #[Value.ref b] below meth c H locs cells slots QQ (F0 m 845 ls []) := by
  refine lv_aload_n (cc := code) C.2.1.1 C.2.1.2.1 dL_law_845 rfl (lv_at hl 1 rfl) ?_
  refine lawArg dL_law_846 dL_law_847 dL_law_848 dL_law_849 dL_law_850 C X hl (by omega) ?_
  refine lawV (As := [vI (xv xs (i + 1))]) (rest := []) (a := 0) (mc' := 0) (ms' := 0) (d := 200) dL_law_851 mv_L_105 rfl (Nat.le_of_ble_eq_true rfl) rfl hl.1 (okU (xv_ok _ _) okNil) (Nat.le_of_ble_eq_true rfl) (by omega) (Nat.le_of_ble_eq_true rfl) C (op_harshest (d := 100) (Nat.le_refl _) hP hR) (fun h1 r1 H1 locs1 q1 _ C1 => ?_)
  obtain ⟨M1, z1, rfl, rfl, q1⟩ := q1
  refine lv_aload_n (cc := code) C1.2.1.1 C1.2.1.2.1 dL_law_854 rfl (lv_at hl 2 rfl) ?_
  refine lawArg dL_law_855 dL_law_856 dL_law_857 dL_law_858 dL_law_859 C1 X hl (by omega) ?_
  refine lawV (As := [vI (xv xs (i + 1))]) (rest := [.int (Int32.ofInt z1)]) (a := 64) (mc' := 0) (ms' := 0) (d := 200) dL_law_860 mv_L_108 rfl (Nat.le_of_ble_eq_true rfl) rfl hl.1 (okU (xv_ok _ _) okNil) (Nat.le_of_ble_eq_true rfl) (by omega) (Nat.le_of_ble_eq_true rfl) C1 q1 (fun h2 r2 H2 locs2 q2 _ C2 => ?_)
  obtain ⟨M2, z2, rfl, rfl, rfl, R2⟩ := q2
  exact lv_icmp_eq (cc := code) (x := Int32.ofInt z2) (y := Int32.ofInt z2) (tgt := 1455) C2.2.1.1 C2.2.1.2.1 dL_law_863 (by decide) (fun _ => kend H2 locs2 M2 C2 R2) (fun w => absurd rfl w)
theorem law_odds (C : x_C YL none G p s m #[Value.ref b] meth c H locs (82, P, M)) (X : LX s b Ln xs G) (hl : LL G b ls i) (hi : 0 ≤ i ∧ i + 6 ≤ Ln) (hP : x_PP P) (hR : Rel M) (hc : cells ≤ 1000 ∧ slots ≤ 100000) (kend : ∀ H' locs' M', x_C YL none G p s m #[Value.ref b] meth c H' locs' (82, P, M') → Rel M' → W p l e room_1 s m #[Value.ref b] below meth c H' locs' cells slots QQ (F0 m 1455 ls [])) : W p l e room_1 s m #[Value.ref b] below meth c H locs cells slots QQ (F0 m 868 ls []) := by
  refine lv_aload_n (cc := code) C.2.1.1 C.2.1.2.1 dL_law_868 rfl (lv_at hl 1 rfl) ?_
  refine lawArg dL_law_869 dL_law_870 dL_law_871 dL_law_872 dL_law_873 C X hl (by omega) ?_
  refine lawBool dL_law_874 dL_law_877 dL_law_878 dL_law_881 C (xv_ok _ _) ?_
  refine lawV (As := [vI (bi (xv xs (i + 1) ≠ 0))]) (rest := []) (a := 0) (mc' := 0) (ms' := 0) (d := 200) dL_law_882 mv_L_109 rfl (Nat.le_of_ble_eq_true rfl) rfl hl.1 (okU bi_ok okNil) (Nat.le_of_ble_eq_true rfl) (by omega) (Nat.le_of_ble_eq_true rfl) C (op_odds (d := 100) (Nat.le_refl _) hP hR) (fun h1 r1 H1 locs1 q1 _ C1 => ?_)
  obtain ⟨M1, z1, rfl, rfl, q1⟩ := q1
  refine lv_aload_n (cc := code) C1.2.1.1 C1.2.1.2.1 dL_law_885 rfl (lv_at hl 2 rfl) ?_
  refine lawArg dL_law_886 dL_law_887 dL_law_888 dL_law_889 dL_law_890 C1 X hl (by omega) ?_
  refine lawBool dL_law_891 dL_law_894 dL_law_895 dL_law_898 C1 (xv_ok _ _) ?_
  refine lawV (As := [vI (bi (xv xs (i + 1) ≠ 0))]) (rest := [.long (Int64.ofInt z1)]) (a := 64) (mc' := 0) (ms' := 0) (d := 200) dL_law_899 mv_L_113 rfl (Nat.le_of_ble_eq_true rfl) rfl hl.1 (okU bi_ok okNil) (Nat.le_of_ble_eq_true rfl) (by omega) (Nat.le_of_ble_eq_true rfl) C1 q1 (fun h2 r2 H2 locs2 q2 ok2 C2 => ?_)
  obtain ⟨M2, z2, rfl, rfl, rfl, R2⟩ := q2
  refine W.lcmp (cc := code) (x := Int64.ofInt z2) (y := Int64.ofInt z2) C2.2.1.1 C2.2.1.2.1 dL_law_902 ?_
  have hz : inL z2 := ok2 _ rfl
  rw [x_cmp_of hz hz]
  have e0 : x_cmp z2 z2 = 0 := by
    unfold x_cmp
    simp
  exact lv_if_eq (cc := code) (tgt := 1455) C2.2.1.1 C2.2.1.2.1 dL_law_903 (by decide) (fun _ => kend H2 locs2 M2 C2 R2) (fun w => absurd (by rw [e0]; rfl) w)
theorem law_clash (C : x_C YL none G p s m #[Value.ref b] meth c H locs (82, P, M)) (X : LX s b Ln xs G) (hl : LL G b ls i) (hi : 0 ≤ i ∧ i + 6 ≤ Ln) (hP : x_PP P) (hR : Rel M) (hc : cells ≤ 1000 ∧ slots ≤ 100000) (kend : ∀ H' locs' M', x_C YL none G p s m #[Value.ref b] meth c H' locs' (82, P, M') → Rel M' → W p l e room_1 s m #[Value.ref b] below meth c H' locs' cells slots QQ (F0 m 1455 ls [])) : W p l e room_1 s m #[Value.ref b] below meth c H locs cells slots QQ (F0 m 908 ls []) := by
  refine lv_aload_n (cc := code) C.2.1.1 C.2.1.2.1 dL_law_908 rfl (lv_at hl 1 rfl) ?_
  refine lawArg dL_law_909 dL_law_910 dL_law_911 dL_law_912 dL_law_913 C X hl (by omega) ?_
  refine lawV (As := [vI (xv xs (i + 1))]) (rest := []) (a := 0) (mc' := 0) (ms' := 0) (d := 200) dL_law_914 mv_L_114 rfl (Nat.le_of_ble_eq_true rfl) rfl hl.1 (okU (xv_ok _ _) okNil) (Nat.le_of_ble_eq_true rfl) (by omega) (Nat.le_of_ble_eq_true rfl) C (op_clash (d := 100) (Nat.le_refl _) hP hR) (fun h1 r1 H1 locs1 q1 _ C1 => ?_)
  obtain ⟨M1, z1, rfl, rfl, q1⟩ := q1
  refine lv_aload_n (cc := code) C1.2.1.1 C1.2.1.2.1 dL_law_917 rfl (lv_at hl 2 rfl) ?_
  refine lawArg dL_law_918 dL_law_919 dL_law_920 dL_law_921 dL_law_922 C1 X hl (by omega) ?_
  refine lawV (As := [vI (xv xs (i + 1))]) (rest := [.int (Int32.ofInt z1)]) (a := 64) (mc' := 0) (ms' := 0) (d := 200) dL_law_923 mv_L_117 rfl (Nat.le_of_ble_eq_true rfl) rfl hl.1 (okU (xv_ok _ _) okNil) (Nat.le_of_ble_eq_true rfl) (by omega) (Nat.le_of_ble_eq_true rfl) C1 q1 (fun h2 r2 H2 locs2 q2 _ C2 => ?_)
  obtain ⟨M2, z2, rfl, rfl, rfl, R2⟩ := q2
  exact lv_icmp_eq (cc := code) (x := Int32.ofInt z2) (y := Int32.ofInt z2) (tgt := 1455) C2.2.1.1 C2.2.1.2.1 dL_law_926 (by decide) (fun _ => kend H2 locs2 M2 C2 R2) (fun w => absurd rfl w)
theorem law_leastFacts (C : x_C YL none G p s m #[Value.ref b] meth c H locs (82, P, M)) (X : LX s b Ln xs G) (hl : LL G b ls i) (hi : 0 ≤ i ∧ i + 6 ≤ Ln) (hP : x_PP P) (hR : Rel M) (hc : cells ≤ 1000 ∧ slots ≤ 100000) (kend : ∀ H' locs' M', x_C YL none G p s m #[Value.ref b] meth c H' locs' (82, P, M') → Rel M' → W p l e room_1 s m #[Value.ref b] below meth c H' locs' cells slots QQ (F0 m 1455 ls [])) : W p l e room_1 s m #[Value.ref b] below meth c H locs cells slots QQ (F0 m 931 ls []) := by
  refine lv_aload_n (cc := code) C.2.1.1 C.2.1.2.1 dL_law_931 rfl (lv_at hl 1 rfl) ?_
  refine lawArg dL_law_932 dL_law_933 dL_law_934 dL_law_935 dL_law_936 C X hl (by omega) ?_
  refine lawV (As := [vI (xv xs (i + 1))]) (rest := []) (a := 0) (mc' := 0) (ms' := 0) (d := 200) dL_law_937 mv_L_118 rfl (Nat.le_of_ble_eq_true rfl) rfl hl.1 (okU (xv_ok _ _) okNil) (Nat.le_of_ble_eq_true rfl) (by omega) (Nat.le_of_ble_eq_true rfl) C (op_leastFacts (d := 100) (Nat.le_refl _) hP hR) (fun h1 r1 H1 locs1 q1 _ C1 => ?_)
  obtain ⟨M1, z1, rfl, rfl, q1⟩ := q1
  refine lv_aload_n (cc := code) C1.2.1.1 C1.2.1.2.1 dL_law_940 rfl (lv_at hl 2 rfl) ?_
  refine lawArg dL_law_941 dL_law_942 dL_law_943 dL_law_944 dL_law_945 C1 X hl (by omega) ?_
  refine lawV (As := [vI (xv xs (i + 1))]) (rest := [.int (Int32.ofInt z1)]) (a := 64) (mc' := 0) (ms' := 0) (d := 200) dL_law_946 mv_L_121 rfl (Nat.le_of_ble_eq_true rfl) rfl hl.1 (okU (xv_ok _ _) okNil) (Nat.le_of_ble_eq_true rfl) (by omega) (Nat.le_of_ble_eq_true rfl) C1 q1 (fun h2 r2 H2 locs2 q2 _ C2 => ?_)
  obtain ⟨M2, z2, rfl, rfl, rfl, R2⟩ := q2
  exact lv_icmp_eq (cc := code) (x := Int32.ofInt z2) (y := Int32.ofInt z2) (tgt := 1455) C2.2.1.1 C2.2.1.2.1 dL_law_949 (by decide) (fun _ => kend H2 locs2 M2 C2 R2) (fun w => absurd rfl w)
theorem law_game (C : x_C YL none G p s m #[Value.ref b] meth c H locs (82, P, M)) (X : LX s b Ln xs G) (hl : LL G b ls i) (hi : 0 ≤ i ∧ i + 6 ≤ Ln) (hP : x_PP P) (hR : Rel M) (hc : cells ≤ 1000 ∧ slots ≤ 100000) (kend : ∀ H' locs' M', x_C YL none G p s m #[Value.ref b] meth c H' locs' (82, P, M') → Rel M' → W p l e room_1 s m #[Value.ref b] below meth c H' locs' cells slots QQ (F0 m 1455 ls [])) : W p l e room_1 s m #[Value.ref b] below meth c H locs cells slots QQ (F0 m 954 ls []) := by
  refine lv_aload_n (cc := code) C.2.1.1 C.2.1.2.1 dL_law_954 rfl (lv_at hl 1 rfl) ?_
  refine lawArg dL_law_955 dL_law_956 dL_law_957 dL_law_958 dL_law_959 C X hl (by omega) ?_
  refine lawArg dL_law_960 dL_law_961 dL_law_962 dL_law_963 dL_law_964 C X hl (by omega) ?_
  refine lawBool dL_law_965 dL_law_968 dL_law_969 dL_law_972 C (xv_ok _ _) ?_
  refine lawArg dL_law_973 dL_law_974 dL_law_975 dL_law_976 dL_law_977 C X hl (by omega) ?_
  refine lawBool dL_law_978 dL_law_981 dL_law_982 dL_law_985 C (xv_ok _ _) ?_
  refine lawV (As := [vI (xv xs (i + 1)), vI (bi (xv xs (i + 2) ≠ 0)), vI (bi (xv xs (i + 3) ≠ 0))]) (rest := []) (a := 0) (mc' := 0) (ms' := 0) (d := 200) dL_law_986 mv_L_122 rfl (Nat.le_of_ble_eq_true rfl) rfl hl.1 (okU (xv_ok _ _) (okU bi_ok (okU bi_ok okNil))) (Nat.le_of_ble_eq_true rfl) (by omega) (Nat.le_of_ble_eq_true rfl) C (op_game (d := 100) (Nat.le_refl _) hP hR (bi_or _)) (fun h1 r1 H1 locs1 q1 _ C1 => ?_)
  obtain ⟨M1, z1, rfl, rfl, q1⟩ := q1
  refine lv_aload_n (cc := code) C1.2.1.1 C1.2.1.2.1 dL_law_989 rfl (lv_at hl 2 rfl) ?_
  refine lawArg dL_law_990 dL_law_991 dL_law_992 dL_law_993 dL_law_994 C1 X hl (by omega) ?_
  refine lawArg dL_law_995 dL_law_996 dL_law_997 dL_law_998 dL_law_999 C1 X hl (by omega) ?_
  refine lawBool dL_law_1000 dL_law_1003 dL_law_1004 dL_law_1007 C1 (xv_ok _ _) ?_
  refine lawArg dL_law_1008 dL_law_1009 dL_law_1010 dL_law_1011 dL_law_1012 C1 X hl (by omega) ?_
  refine lawBool dL_law_1013 dL_law_1016 dL_law_1017 dL_law_1020 C1 (xv_ok _ _) ?_
  refine lawV (As := [vI (xv xs (i + 1)), vI (bi (xv xs (i + 2) ≠ 0)), vI (bi (xv xs (i + 3) ≠ 0))]) (rest := [.int (Int32.ofInt z1)]) (a := 64) (mc' := 0) (ms' := 0) (d := 200) dL_law_1021 mv_L_126 rfl (Nat.le_of_ble_eq_true rfl) rfl hl.1 (okU (xv_ok _ _) (okU bi_ok (okU bi_ok okNil))) (Nat.le_of_ble_eq_true rfl) (by omega) (Nat.le_of_ble_eq_true rfl) C1 q1 (fun h2 r2 H2 locs2 q2 _ C2 => ?_)
  obtain ⟨M2, z2, rfl, rfl, rfl, R2⟩ := q2
  exact lv_icmp_eq (cc := code) (x := Int32.ofInt z2) (y := Int32.ofInt z2) (tgt := 1455) C2.2.1.1 C2.2.1.2.1 dL_law_1024 (by decide) (fun _ => kend H2 locs2 M2 C2 R2) (fun w => absurd rfl w)
theorem law_session (C : x_C YL none G p s m #[Value.ref b] meth c H locs (82, P, M)) (X : LX s b Ln xs G) (hl : LL G b ls i) (hi : 0 ≤ i ∧ i + 6 ≤ Ln) (hP : x_PP P) (hR : Rel M) (hc : cells ≤ 1000 ∧ slots ≤ 100000) (kend : ∀ H' locs' M', x_C YL none G p s m #[Value.ref b] meth c H' locs' (82, P, M') → Rel M' → W p l e room_1 s m #[Value.ref b] below meth c H' locs' cells slots QQ (F0 m 1455 ls [])) : W p l e room_1 s m #[Value.ref b] below meth c H locs cells slots QQ (F0 m 1029 ls []) := by
  refine lv_aload_n (cc := code) C.2.1.1 C.2.1.2.1 dL_law_1029 rfl (lv_at hl 1 rfl) ?_
  refine lawArg dL_law_1030 dL_law_1031 dL_law_1032 dL_law_1033 dL_law_1034 C X hl (by omega) ?_
  refine lawArg dL_law_1035 dL_law_1036 dL_law_1037 dL_law_1038 dL_law_1039 C X hl (by omega) ?_
  refine lawV (As := [vI (xv xs (i + 1)), vI (xv xs (i + 2))]) (rest := []) (a := 0) (mc' := 0) (ms' := 0) (d := 200) dL_law_1040 mv_L_127 rfl (Nat.le_of_ble_eq_true rfl) rfl hl.1 (okU (xv_ok _ _) (okU (xv_ok _ _) okNil)) (Nat.le_of_ble_eq_true rfl) (by omega) (Nat.le_of_ble_eq_true rfl) C (op_session (d := 100) (Nat.le_refl _) hP hR) (fun h1 r1 H1 locs1 q1 _ C1 => ?_)
  obtain ⟨M1, z1, rfl, rfl, q1⟩ := q1
  refine lv_aload_n (cc := code) C1.2.1.1 C1.2.1.2.1 dL_law_1043 rfl (lv_at hl 2 rfl) ?_
  refine lawArg dL_law_1044 dL_law_1045 dL_law_1046 dL_law_1047 dL_law_1048 C1 X hl (by omega) ?_
  refine lawArg dL_law_1049 dL_law_1050 dL_law_1051 dL_law_1052 dL_law_1053 C1 X hl (by omega) ?_
  refine lawV (As := [vI (xv xs (i + 1)), vI (xv xs (i + 2))]) (rest := [.int (Int32.ofInt z1)]) (a := 64) (mc' := 0) (ms' := 0) (d := 200) dL_law_1054 mv_L_130 rfl (Nat.le_of_ble_eq_true rfl) rfl hl.1 (okU (xv_ok _ _) (okU (xv_ok _ _) okNil)) (Nat.le_of_ble_eq_true rfl) (by omega) (Nat.le_of_ble_eq_true rfl) C1 q1 (fun h2 r2 H2 locs2 q2 _ C2 => ?_)
  obtain ⟨M2, z2, rfl, rfl, rfl, R2⟩ := q2
  exact lv_icmp_eq (cc := code) (x := Int32.ofInt z2) (y := Int32.ofInt z2) (tgt := 1455) C2.2.1.1 C2.2.1.2.1 dL_law_1057 (by decide) (fun _ => kend H2 locs2 M2 C2 R2) (fun w => absurd rfl w)
theorem law_record (C : x_C YL none G p s m #[Value.ref b] meth c H locs (82, P, M)) (X : LX s b Ln xs G) (hl : LL G b ls i) (hi : 0 ≤ i ∧ i + 6 ≤ Ln) (hP : x_PP P) (hR : Rel M) (hc : cells ≤ 1000 ∧ slots ≤ 100000) (kend : ∀ H' locs' M', x_C YL none G p s m #[Value.ref b] meth c H' locs' (82, P, M') → Rel M' → W p l e room_1 s m #[Value.ref b] below meth c H' locs' cells slots QQ (F0 m 1455 ls [])) : W p l e room_1 s m #[Value.ref b] below meth c H locs cells slots QQ (F0 m 1062 ls []) := by
  refine lv_aload_n (cc := code) C.2.1.1 C.2.1.2.1 dL_law_1062 rfl (lv_at hl 1 rfl) ?_
  refine lawArg dL_law_1063 dL_law_1064 dL_law_1065 dL_law_1066 dL_law_1067 C X hl (by omega) ?_
  refine lawArg dL_law_1068 dL_law_1069 dL_law_1070 dL_law_1071 dL_law_1072 C X hl (by omega) ?_
  refine lawArg dL_law_1073 dL_law_1074 dL_law_1075 dL_law_1076 dL_law_1077 C X hl (by omega) ?_
  refine lawBool dL_law_1078 dL_law_1081 dL_law_1082 dL_law_1085 C (xv_ok _ _) ?_
  refine lawV (As := [vI (xv xs (i + 1)), vI (xv xs (i + 2)), vI (bi (xv xs (i + 3) ≠ 0))]) (rest := []) (a := 0) (mc' := 0) (ms' := 0) (d := 200) dL_law_1086 mv_L_131 rfl (Nat.le_of_ble_eq_true rfl) rfl hl.1 (okU (xv_ok _ _) (okU (xv_ok _ _) (okU bi_ok okNil))) (Nat.le_of_ble_eq_true rfl) (by omega) (Nat.le_of_ble_eq_true rfl) C (op_record (d := 100) (Nat.le_refl _) hP hR (bi_or _)) (fun h1 r1 H1 locs1 q1 _ C1 => ?_)
  obtain ⟨M1, z1, rfl, rfl, q1⟩ := q1
  refine lv_aload_n (cc := code) C1.2.1.1 C1.2.1.2.1 dL_law_1089 rfl (lv_at hl 2 rfl) ?_
  refine lawArg dL_law_1090 dL_law_1091 dL_law_1092 dL_law_1093 dL_law_1094 C1 X hl (by omega) ?_
  refine lawArg dL_law_1095 dL_law_1096 dL_law_1097 dL_law_1098 dL_law_1099 C1 X hl (by omega) ?_
  refine lawArg dL_law_1100 dL_law_1101 dL_law_1102 dL_law_1103 dL_law_1104 C1 X hl (by omega) ?_
  refine lawBool dL_law_1105 dL_law_1108 dL_law_1109 dL_law_1112 C1 (xv_ok _ _) ?_
  refine lawV (As := [vI (xv xs (i + 1)), vI (xv xs (i + 2)), vI (bi (xv xs (i + 3) ≠ 0))]) (rest := [.int (Int32.ofInt z1)]) (a := 64) (mc' := 0) (ms' := 0) (d := 200) dL_law_1113 mv_L_135 rfl (Nat.le_of_ble_eq_true rfl) rfl hl.1 (okU (xv_ok _ _) (okU (xv_ok _ _) (okU bi_ok okNil))) (Nat.le_of_ble_eq_true rfl) (by omega) (Nat.le_of_ble_eq_true rfl) C1 q1 (fun h2 r2 H2 locs2 q2 _ C2 => ?_)
  obtain ⟨M2, z2, rfl, rfl, rfl, R2⟩ := q2
  exact lv_icmp_eq (cc := code) (x := Int32.ofInt z2) (y := Int32.ofInt z2) (tgt := 1455) C2.2.1.1 C2.2.1.2.1 dL_law_1116 (by decide) (fun _ => kend H2 locs2 M2 C2 R2) (fun w => absurd rfl w)
theorem law_turned (C : x_C YL none G p s m #[Value.ref b] meth c H locs (82, P, M)) (X : LX s b Ln xs G) (hl : LL G b ls i) (hi : 0 ≤ i ∧ i + 6 ≤ Ln) (hP : x_PP P) (hR : Rel M) (hc : cells ≤ 1000 ∧ slots ≤ 100000) (kend : ∀ H' locs' M', x_C YL none G p s m #[Value.ref b] meth c H' locs' (82, P, M') → Rel M' → W p l e room_1 s m #[Value.ref b] below meth c H' locs' cells slots QQ (F0 m 1455 ls [])) : W p l e room_1 s m #[Value.ref b] below meth c H locs cells slots QQ (F0 m 1121 ls []) := by
  refine lv_aload_n (cc := code) C.2.1.1 C.2.1.2.1 dL_law_1121 rfl (lv_at hl 1 rfl) ?_
  refine lawV (As := []) (rest := []) (a := 0) (mc' := 0) (ms' := 0) (d := 200) dL_law_1122 mv_L_136 rfl (Nat.le_of_ble_eq_true rfl) rfl hl.1 okNil (Nat.le_of_ble_eq_true rfl) (by omega) (Nat.le_of_ble_eq_true rfl) C (op_turned (d := 100) (Nat.le_refl _) hP hR) (fun h1 r1 H1 locs1 q1 _ C1 => ?_)
  obtain ⟨M1, z1, rfl, rfl, q1⟩ := q1
  refine lv_aload_n (cc := code) C1.2.1.1 C1.2.1.2.1 dL_law_1125 rfl (lv_at hl 2 rfl) ?_
  refine lawV (As := []) (rest := [.int (Int32.ofInt z1)]) (a := 64) (mc' := 0) (ms' := 0) (d := 200) dL_law_1126 mv_L_139 rfl (Nat.le_of_ble_eq_true rfl) rfl hl.1 okNil (Nat.le_of_ble_eq_true rfl) (by omega) (Nat.le_of_ble_eq_true rfl) C1 q1 (fun h2 r2 H2 locs2 q2 _ C2 => ?_)
  obtain ⟨M2, z2, rfl, rfl, rfl, R2⟩ := q2
  exact lv_icmp_eq (cc := code) (x := Int32.ofInt z2) (y := Int32.ofInt z2) (tgt := 1455) C2.2.1.1 C2.2.1.2.1 dL_law_1129 (by decide) (fun _ => kend H2 locs2 M2 C2 R2) (fun w => absurd rfl w)
theorem law_fewestWrong (C : x_C YL none G p s m #[Value.ref b] meth c H locs (82, P, M)) (X : LX s b Ln xs G) (hl : LL G b ls i) (hi : 0 ≤ i ∧ i + 6 ≤ Ln) (hP : x_PP P) (hR : Rel M) (hc : cells ≤ 1000 ∧ slots ≤ 100000) (kend : ∀ H' locs' M', x_C YL none G p s m #[Value.ref b] meth c H' locs' (82, P, M') → Rel M' → W p l e room_1 s m #[Value.ref b] below meth c H' locs' cells slots QQ (F0 m 1455 ls [])) : W p l e room_1 s m #[Value.ref b] below meth c H locs cells slots QQ (F0 m 1134 ls []) := by
  refine lv_aload_n (cc := code) C.2.1.1 C.2.1.2.1 dL_law_1134 rfl (lv_at hl 1 rfl) ?_
  refine lawV (As := []) (rest := []) (a := 0) (mc' := 0) (ms' := 0) (d := 200) dL_law_1135 mv_L_140 rfl (Nat.le_of_ble_eq_true rfl) rfl hl.1 okNil (Nat.le_of_ble_eq_true rfl) (by omega) (Nat.le_of_ble_eq_true rfl) C (op_fewestWrong (d := 100) (Nat.le_refl _) hP hR) (fun h1 r1 H1 locs1 q1 _ C1 => ?_)
  obtain ⟨M1, z1, rfl, rfl, q1⟩ := q1
  refine lv_aload_n (cc := code) C1.2.1.1 C1.2.1.2.1 dL_law_1138 rfl (lv_at hl 2 rfl) ?_
  refine lawV (As := []) (rest := [.int (Int32.ofInt z1)]) (a := 64) (mc' := 0) (ms' := 0) (d := 200) dL_law_1139 mv_L_143 rfl (Nat.le_of_ble_eq_true rfl) rfl hl.1 okNil (Nat.le_of_ble_eq_true rfl) (by omega) (Nat.le_of_ble_eq_true rfl) C1 q1 (fun h2 r2 H2 locs2 q2 _ C2 => ?_)
  obtain ⟨M2, z2, rfl, rfl, rfl, R2⟩ := q2
  exact lv_icmp_eq (cc := code) (x := Int32.ofInt z2) (y := Int32.ofInt z2) (tgt := 1455) C2.2.1.1 C2.2.1.2.1 dL_law_1142 (by decide) (fun _ => kend H2 locs2 M2 C2 R2) (fun w => absurd rfl w)
theorem law_whose (C : x_C YL none G p s m #[Value.ref b] meth c H locs (82, P, M)) (X : LX s b Ln xs G) (hl : LL G b ls i) (hi : 0 ≤ i ∧ i + 6 ≤ Ln) (hP : x_PP P) (hR : Rel M) (hc : cells ≤ 1000 ∧ slots ≤ 100000) (kend : ∀ H' locs' M', x_C YL none G p s m #[Value.ref b] meth c H' locs' (82, P, M') → Rel M' → W p l e room_1 s m #[Value.ref b] below meth c H' locs' cells slots QQ (F0 m 1455 ls [])) : W p l e room_1 s m #[Value.ref b] below meth c H locs cells slots QQ (F0 m 1147 ls []) := by
  refine lv_aload_n (cc := code) C.2.1.1 C.2.1.2.1 dL_law_1147 rfl (lv_at hl 1 rfl) ?_
  refine lawV (As := []) (rest := []) (a := 0) (mc' := 0) (ms' := 0) (d := 200) dL_law_1148 mv_L_144 rfl (Nat.le_of_ble_eq_true rfl) rfl hl.1 okNil (Nat.le_of_ble_eq_true rfl) (by omega) (Nat.le_of_ble_eq_true rfl) C (op_whose (d := 100) (Nat.le_refl _) hP hR) (fun h1 r1 H1 locs1 q1 _ C1 => ?_)
  obtain ⟨M1, z1, rfl, rfl, q1⟩ := q1
  refine lv_aload_n (cc := code) C1.2.1.1 C1.2.1.2.1 dL_law_1151 rfl (lv_at hl 2 rfl) ?_
  refine lawV (As := []) (rest := [.int (Int32.ofInt z1)]) (a := 64) (mc' := 0) (ms' := 0) (d := 200) dL_law_1152 mv_L_147 rfl (Nat.le_of_ble_eq_true rfl) rfl hl.1 okNil (Nat.le_of_ble_eq_true rfl) (by omega) (Nat.le_of_ble_eq_true rfl) C1 q1 (fun h2 r2 H2 locs2 q2 _ C2 => ?_)
  obtain ⟨M2, z2, rfl, rfl, rfl, R2⟩ := q2
  exact lv_icmp_eq (cc := code) (x := Int32.ofInt z2) (y := Int32.ofInt z2) (tgt := 1455) C2.2.1.1 C2.2.1.2.1 dL_law_1155 (by decide) (fun _ => kend H2 locs2 M2 C2 R2) (fun w => absurd rfl w)
theorem law_learn (C : x_C YL none G p s m #[Value.ref b] meth c H locs (82, P, M)) (X : LX s b Ln xs G) (hl : LL G b ls i) (hi : 0 ≤ i ∧ i + 6 ≤ Ln) (hP : x_PP P) (hR : Rel M) (hc : cells ≤ 1000 ∧ slots ≤ 100000) (kend : ∀ H' locs' M', x_C YL none G p s m #[Value.ref b] meth c H' locs' (82, P, M') → Rel M' → W p l e room_1 s m #[Value.ref b] below meth c H' locs' cells slots QQ (F0 m 1455 ls [])) : W p l e room_1 s m #[Value.ref b] below meth c H locs cells slots QQ (F0 m 1160 ls []) := by
  refine lv_aload_n (cc := code) C.2.1.1 C.2.1.2.1 dL_law_1160 rfl (lv_at hl 1 rfl) ?_
  refine lawArg dL_law_1161 dL_law_1162 dL_law_1163 dL_law_1164 dL_law_1165 C X hl (by omega) ?_
  refine lawArg dL_law_1166 dL_law_1167 dL_law_1168 dL_law_1169 dL_law_1170 C X hl (by omega) ?_
  refine lawBool dL_law_1171 dL_law_1174 dL_law_1175 dL_law_1178 C (xv_ok _ _) ?_
  refine lawV (As := [vI (xv xs (i + 1)), vI (bi (xv xs (i + 2) ≠ 0))]) (rest := []) (a := 0) (mc' := 0) (ms' := 0) (d := 200) dL_law_1179 mv_L_148 rfl (Nat.le_of_ble_eq_true rfl) rfl hl.1 (okU (xv_ok _ _) (okU bi_ok okNil)) (Nat.le_of_ble_eq_true rfl) (by omega) (Nat.le_of_ble_eq_true rfl) C (op_learn (d := 100) (Nat.le_refl _) hP hR (bi_or _)) (fun h1 r1 H1 locs1 q1 _ C1 => ?_)
  obtain ⟨M1, z1, rfl, rfl, q1⟩ := q1
  refine lv_aload_n (cc := code) C1.2.1.1 C1.2.1.2.1 dL_law_1182 rfl (lv_at hl 2 rfl) ?_
  refine lawArg dL_law_1183 dL_law_1184 dL_law_1185 dL_law_1186 dL_law_1187 C1 X hl (by omega) ?_
  refine lawArg dL_law_1188 dL_law_1189 dL_law_1190 dL_law_1191 dL_law_1192 C1 X hl (by omega) ?_
  refine lawBool dL_law_1193 dL_law_1196 dL_law_1197 dL_law_1200 C1 (xv_ok _ _) ?_
  refine lawV (As := [vI (xv xs (i + 1)), vI (bi (xv xs (i + 2) ≠ 0))]) (rest := [.int (Int32.ofInt z1)]) (a := 64) (mc' := 0) (ms' := 0) (d := 200) dL_law_1201 mv_L_152 rfl (Nat.le_of_ble_eq_true rfl) rfl hl.1 (okU (xv_ok _ _) (okU bi_ok okNil)) (Nat.le_of_ble_eq_true rfl) (by omega) (Nat.le_of_ble_eq_true rfl) C1 q1 (fun h2 r2 H2 locs2 q2 _ C2 => ?_)
  obtain ⟨M2, z2, rfl, rfl, rfl, R2⟩ := q2
  exact lv_icmp_eq (cc := code) (x := Int32.ofInt z2) (y := Int32.ofInt z2) (tgt := 1455) C2.2.1.1 C2.2.1.2.1 dL_law_1204 (by decide) (fun _ => kend H2 locs2 M2 C2 R2) (fun w => absurd rfl w)
theorem law_codes (C : x_C YL none G p s m #[Value.ref b] meth c H locs (82, P, M)) (X : LX s b Ln xs G) (hl : LL G b ls i) (hi : 0 ≤ i ∧ i + 6 ≤ Ln) (hP : x_PP P) (hR : Rel M) (hc : cells ≤ 1000 ∧ slots ≤ 100000) (kend : ∀ H' locs' M', x_C YL none G p s m #[Value.ref b] meth c H' locs' (82, P, M') → Rel M' → W p l e room_1 s m #[Value.ref b] below meth c H' locs' cells slots QQ (F0 m 1455 ls [])) : W p l e room_1 s m #[Value.ref b] below meth c H locs cells slots QQ (F0 m 1209 ls []) := by
  refine lv_aload_n (cc := code) C.2.1.1 C.2.1.2.1 dL_law_1209 rfl (lv_at hl 1 rfl) ?_
  refine lawArg dL_law_1210 dL_law_1211 dL_law_1212 dL_law_1213 dL_law_1214 C X hl (by omega) ?_
  refine lawV (As := [vI (xv xs (i + 1))]) (rest := []) (a := 0) (mc' := 0) (ms' := 0) (d := 200) dL_law_1215 mv_L_153 rfl (Nat.le_of_ble_eq_true rfl) rfl hl.1 (okU (xv_ok _ _) okNil) (Nat.le_of_ble_eq_true rfl) (by omega) (Nat.le_of_ble_eq_true rfl) C (op_codes (d := 100) (Nat.le_refl _) hP hR) (fun h1 r1 H1 locs1 q1 _ C1 => ?_)
  obtain ⟨M1, z1, rfl, rfl, q1⟩ := q1
  refine lv_aload_n (cc := code) C1.2.1.1 C1.2.1.2.1 dL_law_1218 rfl (lv_at hl 2 rfl) ?_
  refine lawArg dL_law_1219 dL_law_1220 dL_law_1221 dL_law_1222 dL_law_1223 C1 X hl (by omega) ?_
  refine lawV (As := [vI (xv xs (i + 1))]) (rest := [.int (Int32.ofInt z1)]) (a := 64) (mc' := 0) (ms' := 0) (d := 200) dL_law_1224 mv_L_156 rfl (Nat.le_of_ble_eq_true rfl) rfl hl.1 (okU (xv_ok _ _) okNil) (Nat.le_of_ble_eq_true rfl) (by omega) (Nat.le_of_ble_eq_true rfl) C1 q1 (fun h2 r2 H2 locs2 q2 _ C2 => ?_)
  obtain ⟨M2, z2, rfl, rfl, rfl, R2⟩ := q2
  exact lv_icmp_eq (cc := code) (x := Int32.ofInt z2) (y := Int32.ofInt z2) (tgt := 1455) C2.2.1.1 C2.2.1.2.1 dL_law_1227 (by decide) (fun _ => kend H2 locs2 M2 C2 R2) (fun w => absurd rfl w)
theorem law_sure (C : x_C YL none G p s m #[Value.ref b] meth c H locs (82, P, M)) (X : LX s b Ln xs G) (hl : LL G b ls i) (hi : 0 ≤ i ∧ i + 6 ≤ Ln) (hP : x_PP P) (hR : Rel M) (hc : cells ≤ 1000 ∧ slots ≤ 100000) (kend : ∀ H' locs' M', x_C YL none G p s m #[Value.ref b] meth c H' locs' (82, P, M') → Rel M' → W p l e room_1 s m #[Value.ref b] below meth c H' locs' cells slots QQ (F0 m 1455 ls [])) : W p l e room_1 s m #[Value.ref b] below meth c H locs cells slots QQ (F0 m 1232 ls []) := by
  refine lv_aload_n (cc := code) C.2.1.1 C.2.1.2.1 dL_law_1232 rfl (lv_at hl 1 rfl) ?_
  refine lawArg dL_law_1233 dL_law_1234 dL_law_1235 dL_law_1236 dL_law_1237 C X hl (by omega) ?_
  refine lawV (As := [vI (xv xs (i + 1))]) (rest := []) (a := 0) (mc' := 0) (ms' := 0) (d := 200) dL_law_1238 mv_L_157 rfl (Nat.le_of_ble_eq_true rfl) rfl hl.1 (okU (xv_ok _ _) okNil) (Nat.le_of_ble_eq_true rfl) (by omega) (Nat.le_of_ble_eq_true rfl) C (op_sure (d := 100) (Nat.le_refl _) hP hR) (fun h1 r1 H1 locs1 q1 _ C1 => ?_)
  obtain ⟨M1, z1, rfl, rfl, q1⟩ := q1
  refine lv_aload_n (cc := code) C1.2.1.1 C1.2.1.2.1 dL_law_1241 rfl (lv_at hl 2 rfl) ?_
  refine lawArg dL_law_1242 dL_law_1243 dL_law_1244 dL_law_1245 dL_law_1246 C1 X hl (by omega) ?_
  refine lawV (As := [vI (xv xs (i + 1))]) (rest := [.int (Int32.ofInt z1)]) (a := 64) (mc' := 0) (ms' := 0) (d := 200) dL_law_1247 mv_L_160 rfl (Nat.le_of_ble_eq_true rfl) rfl hl.1 (okU (xv_ok _ _) okNil) (Nat.le_of_ble_eq_true rfl) (by omega) (Nat.le_of_ble_eq_true rfl) C1 q1 (fun h2 r2 H2 locs2 q2 _ C2 => ?_)
  obtain ⟨M2, z2, rfl, rfl, rfl, R2⟩ := q2
  exact lv_icmp_eq (cc := code) (x := Int32.ofInt z2) (y := Int32.ofInt z2) (tgt := 1455) C2.2.1.1 C2.2.1.2.1 dL_law_1250 (by decide) (fun _ => kend H2 locs2 M2 C2 R2) (fun w => absurd rfl w)
theorem law_toBring (C : x_C YL none G p s m #[Value.ref b] meth c H locs (82, P, M)) (X : LX s b Ln xs G) (hl : LL G b ls i) (hi : 0 ≤ i ∧ i + 6 ≤ Ln) (hP : x_PP P) (hR : Rel M) (hc : cells ≤ 1000 ∧ slots ≤ 100000) (kend : ∀ H' locs' M', x_C YL none G p s m #[Value.ref b] meth c H' locs' (82, P, M') → Rel M' → W p l e room_1 s m #[Value.ref b] below meth c H' locs' cells slots QQ (F0 m 1455 ls [])) : W p l e room_1 s m #[Value.ref b] below meth c H locs cells slots QQ (F0 m 1255 ls []) := by
  refine lv_aload_n (cc := code) C.2.1.1 C.2.1.2.1 dL_law_1255 rfl (lv_at hl 1 rfl) ?_
  refine lawV (As := []) (rest := []) (a := 0) (mc' := 0) (ms' := 0) (d := 200) dL_law_1256 mv_L_161 rfl (Nat.le_of_ble_eq_true rfl) rfl hl.1 okNil (Nat.le_of_ble_eq_true rfl) (by omega) (Nat.le_of_ble_eq_true rfl) C (op_toBring (d := 100) (Nat.le_refl _) hP hR) (fun h1 r1 H1 locs1 q1 _ C1 => ?_)
  obtain ⟨M1, z1, rfl, rfl, q1⟩ := q1
  refine lv_aload_n (cc := code) C1.2.1.1 C1.2.1.2.1 dL_law_1259 rfl (lv_at hl 2 rfl) ?_
  refine lawV (As := []) (rest := [.int (Int32.ofInt z1)]) (a := 64) (mc' := 0) (ms' := 0) (d := 200) dL_law_1260 mv_L_164 rfl (Nat.le_of_ble_eq_true rfl) rfl hl.1 okNil (Nat.le_of_ble_eq_true rfl) (by omega) (Nat.le_of_ble_eq_true rfl) C1 q1 (fun h2 r2 H2 locs2 q2 _ C2 => ?_)
  obtain ⟨M2, z2, rfl, rfl, rfl, R2⟩ := q2
  exact lv_icmp_eq (cc := code) (x := Int32.ofInt z2) (y := Int32.ofInt z2) (tgt := 1455) C2.2.1.1 C2.2.1.2.1 dL_law_1263 (by decide) (fun _ => kend H2 locs2 M2 C2 R2) (fun w => absurd rfl w)
theorem law_counsel (C : x_C YL none G p s m #[Value.ref b] meth c H locs (82, P, M)) (X : LX s b Ln xs G) (hl : LL G b ls i) (hi : 0 ≤ i ∧ i + 6 ≤ Ln) (hP : x_PP P) (hR : Rel M) (hc : cells ≤ 1000 ∧ slots ≤ 100000) (kend : ∀ H' locs' M', x_C YL none G p s m #[Value.ref b] meth c H' locs' (82, P, M') → Rel M' → W p l e room_1 s m #[Value.ref b] below meth c H' locs' cells slots QQ (F0 m 1455 ls [])) : W p l e room_1 s m #[Value.ref b] below meth c H locs cells slots QQ (F0 m 1268 ls []) := by
  refine lv_aload_n (cc := code) C.2.1.1 C.2.1.2.1 dL_law_1268 rfl (lv_at hl 1 rfl) ?_
  refine lawArg dL_law_1269 dL_law_1270 dL_law_1271 dL_law_1272 dL_law_1273 C X hl (by omega) ?_
  refine lawArg dL_law_1274 dL_law_1275 dL_law_1276 dL_law_1277 dL_law_1278 C X hl (by omega) ?_
  refine lawV (As := [vI (xv xs (i + 1)), vI (xv xs (i + 2))]) (rest := []) (a := 0) (mc' := 0) (ms' := 0) (d := 200) dL_law_1279 mv_L_165 rfl (Nat.le_of_ble_eq_true rfl) rfl hl.1 (okU (xv_ok _ _) (okU (xv_ok _ _) okNil)) (Nat.le_of_ble_eq_true rfl) (by omega) (Nat.le_of_ble_eq_true rfl) C (op_counsel (d := 100) (Nat.le_refl _) hP hR) (fun h1 r1 H1 locs1 q1 _ C1 => ?_)
  obtain ⟨M1, z1, rfl, rfl, q1⟩ := q1
  refine lv_aload_n (cc := code) C1.2.1.1 C1.2.1.2.1 dL_law_1282 rfl (lv_at hl 2 rfl) ?_
  refine lawArg dL_law_1283 dL_law_1284 dL_law_1285 dL_law_1286 dL_law_1287 C1 X hl (by omega) ?_
  refine lawArg dL_law_1288 dL_law_1289 dL_law_1290 dL_law_1291 dL_law_1292 C1 X hl (by omega) ?_
  refine lawV (As := [vI (xv xs (i + 1)), vI (xv xs (i + 2))]) (rest := [.int (Int32.ofInt z1)]) (a := 64) (mc' := 0) (ms' := 0) (d := 200) dL_law_1293 mv_L_168 rfl (Nat.le_of_ble_eq_true rfl) rfl hl.1 (okU (xv_ok _ _) (okU (xv_ok _ _) okNil)) (Nat.le_of_ble_eq_true rfl) (by omega) (Nat.le_of_ble_eq_true rfl) C1 q1 (fun h2 r2 H2 locs2 q2 _ C2 => ?_)
  obtain ⟨M2, z2, rfl, rfl, rfl, R2⟩ := q2
  exact lv_icmp_eq (cc := code) (x := Int32.ofInt z2) (y := Int32.ofInt z2) (tgt := 1455) C2.2.1.1 C2.2.1.2.1 dL_law_1296 (by decide) (fun _ => kend H2 locs2 M2 C2 R2) (fun w => absurd rfl w)
theorem law_hired (C : x_C YL none G p s m #[Value.ref b] meth c H locs (82, P, M)) (X : LX s b Ln xs G) (hl : LL G b ls i) (hi : 0 ≤ i ∧ i + 6 ≤ Ln) (hP : x_PP P) (hR : Rel M) (hc : cells ≤ 1000 ∧ slots ≤ 100000) (kend : ∀ H' locs' M', x_C YL none G p s m #[Value.ref b] meth c H' locs' (82, P, M') → Rel M' → W p l e room_1 s m #[Value.ref b] below meth c H' locs' cells slots QQ (F0 m 1455 ls [])) : W p l e room_1 s m #[Value.ref b] below meth c H locs cells slots QQ (F0 m 1301 ls []) := by
  refine lv_aload_n (cc := code) C.2.1.1 C.2.1.2.1 dL_law_1301 rfl (lv_at hl 1 rfl) ?_
  refine lawArg dL_law_1302 dL_law_1303 dL_law_1304 dL_law_1305 dL_law_1306 C X hl (by omega) ?_
  refine lawArg dL_law_1307 dL_law_1308 dL_law_1309 dL_law_1310 dL_law_1311 C X hl (by omega) ?_
  refine lawBool dL_law_1312 dL_law_1315 dL_law_1316 dL_law_1319 C (xv_ok _ _) ?_
  refine lawV (As := [vI (xv xs (i + 1)), vI (bi (xv xs (i + 2) ≠ 0))]) (rest := []) (a := 0) (mc' := 0) (ms' := 0) (d := 200) dL_law_1320 mv_L_169 rfl (Nat.le_of_ble_eq_true rfl) rfl hl.1 (okU (xv_ok _ _) (okU bi_ok okNil)) (Nat.le_of_ble_eq_true rfl) (by omega) (Nat.le_of_ble_eq_true rfl) C (op_hired (d := 100) (Nat.le_refl _) hP hR) (fun h1 r1 H1 locs1 q1 _ C1 => ?_)
  obtain ⟨M1, z1, rfl, rfl, q1⟩ := q1
  refine lv_aload_n (cc := code) C1.2.1.1 C1.2.1.2.1 dL_law_1323 rfl (lv_at hl 2 rfl) ?_
  refine lawArg dL_law_1324 dL_law_1325 dL_law_1326 dL_law_1327 dL_law_1328 C1 X hl (by omega) ?_
  refine lawArg dL_law_1329 dL_law_1330 dL_law_1331 dL_law_1332 dL_law_1333 C1 X hl (by omega) ?_
  refine lawBool dL_law_1334 dL_law_1337 dL_law_1338 dL_law_1341 C1 (xv_ok _ _) ?_
  refine lawV (As := [vI (xv xs (i + 1)), vI (bi (xv xs (i + 2) ≠ 0))]) (rest := [.int (Int32.ofInt z1)]) (a := 64) (mc' := 0) (ms' := 0) (d := 200) dL_law_1342 mv_L_172 rfl (Nat.le_of_ble_eq_true rfl) rfl hl.1 (okU (xv_ok _ _) (okU bi_ok okNil)) (Nat.le_of_ble_eq_true rfl) (by omega) (Nat.le_of_ble_eq_true rfl) C1 q1 (fun h2 r2 H2 locs2 q2 _ C2 => ?_)
  obtain ⟨M2, z2, rfl, rfl, rfl, R2⟩ := q2
  exact lv_icmp_eq (cc := code) (x := Int32.ofInt z2) (y := Int32.ofInt z2) (tgt := 1455) C2.2.1.1 C2.2.1.2.1 dL_law_1345 (by decide) (fun _ => kend H2 locs2 M2 C2 R2) (fun w => absurd rfl w)
theorem law_calm (C : x_C YL none G p s m #[Value.ref b] meth c H locs (82, P, M)) (X : LX s b Ln xs G) (hl : LL G b ls i) (hi : 0 ≤ i ∧ i + 6 ≤ Ln) (hP : x_PP P) (hR : Rel M) (hc : cells ≤ 1000 ∧ slots ≤ 100000) (kend : ∀ H' locs' M', x_C YL none G p s m #[Value.ref b] meth c H' locs' (82, P, M') → Rel M' → W p l e room_1 s m #[Value.ref b] below meth c H' locs' cells slots QQ (F0 m 1455 ls [])) : W p l e room_1 s m #[Value.ref b] below meth c H locs cells slots QQ (F0 m 1350 ls []) := by
  refine lv_aload_n (cc := code) C.2.1.1 C.2.1.2.1 dL_law_1350 rfl (lv_at hl 1 rfl) ?_
  refine lawArg dL_law_1351 dL_law_1352 dL_law_1353 dL_law_1354 dL_law_1355 C X hl (by omega) ?_
  refine lawV (As := [vI (xv xs (i + 1))]) (rest := []) (a := 0) (mc' := 0) (ms' := 0) (d := 200) dL_law_1356 mv_L_173 rfl (Nat.le_of_ble_eq_true rfl) rfl hl.1 (okU (xv_ok _ _) okNil) (Nat.le_of_ble_eq_true rfl) (by omega) (Nat.le_of_ble_eq_true rfl) C (op_calm (d := 100) (Nat.le_refl _) hP hR) (fun h1 r1 H1 locs1 q1 _ C1 => ?_)
  obtain ⟨M1, z1, rfl, rfl, q1⟩ := q1
  refine lv_aload_n (cc := code) C1.2.1.1 C1.2.1.2.1 dL_law_1359 rfl (lv_at hl 2 rfl) ?_
  refine lawArg dL_law_1360 dL_law_1361 dL_law_1362 dL_law_1363 dL_law_1364 C1 X hl (by omega) ?_
  refine lawV (As := [vI (xv xs (i + 1))]) (rest := [.int (Int32.ofInt z1)]) (a := 64) (mc' := 0) (ms' := 0) (d := 200) dL_law_1365 mv_L_176 rfl (Nat.le_of_ble_eq_true rfl) rfl hl.1 (okU (xv_ok _ _) okNil) (Nat.le_of_ble_eq_true rfl) (by omega) (Nat.le_of_ble_eq_true rfl) C1 q1 (fun h2 r2 H2 locs2 q2 _ C2 => ?_)
  obtain ⟨M2, z2, rfl, rfl, rfl, R2⟩ := q2
  exact lv_icmp_eq (cc := code) (x := Int32.ofInt z2) (y := Int32.ofInt z2) (tgt := 1455) C2.2.1.1 C2.2.1.2.1 dL_law_1368 (by decide) (fun _ => kend H2 locs2 M2 C2 R2) (fun w => absurd rfl w)
theorem law_standing (C : x_C YL none G p s m #[Value.ref b] meth c H locs (82, P, M)) (X : LX s b Ln xs G) (hl : LL G b ls i) (hi : 0 ≤ i ∧ i + 6 ≤ Ln) (hP : x_PP P) (hR : Rel M) (hc : cells ≤ 1000 ∧ slots ≤ 100000) (kend : ∀ H' locs' M', x_C YL none G p s m #[Value.ref b] meth c H' locs' (82, P, M') → Rel M' → W p l e room_1 s m #[Value.ref b] below meth c H' locs' cells slots QQ (F0 m 1455 ls [])) : W p l e room_1 s m #[Value.ref b] below meth c H locs cells slots QQ (F0 m 1373 ls []) := by
  refine lv_aload_n (cc := code) C.2.1.1 C.2.1.2.1 dL_law_1373 rfl (lv_at hl 1 rfl) ?_
  refine lawArg dL_law_1374 dL_law_1375 dL_law_1376 dL_law_1377 dL_law_1378 C X hl (by omega) ?_
  refine lawArg dL_law_1379 dL_law_1380 dL_law_1381 dL_law_1382 dL_law_1383 C X hl (by omega) ?_
  refine lawV (As := [vI (xv xs (i + 1)), vI (xv xs (i + 2))]) (rest := []) (a := 0) (mc' := 0) (ms' := 0) (d := 200) dL_law_1384 mv_L_177 rfl (Nat.le_of_ble_eq_true rfl) rfl hl.1 (okU (xv_ok _ _) (okU (xv_ok _ _) okNil)) (Nat.le_of_ble_eq_true rfl) (by omega) (Nat.le_of_ble_eq_true rfl) C (op_standing (d := 100) (Nat.le_refl _) hP hR) (fun h1 r1 H1 locs1 q1 _ C1 => ?_)
  obtain ⟨M1, z1, rfl, rfl, q1⟩ := q1
  refine lv_aload_n (cc := code) C1.2.1.1 C1.2.1.2.1 dL_law_1387 rfl (lv_at hl 2 rfl) ?_
  refine lawArg dL_law_1388 dL_law_1389 dL_law_1390 dL_law_1391 dL_law_1392 C1 X hl (by omega) ?_
  refine lawArg dL_law_1393 dL_law_1394 dL_law_1395 dL_law_1396 dL_law_1397 C1 X hl (by omega) ?_
  refine lawV (As := [vI (xv xs (i + 1)), vI (xv xs (i + 2))]) (rest := [.int (Int32.ofInt z1)]) (a := 64) (mc' := 0) (ms' := 0) (d := 200) dL_law_1398 mv_L_180 rfl (Nat.le_of_ble_eq_true rfl) rfl hl.1 (okU (xv_ok _ _) (okU (xv_ok _ _) okNil)) (Nat.le_of_ble_eq_true rfl) (by omega) (Nat.le_of_ble_eq_true rfl) C1 q1 (fun h2 r2 H2 locs2 q2 _ C2 => ?_)
  obtain ⟨M2, z2, rfl, rfl, rfl, R2⟩ := q2
  exact lv_icmp_eq (cc := code) (x := Int32.ofInt z2) (y := Int32.ofInt z2) (tgt := 1455) C2.2.1.1 C2.2.1.2.1 dL_law_1401 (by decide) (fun _ => kend H2 locs2 M2 C2 R2) (fun w => absurd rfl w)
theorem law_image (C : x_C YL none G p s m #[Value.ref b] meth c H locs (82, P, M)) (X : LX s b Ln xs G) (hl : LL G b ls i) (hi : 0 ≤ i ∧ i + 6 ≤ Ln) (hP : x_PP P) (hR : Rel M) (hc : cells ≤ 1000 ∧ slots ≤ 100000) (kend : ∀ H' locs' M', x_C YL none G p s m #[Value.ref b] meth c H' locs' (82, P, M') → Rel M' → W p l e room_1 s m #[Value.ref b] below meth c H' locs' cells slots QQ (F0 m 1455 ls [])) : W p l e room_1 s m #[Value.ref b] below meth c H locs cells slots QQ (F0 m 1406 ls []) := by
  refine lv_aload_n (cc := code) C.2.1.1 C.2.1.2.1 dL_law_1406 rfl (lv_at hl 1 rfl) ?_
  refine lawV (As := []) (rest := []) (a := 0) (mc' := 0) (ms' := 0) (d := 200) dL_law_1407 mv_L_181 rfl (Nat.le_of_ble_eq_true rfl) rfl hl.1 okNil (Nat.le_of_ble_eq_true rfl) (by omega) (Nat.le_of_ble_eq_true rfl) C (op_image (d := 100) (Nat.le_refl _) hP hR) (fun h1 r1 H1 locs1 q1 _ C1 => ?_)
  obtain ⟨M1, z1, rfl, rfl, q1⟩ := q1
  refine lv_aload_n (cc := code) C1.2.1.1 C1.2.1.2.1 dL_law_1410 rfl (lv_at hl 2 rfl) ?_
  refine lawV (As := []) (rest := [.int (Int32.ofInt z1)]) (a := 64) (mc' := 0) (ms' := 0) (d := 200) dL_law_1411 mv_L_184 rfl (Nat.le_of_ble_eq_true rfl) rfl hl.1 okNil (Nat.le_of_ble_eq_true rfl) (by omega) (Nat.le_of_ble_eq_true rfl) C1 q1 (fun h2 r2 H2 locs2 q2 _ C2 => ?_)
  obtain ⟨M2, z2, rfl, rfl, rfl, R2⟩ := q2
  exact lv_icmp_eq (cc := code) (x := Int32.ofInt z2) (y := Int32.ofInt z2) (tgt := 1455) C2.2.1.1 C2.2.1.2.1 dL_law_1414 (by decide) (fun _ => kend H2 locs2 M2 C2 R2) (fun w => absurd rfl w)
theorem law_back (C : x_C YL none G p s m #[Value.ref b] meth c H locs (82, P, M)) (X : LX s b Ln xs G) (hl : LL G b ls i) (hi : 0 ≤ i ∧ i + 6 ≤ Ln) (hP : x_PP P) (hR : Rel M) (hc : cells ≤ 1000 ∧ slots ≤ 100000) (kend : ∀ H' locs' M', x_C YL none G p s m #[Value.ref b] meth c H' locs' (82, P, M') → Rel M' → W p l e room_1 s m #[Value.ref b] below meth c H' locs' cells slots QQ (F0 m 1455 ls [])) : W p l e room_1 s m #[Value.ref b] below meth c H locs cells slots QQ (F0 m 1419 ls []) := by
  refine lv_aload_n (cc := code) C.2.1.1 C.2.1.2.1 dL_law_1419 rfl (lv_at hl 1 rfl) ?_
  refine lawV (As := []) (rest := []) (a := 0) (mc' := 0) (ms' := 0) (d := 200) dL_law_1420 mv_L_185 rfl (Nat.le_of_ble_eq_true rfl) rfl hl.1 okNil (Nat.le_of_ble_eq_true rfl) (by omega) (Nat.le_of_ble_eq_true rfl) C (op_back (d := 100) (Nat.le_refl _) hP hR) (fun h1 r1 H1 locs1 q1 _ C1 => ?_)
  obtain ⟨M1, z1, rfl, rfl, q1⟩ := q1
  refine lv_aload_n (cc := code) C1.2.1.1 C1.2.1.2.1 dL_law_1423 rfl (lv_at hl 2 rfl) ?_
  refine lawV (As := []) (rest := [.int (Int32.ofInt z1)]) (a := 64) (mc' := 0) (ms' := 0) (d := 200) dL_law_1424 mv_L_188 rfl (Nat.le_of_ble_eq_true rfl) rfl hl.1 okNil (Nat.le_of_ble_eq_true rfl) (by omega) (Nat.le_of_ble_eq_true rfl) C1 q1 (fun h2 r2 H2 locs2 q2 _ C2 => ?_)
  obtain ⟨M2, z2, rfl, rfl, rfl, R2⟩ := q2
  exact lv_icmp_eq (cc := code) (x := Int32.ofInt z2) (y := Int32.ofInt z2) (tgt := 1455) C2.2.1.1 C2.2.1.2.1 dL_law_1427 (by decide) (fun _ => kend H2 locs2 M2 C2 R2) (fun w => absurd rfl w)
theorem law_about (C : x_C YL none G p s m #[Value.ref b] meth c H locs (82, P, M)) (X : LX s b Ln xs G) (hl : LL G b ls i) (hi : 0 ≤ i ∧ i + 6 ≤ Ln) (hP : x_PP P) (hR : Rel M) (hc : cells ≤ 1000 ∧ slots ≤ 100000) (kend : ∀ H' locs' M', x_C YL none G p s m #[Value.ref b] meth c H' locs' (82, P, M') → Rel M' → W p l e room_1 s m #[Value.ref b] below meth c H' locs' cells slots QQ (F0 m 1455 ls [])) : W p l e room_1 s m #[Value.ref b] below meth c H locs cells slots QQ (F0 m 1432 ls []) := by
  refine lv_aload_n (cc := code) C.2.1.1 C.2.1.2.1 dL_law_1432 rfl (lv_at hl 1 rfl) ?_
  refine lawArg dL_law_1433 dL_law_1434 dL_law_1435 dL_law_1436 dL_law_1437 C X hl (by omega) ?_
  refine lawV (As := [vI (xv xs (i + 1))]) (rest := []) (a := 0) (mc' := 0) (ms' := 0) (d := 200) dL_law_1438 mv_L_189 rfl (Nat.le_of_ble_eq_true rfl) rfl hl.1 (okU (xv_ok _ _) okNil) (Nat.le_of_ble_eq_true rfl) (by omega) (Nat.le_of_ble_eq_true rfl) C (op_about (d := 100) (Nat.le_refl _) hP hR) (fun h1 r1 H1 locs1 q1 _ C1 => ?_)
  obtain ⟨M1, z1, rfl, rfl, q1⟩ := q1
  refine lv_aload_n (cc := code) C1.2.1.1 C1.2.1.2.1 dL_law_1441 rfl (lv_at hl 2 rfl) ?_
  refine lawArg dL_law_1442 dL_law_1443 dL_law_1444 dL_law_1445 dL_law_1446 C1 X hl (by omega) ?_
  refine lawV (As := [vI (xv xs (i + 1))]) (rest := [.int (Int32.ofInt z1)]) (a := 64) (mc' := 0) (ms' := 0) (d := 200) dL_law_1447 mv_L_192 rfl (Nat.le_of_ble_eq_true rfl) rfl hl.1 (okU (xv_ok _ _) okNil) (Nat.le_of_ble_eq_true rfl) (by omega) (Nat.le_of_ble_eq_true rfl) C1 q1 (fun h2 r2 H2 locs2 q2 _ C2 => ?_)
  obtain ⟨M2, z2, rfl, rfl, rfl, R2⟩ := q2
  exact lv_icmp_eq (cc := code) (x := Int32.ofInt z2) (y := Int32.ofInt z2) (tgt := 1455) C2.2.1.1 C2.2.1.2.1 dL_law_1450 (by decide) (fun _ => kend H2 locs2 M2 C2 R2) (fun w => absurd rfl w)
end Cases
