theorem mi_X7_part : MI yX7_part cX7_part 2 (some .int) 1 := ⟨gT_in (tb2 (List.mem_of_getElem? (i := 1) rfl)) rfl, gT_in (tb1 (List.mem_of_getElem? (i := 1) rfl)) rfl, by decide +kernel⟩
theorem iw_X7_part : Cond.instanceMethod yX7_part ∈ gT ∧ Cond.selects RX7 yX7_part yX7_part ∈ gT := ⟨gT_in (tb1 (List.mem_of_getElem? (i := 239) rfl)) rfl, gT_in (tb2 (List.mem_of_getElem? (i := 0) rfl)) rfl⟩
theorem mi_X8_part : MI yX8_part cX8_part 2 (some .int) 1 := ⟨gT_in (tb5 (List.mem_of_getElem? (i := 13) rfl)) rfl, gT_in (tb1 (List.mem_of_getElem? (i := 9) rfl)) rfl, by decide +kernel⟩
theorem iw_X8_part : Cond.instanceMethod yX8_part ∈ gT ∧ Cond.selects RX8 yX8_part yX8_part ∈ gT := ⟨gT_in (tb5 (List.mem_of_getElem? (i := 11) rfl)) rfl, gT_in (tb5 (List.mem_of_getElem? (i := 12) rfl)) rfl⟩
theorem ll_13 : Cond.methodLink RL 13 yX7_part ∈ gT := gT_in (tb1 (List.mem_of_getElem? (i := 238) rfl)) rfl
theorem ll_17 : Cond.methodLink RL 17 yX8_part ∈ gT := gT_in (tb5 (List.mem_of_getElem? (i := 10) rfl)) rfl
set_option maxRecDepth 20000 in
theorem lc_0 {x : Fx} {Q : State → Prop} {ret : Option FieldType} {kc ks : Nat} {D : va_G} {ax am : Nat → Nat} {rs : (Nat → ClassId) × (Nat → Nat) × (Nat → Nat) × (Nat → Nat)} {b Ln t : Nat} {xs : Nat → Int32} {hx hm : Hp} (C : Ok x (D, ax, rs) RL cL_law 4 ret) (X : LX x b Ln xs) (hl : Ln < 2147483648) (ht : t + 6 ≤ Ln) (hc : kc ≤ 600000 ∧ ks ≤ 7302249) (hR : R hx hm) (k : ∀ hx1 hm1, R hx1 hm1 → JA x (D, ax, rs) room_1 4 Q 1551 [some (.ref b), some (.ref (ax 0)), some (.ref (am 0)), some (.int (nI t))] [] (cwX (D, ax, rs) hx1 ++ cwM (D, am, rs) hm1) kc ks) : JA x (D, ax, rs) room_1 4 Q 244 [some (.ref b), some (.ref (ax 0)), some (.ref (am 0)), some (.int (nI t))] [] (cwX (D, ax, rs) hx ++ cwM (D, am, rs) hm) kc ks := by
  obtain ⟨r, hx1, hm1, e1, e2, hR1⟩ := o_part hR (xs (t + 1))
  refine a_aload_n C dL_law_244 rfl (n := 245) rfl ?_
  refine a_arg C X hl dL_law_245 dL_law_246 dL_law_247 dL_law_248 dL_law_249 (jn := 1) (by decide) (by omega) rfl rfl (n := 250) rfl ?_
  refine a_callX C mi_X7_part ll_13 iw_X7_part (m_X7_part x.2.1 (xs (t + 1)) hx e1) rfl rfl rfl (Nat.le_of_ble_eq_true rfl) dL_law_250 ⟨Nat.le_of_ble_eq_true rfl, Nat.le_of_ble_eq_true rfl, hc.1, hc.2⟩ (n := 253) rfl ?_
  refine a_aload_n C dL_law_253 rfl (n := 254) rfl ?_
  refine a_arg C X hl dL_law_254 dL_law_255 dL_law_256 dL_law_257 dL_law_258 (jn := 1) (by decide) (by omega) rfl rfl (n := 259) rfl ?_
  refine a_callM C mi_X8_part ll_17 iw_X8_part (m_X8_part x.2.1 (xs (t + 1)) hm e2) rfl rfl rfl (Nat.le_of_ble_eq_true rfl) dL_law_259 ⟨Nat.le_of_ble_eq_true rfl, Nat.le_of_ble_eq_true rfl, hc.1, hc.2⟩ (n := 262) rfl ?_
  exact a_icmp_eqT C dL_law_262 (tgt := 1551) (by decide) (k _ _ hR1)
theorem mi_X7_of : MI yX7_of cX7_of 4 (some .int) 2 := ⟨gT_in (tb2 (List.mem_of_getElem? (i := 21) rfl)) rfl, gT_in (tb1 (List.mem_of_getElem? (i := 1) rfl)) rfl, by decide +kernel⟩
theorem iw_X7_of : Cond.instanceMethod yX7_of ∈ gT ∧ Cond.selects RX7 yX7_of yX7_of ∈ gT := ⟨gT_in (tb2 (List.mem_of_getElem? (i := 19) rfl)) rfl, gT_in (tb2 (List.mem_of_getElem? (i := 20) rfl)) rfl⟩
theorem mi_X8_of : MI yX8_of cX8_of 3 (some .int) 2 := ⟨gT_in (tb5 (List.mem_of_getElem? (i := 36) rfl)) rfl, gT_in (tb1 (List.mem_of_getElem? (i := 9) rfl)) rfl, by decide +kernel⟩
theorem iw_X8_of : Cond.instanceMethod yX8_of ∈ gT ∧ Cond.selects RX8 yX8_of yX8_of ∈ gT := ⟨gT_in (tb5 (List.mem_of_getElem? (i := 34) rfl)) rfl, gT_in (tb5 (List.mem_of_getElem? (i := 35) rfl)) rfl⟩
theorem ll_18 : Cond.methodLink RL 18 yX7_of ∈ gT := gT_in (tb2 (List.mem_of_getElem? (i := 18) rfl)) rfl
theorem ll_22 : Cond.methodLink RL 22 yX8_of ∈ gT := gT_in (tb5 (List.mem_of_getElem? (i := 33) rfl)) rfl
set_option maxRecDepth 20000 in
theorem lc_1 {x : Fx} {Q : State → Prop} {ret : Option FieldType} {kc ks : Nat} {D : va_G} {ax am : Nat → Nat} {rs : (Nat → ClassId) × (Nat → Nat) × (Nat → Nat) × (Nat → Nat)} {b Ln t : Nat} {xs : Nat → Int32} {hx hm : Hp} (C : Ok x (D, ax, rs) RL cL_law 4 ret) (X : LX x b Ln xs) (hl : Ln < 2147483648) (ht : t + 6 ≤ Ln) (hc : kc ≤ 600000 ∧ ks ≤ 7302249) (hR : R hx hm) (k : ∀ hx1 hm1, R hx1 hm1 → JA x (D, ax, rs) room_1 4 Q 1551 [some (.ref b), some (.ref (ax 0)), some (.ref (am 0)), some (.int (nI t))] [] (cwX (D, ax, rs) hx1 ++ cwM (D, am, rs) hm1) kc ks) : JA x (D, ax, rs) room_1 4 Q 267 [some (.ref b), some (.ref (ax 0)), some (.ref (am 0)), some (.int (nI t))] [] (cwX (D, ax, rs) hx ++ cwM (D, am, rs) hm) kc ks := by
  obtain ⟨r, hx1, hm1, e1, e2, hR1⟩ := o_of hR (xs (t + 1)) (xs (t + 2))
  refine a_aload_n C dL_law_267 rfl (n := 268) rfl ?_
  refine a_arg C X hl dL_law_268 dL_law_269 dL_law_270 dL_law_271 dL_law_272 (jn := 1) (by decide) (by omega) rfl rfl (n := 273) rfl ?_
  refine a_arg C X hl dL_law_273 dL_law_274 dL_law_275 dL_law_276 dL_law_277 (jn := 2) (by decide) (by omega) rfl rfl (n := 278) rfl ?_
  refine a_callX C mi_X7_of ll_18 iw_X7_of (m_X7_of x.2.1 (xs (t + 1)) (xs (t + 2)) hx e1) rfl rfl rfl (Nat.le_of_ble_eq_true rfl) dL_law_278 ⟨Nat.le_of_ble_eq_true rfl, Nat.le_of_ble_eq_true rfl, hc.1, hc.2⟩ (n := 281) rfl ?_
  refine a_aload_n C dL_law_281 rfl (n := 282) rfl ?_
  refine a_arg C X hl dL_law_282 dL_law_283 dL_law_284 dL_law_285 dL_law_286 (jn := 1) (by decide) (by omega) rfl rfl (n := 287) rfl ?_
  refine a_arg C X hl dL_law_287 dL_law_288 dL_law_289 dL_law_290 dL_law_291 (jn := 2) (by decide) (by omega) rfl rfl (n := 292) rfl ?_
  refine a_callM C mi_X8_of ll_22 iw_X8_of (m_X8_of x.2.1 (xs (t + 1)) (xs (t + 2)) hm e2) rfl rfl rfl (Nat.le_of_ble_eq_true rfl) dL_law_292 ⟨Nat.le_of_ble_eq_true rfl, Nat.le_of_ble_eq_true rfl, hc.1, hc.2⟩ (n := 295) rfl ?_
  exact a_icmp_eqT C dL_law_295 (tgt := 1551) (by decide) (k _ _ hR1)
theorem mi_X7_change : MI yX7_change cX7_change 6 (some .int) 3 := ⟨gT_in (tb2 (List.mem_of_getElem? (i := 34) rfl)) rfl, gT_in (tb1 (List.mem_of_getElem? (i := 1) rfl)) rfl, by decide +kernel⟩
theorem iw_X7_change : Cond.instanceMethod yX7_change ∈ gT ∧ Cond.selects RX7 yX7_change yX7_change ∈ gT := ⟨gT_in (tb2 (List.mem_of_getElem? (i := 32) rfl)) rfl, gT_in (tb2 (List.mem_of_getElem? (i := 33) rfl)) rfl⟩
theorem mi_X8_change : MI yX8_change cX8_change 5 (some .int) 3 := ⟨gT_in (tb5 (List.mem_of_getElem? (i := 48) rfl)) rfl, gT_in (tb1 (List.mem_of_getElem? (i := 9) rfl)) rfl, by decide +kernel⟩
theorem iw_X8_change : Cond.instanceMethod yX8_change ∈ gT ∧ Cond.selects RX8 yX8_change yX8_change ∈ gT := ⟨gT_in (tb5 (List.mem_of_getElem? (i := 46) rfl)) rfl, gT_in (tb5 (List.mem_of_getElem? (i := 47) rfl)) rfl⟩
theorem ll_23 : Cond.methodLink RL 23 yX7_change ∈ gT := gT_in (tb2 (List.mem_of_getElem? (i := 31) rfl)) rfl
theorem ll_27 : Cond.methodLink RL 27 yX8_change ∈ gT := gT_in (tb5 (List.mem_of_getElem? (i := 45) rfl)) rfl
set_option maxRecDepth 20000 in
theorem lc_2 {x : Fx} {Q : State → Prop} {ret : Option FieldType} {kc ks : Nat} {D : va_G} {ax am : Nat → Nat} {rs : (Nat → ClassId) × (Nat → Nat) × (Nat → Nat) × (Nat → Nat)} {b Ln t : Nat} {xs : Nat → Int32} {hx hm : Hp} (C : Ok x (D, ax, rs) RL cL_law 4 ret) (X : LX x b Ln xs) (hl : Ln < 2147483648) (ht : t + 6 ≤ Ln) (hc : kc ≤ 600000 ∧ ks ≤ 7302249) (hR : R hx hm) (k : ∀ hx1 hm1, R hx1 hm1 → JA x (D, ax, rs) room_1 4 Q 1551 [some (.ref b), some (.ref (ax 0)), some (.ref (am 0)), some (.int (nI t))] [] (cwX (D, ax, rs) hx1 ++ cwM (D, am, rs) hm1) kc ks) : JA x (D, ax, rs) room_1 4 Q 300 [some (.ref b), some (.ref (ax 0)), some (.ref (am 0)), some (.int (nI t))] [] (cwX (D, ax, rs) hx ++ cwM (D, am, rs) hm) kc ks := by
  obtain ⟨r, hx1, hm1, e1, e2, hR1⟩ := o_change hR (xs (t + 1)) (xs (t + 2)) (xs (t + 3))
  refine a_aload_n C dL_law_300 rfl (n := 301) rfl ?_
  refine a_arg C X hl dL_law_301 dL_law_302 dL_law_303 dL_law_304 dL_law_305 (jn := 1) (by decide) (by omega) rfl rfl (n := 306) rfl ?_
  refine a_arg C X hl dL_law_306 dL_law_307 dL_law_308 dL_law_309 dL_law_310 (jn := 2) (by decide) (by omega) rfl rfl (n := 311) rfl ?_
  refine a_arg C X hl dL_law_311 dL_law_312 dL_law_313 dL_law_314 dL_law_315 (jn := 3) (by decide) (by omega) rfl rfl (n := 316) rfl ?_
  refine a_callX C mi_X7_change ll_23 iw_X7_change (m_X7_change x.2.1 (xs (t + 1)) (xs (t + 2)) (xs (t + 3)) hx e1) rfl rfl rfl (Nat.le_of_ble_eq_true rfl) dL_law_316 ⟨Nat.le_of_ble_eq_true rfl, Nat.le_of_ble_eq_true rfl, hc.1, hc.2⟩ (n := 319) rfl ?_
  refine a_aload_n C dL_law_319 rfl (n := 320) rfl ?_
  refine a_arg C X hl dL_law_320 dL_law_321 dL_law_322 dL_law_323 dL_law_324 (jn := 1) (by decide) (by omega) rfl rfl (n := 325) rfl ?_
  refine a_arg C X hl dL_law_325 dL_law_326 dL_law_327 dL_law_328 dL_law_329 (jn := 2) (by decide) (by omega) rfl rfl (n := 330) rfl ?_
  refine a_arg C X hl dL_law_330 dL_law_331 dL_law_332 dL_law_333 dL_law_334 (jn := 3) (by decide) (by omega) rfl rfl (n := 335) rfl ?_
  refine a_callM C mi_X8_change ll_27 iw_X8_change (m_X8_change x.2.1 (xs (t + 1)) (xs (t + 2)) (xs (t + 3)) hm e2) rfl rfl rfl (Nat.le_of_ble_eq_true rfl) dL_law_335 ⟨Nat.le_of_ble_eq_true rfl, Nat.le_of_ble_eq_true rfl, hc.1, hc.2⟩ (n := 338) rfl ?_
  exact a_icmp_eqT C dL_law_338 (tgt := 1551) (by decide) (k _ _ hR1)
theorem mi_X7_face : MI yX7_face cX7_face 6 (some .int) 3 := ⟨gT_in (tb2 (List.mem_of_getElem? (i := 42) rfl)) rfl, gT_in (tb1 (List.mem_of_getElem? (i := 1) rfl)) rfl, by decide +kernel⟩
theorem iw_X7_face : Cond.instanceMethod yX7_face ∈ gT ∧ Cond.selects RX7 yX7_face yX7_face ∈ gT := ⟨gT_in (tb2 (List.mem_of_getElem? (i := 40) rfl)) rfl, gT_in (tb2 (List.mem_of_getElem? (i := 41) rfl)) rfl⟩
theorem mi_X8_face : MI yX8_face cX8_face 5 (some .int) 3 := ⟨gT_in (tb5 (List.mem_of_getElem? (i := 62) rfl)) rfl, gT_in (tb1 (List.mem_of_getElem? (i := 9) rfl)) rfl, by decide +kernel⟩
theorem iw_X8_face : Cond.instanceMethod yX8_face ∈ gT ∧ Cond.selects RX8 yX8_face yX8_face ∈ gT := ⟨gT_in (tb5 (List.mem_of_getElem? (i := 60) rfl)) rfl, gT_in (tb5 (List.mem_of_getElem? (i := 61) rfl)) rfl⟩
theorem ll_28 : Cond.methodLink RL 28 yX7_face ∈ gT := gT_in (tb2 (List.mem_of_getElem? (i := 39) rfl)) rfl
theorem ll_31 : Cond.methodLink RL 31 yX8_face ∈ gT := gT_in (tb5 (List.mem_of_getElem? (i := 59) rfl)) rfl
set_option maxRecDepth 20000 in
theorem lc_3 {x : Fx} {Q : State → Prop} {ret : Option FieldType} {kc ks : Nat} {D : va_G} {ax am : Nat → Nat} {rs : (Nat → ClassId) × (Nat → Nat) × (Nat → Nat) × (Nat → Nat)} {b Ln t : Nat} {xs : Nat → Int32} {hx hm : Hp} (C : Ok x (D, ax, rs) RL cL_law 4 ret) (X : LX x b Ln xs) (hl : Ln < 2147483648) (ht : t + 6 ≤ Ln) (hc : kc ≤ 600000 ∧ ks ≤ 7302249) (hR : R hx hm) (k : ∀ hx1 hm1, R hx1 hm1 → JA x (D, ax, rs) room_1 4 Q 1551 [some (.ref b), some (.ref (ax 0)), some (.ref (am 0)), some (.int (nI t))] [] (cwX (D, ax, rs) hx1 ++ cwM (D, am, rs) hm1) kc ks) : JA x (D, ax, rs) room_1 4 Q 343 [some (.ref b), some (.ref (ax 0)), some (.ref (am 0)), some (.int (nI t))] [] (cwX (D, ax, rs) hx ++ cwM (D, am, rs) hm) kc ks := by
  obtain ⟨r, hx1, hm1, e1, e2, hR1⟩ := o_face hR (xs (t + 1)) (xs (t + 2)) (xs (t + 3))
  refine a_aload_n C dL_law_343 rfl (n := 344) rfl ?_
  refine a_arg C X hl dL_law_344 dL_law_345 dL_law_346 dL_law_347 dL_law_348 (jn := 1) (by decide) (by omega) rfl rfl (n := 349) rfl ?_
  refine a_arg C X hl dL_law_349 dL_law_350 dL_law_351 dL_law_352 dL_law_353 (jn := 2) (by decide) (by omega) rfl rfl (n := 354) rfl ?_
  refine a_arg C X hl dL_law_354 dL_law_355 dL_law_356 dL_law_357 dL_law_358 (jn := 3) (by decide) (by omega) rfl rfl (n := 359) rfl ?_
  refine a_callX C mi_X7_face ll_28 iw_X7_face (m_X7_face x.2.1 (xs (t + 1)) (xs (t + 2)) (xs (t + 3)) hx e1) rfl rfl rfl (Nat.le_of_ble_eq_true rfl) dL_law_359 ⟨Nat.le_of_ble_eq_true rfl, Nat.le_of_ble_eq_true rfl, hc.1, hc.2⟩ (n := 362) rfl ?_
  refine a_aload_n C dL_law_362 rfl (n := 363) rfl ?_
  refine a_arg C X hl dL_law_363 dL_law_364 dL_law_365 dL_law_366 dL_law_367 (jn := 1) (by decide) (by omega) rfl rfl (n := 368) rfl ?_
  refine a_arg C X hl dL_law_368 dL_law_369 dL_law_370 dL_law_371 dL_law_372 (jn := 2) (by decide) (by omega) rfl rfl (n := 373) rfl ?_
  refine a_arg C X hl dL_law_373 dL_law_374 dL_law_375 dL_law_376 dL_law_377 (jn := 3) (by decide) (by omega) rfl rfl (n := 378) rfl ?_
  refine a_callM C mi_X8_face ll_31 iw_X8_face (m_X8_face x.2.1 (xs (t + 1)) (xs (t + 2)) (xs (t + 3)) hm e2) rfl rfl rfl (Nat.le_of_ble_eq_true rfl) dL_law_378 ⟨Nat.le_of_ble_eq_true rfl, Nat.le_of_ble_eq_true rfl, hc.1, hc.2⟩ (n := 381) rfl ?_
  exact a_icmp_eqT C dL_law_381 (tgt := 1551) (by decide) (k _ _ hR1)
theorem mi_X7_show : MI yX7_show cX7_show 4 (some .int) 2 := ⟨gT_in (tb2 (List.mem_of_getElem? (i := 49) rfl)) rfl, gT_in (tb1 (List.mem_of_getElem? (i := 1) rfl)) rfl, by decide +kernel⟩
theorem iw_X7_show : Cond.instanceMethod yX7_show ∈ gT ∧ Cond.selects RX7 yX7_show yX7_show ∈ gT := ⟨gT_in (tb2 (List.mem_of_getElem? (i := 47) rfl)) rfl, gT_in (tb2 (List.mem_of_getElem? (i := 48) rfl)) rfl⟩
theorem mi_X8_show : MI yX8_show cX8_show 3 (some .int) 2 := ⟨gT_in (tb5 (List.mem_of_getElem? (i := 69) rfl)) rfl, gT_in (tb1 (List.mem_of_getElem? (i := 9) rfl)) rfl, by decide +kernel⟩
theorem iw_X8_show : Cond.instanceMethod yX8_show ∈ gT ∧ Cond.selects RX8 yX8_show yX8_show ∈ gT := ⟨gT_in (tb5 (List.mem_of_getElem? (i := 67) rfl)) rfl, gT_in (tb5 (List.mem_of_getElem? (i := 68) rfl)) rfl⟩
theorem ll_32 : Cond.methodLink RL 32 yX7_show ∈ gT := gT_in (tb2 (List.mem_of_getElem? (i := 46) rfl)) rfl
theorem ll_35 : Cond.methodLink RL 35 yX8_show ∈ gT := gT_in (tb5 (List.mem_of_getElem? (i := 66) rfl)) rfl
set_option maxRecDepth 20000 in
theorem lc_4 {x : Fx} {Q : State → Prop} {ret : Option FieldType} {kc ks : Nat} {D : va_G} {ax am : Nat → Nat} {rs : (Nat → ClassId) × (Nat → Nat) × (Nat → Nat) × (Nat → Nat)} {b Ln t : Nat} {xs : Nat → Int32} {hx hm : Hp} (C : Ok x (D, ax, rs) RL cL_law 4 ret) (X : LX x b Ln xs) (hl : Ln < 2147483648) (ht : t + 6 ≤ Ln) (hc : kc ≤ 600000 ∧ ks ≤ 7302249) (hR : R hx hm) (k : ∀ hx1 hm1, R hx1 hm1 → JA x (D, ax, rs) room_1 4 Q 1551 [some (.ref b), some (.ref (ax 0)), some (.ref (am 0)), some (.int (nI t))] [] (cwX (D, ax, rs) hx1 ++ cwM (D, am, rs) hm1) kc ks) : JA x (D, ax, rs) room_1 4 Q 386 [some (.ref b), some (.ref (ax 0)), some (.ref (am 0)), some (.int (nI t))] [] (cwX (D, ax, rs) hx ++ cwM (D, am, rs) hm) kc ks := by
  obtain ⟨r, hx1, hm1, e1, e2, hR1⟩ := o_show hR (xs (t + 1)) (xs (t + 2))
  refine a_aload_n C dL_law_386 rfl (n := 387) rfl ?_
  refine a_arg C X hl dL_law_387 dL_law_388 dL_law_389 dL_law_390 dL_law_391 (jn := 1) (by decide) (by omega) rfl rfl (n := 392) rfl ?_
  refine a_arg C X hl dL_law_392 dL_law_393 dL_law_394 dL_law_395 dL_law_396 (jn := 2) (by decide) (by omega) rfl rfl (n := 397) rfl ?_
  refine a_callX C mi_X7_show ll_32 iw_X7_show (m_X7_show x.2.1 (xs (t + 1)) (xs (t + 2)) hx e1) rfl rfl rfl (Nat.le_of_ble_eq_true rfl) dL_law_397 ⟨Nat.le_of_ble_eq_true rfl, Nat.le_of_ble_eq_true rfl, hc.1, hc.2⟩ (n := 400) rfl ?_
  refine a_aload_n C dL_law_400 rfl (n := 401) rfl ?_
  refine a_arg C X hl dL_law_401 dL_law_402 dL_law_403 dL_law_404 dL_law_405 (jn := 1) (by decide) (by omega) rfl rfl (n := 406) rfl ?_
  refine a_arg C X hl dL_law_406 dL_law_407 dL_law_408 dL_law_409 dL_law_410 (jn := 2) (by decide) (by omega) rfl rfl (n := 411) rfl ?_
  refine a_callM C mi_X8_show ll_35 iw_X8_show (m_X8_show x.2.1 (xs (t + 1)) (xs (t + 2)) hm e2) rfl rfl rfl (Nat.le_of_ble_eq_true rfl) dL_law_411 ⟨Nat.le_of_ble_eq_true rfl, Nat.le_of_ble_eq_true rfl, hc.1, hc.2⟩ (n := 414) rfl ?_
  exact a_icmp_eqT C dL_law_414 (tgt := 1551) (by decide) (k _ _ hR1)
theorem mi_X7_pace : MI yX7_pace cX7_pace 3 (some .int) 1 := ⟨gT_in (tb2 (List.mem_of_getElem? (i := 56) rfl)) rfl, gT_in (tb1 (List.mem_of_getElem? (i := 1) rfl)) rfl, by decide +kernel⟩
theorem iw_X7_pace : Cond.instanceMethod yX7_pace ∈ gT ∧ Cond.selects RX7 yX7_pace yX7_pace ∈ gT := ⟨gT_in (tb2 (List.mem_of_getElem? (i := 54) rfl)) rfl, gT_in (tb2 (List.mem_of_getElem? (i := 55) rfl)) rfl⟩
theorem mi_X8_pace : MI yX8_pace cX8_pace 2 (some .int) 1 := ⟨gT_in (tb5 (List.mem_of_getElem? (i := 76) rfl)) rfl, gT_in (tb1 (List.mem_of_getElem? (i := 9) rfl)) rfl, by decide +kernel⟩
theorem iw_X8_pace : Cond.instanceMethod yX8_pace ∈ gT ∧ Cond.selects RX8 yX8_pace yX8_pace ∈ gT := ⟨gT_in (tb5 (List.mem_of_getElem? (i := 74) rfl)) rfl, gT_in (tb5 (List.mem_of_getElem? (i := 75) rfl)) rfl⟩
theorem ll_36 : Cond.methodLink RL 36 yX7_pace ∈ gT := gT_in (tb2 (List.mem_of_getElem? (i := 53) rfl)) rfl
theorem ll_39 : Cond.methodLink RL 39 yX8_pace ∈ gT := gT_in (tb5 (List.mem_of_getElem? (i := 73) rfl)) rfl
set_option maxRecDepth 20000 in
theorem lc_5 {x : Fx} {Q : State → Prop} {ret : Option FieldType} {kc ks : Nat} {D : va_G} {ax am : Nat → Nat} {rs : (Nat → ClassId) × (Nat → Nat) × (Nat → Nat) × (Nat → Nat)} {b Ln t : Nat} {xs : Nat → Int32} {hx hm : Hp} (C : Ok x (D, ax, rs) RL cL_law 4 ret) (X : LX x b Ln xs) (hl : Ln < 2147483648) (ht : t + 6 ≤ Ln) (hc : kc ≤ 600000 ∧ ks ≤ 7302249) (hR : R hx hm) (k : ∀ hx1 hm1, R hx1 hm1 → JA x (D, ax, rs) room_1 4 Q 1551 [some (.ref b), some (.ref (ax 0)), some (.ref (am 0)), some (.int (nI t))] [] (cwX (D, ax, rs) hx1 ++ cwM (D, am, rs) hm1) kc ks) : JA x (D, ax, rs) room_1 4 Q 419 [some (.ref b), some (.ref (ax 0)), some (.ref (am 0)), some (.int (nI t))] [] (cwX (D, ax, rs) hx ++ cwM (D, am, rs) hm) kc ks := by
  obtain ⟨r, hx1, hm1, e1, e2, hR1⟩ := o_pace hR (xs (t + 1))
  refine a_aload_n C dL_law_419 rfl (n := 420) rfl ?_
  refine a_arg C X hl dL_law_420 dL_law_421 dL_law_422 dL_law_423 dL_law_424 (jn := 1) (by decide) (by omega) rfl rfl (n := 425) rfl ?_
  refine a_callX C mi_X7_pace ll_36 iw_X7_pace (m_X7_pace x.2.1 (xs (t + 1)) hx e1) rfl rfl rfl (Nat.le_of_ble_eq_true rfl) dL_law_425 ⟨Nat.le_of_ble_eq_true rfl, Nat.le_of_ble_eq_true rfl, hc.1, hc.2⟩ (n := 428) rfl ?_
  refine a_aload_n C dL_law_428 rfl (n := 429) rfl ?_
  refine a_arg C X hl dL_law_429 dL_law_430 dL_law_431 dL_law_432 dL_law_433 (jn := 1) (by decide) (by omega) rfl rfl (n := 434) rfl ?_
  refine a_callM C mi_X8_pace ll_39 iw_X8_pace (m_X8_pace x.2.1 (xs (t + 1)) hm e2) rfl rfl rfl (Nat.le_of_ble_eq_true rfl) dL_law_434 ⟨Nat.le_of_ble_eq_true rfl, Nat.le_of_ble_eq_true rfl, hc.1, hc.2⟩ (n := 437) rfl ?_
  exact a_icmp_eqT C dL_law_437 (tgt := 1551) (by decide) (k _ _ hR1)
theorem mi_X7_room : MI yX7_room cX7_room 3 (some .int) 2 := ⟨gT_in (tb2 (List.mem_of_getElem? (i := 60) rfl)) rfl, gT_in (tb1 (List.mem_of_getElem? (i := 1) rfl)) rfl, by decide +kernel⟩
theorem iw_X7_room : Cond.instanceMethod yX7_room ∈ gT ∧ Cond.selects RX7 yX7_room yX7_room ∈ gT := ⟨gT_in (tb2 (List.mem_of_getElem? (i := 58) rfl)) rfl, gT_in (tb2 (List.mem_of_getElem? (i := 59) rfl)) rfl⟩
theorem mi_X8_room : MI yX8_room cX8_room 3 (some .int) 2 := ⟨gT_in (tb5 (List.mem_of_getElem? (i := 80) rfl)) rfl, gT_in (tb1 (List.mem_of_getElem? (i := 9) rfl)) rfl, by decide +kernel⟩
theorem iw_X8_room : Cond.instanceMethod yX8_room ∈ gT ∧ Cond.selects RX8 yX8_room yX8_room ∈ gT := ⟨gT_in (tb5 (List.mem_of_getElem? (i := 78) rfl)) rfl, gT_in (tb5 (List.mem_of_getElem? (i := 79) rfl)) rfl⟩
theorem ll_40 : Cond.methodLink RL 40 yX7_room ∈ gT := gT_in (tb2 (List.mem_of_getElem? (i := 57) rfl)) rfl
theorem ll_43 : Cond.methodLink RL 43 yX8_room ∈ gT := gT_in (tb5 (List.mem_of_getElem? (i := 77) rfl)) rfl
set_option maxRecDepth 20000 in
theorem lc_6 {x : Fx} {Q : State → Prop} {ret : Option FieldType} {kc ks : Nat} {D : va_G} {ax am : Nat → Nat} {rs : (Nat → ClassId) × (Nat → Nat) × (Nat → Nat) × (Nat → Nat)} {b Ln t : Nat} {xs : Nat → Int32} {hx hm : Hp} (C : Ok x (D, ax, rs) RL cL_law 4 ret) (X : LX x b Ln xs) (hl : Ln < 2147483648) (ht : t + 6 ≤ Ln) (hc : kc ≤ 600000 ∧ ks ≤ 7302249) (hR : R hx hm) (k : ∀ hx1 hm1, R hx1 hm1 → JA x (D, ax, rs) room_1 4 Q 1551 [some (.ref b), some (.ref (ax 0)), some (.ref (am 0)), some (.int (nI t))] [] (cwX (D, ax, rs) hx1 ++ cwM (D, am, rs) hm1) kc ks) : JA x (D, ax, rs) room_1 4 Q 442 [some (.ref b), some (.ref (ax 0)), some (.ref (am 0)), some (.int (nI t))] [] (cwX (D, ax, rs) hx ++ cwM (D, am, rs) hm) kc ks := by
  obtain ⟨r, hx1, hm1, e1, e2, hR1⟩ := o_room (fu := 10000) (by decide) hR (xs (t + 1)) (xs (t + 2))
  refine a_aload_n C dL_law_442 rfl (n := 443) rfl ?_
  refine a_arg C X hl dL_law_443 dL_law_444 dL_law_445 dL_law_446 dL_law_447 (jn := 1) (by decide) (by omega) rfl rfl (n := 448) rfl ?_
  refine a_arg C X hl dL_law_448 dL_law_449 dL_law_450 dL_law_451 dL_law_452 (jn := 2) (by decide) (by omega) rfl rfl (n := 453) rfl ?_
  refine a_callX C mi_X7_room ll_40 iw_X7_room (m_X7_room x.2.1 10000 (xs (t + 1)) (xs (t + 2)) hx e1) rfl rfl rfl (Nat.le_of_ble_eq_true rfl) dL_law_453 ⟨Nat.le_of_ble_eq_true rfl, Nat.le_of_ble_eq_true rfl, hc.1, hc.2⟩ (n := 456) rfl ?_
  refine a_aload_n C dL_law_456 rfl (n := 457) rfl ?_
  refine a_arg C X hl dL_law_457 dL_law_458 dL_law_459 dL_law_460 dL_law_461 (jn := 1) (by decide) (by omega) rfl rfl (n := 462) rfl ?_
  refine a_arg C X hl dL_law_462 dL_law_463 dL_law_464 dL_law_465 dL_law_466 (jn := 2) (by decide) (by omega) rfl rfl (n := 467) rfl ?_
  refine a_callM C mi_X8_room ll_43 iw_X8_room (m_X8_room x.2.1 10000 (xs (t + 1)) (xs (t + 2)) hm e2) rfl rfl rfl (Nat.le_of_ble_eq_true rfl) dL_law_467 ⟨Nat.le_of_ble_eq_true rfl, Nat.le_of_ble_eq_true rfl, hc.1, hc.2⟩ (n := 470) rfl ?_
  exact a_icmp_eqT C dL_law_470 (tgt := 1551) (by decide) (k _ _ hR1)
theorem mi_X7_like : MI yX7_like cX7_like 3 (some .int) 2 := ⟨gT_in (tb2 (List.mem_of_getElem? (i := 101) rfl)) rfl, gT_in (tb1 (List.mem_of_getElem? (i := 1) rfl)) rfl, by decide +kernel⟩
theorem iw_X7_like : Cond.instanceMethod yX7_like ∈ gT ∧ Cond.selects RX7 yX7_like yX7_like ∈ gT := ⟨gT_in (tb2 (List.mem_of_getElem? (i := 99) rfl)) rfl, gT_in (tb2 (List.mem_of_getElem? (i := 100) rfl)) rfl⟩
theorem mi_X8_like : MI yX8_like cX8_like 3 (some .int) 2 := ⟨gT_in (tb5 (List.mem_of_getElem? (i := 114) rfl)) rfl, gT_in (tb1 (List.mem_of_getElem? (i := 9) rfl)) rfl, by decide +kernel⟩
theorem iw_X8_like : Cond.instanceMethod yX8_like ∈ gT ∧ Cond.selects RX8 yX8_like yX8_like ∈ gT := ⟨gT_in (tb5 (List.mem_of_getElem? (i := 112) rfl)) rfl, gT_in (tb5 (List.mem_of_getElem? (i := 113) rfl)) rfl⟩
theorem ll_44 : Cond.methodLink RL 44 yX7_like ∈ gT := gT_in (tb2 (List.mem_of_getElem? (i := 98) rfl)) rfl
theorem ll_47 : Cond.methodLink RL 47 yX8_like ∈ gT := gT_in (tb5 (List.mem_of_getElem? (i := 111) rfl)) rfl
set_option maxRecDepth 20000 in
theorem lc_7 {x : Fx} {Q : State → Prop} {ret : Option FieldType} {kc ks : Nat} {D : va_G} {ax am : Nat → Nat} {rs : (Nat → ClassId) × (Nat → Nat) × (Nat → Nat) × (Nat → Nat)} {b Ln t : Nat} {xs : Nat → Int32} {hx hm : Hp} (C : Ok x (D, ax, rs) RL cL_law 4 ret) (X : LX x b Ln xs) (hl : Ln < 2147483648) (ht : t + 6 ≤ Ln) (hc : kc ≤ 600000 ∧ ks ≤ 7302249) (hR : R hx hm) (k : ∀ hx1 hm1, R hx1 hm1 → JA x (D, ax, rs) room_1 4 Q 1551 [some (.ref b), some (.ref (ax 0)), some (.ref (am 0)), some (.int (nI t))] [] (cwX (D, ax, rs) hx1 ++ cwM (D, am, rs) hm1) kc ks) : JA x (D, ax, rs) room_1 4 Q 475 [some (.ref b), some (.ref (ax 0)), some (.ref (am 0)), some (.int (nI t))] [] (cwX (D, ax, rs) hx ++ cwM (D, am, rs) hm) kc ks := by
  obtain ⟨r, hx1, hm1, e1, e2, hR1⟩ := o_like (fu := 10000) (by decide) hR (xs (t + 1)) (xs (t + 2))
  refine a_aload_n C dL_law_475 rfl (n := 476) rfl ?_
  refine a_arg C X hl dL_law_476 dL_law_477 dL_law_478 dL_law_479 dL_law_480 (jn := 1) (by decide) (by omega) rfl rfl (n := 481) rfl ?_
  refine a_arg C X hl dL_law_481 dL_law_482 dL_law_483 dL_law_484 dL_law_485 (jn := 2) (by decide) (by omega) rfl rfl (n := 486) rfl ?_
  refine a_callX C mi_X7_like ll_44 iw_X7_like (m_X7_like x.2.1 (xs (t + 1)) (xs (t + 2)) hx e1) rfl rfl rfl (Nat.le_of_ble_eq_true rfl) dL_law_486 ⟨Nat.le_of_ble_eq_true rfl, Nat.le_of_ble_eq_true rfl, hc.1, hc.2⟩ (n := 489) rfl ?_
  refine a_aload_n C dL_law_489 rfl (n := 490) rfl ?_
  refine a_arg C X hl dL_law_490 dL_law_491 dL_law_492 dL_law_493 dL_law_494 (jn := 1) (by decide) (by omega) rfl rfl (n := 495) rfl ?_
  refine a_arg C X hl dL_law_495 dL_law_496 dL_law_497 dL_law_498 dL_law_499 (jn := 2) (by decide) (by omega) rfl rfl (n := 500) rfl ?_
  refine a_callM C mi_X8_like ll_47 iw_X8_like (m_X8_like x.2.1 10000 (xs (t + 1)) (xs (t + 2)) hm e2) rfl rfl rfl (Nat.le_of_ble_eq_true rfl) dL_law_500 ⟨Nat.le_of_ble_eq_true rfl, Nat.le_of_ble_eq_true rfl, hc.1, hc.2⟩ (n := 503) rfl ?_
  exact a_icmp_eqT C dL_law_503 (tgt := 1551) (by decide) (k _ _ hR1)
theorem mi_X7_carries : MI yX7_carries cX7_carries 3 (some .int) 2 := ⟨gT_in (tb2 (List.mem_of_getElem? (i := 106) rfl)) rfl, gT_in (tb1 (List.mem_of_getElem? (i := 1) rfl)) rfl, by decide +kernel⟩
theorem iw_X7_carries : Cond.instanceMethod yX7_carries ∈ gT ∧ Cond.selects RX7 yX7_carries yX7_carries ∈ gT := ⟨gT_in (tb2 (List.mem_of_getElem? (i := 104) rfl)) rfl, gT_in (tb2 (List.mem_of_getElem? (i := 105) rfl)) rfl⟩
theorem mi_X8_carries : MI yX8_carries cX8_carries 3 (some .int) 2 := ⟨gT_in (tb5 (List.mem_of_getElem? (i := 118) rfl)) rfl, gT_in (tb1 (List.mem_of_getElem? (i := 9) rfl)) rfl, by decide +kernel⟩
theorem iw_X8_carries : Cond.instanceMethod yX8_carries ∈ gT ∧ Cond.selects RX8 yX8_carries yX8_carries ∈ gT := ⟨gT_in (tb5 (List.mem_of_getElem? (i := 116) rfl)) rfl, gT_in (tb5 (List.mem_of_getElem? (i := 117) rfl)) rfl⟩
theorem ll_48 : Cond.methodLink RL 48 yX7_carries ∈ gT := gT_in (tb2 (List.mem_of_getElem? (i := 103) rfl)) rfl
theorem ll_51 : Cond.methodLink RL 51 yX8_carries ∈ gT := gT_in (tb5 (List.mem_of_getElem? (i := 115) rfl)) rfl
set_option maxRecDepth 20000 in
theorem lc_8 {x : Fx} {Q : State → Prop} {ret : Option FieldType} {kc ks : Nat} {D : va_G} {ax am : Nat → Nat} {rs : (Nat → ClassId) × (Nat → Nat) × (Nat → Nat) × (Nat → Nat)} {b Ln t : Nat} {xs : Nat → Int32} {hx hm : Hp} (C : Ok x (D, ax, rs) RL cL_law 4 ret) (X : LX x b Ln xs) (hl : Ln < 2147483648) (ht : t + 6 ≤ Ln) (hc : kc ≤ 600000 ∧ ks ≤ 7302249) (hR : R hx hm) (k : ∀ hx1 hm1, R hx1 hm1 → JA x (D, ax, rs) room_1 4 Q 1551 [some (.ref b), some (.ref (ax 0)), some (.ref (am 0)), some (.int (nI t))] [] (cwX (D, ax, rs) hx1 ++ cwM (D, am, rs) hm1) kc ks) : JA x (D, ax, rs) room_1 4 Q 508 [some (.ref b), some (.ref (ax 0)), some (.ref (am 0)), some (.int (nI t))] [] (cwX (D, ax, rs) hx ++ cwM (D, am, rs) hm) kc ks := by
  obtain ⟨r, hx1, hm1, e1, e2, hR1⟩ := o_carries hR (xs (t + 1)) (xs (t + 2))
  refine a_aload_n C dL_law_508 rfl (n := 509) rfl ?_
  refine a_arg C X hl dL_law_509 dL_law_510 dL_law_511 dL_law_512 dL_law_513 (jn := 1) (by decide) (by omega) rfl rfl (n := 514) rfl ?_
  refine a_arg C X hl dL_law_514 dL_law_515 dL_law_516 dL_law_517 dL_law_518 (jn := 2) (by decide) (by omega) rfl rfl (n := 519) rfl ?_
  refine a_callX C mi_X7_carries ll_48 iw_X7_carries (m_X7_carries x.2.1 (xs (t + 1)) (xs (t + 2)) hx e1) rfl rfl rfl (Nat.le_of_ble_eq_true rfl) dL_law_519 ⟨Nat.le_of_ble_eq_true rfl, Nat.le_of_ble_eq_true rfl, hc.1, hc.2⟩ (n := 522) rfl ?_
  refine a_aload_n C dL_law_522 rfl (n := 523) rfl ?_
  refine a_arg C X hl dL_law_523 dL_law_524 dL_law_525 dL_law_526 dL_law_527 (jn := 1) (by decide) (by omega) rfl rfl (n := 528) rfl ?_
  refine a_arg C X hl dL_law_528 dL_law_529 dL_law_530 dL_law_531 dL_law_532 (jn := 2) (by decide) (by omega) rfl rfl (n := 533) rfl ?_
  refine a_callM C mi_X8_carries ll_51 iw_X8_carries (m_X8_carries x.2.1 (xs (t + 1)) (xs (t + 2)) hm e2) rfl rfl rfl (Nat.le_of_ble_eq_true rfl) dL_law_533 ⟨Nat.le_of_ble_eq_true rfl, Nat.le_of_ble_eq_true rfl, hc.1, hc.2⟩ (n := 536) rfl ?_
  exact a_icmp_eqT C dL_law_536 (tgt := 1551) (by decide) (k _ _ hR1)
theorem mi_X7_visitor : MI yX7_visitor cX7_visitor 1 (some .int) 0 := ⟨gT_in (tb2 (List.mem_of_getElem? (i := 124) rfl)) rfl, gT_in (tb1 (List.mem_of_getElem? (i := 1) rfl)) rfl, by decide +kernel⟩
theorem iw_X7_visitor : Cond.instanceMethod yX7_visitor ∈ gT ∧ Cond.selects RX7 yX7_visitor yX7_visitor ∈ gT := ⟨gT_in (tb2 (List.mem_of_getElem? (i := 122) rfl)) rfl, gT_in (tb2 (List.mem_of_getElem? (i := 123) rfl)) rfl⟩
theorem mi_X8_visitor : MI yX8_visitor cX8_visitor 1 (some .int) 0 := ⟨gT_in (tb5 (List.mem_of_getElem? (i := 128) rfl)) rfl, gT_in (tb1 (List.mem_of_getElem? (i := 9) rfl)) rfl, by decide +kernel⟩
theorem iw_X8_visitor : Cond.instanceMethod yX8_visitor ∈ gT ∧ Cond.selects RX8 yX8_visitor yX8_visitor ∈ gT := ⟨gT_in (tb5 (List.mem_of_getElem? (i := 126) rfl)) rfl, gT_in (tb5 (List.mem_of_getElem? (i := 127) rfl)) rfl⟩
theorem ll_52 : Cond.methodLink RL 52 yX7_visitor ∈ gT := gT_in (tb2 (List.mem_of_getElem? (i := 121) rfl)) rfl
theorem ll_56 : Cond.methodLink RL 56 yX8_visitor ∈ gT := gT_in (tb5 (List.mem_of_getElem? (i := 125) rfl)) rfl
set_option maxRecDepth 20000 in
theorem lc_9 {x : Fx} {Q : State → Prop} {ret : Option FieldType} {kc ks : Nat} {D : va_G} {ax am : Nat → Nat} {rs : (Nat → ClassId) × (Nat → Nat) × (Nat → Nat) × (Nat → Nat)} {b Ln t : Nat} {xs : Nat → Int32} {hx hm : Hp} (C : Ok x (D, ax, rs) RL cL_law 4 ret) (X : LX x b Ln xs) (hl : Ln < 2147483648) (ht : t + 6 ≤ Ln) (hc : kc ≤ 600000 ∧ ks ≤ 7302249) (hR : R hx hm) (k : ∀ hx1 hm1, R hx1 hm1 → JA x (D, ax, rs) room_1 4 Q 1551 [some (.ref b), some (.ref (ax 0)), some (.ref (am 0)), some (.int (nI t))] [] (cwX (D, ax, rs) hx1 ++ cwM (D, am, rs) hm1) kc ks) : JA x (D, ax, rs) room_1 4 Q 541 [some (.ref b), some (.ref (ax 0)), some (.ref (am 0)), some (.int (nI t))] [] (cwX (D, ax, rs) hx ++ cwM (D, am, rs) hm) kc ks := by
  obtain ⟨r, hx1, hm1, e1, e2, hR1⟩ := o_visitor (fu := 10000) (by decide) hR
  refine a_aload_n C dL_law_541 rfl (n := 542) rfl ?_
  refine a_callX C mi_X7_visitor ll_52 iw_X7_visitor (m_X7_visitor x.2.1 hx e1) rfl rfl rfl (Nat.le_of_ble_eq_true rfl) dL_law_542 ⟨Nat.le_of_ble_eq_true rfl, Nat.le_of_ble_eq_true rfl, hc.1, hc.2⟩ (n := 545) rfl ?_
  refine a_aload_n C dL_law_545 rfl (n := 546) rfl ?_
  refine a_callM C mi_X8_visitor ll_56 iw_X8_visitor (m_X8_visitor x.2.1 10000 hm e2) rfl rfl rfl (Nat.le_of_ble_eq_true rfl) dL_law_546 ⟨Nat.le_of_ble_eq_true rfl, Nat.le_of_ble_eq_true rfl, hc.1, hc.2⟩ (n := 549) rfl ?_
  exact a_icmp_eqT C dL_law_549 (tgt := 1551) (by decide) (k _ _ hR1)
theorem mi_X7_seen : MI yX7_seen cX7_seen 3 (some .int) 2 := ⟨gT_in (tb2 (List.mem_of_getElem? (i := 132) rfl)) rfl, gT_in (tb1 (List.mem_of_getElem? (i := 1) rfl)) rfl, by decide +kernel⟩
theorem iw_X7_seen : Cond.instanceMethod yX7_seen ∈ gT ∧ Cond.selects RX7 yX7_seen yX7_seen ∈ gT := ⟨gT_in (tb2 (List.mem_of_getElem? (i := 130) rfl)) rfl, gT_in (tb2 (List.mem_of_getElem? (i := 131) rfl)) rfl⟩
theorem mi_X8_seen : MI yX8_seen cX8_seen 3 (some .int) 2 := ⟨gT_in (tb5 (List.mem_of_getElem? (i := 136) rfl)) rfl, gT_in (tb1 (List.mem_of_getElem? (i := 9) rfl)) rfl, by decide +kernel⟩
theorem iw_X8_seen : Cond.instanceMethod yX8_seen ∈ gT ∧ Cond.selects RX8 yX8_seen yX8_seen ∈ gT := ⟨gT_in (tb5 (List.mem_of_getElem? (i := 134) rfl)) rfl, gT_in (tb5 (List.mem_of_getElem? (i := 135) rfl)) rfl⟩
theorem ll_57 : Cond.methodLink RL 57 yX7_seen ∈ gT := gT_in (tb2 (List.mem_of_getElem? (i := 129) rfl)) rfl
theorem ll_60 : Cond.methodLink RL 60 yX8_seen ∈ gT := gT_in (tb5 (List.mem_of_getElem? (i := 133) rfl)) rfl
set_option maxRecDepth 20000 in
theorem lc_10 {x : Fx} {Q : State → Prop} {ret : Option FieldType} {kc ks : Nat} {D : va_G} {ax am : Nat → Nat} {rs : (Nat → ClassId) × (Nat → Nat) × (Nat → Nat) × (Nat → Nat)} {b Ln t : Nat} {xs : Nat → Int32} {hx hm : Hp} (C : Ok x (D, ax, rs) RL cL_law 4 ret) (X : LX x b Ln xs) (hl : Ln < 2147483648) (ht : t + 6 ≤ Ln) (hc : kc ≤ 600000 ∧ ks ≤ 7302249) (hR : R hx hm) (k : ∀ hx1 hm1, R hx1 hm1 → JA x (D, ax, rs) room_1 4 Q 1551 [some (.ref b), some (.ref (ax 0)), some (.ref (am 0)), some (.int (nI t))] [] (cwX (D, ax, rs) hx1 ++ cwM (D, am, rs) hm1) kc ks) : JA x (D, ax, rs) room_1 4 Q 554 [some (.ref b), some (.ref (ax 0)), some (.ref (am 0)), some (.int (nI t))] [] (cwX (D, ax, rs) hx ++ cwM (D, am, rs) hm) kc ks := by
  obtain ⟨r, hx1, hm1, e1, e2, hR1⟩ := o_seen (fu := 10000) (by decide) hR (xs (t + 1)) (xs (t + 2))
  refine a_aload_n C dL_law_554 rfl (n := 555) rfl ?_
  refine a_arg C X hl dL_law_555 dL_law_556 dL_law_557 dL_law_558 dL_law_559 (jn := 1) (by decide) (by omega) rfl rfl (n := 560) rfl ?_
  refine a_arg C X hl dL_law_560 dL_law_561 dL_law_562 dL_law_563 dL_law_564 (jn := 2) (by decide) (by omega) rfl rfl (n := 565) rfl ?_
  refine a_callX C mi_X7_seen ll_57 iw_X7_seen (m_X7_seen x.2.1 10000 (xs (t + 1)) (xs (t + 2)) hx e1) rfl rfl rfl (Nat.le_of_ble_eq_true rfl) dL_law_565 ⟨Nat.le_of_ble_eq_true rfl, Nat.le_of_ble_eq_true rfl, hc.1, hc.2⟩ (n := 568) rfl ?_
  refine a_aload_n C dL_law_568 rfl (n := 569) rfl ?_
  refine a_arg C X hl dL_law_569 dL_law_570 dL_law_571 dL_law_572 dL_law_573 (jn := 1) (by decide) (by omega) rfl rfl (n := 574) rfl ?_
  refine a_arg C X hl dL_law_574 dL_law_575 dL_law_576 dL_law_577 dL_law_578 (jn := 2) (by decide) (by omega) rfl rfl (n := 579) rfl ?_
  refine a_callM C mi_X8_seen ll_60 iw_X8_seen (m_X8_seen x.2.1 10000 (xs (t + 1)) (xs (t + 2)) hm e2) rfl rfl rfl (Nat.le_of_ble_eq_true rfl) dL_law_579 ⟨Nat.le_of_ble_eq_true rfl, Nat.le_of_ble_eq_true rfl, hc.1, hc.2⟩ (n := 582) rfl ?_
  exact a_icmp_eqT C dL_law_582 (tgt := 1551) (by decide) (k _ _ hR1)
theorem mi_X7_move : MI yX7_move cX7_move 3 (some .int) 2 := ⟨gT_in (tb2 (List.mem_of_getElem? (i := 146) rfl)) rfl, gT_in (tb1 (List.mem_of_getElem? (i := 1) rfl)) rfl, by decide +kernel⟩
theorem iw_X7_move : Cond.instanceMethod yX7_move ∈ gT ∧ Cond.selects RX7 yX7_move yX7_move ∈ gT := ⟨gT_in (tb2 (List.mem_of_getElem? (i := 144) rfl)) rfl, gT_in (tb2 (List.mem_of_getElem? (i := 145) rfl)) rfl⟩
theorem mi_X8_move : MI yX8_move cX8_move 3 (some .int) 2 := ⟨gT_in (tb5 (List.mem_of_getElem? (i := 144) rfl)) rfl, gT_in (tb1 (List.mem_of_getElem? (i := 9) rfl)) rfl, by decide +kernel⟩
theorem iw_X8_move : Cond.instanceMethod yX8_move ∈ gT ∧ Cond.selects RX8 yX8_move yX8_move ∈ gT := ⟨gT_in (tb5 (List.mem_of_getElem? (i := 142) rfl)) rfl, gT_in (tb5 (List.mem_of_getElem? (i := 143) rfl)) rfl⟩
theorem ll_61 : Cond.methodLink RL 61 yX7_move ∈ gT := gT_in (tb2 (List.mem_of_getElem? (i := 143) rfl)) rfl
theorem ll_64 : Cond.methodLink RL 64 yX8_move ∈ gT := gT_in (tb5 (List.mem_of_getElem? (i := 141) rfl)) rfl
set_option maxRecDepth 20000 in
theorem lc_11 {x : Fx} {Q : State → Prop} {ret : Option FieldType} {kc ks : Nat} {D : va_G} {ax am : Nat → Nat} {rs : (Nat → ClassId) × (Nat → Nat) × (Nat → Nat) × (Nat → Nat)} {b Ln t : Nat} {xs : Nat → Int32} {hx hm : Hp} (C : Ok x (D, ax, rs) RL cL_law 4 ret) (X : LX x b Ln xs) (hl : Ln < 2147483648) (ht : t + 6 ≤ Ln) (hc : kc ≤ 600000 ∧ ks ≤ 7302249) (hR : R hx hm) (k : ∀ hx1 hm1, R hx1 hm1 → JA x (D, ax, rs) room_1 4 Q 1551 [some (.ref b), some (.ref (ax 0)), some (.ref (am 0)), some (.int (nI t))] [] (cwX (D, ax, rs) hx1 ++ cwM (D, am, rs) hm1) kc ks) : JA x (D, ax, rs) room_1 4 Q 587 [some (.ref b), some (.ref (ax 0)), some (.ref (am 0)), some (.int (nI t))] [] (cwX (D, ax, rs) hx ++ cwM (D, am, rs) hm) kc ks := by
  obtain ⟨r, hx1, hm1, e1, e2, hR1⟩ := o_move (fu := 10000) (by decide) hR (xs (t + 1)) (xs (t + 2))
  refine a_aload_n C dL_law_587 rfl (n := 588) rfl ?_
  refine a_arg C X hl dL_law_588 dL_law_589 dL_law_590 dL_law_591 dL_law_592 (jn := 1) (by decide) (by omega) rfl rfl (n := 593) rfl ?_
  refine a_arg C X hl dL_law_593 dL_law_594 dL_law_595 dL_law_596 dL_law_597 (jn := 2) (by decide) (by omega) rfl rfl (n := 598) rfl ?_
  refine a_callX C mi_X7_move ll_61 iw_X7_move (m_X7_move x.2.1 10000 (xs (t + 1)) (xs (t + 2)) hx e1) rfl rfl rfl (Nat.le_of_ble_eq_true rfl) dL_law_598 ⟨Nat.le_of_ble_eq_true rfl, Nat.le_of_ble_eq_true rfl, hc.1, hc.2⟩ (n := 601) rfl ?_
  refine a_aload_n C dL_law_601 rfl (n := 602) rfl ?_
  refine a_arg C X hl dL_law_602 dL_law_603 dL_law_604 dL_law_605 dL_law_606 (jn := 1) (by decide) (by omega) rfl rfl (n := 607) rfl ?_
  refine a_arg C X hl dL_law_607 dL_law_608 dL_law_609 dL_law_610 dL_law_611 (jn := 2) (by decide) (by omega) rfl rfl (n := 612) rfl ?_
  refine a_callM C mi_X8_move ll_64 iw_X8_move (m_X8_move x.2.1 10000 (xs (t + 1)) (xs (t + 2)) hm e2) rfl rfl rfl (Nat.le_of_ble_eq_true rfl) dL_law_612 ⟨Nat.le_of_ble_eq_true rfl, Nat.le_of_ble_eq_true rfl, hc.1, hc.2⟩ (n := 615) rfl ?_
  exact a_icmp_eqT C dL_law_615 (tgt := 1551) (by decide) (k _ _ hR1)
theorem mi_X7_waits : MI yX7_waits cX7_waits 2 (some .int) 1 := ⟨gT_in (tb2 (List.mem_of_getElem? (i := 167) rfl)) rfl, gT_in (tb1 (List.mem_of_getElem? (i := 1) rfl)) rfl, by decide +kernel⟩
theorem iw_X7_waits : Cond.instanceMethod yX7_waits ∈ gT ∧ Cond.selects RX7 yX7_waits yX7_waits ∈ gT := ⟨gT_in (tb2 (List.mem_of_getElem? (i := 165) rfl)) rfl, gT_in (tb2 (List.mem_of_getElem? (i := 166) rfl)) rfl⟩
theorem mi_X8_waits : MI yX8_waits cX8_waits 2 (some .int) 1 := ⟨gT_in (tb5 (List.mem_of_getElem? (i := 160) rfl)) rfl, gT_in (tb1 (List.mem_of_getElem? (i := 9) rfl)) rfl, by decide +kernel⟩
theorem iw_X8_waits : Cond.instanceMethod yX8_waits ∈ gT ∧ Cond.selects RX8 yX8_waits yX8_waits ∈ gT := ⟨gT_in (tb5 (List.mem_of_getElem? (i := 158) rfl)) rfl, gT_in (tb5 (List.mem_of_getElem? (i := 159) rfl)) rfl⟩
theorem ll_65 : Cond.methodLink RL 65 yX7_waits ∈ gT := gT_in (tb2 (List.mem_of_getElem? (i := 164) rfl)) rfl
theorem ll_68 : Cond.methodLink RL 68 yX8_waits ∈ gT := gT_in (tb5 (List.mem_of_getElem? (i := 157) rfl)) rfl
set_option maxRecDepth 20000 in
theorem lc_12 {x : Fx} {Q : State → Prop} {ret : Option FieldType} {kc ks : Nat} {D : va_G} {ax am : Nat → Nat} {rs : (Nat → ClassId) × (Nat → Nat) × (Nat → Nat) × (Nat → Nat)} {b Ln t : Nat} {xs : Nat → Int32} {hx hm : Hp} (C : Ok x (D, ax, rs) RL cL_law 4 ret) (X : LX x b Ln xs) (hl : Ln < 2147483648) (ht : t + 6 ≤ Ln) (hc : kc ≤ 600000 ∧ ks ≤ 7302249) (hR : R hx hm) (k : ∀ hx1 hm1, R hx1 hm1 → JA x (D, ax, rs) room_1 4 Q 1551 [some (.ref b), some (.ref (ax 0)), some (.ref (am 0)), some (.int (nI t))] [] (cwX (D, ax, rs) hx1 ++ cwM (D, am, rs) hm1) kc ks) : JA x (D, ax, rs) room_1 4 Q 620 [some (.ref b), some (.ref (ax 0)), some (.ref (am 0)), some (.int (nI t))] [] (cwX (D, ax, rs) hx ++ cwM (D, am, rs) hm) kc ks := by
  obtain ⟨r, hx1, hm1, e1, e2, hR1⟩ := o_waits (fu := 10000) (by decide) hR (xs (t + 1))
  refine a_aload_n C dL_law_620 rfl (n := 621) rfl ?_
  refine a_arg C X hl dL_law_621 dL_law_622 dL_law_623 dL_law_624 dL_law_625 (jn := 1) (by decide) (by omega) rfl rfl (n := 626) rfl ?_
  refine a_callX C mi_X7_waits ll_65 iw_X7_waits (m_X7_waits x.2.1 10000 (xs (t + 1)) hx e1) rfl rfl rfl (Nat.le_of_ble_eq_true rfl) dL_law_626 ⟨Nat.le_of_ble_eq_true rfl, Nat.le_of_ble_eq_true rfl, hc.1, hc.2⟩ (n := 629) rfl ?_
  refine a_aload_n C dL_law_629 rfl (n := 630) rfl ?_
  refine a_arg C X hl dL_law_630 dL_law_631 dL_law_632 dL_law_633 dL_law_634 (jn := 1) (by decide) (by omega) rfl rfl (n := 635) rfl ?_
  refine a_callM C mi_X8_waits ll_68 iw_X8_waits (m_X8_waits x.2.1 10000 (xs (t + 1)) hm e2) rfl rfl rfl (Nat.le_of_ble_eq_true rfl) dL_law_635 ⟨Nat.le_of_ble_eq_true rfl, Nat.le_of_ble_eq_true rfl, hc.1, hc.2⟩ (n := 638) rfl ?_
  exact a_icmp_eqT C dL_law_638 (tgt := 1551) (by decide) (k _ _ hR1)
theorem mi_X7_now : MI yX7_now cX7_now 2 (some .int) 1 := ⟨gT_in (tb2 (List.mem_of_getElem? (i := 178) rfl)) rfl, gT_in (tb1 (List.mem_of_getElem? (i := 1) rfl)) rfl, by decide +kernel⟩
theorem iw_X7_now : Cond.instanceMethod yX7_now ∈ gT ∧ Cond.selects RX7 yX7_now yX7_now ∈ gT := ⟨gT_in (tb2 (List.mem_of_getElem? (i := 176) rfl)) rfl, gT_in (tb2 (List.mem_of_getElem? (i := 177) rfl)) rfl⟩
theorem mi_X8_now : MI yX8_now cX8_now 4 (some .int) 1 := ⟨gT_in (tb5 (List.mem_of_getElem? (i := 168) rfl)) rfl, gT_in (tb1 (List.mem_of_getElem? (i := 9) rfl)) rfl, by decide +kernel⟩
theorem iw_X8_now : Cond.instanceMethod yX8_now ∈ gT ∧ Cond.selects RX8 yX8_now yX8_now ∈ gT := ⟨gT_in (tb5 (List.mem_of_getElem? (i := 166) rfl)) rfl, gT_in (tb5 (List.mem_of_getElem? (i := 167) rfl)) rfl⟩
theorem ll_69 : Cond.methodLink RL 69 yX7_now ∈ gT := gT_in (tb2 (List.mem_of_getElem? (i := 175) rfl)) rfl
theorem ll_72 : Cond.methodLink RL 72 yX8_now ∈ gT := gT_in (tb5 (List.mem_of_getElem? (i := 165) rfl)) rfl
set_option maxRecDepth 20000 in
theorem lc_13 {x : Fx} {Q : State → Prop} {ret : Option FieldType} {kc ks : Nat} {D : va_G} {ax am : Nat → Nat} {rs : (Nat → ClassId) × (Nat → Nat) × (Nat → Nat) × (Nat → Nat)} {b Ln t : Nat} {xs : Nat → Int32} {hx hm : Hp} (C : Ok x (D, ax, rs) RL cL_law 4 ret) (X : LX x b Ln xs) (hl : Ln < 2147483648) (ht : t + 6 ≤ Ln) (hc : kc ≤ 600000 ∧ ks ≤ 7302249) (hR : R hx hm) (k : ∀ hx1 hm1, R hx1 hm1 → JA x (D, ax, rs) room_1 4 Q 1551 [some (.ref b), some (.ref (ax 0)), some (.ref (am 0)), some (.int (nI t))] [] (cwX (D, ax, rs) hx1 ++ cwM (D, am, rs) hm1) kc ks) : JA x (D, ax, rs) room_1 4 Q 643 [some (.ref b), some (.ref (ax 0)), some (.ref (am 0)), some (.int (nI t))] [] (cwX (D, ax, rs) hx ++ cwM (D, am, rs) hm) kc ks := by
  obtain ⟨r, hx1, hm1, e1, e2, hR1⟩ := o_now (fu := 10000) (by decide) hR (xs (t + 1))
  refine a_aload_n C dL_law_643 rfl (n := 644) rfl ?_
  refine a_arg C X hl dL_law_644 dL_law_645 dL_law_646 dL_law_647 dL_law_648 (jn := 1) (by decide) (by omega) rfl rfl (n := 649) rfl ?_
  refine a_callX C mi_X7_now ll_69 iw_X7_now (m_X7_now x.2.1 10000 (xs (t + 1)) hx e1) rfl rfl rfl (Nat.le_of_ble_eq_true rfl) dL_law_649 ⟨Nat.le_of_ble_eq_true rfl, Nat.le_of_ble_eq_true rfl, hc.1, hc.2⟩ (n := 652) rfl ?_
  refine a_aload_n C dL_law_652 rfl (n := 653) rfl ?_
  refine a_arg C X hl dL_law_653 dL_law_654 dL_law_655 dL_law_656 dL_law_657 (jn := 1) (by decide) (by omega) rfl rfl (n := 658) rfl ?_
  refine a_callM C mi_X8_now ll_72 iw_X8_now (m_X8_now x.2.1 10000 (xs (t + 1)) hm e2) rfl rfl rfl (Nat.le_of_ble_eq_true rfl) dL_law_658 ⟨Nat.le_of_ble_eq_true rfl, Nat.le_of_ble_eq_true rfl, hc.1, hc.2⟩ (n := 661) rfl ?_
  exact a_icmp_eqT C dL_law_661 (tgt := 1551) (by decide) (k _ _ hR1)
theorem mi_X7_most : MI yX7_most cX7_most 1 (some .int) 0 := ⟨gT_in (tb2 (List.mem_of_getElem? (i := 192) rfl)) rfl, gT_in (tb1 (List.mem_of_getElem? (i := 1) rfl)) rfl, by decide +kernel⟩
theorem iw_X7_most : Cond.instanceMethod yX7_most ∈ gT ∧ Cond.selects RX7 yX7_most yX7_most ∈ gT := ⟨gT_in (tb2 (List.mem_of_getElem? (i := 190) rfl)) rfl, gT_in (tb2 (List.mem_of_getElem? (i := 191) rfl)) rfl⟩
theorem mi_X8_most : MI yX8_most cX8_most 1 (some .int) 0 := ⟨gT_in (tb5 (List.mem_of_getElem? (i := 176) rfl)) rfl, gT_in (tb1 (List.mem_of_getElem? (i := 9) rfl)) rfl, by decide +kernel⟩
theorem iw_X8_most : Cond.instanceMethod yX8_most ∈ gT ∧ Cond.selects RX8 yX8_most yX8_most ∈ gT := ⟨gT_in (tb5 (List.mem_of_getElem? (i := 174) rfl)) rfl, gT_in (tb5 (List.mem_of_getElem? (i := 175) rfl)) rfl⟩
theorem ll_73 : Cond.methodLink RL 73 yX7_most ∈ gT := gT_in (tb2 (List.mem_of_getElem? (i := 189) rfl)) rfl
theorem ll_76 : Cond.methodLink RL 76 yX8_most ∈ gT := gT_in (tb5 (List.mem_of_getElem? (i := 173) rfl)) rfl
set_option maxRecDepth 20000 in
theorem lc_14 {x : Fx} {Q : State → Prop} {ret : Option FieldType} {kc ks : Nat} {D : va_G} {ax am : Nat → Nat} {rs : (Nat → ClassId) × (Nat → Nat) × (Nat → Nat) × (Nat → Nat)} {b Ln t : Nat} {xs : Nat → Int32} {hx hm : Hp} (C : Ok x (D, ax, rs) RL cL_law 4 ret) (X : LX x b Ln xs) (hl : Ln < 2147483648) (ht : t + 6 ≤ Ln) (hc : kc ≤ 600000 ∧ ks ≤ 7302249) (hR : R hx hm) (k : ∀ hx1 hm1, R hx1 hm1 → JA x (D, ax, rs) room_1 4 Q 1551 [some (.ref b), some (.ref (ax 0)), some (.ref (am 0)), some (.int (nI t))] [] (cwX (D, ax, rs) hx1 ++ cwM (D, am, rs) hm1) kc ks) : JA x (D, ax, rs) room_1 4 Q 666 [some (.ref b), some (.ref (ax 0)), some (.ref (am 0)), some (.int (nI t))] [] (cwX (D, ax, rs) hx ++ cwM (D, am, rs) hm) kc ks := by
  obtain ⟨r, hx1, hm1, e1, e2, hR1⟩ := o_most (fu := 10000) (by decide) hR
  refine a_aload_n C dL_law_666 rfl (n := 667) rfl ?_
  refine a_callX C mi_X7_most ll_73 iw_X7_most (m_X7_most x.2.1 10000 hx e1) rfl rfl rfl (Nat.le_of_ble_eq_true rfl) dL_law_667 ⟨Nat.le_of_ble_eq_true rfl, Nat.le_of_ble_eq_true rfl, hc.1, hc.2⟩ (n := 670) rfl ?_
  refine a_aload_n C dL_law_670 rfl (n := 671) rfl ?_
  refine a_callM C mi_X8_most ll_76 iw_X8_most (m_X8_most x.2.1 10000 hm e2) rfl rfl rfl (Nat.le_of_ble_eq_true rfl) dL_law_671 ⟨Nat.le_of_ble_eq_true rfl, Nat.le_of_ble_eq_true rfl, hc.1, hc.2⟩ (n := 674) rfl ?_
  exact a_icmp_eqT C dL_law_674 (tgt := 1551) (by decide) (k _ _ hR1)
theorem mi_X7_given : MI yX7_given cX7_given 2 (some .int) 1 := ⟨gT_in (tb2 (List.mem_of_getElem? (i := 233) rfl)) rfl, gT_in (tb1 (List.mem_of_getElem? (i := 1) rfl)) rfl, by decide +kernel⟩
theorem iw_X7_given : Cond.instanceMethod yX7_given ∈ gT ∧ Cond.selects RX7 yX7_given yX7_given ∈ gT := ⟨gT_in (tb2 (List.mem_of_getElem? (i := 231) rfl)) rfl, gT_in (tb2 (List.mem_of_getElem? (i := 232) rfl)) rfl⟩
theorem mi_X8_given : MI yX8_given cX8_given 8 (some .int) 1 := ⟨gT_in (tb5 (List.mem_of_getElem? (i := 202) rfl)) rfl, gT_in (tb1 (List.mem_of_getElem? (i := 9) rfl)) rfl, by decide +kernel⟩
theorem iw_X8_given : Cond.instanceMethod yX8_given ∈ gT ∧ Cond.selects RX8 yX8_given yX8_given ∈ gT := ⟨gT_in (tb5 (List.mem_of_getElem? (i := 200) rfl)) rfl, gT_in (tb5 (List.mem_of_getElem? (i := 201) rfl)) rfl⟩
theorem ll_77 : Cond.methodLink RL 77 yX7_given ∈ gT := gT_in (tb2 (List.mem_of_getElem? (i := 230) rfl)) rfl
theorem ll_80 : Cond.methodLink RL 80 yX8_given ∈ gT := gT_in (tb5 (List.mem_of_getElem? (i := 199) rfl)) rfl
set_option maxRecDepth 20000 in
theorem lc_15 {x : Fx} {Q : State → Prop} {ret : Option FieldType} {kc ks : Nat} {D : va_G} {ax am : Nat → Nat} {rs : (Nat → ClassId) × (Nat → Nat) × (Nat → Nat) × (Nat → Nat)} {b Ln t : Nat} {xs : Nat → Int32} {hx hm : Hp} (C : Ok x (D, ax, rs) RL cL_law 4 ret) (X : LX x b Ln xs) (hl : Ln < 2147483648) (ht : t + 6 ≤ Ln) (hc : kc ≤ 600000 ∧ ks ≤ 7302249) (hR : R hx hm) (k : ∀ hx1 hm1, R hx1 hm1 → JA x (D, ax, rs) room_1 4 Q 1551 [some (.ref b), some (.ref (ax 0)), some (.ref (am 0)), some (.int (nI t))] [] (cwX (D, ax, rs) hx1 ++ cwM (D, am, rs) hm1) kc ks) : JA x (D, ax, rs) room_1 4 Q 679 [some (.ref b), some (.ref (ax 0)), some (.ref (am 0)), some (.int (nI t))] [] (cwX (D, ax, rs) hx ++ cwM (D, am, rs) hm) kc ks := by
  obtain ⟨r, hx1, hm1, e1, e2, hR1⟩ := o_given (fu := 10000) (by decide) hR (xs (t + 1))
  refine a_aload_n C dL_law_679 rfl (n := 680) rfl ?_
  refine a_arg C X hl dL_law_680 dL_law_681 dL_law_682 dL_law_683 dL_law_684 (jn := 1) (by decide) (by omega) rfl rfl (n := 685) rfl ?_
  refine a_callX C mi_X7_given ll_77 iw_X7_given (m_X7_given x.2.1 10000 (xs (t + 1)) hx e1) rfl rfl rfl (Nat.le_of_ble_eq_true rfl) dL_law_685 ⟨Nat.le_of_ble_eq_true rfl, Nat.le_of_ble_eq_true rfl, hc.1, hc.2⟩ (n := 688) rfl ?_
  refine a_aload_n C dL_law_688 rfl (n := 689) rfl ?_
  refine a_arg C X hl dL_law_689 dL_law_690 dL_law_691 dL_law_692 dL_law_693 (jn := 1) (by decide) (by omega) rfl rfl (n := 694) rfl ?_
  refine a_callM C mi_X8_given ll_80 iw_X8_given (m_X8_given x.2.1 10000 (xs (t + 1)) hm e2) rfl rfl rfl (Nat.le_of_ble_eq_true rfl) dL_law_694 ⟨Nat.le_of_ble_eq_true rfl, Nat.le_of_ble_eq_true rfl, hc.1, hc.2⟩ (n := 697) rfl ?_
  exact a_icmp_eqT C dL_law_697 (tgt := 1551) (by decide) (k _ _ hR1)
theorem mi_X7_likest : MI yX7_likest cX7_likest 2 (some .int) 1 := ⟨gT_in (tb3 (List.mem_of_getElem? (i := 5) rfl)) rfl, gT_in (tb1 (List.mem_of_getElem? (i := 1) rfl)) rfl, by decide +kernel⟩
theorem iw_X7_likest : Cond.instanceMethod yX7_likest ∈ gT ∧ Cond.selects RX7 yX7_likest yX7_likest ∈ gT := ⟨gT_in (tb3 (List.mem_of_getElem? (i := 3) rfl)) rfl, gT_in (tb3 (List.mem_of_getElem? (i := 4) rfl)) rfl⟩
theorem mi_X8_likest : MI yX8_likest cX8_likest 5 (some .int) 1 := ⟨gT_in (tb5 (List.mem_of_getElem? (i := 210) rfl)) rfl, gT_in (tb1 (List.mem_of_getElem? (i := 9) rfl)) rfl, by decide +kernel⟩
theorem iw_X8_likest : Cond.instanceMethod yX8_likest ∈ gT ∧ Cond.selects RX8 yX8_likest yX8_likest ∈ gT := ⟨gT_in (tb5 (List.mem_of_getElem? (i := 208) rfl)) rfl, gT_in (tb5 (List.mem_of_getElem? (i := 209) rfl)) rfl⟩
theorem ll_81 : Cond.methodLink RL 81 yX7_likest ∈ gT := gT_in (tb3 (List.mem_of_getElem? (i := 2) rfl)) rfl
theorem ll_84 : Cond.methodLink RL 84 yX8_likest ∈ gT := gT_in (tb5 (List.mem_of_getElem? (i := 207) rfl)) rfl
set_option maxRecDepth 20000 in
theorem lc_16 {x : Fx} {Q : State → Prop} {ret : Option FieldType} {kc ks : Nat} {D : va_G} {ax am : Nat → Nat} {rs : (Nat → ClassId) × (Nat → Nat) × (Nat → Nat) × (Nat → Nat)} {b Ln t : Nat} {xs : Nat → Int32} {hx hm : Hp} (C : Ok x (D, ax, rs) RL cL_law 4 ret) (X : LX x b Ln xs) (hl : Ln < 2147483648) (ht : t + 6 ≤ Ln) (hc : kc ≤ 600000 ∧ ks ≤ 7302249) (hR : R hx hm) (k : ∀ hx1 hm1, R hx1 hm1 → JA x (D, ax, rs) room_1 4 Q 1551 [some (.ref b), some (.ref (ax 0)), some (.ref (am 0)), some (.int (nI t))] [] (cwX (D, ax, rs) hx1 ++ cwM (D, am, rs) hm1) kc ks) : JA x (D, ax, rs) room_1 4 Q 702 [some (.ref b), some (.ref (ax 0)), some (.ref (am 0)), some (.int (nI t))] [] (cwX (D, ax, rs) hx ++ cwM (D, am, rs) hm) kc ks := by
  obtain ⟨r, hx1, hm1, e1, e2, hR1⟩ := o_likest (fu := 10000) (by decide) hR (xs (t + 1))
  refine a_aload_n C dL_law_702 rfl (n := 703) rfl ?_
  refine a_arg C X hl dL_law_703 dL_law_704 dL_law_705 dL_law_706 dL_law_707 (jn := 1) (by decide) (by omega) rfl rfl (n := 708) rfl ?_
  refine a_callX C mi_X7_likest ll_81 iw_X7_likest (m_X7_likest x.2.1 10000 (xs (t + 1)) hx e1) rfl rfl rfl (Nat.le_of_ble_eq_true rfl) dL_law_708 ⟨Nat.le_of_ble_eq_true rfl, Nat.le_of_ble_eq_true rfl, hc.1, hc.2⟩ (n := 711) rfl ?_
  refine a_aload_n C dL_law_711 rfl (n := 712) rfl ?_
  refine a_arg C X hl dL_law_712 dL_law_713 dL_law_714 dL_law_715 dL_law_716 (jn := 1) (by decide) (by omega) rfl rfl (n := 717) rfl ?_
  refine a_callM C mi_X8_likest ll_84 iw_X8_likest (m_X8_likest x.2.1 10000 (xs (t + 1)) hm e2) rfl rfl rfl (Nat.le_of_ble_eq_true rfl) dL_law_717 ⟨Nat.le_of_ble_eq_true rfl, Nat.le_of_ble_eq_true rfl, hc.1, hc.2⟩ (n := 720) rfl ?_
  exact a_icmp_eqT C dL_law_720 (tgt := 1551) (by decide) (k _ _ hR1)
theorem mi_X7_whom : MI yX7_whom cX7_whom 2 (some .int) 1 := ⟨gT_in (tb3 (List.mem_of_getElem? (i := 14) rfl)) rfl, gT_in (tb1 (List.mem_of_getElem? (i := 1) rfl)) rfl, by decide +kernel⟩
theorem iw_X7_whom : Cond.instanceMethod yX7_whom ∈ gT ∧ Cond.selects RX7 yX7_whom yX7_whom ∈ gT := ⟨gT_in (tb3 (List.mem_of_getElem? (i := 12) rfl)) rfl, gT_in (tb3 (List.mem_of_getElem? (i := 13) rfl)) rfl⟩
theorem mi_X8_whom : MI yX8_whom cX8_whom 4 (some .int) 1 := ⟨gT_in (tb5 (List.mem_of_getElem? (i := 215) rfl)) rfl, gT_in (tb1 (List.mem_of_getElem? (i := 9) rfl)) rfl, by decide +kernel⟩
theorem iw_X8_whom : Cond.instanceMethod yX8_whom ∈ gT ∧ Cond.selects RX8 yX8_whom yX8_whom ∈ gT := ⟨gT_in (tb5 (List.mem_of_getElem? (i := 213) rfl)) rfl, gT_in (tb5 (List.mem_of_getElem? (i := 214) rfl)) rfl⟩
theorem ll_85 : Cond.methodLink RL 85 yX7_whom ∈ gT := gT_in (tb3 (List.mem_of_getElem? (i := 11) rfl)) rfl
theorem ll_88 : Cond.methodLink RL 88 yX8_whom ∈ gT := gT_in (tb5 (List.mem_of_getElem? (i := 212) rfl)) rfl
set_option maxRecDepth 20000 in
theorem lc_17 {x : Fx} {Q : State → Prop} {ret : Option FieldType} {kc ks : Nat} {D : va_G} {ax am : Nat → Nat} {rs : (Nat → ClassId) × (Nat → Nat) × (Nat → Nat) × (Nat → Nat)} {b Ln t : Nat} {xs : Nat → Int32} {hx hm : Hp} (C : Ok x (D, ax, rs) RL cL_law 4 ret) (X : LX x b Ln xs) (hl : Ln < 2147483648) (ht : t + 6 ≤ Ln) (hc : kc ≤ 600000 ∧ ks ≤ 7302249) (hR : R hx hm) (k : ∀ hx1 hm1, R hx1 hm1 → JA x (D, ax, rs) room_1 4 Q 1551 [some (.ref b), some (.ref (ax 0)), some (.ref (am 0)), some (.int (nI t))] [] (cwX (D, ax, rs) hx1 ++ cwM (D, am, rs) hm1) kc ks) : JA x (D, ax, rs) room_1 4 Q 725 [some (.ref b), some (.ref (ax 0)), some (.ref (am 0)), some (.int (nI t))] [] (cwX (D, ax, rs) hx ++ cwM (D, am, rs) hm) kc ks := by
  obtain ⟨r, hx1, hm1, e1, e2, hR1⟩ := o_whom (fu := 10000) (by decide) hR (xs (t + 1))
  refine a_aload_n C dL_law_725 rfl (n := 726) rfl ?_
  refine a_arg C X hl dL_law_726 dL_law_727 dL_law_728 dL_law_729 dL_law_730 (jn := 1) (by decide) (by omega) rfl rfl (n := 731) rfl ?_
  refine a_callX C mi_X7_whom ll_85 iw_X7_whom (m_X7_whom x.2.1 10000 (xs (t + 1)) hx e1) rfl rfl rfl (Nat.le_of_ble_eq_true rfl) dL_law_731 ⟨Nat.le_of_ble_eq_true rfl, Nat.le_of_ble_eq_true rfl, hc.1, hc.2⟩ (n := 734) rfl ?_
  refine a_aload_n C dL_law_734 rfl (n := 735) rfl ?_
  refine a_arg C X hl dL_law_735 dL_law_736 dL_law_737 dL_law_738 dL_law_739 (jn := 1) (by decide) (by omega) rfl rfl (n := 740) rfl ?_
  refine a_callM C mi_X8_whom ll_88 iw_X8_whom (m_X8_whom x.2.1 10000 (xs (t + 1)) hm e2) rfl rfl rfl (Nat.le_of_ble_eq_true rfl) dL_law_740 ⟨Nat.le_of_ble_eq_true rfl, Nat.le_of_ble_eq_true rfl, hc.1, hc.2⟩ (n := 743) rfl ?_
  exact a_icmp_eqT C dL_law_743 (tgt := 1551) (by decide) (k _ _ hR1)
theorem mi_X7_missed : MI yX7_missed cX7_missed 2 (some .int) 1 := ⟨gT_in (tb3 (List.mem_of_getElem? (i := 22) rfl)) rfl, gT_in (tb1 (List.mem_of_getElem? (i := 1) rfl)) rfl, by decide +kernel⟩
theorem iw_X7_missed : Cond.instanceMethod yX7_missed ∈ gT ∧ Cond.selects RX7 yX7_missed yX7_missed ∈ gT := ⟨gT_in (tb3 (List.mem_of_getElem? (i := 20) rfl)) rfl, gT_in (tb3 (List.mem_of_getElem? (i := 21) rfl)) rfl⟩
theorem mi_X8_missed : MI yX8_missed cX8_missed 3 (some .int) 1 := ⟨gT_in (tb5 (List.mem_of_getElem? (i := 219) rfl)) rfl, gT_in (tb1 (List.mem_of_getElem? (i := 9) rfl)) rfl, by decide +kernel⟩
theorem iw_X8_missed : Cond.instanceMethod yX8_missed ∈ gT ∧ Cond.selects RX8 yX8_missed yX8_missed ∈ gT := ⟨gT_in (tb5 (List.mem_of_getElem? (i := 217) rfl)) rfl, gT_in (tb5 (List.mem_of_getElem? (i := 218) rfl)) rfl⟩
theorem ll_89 : Cond.methodLink RL 89 yX7_missed ∈ gT := gT_in (tb3 (List.mem_of_getElem? (i := 19) rfl)) rfl
theorem ll_92 : Cond.methodLink RL 92 yX8_missed ∈ gT := gT_in (tb5 (List.mem_of_getElem? (i := 216) rfl)) rfl
set_option maxRecDepth 20000 in
theorem lc_18 {x : Fx} {Q : State → Prop} {ret : Option FieldType} {kc ks : Nat} {D : va_G} {ax am : Nat → Nat} {rs : (Nat → ClassId) × (Nat → Nat) × (Nat → Nat) × (Nat → Nat)} {b Ln t : Nat} {xs : Nat → Int32} {hx hm : Hp} (C : Ok x (D, ax, rs) RL cL_law 4 ret) (X : LX x b Ln xs) (hl : Ln < 2147483648) (ht : t + 6 ≤ Ln) (hc : kc ≤ 600000 ∧ ks ≤ 7302249) (hR : R hx hm) (k : ∀ hx1 hm1, R hx1 hm1 → JA x (D, ax, rs) room_1 4 Q 1551 [some (.ref b), some (.ref (ax 0)), some (.ref (am 0)), some (.int (nI t))] [] (cwX (D, ax, rs) hx1 ++ cwM (D, am, rs) hm1) kc ks) : JA x (D, ax, rs) room_1 4 Q 748 [some (.ref b), some (.ref (ax 0)), some (.ref (am 0)), some (.int (nI t))] [] (cwX (D, ax, rs) hx ++ cwM (D, am, rs) hm) kc ks := by
  obtain ⟨r, hx1, hm1, e1, e2, hR1⟩ := o_missed (fu := 10000) (by decide) hR (xs (t + 1))
  refine a_aload_n C dL_law_748 rfl (n := 749) rfl ?_
  refine a_arg C X hl dL_law_749 dL_law_750 dL_law_751 dL_law_752 dL_law_753 (jn := 1) (by decide) (by omega) rfl rfl (n := 754) rfl ?_
  refine a_callX C mi_X7_missed ll_89 iw_X7_missed (m_X7_missed x.2.1 10000 (xs (t + 1)) hx e1) rfl rfl rfl (Nat.le_of_ble_eq_true rfl) dL_law_754 ⟨Nat.le_of_ble_eq_true rfl, Nat.le_of_ble_eq_true rfl, hc.1, hc.2⟩ (n := 757) rfl ?_
  refine a_aload_n C dL_law_757 rfl (n := 758) rfl ?_
  refine a_arg C X hl dL_law_758 dL_law_759 dL_law_760 dL_law_761 dL_law_762 (jn := 1) (by decide) (by omega) rfl rfl (n := 763) rfl ?_
  refine a_callM C mi_X8_missed ll_92 iw_X8_missed (m_X8_missed x.2.1 10000 (xs (t + 1)) hm e2) rfl rfl rfl (Nat.le_of_ble_eq_true rfl) dL_law_763 ⟨Nat.le_of_ble_eq_true rfl, Nat.le_of_ble_eq_true rfl, hc.1, hc.2⟩ (n := 766) rfl ?_
  exact a_icmp_eqT C dL_law_766 (tgt := 1551) (by decide) (k _ _ hR1)
theorem mi_X7_recast : MI yX7_recast cX7_recast 2 (some .int) 1 := ⟨gT_in (tb3 (List.mem_of_getElem? (i := 30) rfl)) rfl, gT_in (tb1 (List.mem_of_getElem? (i := 1) rfl)) rfl, by decide +kernel⟩
theorem iw_X7_recast : Cond.instanceMethod yX7_recast ∈ gT ∧ Cond.selects RX7 yX7_recast yX7_recast ∈ gT := ⟨gT_in (tb3 (List.mem_of_getElem? (i := 28) rfl)) rfl, gT_in (tb3 (List.mem_of_getElem? (i := 29) rfl)) rfl⟩
theorem mi_X8_recast : MI yX8_recast cX8_recast 2 (some .int) 1 := ⟨gT_in (tb5 (List.mem_of_getElem? (i := 223) rfl)) rfl, gT_in (tb1 (List.mem_of_getElem? (i := 9) rfl)) rfl, by decide +kernel⟩
theorem iw_X8_recast : Cond.instanceMethod yX8_recast ∈ gT ∧ Cond.selects RX8 yX8_recast yX8_recast ∈ gT := ⟨gT_in (tb5 (List.mem_of_getElem? (i := 221) rfl)) rfl, gT_in (tb5 (List.mem_of_getElem? (i := 222) rfl)) rfl⟩
theorem ll_93 : Cond.methodLink RL 93 yX7_recast ∈ gT := gT_in (tb3 (List.mem_of_getElem? (i := 27) rfl)) rfl
theorem ll_96 : Cond.methodLink RL 96 yX8_recast ∈ gT := gT_in (tb5 (List.mem_of_getElem? (i := 220) rfl)) rfl
set_option maxRecDepth 20000 in
theorem lc_19 {x : Fx} {Q : State → Prop} {ret : Option FieldType} {kc ks : Nat} {D : va_G} {ax am : Nat → Nat} {rs : (Nat → ClassId) × (Nat → Nat) × (Nat → Nat) × (Nat → Nat)} {b Ln t : Nat} {xs : Nat → Int32} {hx hm : Hp} (C : Ok x (D, ax, rs) RL cL_law 4 ret) (X : LX x b Ln xs) (hl : Ln < 2147483648) (ht : t + 6 ≤ Ln) (hc : kc ≤ 600000 ∧ ks ≤ 7302249) (hR : R hx hm) (k : ∀ hx1 hm1, R hx1 hm1 → JA x (D, ax, rs) room_1 4 Q 1551 [some (.ref b), some (.ref (ax 0)), some (.ref (am 0)), some (.int (nI t))] [] (cwX (D, ax, rs) hx1 ++ cwM (D, am, rs) hm1) kc ks) : JA x (D, ax, rs) room_1 4 Q 771 [some (.ref b), some (.ref (ax 0)), some (.ref (am 0)), some (.int (nI t))] [] (cwX (D, ax, rs) hx ++ cwM (D, am, rs) hm) kc ks := by
  obtain ⟨r, hx1, hm1, e1, e2, hR1⟩ := o_recast (fu := 10000) (by decide) hR (xs (t + 1))
  refine a_aload_n C dL_law_771 rfl (n := 772) rfl ?_
  refine a_arg C X hl dL_law_772 dL_law_773 dL_law_774 dL_law_775 dL_law_776 (jn := 1) (by decide) (by omega) rfl rfl (n := 777) rfl ?_
  refine a_callX C mi_X7_recast ll_93 iw_X7_recast (m_X7_recast x.2.1 10000 (xs (t + 1)) hx e1) rfl rfl rfl (Nat.le_of_ble_eq_true rfl) dL_law_777 ⟨Nat.le_of_ble_eq_true rfl, Nat.le_of_ble_eq_true rfl, hc.1, hc.2⟩ (n := 780) rfl ?_
  refine a_aload_n C dL_law_780 rfl (n := 781) rfl ?_
  refine a_arg C X hl dL_law_781 dL_law_782 dL_law_783 dL_law_784 dL_law_785 (jn := 1) (by decide) (by omega) rfl rfl (n := 786) rfl ?_
  refine a_callM C mi_X8_recast ll_96 iw_X8_recast (m_X8_recast x.2.1 10000 (xs (t + 1)) hm e2) rfl rfl rfl (Nat.le_of_ble_eq_true rfl) dL_law_786 ⟨Nat.le_of_ble_eq_true rfl, Nat.le_of_ble_eq_true rfl, hc.1, hc.2⟩ (n := 789) rfl ?_
  exact a_icmp_eqT C dL_law_789 (tgt := 1551) (by decide) (k _ _ hR1)
theorem mi_X7_kindFor : MI yX7_kindFor cX7_kindFor 2 (some .int) 1 := ⟨gT_in (tb3 (List.mem_of_getElem? (i := 46) rfl)) rfl, gT_in (tb1 (List.mem_of_getElem? (i := 1) rfl)) rfl, by decide +kernel⟩
theorem iw_X7_kindFor : Cond.instanceMethod yX7_kindFor ∈ gT ∧ Cond.selects RX7 yX7_kindFor yX7_kindFor ∈ gT := ⟨gT_in (tb3 (List.mem_of_getElem? (i := 44) rfl)) rfl, gT_in (tb3 (List.mem_of_getElem? (i := 45) rfl)) rfl⟩
theorem mi_X8_kindFor : MI yX8_kindFor cX8_kindFor 2 (some .int) 1 := ⟨gT_in (tb5 (List.mem_of_getElem? (i := 232) rfl)) rfl, gT_in (tb1 (List.mem_of_getElem? (i := 9) rfl)) rfl, by decide +kernel⟩
theorem iw_X8_kindFor : Cond.instanceMethod yX8_kindFor ∈ gT ∧ Cond.selects RX8 yX8_kindFor yX8_kindFor ∈ gT := ⟨gT_in (tb5 (List.mem_of_getElem? (i := 230) rfl)) rfl, gT_in (tb5 (List.mem_of_getElem? (i := 231) rfl)) rfl⟩
theorem ll_97 : Cond.methodLink RL 97 yX7_kindFor ∈ gT := gT_in (tb3 (List.mem_of_getElem? (i := 43) rfl)) rfl
theorem ll_100 : Cond.methodLink RL 100 yX8_kindFor ∈ gT := gT_in (tb5 (List.mem_of_getElem? (i := 229) rfl)) rfl
set_option maxRecDepth 20000 in
theorem lc_20 {x : Fx} {Q : State → Prop} {ret : Option FieldType} {kc ks : Nat} {D : va_G} {ax am : Nat → Nat} {rs : (Nat → ClassId) × (Nat → Nat) × (Nat → Nat) × (Nat → Nat)} {b Ln t : Nat} {xs : Nat → Int32} {hx hm : Hp} (C : Ok x (D, ax, rs) RL cL_law 4 ret) (X : LX x b Ln xs) (hl : Ln < 2147483648) (ht : t + 6 ≤ Ln) (hc : kc ≤ 600000 ∧ ks ≤ 7302249) (hR : R hx hm) (k : ∀ hx1 hm1, R hx1 hm1 → JA x (D, ax, rs) room_1 4 Q 1551 [some (.ref b), some (.ref (ax 0)), some (.ref (am 0)), some (.int (nI t))] [] (cwX (D, ax, rs) hx1 ++ cwM (D, am, rs) hm1) kc ks) : JA x (D, ax, rs) room_1 4 Q 794 [some (.ref b), some (.ref (ax 0)), some (.ref (am 0)), some (.int (nI t))] [] (cwX (D, ax, rs) hx ++ cwM (D, am, rs) hm) kc ks := by
  obtain ⟨r, hx1, hm1, e1, e2, hR1⟩ := o_kindFor (fu := 10000) (by decide) hR (xs (t + 1))
  refine a_aload_n C dL_law_794 rfl (n := 795) rfl ?_
  refine a_arg C X hl dL_law_795 dL_law_796 dL_law_797 dL_law_798 dL_law_799 (jn := 1) (by decide) (by omega) rfl rfl (n := 800) rfl ?_
  refine a_callX C mi_X7_kindFor ll_97 iw_X7_kindFor (m_X7_kindFor x.2.1 10000 (xs (t + 1)) hx e1) rfl rfl rfl (Nat.le_of_ble_eq_true rfl) dL_law_800 ⟨Nat.le_of_ble_eq_true rfl, Nat.le_of_ble_eq_true rfl, hc.1, hc.2⟩ (n := 803) rfl ?_
  refine a_aload_n C dL_law_803 rfl (n := 804) rfl ?_
  refine a_arg C X hl dL_law_804 dL_law_805 dL_law_806 dL_law_807 dL_law_808 (jn := 1) (by decide) (by omega) rfl rfl (n := 809) rfl ?_
  refine a_callM C mi_X8_kindFor ll_100 iw_X8_kindFor (m_X8_kindFor x.2.1 10000 (xs (t + 1)) hm e2) rfl rfl rfl (Nat.le_of_ble_eq_true rfl) dL_law_809 ⟨Nat.le_of_ble_eq_true rfl, Nat.le_of_ble_eq_true rfl, hc.1, hc.2⟩ (n := 812) rfl ?_
  exact a_icmp_eqT C dL_law_812 (tgt := 1551) (by decide) (k _ _ hR1)
theorem mi_X7_unseen : MI yX7_unseen cX7_unseen 4 (some .int) 2 := ⟨gT_in (tb3 (List.mem_of_getElem? (i := 54) rfl)) rfl, gT_in (tb1 (List.mem_of_getElem? (i := 1) rfl)) rfl, by decide +kernel⟩
theorem iw_X7_unseen : Cond.instanceMethod yX7_unseen ∈ gT ∧ Cond.selects RX7 yX7_unseen yX7_unseen ∈ gT := ⟨gT_in (tb3 (List.mem_of_getElem? (i := 52) rfl)) rfl, gT_in (tb3 (List.mem_of_getElem? (i := 53) rfl)) rfl⟩
theorem mi_X8_unseen : MI yX8_unseen cX8_unseen 5 (some .int) 2 := ⟨gT_in (tb5 (List.mem_of_getElem? (i := 236) rfl)) rfl, gT_in (tb1 (List.mem_of_getElem? (i := 9) rfl)) rfl, by decide +kernel⟩
theorem iw_X8_unseen : Cond.instanceMethod yX8_unseen ∈ gT ∧ Cond.selects RX8 yX8_unseen yX8_unseen ∈ gT := ⟨gT_in (tb5 (List.mem_of_getElem? (i := 234) rfl)) rfl, gT_in (tb5 (List.mem_of_getElem? (i := 235) rfl)) rfl⟩
theorem ll_101 : Cond.methodLink RL 101 yX7_unseen ∈ gT := gT_in (tb3 (List.mem_of_getElem? (i := 51) rfl)) rfl
theorem ll_104 : Cond.methodLink RL 104 yX8_unseen ∈ gT := gT_in (tb5 (List.mem_of_getElem? (i := 233) rfl)) rfl
set_option maxRecDepth 20000 in
theorem lc_21 {x : Fx} {Q : State → Prop} {ret : Option FieldType} {kc ks : Nat} {D : va_G} {ax am : Nat → Nat} {rs : (Nat → ClassId) × (Nat → Nat) × (Nat → Nat) × (Nat → Nat)} {b Ln t : Nat} {xs : Nat → Int32} {hx hm : Hp} (C : Ok x (D, ax, rs) RL cL_law 4 ret) (X : LX x b Ln xs) (hl : Ln < 2147483648) (ht : t + 6 ≤ Ln) (hc : kc ≤ 600000 ∧ ks ≤ 7302249) (hR : R hx hm) (k : ∀ hx1 hm1, R hx1 hm1 → JA x (D, ax, rs) room_1 4 Q 1551 [some (.ref b), some (.ref (ax 0)), some (.ref (am 0)), some (.int (nI t))] [] (cwX (D, ax, rs) hx1 ++ cwM (D, am, rs) hm1) kc ks) : JA x (D, ax, rs) room_1 4 Q 817 [some (.ref b), some (.ref (ax 0)), some (.ref (am 0)), some (.int (nI t))] [] (cwX (D, ax, rs) hx ++ cwM (D, am, rs) hm) kc ks := by
  obtain ⟨r, hx1, hm1, e1, e2, hR1⟩ := o_unseen (fu := 10000) (by decide) hR (xs (t + 1)) (xs (t + 2))
  refine a_aload_n C dL_law_817 rfl (n := 818) rfl ?_
  refine a_arg C X hl dL_law_818 dL_law_819 dL_law_820 dL_law_821 dL_law_822 (jn := 1) (by decide) (by omega) rfl rfl (n := 823) rfl ?_
  refine a_arg C X hl dL_law_823 dL_law_824 dL_law_825 dL_law_826 dL_law_827 (jn := 2) (by decide) (by omega) rfl rfl (n := 828) rfl ?_
  refine a_callX C mi_X7_unseen ll_101 iw_X7_unseen (m_X7_unseen x.2.1 10000 (xs (t + 1)) (xs (t + 2)) hx e1) rfl rfl rfl (Nat.le_of_ble_eq_true rfl) dL_law_828 ⟨Nat.le_of_ble_eq_true rfl, Nat.le_of_ble_eq_true rfl, hc.1, hc.2⟩ (n := 831) rfl ?_
  refine a_aload_n C dL_law_831 rfl (n := 832) rfl ?_
  refine a_arg C X hl dL_law_832 dL_law_833 dL_law_834 dL_law_835 dL_law_836 (jn := 1) (by decide) (by omega) rfl rfl (n := 837) rfl ?_
  refine a_arg C X hl dL_law_837 dL_law_838 dL_law_839 dL_law_840 dL_law_841 (jn := 2) (by decide) (by omega) rfl rfl (n := 842) rfl ?_
  refine a_callM C mi_X8_unseen ll_104 iw_X8_unseen (m_X8_unseen x.2.1 10000 (xs (t + 1)) (xs (t + 2)) hm e2) rfl rfl rfl (Nat.le_of_ble_eq_true rfl) dL_law_842 ⟨Nat.le_of_ble_eq_true rfl, Nat.le_of_ble_eq_true rfl, hc.1, hc.2⟩ (n := 845) rfl ?_
  exact a_icmp_eqT C dL_law_845 (tgt := 1551) (by decide) (k _ _ hR1)
theorem mi_X7_hidden : MI yX7_hidden cX7_hidden 4 (some .int) 1 := ⟨gT_in (tb3 (List.mem_of_getElem? (i := 63) rfl)) rfl, gT_in (tb1 (List.mem_of_getElem? (i := 1) rfl)) rfl, by decide +kernel⟩
theorem iw_X7_hidden : Cond.instanceMethod yX7_hidden ∈ gT ∧ Cond.selects RX7 yX7_hidden yX7_hidden ∈ gT := ⟨gT_in (tb3 (List.mem_of_getElem? (i := 61) rfl)) rfl, gT_in (tb3 (List.mem_of_getElem? (i := 62) rfl)) rfl⟩
theorem mi_X8_hidden : MI yX8_hidden cX8_hidden 4 (some .int) 1 := ⟨gT_in (tb6 (List.mem_of_getElem? (i := 11) rfl)) rfl, gT_in (tb1 (List.mem_of_getElem? (i := 9) rfl)) rfl, by decide +kernel⟩
theorem iw_X8_hidden : Cond.instanceMethod yX8_hidden ∈ gT ∧ Cond.selects RX8 yX8_hidden yX8_hidden ∈ gT := ⟨gT_in (tb6 (List.mem_of_getElem? (i := 9) rfl)) rfl, gT_in (tb6 (List.mem_of_getElem? (i := 10) rfl)) rfl⟩
theorem ll_105 : Cond.methodLink RL 105 yX7_hidden ∈ gT := gT_in (tb3 (List.mem_of_getElem? (i := 60) rfl)) rfl
theorem ll_108 : Cond.methodLink RL 108 yX8_hidden ∈ gT := gT_in (tb6 (List.mem_of_getElem? (i := 8) rfl)) rfl
set_option maxRecDepth 20000 in
theorem lc_22 {x : Fx} {Q : State → Prop} {ret : Option FieldType} {kc ks : Nat} {D : va_G} {ax am : Nat → Nat} {rs : (Nat → ClassId) × (Nat → Nat) × (Nat → Nat) × (Nat → Nat)} {b Ln t : Nat} {xs : Nat → Int32} {hx hm : Hp} (C : Ok x (D, ax, rs) RL cL_law 4 ret) (X : LX x b Ln xs) (hl : Ln < 2147483648) (ht : t + 6 ≤ Ln) (hc : kc ≤ 600000 ∧ ks ≤ 7302249) (hR : R hx hm) (k : ∀ hx1 hm1, R hx1 hm1 → JA x (D, ax, rs) room_1 4 Q 1551 [some (.ref b), some (.ref (ax 0)), some (.ref (am 0)), some (.int (nI t))] [] (cwX (D, ax, rs) hx1 ++ cwM (D, am, rs) hm1) kc ks) : JA x (D, ax, rs) room_1 4 Q 850 [some (.ref b), some (.ref (ax 0)), some (.ref (am 0)), some (.int (nI t))] [] (cwX (D, ax, rs) hx ++ cwM (D, am, rs) hm) kc ks := by
  obtain ⟨r, hx1, hm1, e1, e2, hR1⟩ := o_hidden (fu := 10000) (by decide) hR (xs (t + 1))
  refine a_aload_n C dL_law_850 rfl (n := 851) rfl ?_
  refine a_arg C X hl dL_law_851 dL_law_852 dL_law_853 dL_law_854 dL_law_855 (jn := 1) (by decide) (by omega) rfl rfl (n := 856) rfl ?_
  refine a_callX C mi_X7_hidden ll_105 iw_X7_hidden (m_X7_hidden x.2.1 10000 (xs (t + 1)) hx e1) rfl rfl rfl (Nat.le_of_ble_eq_true rfl) dL_law_856 ⟨Nat.le_of_ble_eq_true rfl, Nat.le_of_ble_eq_true rfl, hc.1, hc.2⟩ (n := 859) rfl ?_
  refine a_aload_n C dL_law_859 rfl (n := 860) rfl ?_
  refine a_arg C X hl dL_law_860 dL_law_861 dL_law_862 dL_law_863 dL_law_864 (jn := 1) (by decide) (by omega) rfl rfl (n := 865) rfl ?_
  refine a_callM C mi_X8_hidden ll_108 iw_X8_hidden (m_X8_hidden x.2.1 10000 (xs (t + 1)) hm e2) rfl rfl rfl (Nat.le_of_ble_eq_true rfl) dL_law_865 ⟨Nat.le_of_ble_eq_true rfl, Nat.le_of_ble_eq_true rfl, hc.1, hc.2⟩ (n := 868) rfl ?_
  exact a_icmp_eqT C dL_law_868 (tgt := 1551) (by decide) (k _ _ hR1)
theorem mi_X7_empty : MI yX7_empty cX7_empty 1 (some .int) 0 := ⟨gT_in (tb3 (List.mem_of_getElem? (i := 67) rfl)) rfl, gT_in (tb1 (List.mem_of_getElem? (i := 1) rfl)) rfl, by decide +kernel⟩
theorem iw_X7_empty : Cond.instanceMethod yX7_empty ∈ gT ∧ Cond.selects RX7 yX7_empty yX7_empty ∈ gT := ⟨gT_in (tb3 (List.mem_of_getElem? (i := 65) rfl)) rfl, gT_in (tb3 (List.mem_of_getElem? (i := 66) rfl)) rfl⟩
theorem mi_X8_empty : MI yX8_empty cX8_empty 3 (some .int) 0 := ⟨gT_in (tb6 (List.mem_of_getElem? (i := 15) rfl)) rfl, gT_in (tb1 (List.mem_of_getElem? (i := 9) rfl)) rfl, by decide +kernel⟩
theorem iw_X8_empty : Cond.instanceMethod yX8_empty ∈ gT ∧ Cond.selects RX8 yX8_empty yX8_empty ∈ gT := ⟨gT_in (tb6 (List.mem_of_getElem? (i := 13) rfl)) rfl, gT_in (tb6 (List.mem_of_getElem? (i := 14) rfl)) rfl⟩
theorem ll_109 : Cond.methodLink RL 109 yX7_empty ∈ gT := gT_in (tb3 (List.mem_of_getElem? (i := 64) rfl)) rfl
theorem ll_112 : Cond.methodLink RL 112 yX8_empty ∈ gT := gT_in (tb6 (List.mem_of_getElem? (i := 12) rfl)) rfl
set_option maxRecDepth 20000 in
theorem lc_23 {x : Fx} {Q : State → Prop} {ret : Option FieldType} {kc ks : Nat} {D : va_G} {ax am : Nat → Nat} {rs : (Nat → ClassId) × (Nat → Nat) × (Nat → Nat) × (Nat → Nat)} {b Ln t : Nat} {xs : Nat → Int32} {hx hm : Hp} (C : Ok x (D, ax, rs) RL cL_law 4 ret) (X : LX x b Ln xs) (hl : Ln < 2147483648) (ht : t + 6 ≤ Ln) (hc : kc ≤ 600000 ∧ ks ≤ 7302249) (hR : R hx hm) (k : ∀ hx1 hm1, R hx1 hm1 → JA x (D, ax, rs) room_1 4 Q 1551 [some (.ref b), some (.ref (ax 0)), some (.ref (am 0)), some (.int (nI t))] [] (cwX (D, ax, rs) hx1 ++ cwM (D, am, rs) hm1) kc ks) : JA x (D, ax, rs) room_1 4 Q 873 [some (.ref b), some (.ref (ax 0)), some (.ref (am 0)), some (.int (nI t))] [] (cwX (D, ax, rs) hx ++ cwM (D, am, rs) hm) kc ks := by
  obtain ⟨r, e1, e2⟩ := o_empty (fu := 10000) (by decide) hR
  have hR1 := hR
  refine a_aload_n C dL_law_873 rfl (n := 874) rfl ?_
  refine a_callX C mi_X7_empty ll_109 iw_X7_empty (m_X7_empty x.2.1 10000 hx e1) rfl rfl rfl (Nat.le_of_ble_eq_true rfl) dL_law_874 ⟨Nat.le_of_ble_eq_true rfl, Nat.le_of_ble_eq_true rfl, hc.1, hc.2⟩ (n := 877) rfl ?_
  refine a_aload_n C dL_law_877 rfl (n := 878) rfl ?_
  refine a_callM C mi_X8_empty ll_112 iw_X8_empty (m_X8_empty x.2.1 10000 hm e2) rfl rfl rfl (Nat.le_of_ble_eq_true rfl) dL_law_878 ⟨Nat.le_of_ble_eq_true rfl, Nat.le_of_ble_eq_true rfl, hc.1, hc.2⟩ (n := 881) rfl ?_
  exact a_icmp_eqT C dL_law_881 (tgt := 1551) (by decide) (k _ _ hR1)
theorem mi_X7_worth : MI yX7_worth cX7_worth 6 (some .int) 2 := ⟨gT_in (tb3 (List.mem_of_getElem? (i := 75) rfl)) rfl, gT_in (tb1 (List.mem_of_getElem? (i := 1) rfl)) rfl, by decide +kernel⟩
theorem iw_X7_worth : Cond.instanceMethod yX7_worth ∈ gT ∧ Cond.selects RX7 yX7_worth yX7_worth ∈ gT := ⟨gT_in (tb3 (List.mem_of_getElem? (i := 73) rfl)) rfl, gT_in (tb3 (List.mem_of_getElem? (i := 74) rfl)) rfl⟩
theorem mi_X8_worth : MI yX8_worth cX8_worth 6 (some .int) 2 := ⟨gT_in (tb6 (List.mem_of_getElem? (i := 19) rfl)) rfl, gT_in (tb1 (List.mem_of_getElem? (i := 9) rfl)) rfl, by decide +kernel⟩
theorem iw_X8_worth : Cond.instanceMethod yX8_worth ∈ gT ∧ Cond.selects RX8 yX8_worth yX8_worth ∈ gT := ⟨gT_in (tb6 (List.mem_of_getElem? (i := 17) rfl)) rfl, gT_in (tb6 (List.mem_of_getElem? (i := 18) rfl)) rfl⟩
theorem ll_113 : Cond.methodLink RL 113 yX7_worth ∈ gT := gT_in (tb3 (List.mem_of_getElem? (i := 72) rfl)) rfl
theorem ll_116 : Cond.methodLink RL 116 yX8_worth ∈ gT := gT_in (tb6 (List.mem_of_getElem? (i := 16) rfl)) rfl
set_option maxRecDepth 20000 in
theorem lc_24 {x : Fx} {Q : State → Prop} {ret : Option FieldType} {kc ks : Nat} {D : va_G} {ax am : Nat → Nat} {rs : (Nat → ClassId) × (Nat → Nat) × (Nat → Nat) × (Nat → Nat)} {b Ln t : Nat} {xs : Nat → Int32} {hx hm : Hp} (C : Ok x (D, ax, rs) RL cL_law 4 ret) (X : LX x b Ln xs) (hl : Ln < 2147483648) (ht : t + 6 ≤ Ln) (hc : kc ≤ 600000 ∧ ks ≤ 7302249) (hR : R hx hm) (k : ∀ hx1 hm1, R hx1 hm1 → JA x (D, ax, rs) room_1 4 Q 1551 [some (.ref b), some (.ref (ax 0)), some (.ref (am 0)), some (.int (nI t))] [] (cwX (D, ax, rs) hx1 ++ cwM (D, am, rs) hm1) kc ks) : JA x (D, ax, rs) room_1 4 Q 886 [some (.ref b), some (.ref (ax 0)), some (.ref (am 0)), some (.int (nI t))] [] (cwX (D, ax, rs) hx ++ cwM (D, am, rs) hm) kc ks := by
  obtain ⟨r, hx1, hm1, e1, e2, hR1⟩ := o_worth (fu := 10000) (by decide) hR (xs (t + 1)) (xs (t + 2))
  refine a_aload_n C dL_law_886 rfl (n := 887) rfl ?_
  refine a_arg C X hl dL_law_887 dL_law_888 dL_law_889 dL_law_890 dL_law_891 (jn := 1) (by decide) (by omega) rfl rfl (n := 892) rfl ?_
  refine a_arg C X hl dL_law_892 dL_law_893 dL_law_894 dL_law_895 dL_law_896 (jn := 2) (by decide) (by omega) rfl rfl (n := 897) rfl ?_
  refine a_callX C mi_X7_worth ll_113 iw_X7_worth (m_X7_worth x.2.1 10000 (xs (t + 1)) (xs (t + 2)) hx e1) rfl rfl rfl (Nat.le_of_ble_eq_true rfl) dL_law_897 ⟨Nat.le_of_ble_eq_true rfl, Nat.le_of_ble_eq_true rfl, hc.1, hc.2⟩ (n := 900) rfl ?_
  refine a_aload_n C dL_law_900 rfl (n := 901) rfl ?_
  refine a_arg C X hl dL_law_901 dL_law_902 dL_law_903 dL_law_904 dL_law_905 (jn := 1) (by decide) (by omega) rfl rfl (n := 906) rfl ?_
  refine a_arg C X hl dL_law_906 dL_law_907 dL_law_908 dL_law_909 dL_law_910 (jn := 2) (by decide) (by omega) rfl rfl (n := 911) rfl ?_
  refine a_callM C mi_X8_worth ll_116 iw_X8_worth (m_X8_worth x.2.1 10000 (xs (t + 1)) (xs (t + 2)) hm e2) rfl rfl rfl (Nat.le_of_ble_eq_true rfl) dL_law_911 ⟨Nat.le_of_ble_eq_true rfl, Nat.le_of_ble_eq_true rfl, hc.1, hc.2⟩ (n := 914) rfl ?_
  exact a_icmp_eqT C dL_law_914 (tgt := 1551) (by decide) (k _ _ hR1)
theorem mi_X7_next : MI yX7_next cX7_next 5 (some .int) 0 := ⟨gT_in (tb3 (List.mem_of_getElem? (i := 90) rfl)) rfl, gT_in (tb1 (List.mem_of_getElem? (i := 1) rfl)) rfl, by decide +kernel⟩
theorem iw_X7_next : Cond.instanceMethod yX7_next ∈ gT ∧ Cond.selects RX7 yX7_next yX7_next ∈ gT := ⟨gT_in (tb3 (List.mem_of_getElem? (i := 88) rfl)) rfl, gT_in (tb3 (List.mem_of_getElem? (i := 89) rfl)) rfl⟩
theorem mi_X8_next : MI yX8_next cX8_next 3 (some .int) 0 := ⟨gT_in (tb6 (List.mem_of_getElem? (i := 34) rfl)) rfl, gT_in (tb1 (List.mem_of_getElem? (i := 9) rfl)) rfl, by decide +kernel⟩
theorem iw_X8_next : Cond.instanceMethod yX8_next ∈ gT ∧ Cond.selects RX8 yX8_next yX8_next ∈ gT := ⟨gT_in (tb6 (List.mem_of_getElem? (i := 32) rfl)) rfl, gT_in (tb6 (List.mem_of_getElem? (i := 33) rfl)) rfl⟩
theorem ll_117 : Cond.methodLink RL 117 yX7_next ∈ gT := gT_in (tb3 (List.mem_of_getElem? (i := 87) rfl)) rfl
theorem ll_120 : Cond.methodLink RL 120 yX8_next ∈ gT := gT_in (tb6 (List.mem_of_getElem? (i := 31) rfl)) rfl
set_option maxRecDepth 20000 in
theorem lc_25 {x : Fx} {Q : State → Prop} {ret : Option FieldType} {kc ks : Nat} {D : va_G} {ax am : Nat → Nat} {rs : (Nat → ClassId) × (Nat → Nat) × (Nat → Nat) × (Nat → Nat)} {b Ln t : Nat} {xs : Nat → Int32} {hx hm : Hp} (C : Ok x (D, ax, rs) RL cL_law 4 ret) (X : LX x b Ln xs) (hl : Ln < 2147483648) (ht : t + 6 ≤ Ln) (hc : kc ≤ 600000 ∧ ks ≤ 7302249) (hR : R hx hm) (k : ∀ hx1 hm1, R hx1 hm1 → JA x (D, ax, rs) room_1 4 Q 1551 [some (.ref b), some (.ref (ax 0)), some (.ref (am 0)), some (.int (nI t))] [] (cwX (D, ax, rs) hx1 ++ cwM (D, am, rs) hm1) kc ks) : JA x (D, ax, rs) room_1 4 Q 919 [some (.ref b), some (.ref (ax 0)), some (.ref (am 0)), some (.int (nI t))] [] (cwX (D, ax, rs) hx ++ cwM (D, am, rs) hm) kc ks := by
  obtain ⟨r, hx1, hm1, e1, e2, hR1⟩ := o_next (fu := 10000) (by decide) hR
  refine a_aload_n C dL_law_919 rfl (n := 920) rfl ?_
  refine a_callX C mi_X7_next ll_117 iw_X7_next (m_X7_next x.2.1 10000 hx e1) rfl rfl rfl (Nat.le_of_ble_eq_true rfl) dL_law_920 ⟨Nat.le_of_ble_eq_true rfl, Nat.le_of_ble_eq_true rfl, hc.1, hc.2⟩ (n := 923) rfl ?_
  refine a_aload_n C dL_law_923 rfl (n := 924) rfl ?_
  refine a_callM C mi_X8_next ll_120 iw_X8_next (m_X8_next x.2.1 10000 hm e2) rfl rfl rfl (Nat.le_of_ble_eq_true rfl) dL_law_924 ⟨Nat.le_of_ble_eq_true rfl, Nat.le_of_ble_eq_true rfl, hc.1, hc.2⟩ (n := 927) rfl ?_
  exact a_icmp_eqT C dL_law_927 (tgt := 1551) (by decide) (k _ _ hR1)
theorem mi_X7_mould : MI yX7_mould cX7_mould 2 (some .int) 1 := ⟨gT_in (tb3 (List.mem_of_getElem? (i := 94) rfl)) rfl, gT_in (tb1 (List.mem_of_getElem? (i := 1) rfl)) rfl, by decide +kernel⟩
theorem iw_X7_mould : Cond.instanceMethod yX7_mould ∈ gT ∧ Cond.selects RX7 yX7_mould yX7_mould ∈ gT := ⟨gT_in (tb3 (List.mem_of_getElem? (i := 92) rfl)) rfl, gT_in (tb3 (List.mem_of_getElem? (i := 93) rfl)) rfl⟩
theorem mi_X8_mould : MI yX8_mould cX8_mould 2 (some .int) 1 := ⟨gT_in (tb6 (List.mem_of_getElem? (i := 38) rfl)) rfl, gT_in (tb1 (List.mem_of_getElem? (i := 9) rfl)) rfl, by decide +kernel⟩
theorem iw_X8_mould : Cond.instanceMethod yX8_mould ∈ gT ∧ Cond.selects RX8 yX8_mould yX8_mould ∈ gT := ⟨gT_in (tb6 (List.mem_of_getElem? (i := 36) rfl)) rfl, gT_in (tb6 (List.mem_of_getElem? (i := 37) rfl)) rfl⟩
theorem ll_121 : Cond.methodLink RL 121 yX7_mould ∈ gT := gT_in (tb3 (List.mem_of_getElem? (i := 91) rfl)) rfl
theorem ll_124 : Cond.methodLink RL 124 yX8_mould ∈ gT := gT_in (tb6 (List.mem_of_getElem? (i := 35) rfl)) rfl
set_option maxRecDepth 20000 in
theorem lc_26 {x : Fx} {Q : State → Prop} {ret : Option FieldType} {kc ks : Nat} {D : va_G} {ax am : Nat → Nat} {rs : (Nat → ClassId) × (Nat → Nat) × (Nat → Nat) × (Nat → Nat)} {b Ln t : Nat} {xs : Nat → Int32} {hx hm : Hp} (C : Ok x (D, ax, rs) RL cL_law 4 ret) (X : LX x b Ln xs) (hl : Ln < 2147483648) (ht : t + 6 ≤ Ln) (hc : kc ≤ 600000 ∧ ks ≤ 7302249) (hR : R hx hm) (k : ∀ hx1 hm1, R hx1 hm1 → JA x (D, ax, rs) room_1 4 Q 1551 [some (.ref b), some (.ref (ax 0)), some (.ref (am 0)), some (.int (nI t))] [] (cwX (D, ax, rs) hx1 ++ cwM (D, am, rs) hm1) kc ks) : JA x (D, ax, rs) room_1 4 Q 932 [some (.ref b), some (.ref (ax 0)), some (.ref (am 0)), some (.int (nI t))] [] (cwX (D, ax, rs) hx ++ cwM (D, am, rs) hm) kc ks := by
  obtain ⟨r, hx1, hm1, e1, e2, hR1⟩ := o_mould (fu := 10000) (by decide) hR (xs (t + 1))
  refine a_aload_n C dL_law_932 rfl (n := 933) rfl ?_
  refine a_arg C X hl dL_law_933 dL_law_934 dL_law_935 dL_law_936 dL_law_937 (jn := 1) (by decide) (by omega) rfl rfl (n := 938) rfl ?_
  refine a_callX C mi_X7_mould ll_121 iw_X7_mould (m_X7_mould x.2.1 10000 (xs (t + 1)) hx e1) rfl rfl rfl (Nat.le_of_ble_eq_true rfl) dL_law_938 ⟨Nat.le_of_ble_eq_true rfl, Nat.le_of_ble_eq_true rfl, hc.1, hc.2⟩ (n := 941) rfl ?_
  refine a_aload_n C dL_law_941 rfl (n := 942) rfl ?_
  refine a_arg C X hl dL_law_942 dL_law_943 dL_law_944 dL_law_945 dL_law_946 (jn := 1) (by decide) (by omega) rfl rfl (n := 947) rfl ?_
  refine a_callM C mi_X8_mould ll_124 iw_X8_mould (m_X8_mould x.2.1 10000 (xs (t + 1)) hm e2) rfl rfl rfl (Nat.le_of_ble_eq_true rfl) dL_law_947 ⟨Nat.le_of_ble_eq_true rfl, Nat.le_of_ble_eq_true rfl, hc.1, hc.2⟩ (n := 950) rfl ?_
  exact a_icmp_eqT C dL_law_950 (tgt := 1551) (by decide) (k _ _ hR1)
theorem mi_X7_cuts : MI yX7_cuts cX7_cuts 2 (some .int) 1 := ⟨gT_in (tb3 (List.mem_of_getElem? (i := 107) rfl)) rfl, gT_in (tb1 (List.mem_of_getElem? (i := 1) rfl)) rfl, by decide +kernel⟩
theorem iw_X7_cuts : Cond.instanceMethod yX7_cuts ∈ gT ∧ Cond.selects RX7 yX7_cuts yX7_cuts ∈ gT := ⟨gT_in (tb3 (List.mem_of_getElem? (i := 105) rfl)) rfl, gT_in (tb3 (List.mem_of_getElem? (i := 106) rfl)) rfl⟩
theorem mi_X8_cuts : MI yX8_cuts cX8_cuts 2 (some .int) 1 := ⟨gT_in (tb6 (List.mem_of_getElem? (i := 50) rfl)) rfl, gT_in (tb1 (List.mem_of_getElem? (i := 9) rfl)) rfl, by decide +kernel⟩
theorem iw_X8_cuts : Cond.instanceMethod yX8_cuts ∈ gT ∧ Cond.selects RX8 yX8_cuts yX8_cuts ∈ gT := ⟨gT_in (tb6 (List.mem_of_getElem? (i := 48) rfl)) rfl, gT_in (tb6 (List.mem_of_getElem? (i := 49) rfl)) rfl⟩
theorem ll_125 : Cond.methodLink RL 125 yX7_cuts ∈ gT := gT_in (tb3 (List.mem_of_getElem? (i := 104) rfl)) rfl
theorem ll_128 : Cond.methodLink RL 128 yX8_cuts ∈ gT := gT_in (tb6 (List.mem_of_getElem? (i := 47) rfl)) rfl
set_option maxRecDepth 20000 in
theorem lc_27 {x : Fx} {Q : State → Prop} {ret : Option FieldType} {kc ks : Nat} {D : va_G} {ax am : Nat → Nat} {rs : (Nat → ClassId) × (Nat → Nat) × (Nat → Nat) × (Nat → Nat)} {b Ln t : Nat} {xs : Nat → Int32} {hx hm : Hp} (C : Ok x (D, ax, rs) RL cL_law 4 ret) (X : LX x b Ln xs) (hl : Ln < 2147483648) (ht : t + 6 ≤ Ln) (hc : kc ≤ 600000 ∧ ks ≤ 7302249) (hR : R hx hm) (k : ∀ hx1 hm1, R hx1 hm1 → JA x (D, ax, rs) room_1 4 Q 1551 [some (.ref b), some (.ref (ax 0)), some (.ref (am 0)), some (.int (nI t))] [] (cwX (D, ax, rs) hx1 ++ cwM (D, am, rs) hm1) kc ks) : JA x (D, ax, rs) room_1 4 Q 955 [some (.ref b), some (.ref (ax 0)), some (.ref (am 0)), some (.int (nI t))] [] (cwX (D, ax, rs) hx ++ cwM (D, am, rs) hm) kc ks := by
  obtain ⟨r, hx1, hm1, e1, e2, hR1⟩ := o_cuts (fu := 10000) (by decide) hR (xs (t + 1))
  refine a_aload_n C dL_law_955 rfl (n := 956) rfl ?_
  refine a_arg C X hl dL_law_956 dL_law_957 dL_law_958 dL_law_959 dL_law_960 (jn := 1) (by decide) (by omega) rfl rfl (n := 961) rfl ?_
  refine a_callX C mi_X7_cuts ll_125 iw_X7_cuts (m_X7_cuts x.2.1 10000 (xs (t + 1)) hx e1) rfl rfl rfl (Nat.le_of_ble_eq_true rfl) dL_law_961 ⟨Nat.le_of_ble_eq_true rfl, Nat.le_of_ble_eq_true rfl, hc.1, hc.2⟩ (n := 964) rfl ?_
  refine a_aload_n C dL_law_964 rfl (n := 965) rfl ?_
  refine a_arg C X hl dL_law_965 dL_law_966 dL_law_967 dL_law_968 dL_law_969 (jn := 1) (by decide) (by omega) rfl rfl (n := 970) rfl ?_
  refine a_callM C mi_X8_cuts ll_128 iw_X8_cuts (m_X8_cuts x.2.1 10000 (xs (t + 1)) hm e2) rfl rfl rfl (Nat.le_of_ble_eq_true rfl) dL_law_970 ⟨Nat.le_of_ble_eq_true rfl, Nat.le_of_ble_eq_true rfl, hc.1, hc.2⟩ (n := 973) rfl ?_
  exact a_icmp_eqT C dL_law_973 (tgt := 1551) (by decide) (k _ _ hR1)
theorem mi_X7_fits : MI yX7_fits cX7_fits 2 (some .int) 1 := ⟨gT_in (tb3 (List.mem_of_getElem? (i := 112) rfl)) rfl, gT_in (tb1 (List.mem_of_getElem? (i := 1) rfl)) rfl, by decide +kernel⟩
theorem iw_X7_fits : Cond.instanceMethod yX7_fits ∈ gT ∧ Cond.selects RX7 yX7_fits yX7_fits ∈ gT := ⟨gT_in (tb3 (List.mem_of_getElem? (i := 110) rfl)) rfl, gT_in (tb3 (List.mem_of_getElem? (i := 111) rfl)) rfl⟩
theorem mi_X8_fits : MI yX8_fits cX8_fits 2 (some .int) 1 := ⟨gT_in (tb6 (List.mem_of_getElem? (i := 54) rfl)) rfl, gT_in (tb1 (List.mem_of_getElem? (i := 9) rfl)) rfl, by decide +kernel⟩
theorem iw_X8_fits : Cond.instanceMethod yX8_fits ∈ gT ∧ Cond.selects RX8 yX8_fits yX8_fits ∈ gT := ⟨gT_in (tb6 (List.mem_of_getElem? (i := 52) rfl)) rfl, gT_in (tb6 (List.mem_of_getElem? (i := 53) rfl)) rfl⟩
theorem ll_129 : Cond.methodLink RL 129 yX7_fits ∈ gT := gT_in (tb3 (List.mem_of_getElem? (i := 109) rfl)) rfl
theorem ll_132 : Cond.methodLink RL 132 yX8_fits ∈ gT := gT_in (tb6 (List.mem_of_getElem? (i := 51) rfl)) rfl
set_option maxRecDepth 20000 in
theorem lc_28 {x : Fx} {Q : State → Prop} {ret : Option FieldType} {kc ks : Nat} {D : va_G} {ax am : Nat → Nat} {rs : (Nat → ClassId) × (Nat → Nat) × (Nat → Nat) × (Nat → Nat)} {b Ln t : Nat} {xs : Nat → Int32} {hx hm : Hp} (C : Ok x (D, ax, rs) RL cL_law 4 ret) (X : LX x b Ln xs) (hl : Ln < 2147483648) (ht : t + 6 ≤ Ln) (hc : kc ≤ 600000 ∧ ks ≤ 7302249) (hR : R hx hm) (k : ∀ hx1 hm1, R hx1 hm1 → JA x (D, ax, rs) room_1 4 Q 1551 [some (.ref b), some (.ref (ax 0)), some (.ref (am 0)), some (.int (nI t))] [] (cwX (D, ax, rs) hx1 ++ cwM (D, am, rs) hm1) kc ks) : JA x (D, ax, rs) room_1 4 Q 978 [some (.ref b), some (.ref (ax 0)), some (.ref (am 0)), some (.int (nI t))] [] (cwX (D, ax, rs) hx ++ cwM (D, am, rs) hm) kc ks := by
  obtain ⟨r, hx1, hm1, e1, e2, hR1⟩ := o_fits (fu := 10000) (by decide) hR (xs (t + 1))
  refine a_aload_n C dL_law_978 rfl (n := 979) rfl ?_
  refine a_arg C X hl dL_law_979 dL_law_980 dL_law_981 dL_law_982 dL_law_983 (jn := 1) (by decide) (by omega) rfl rfl (n := 984) rfl ?_
  refine a_callX C mi_X7_fits ll_129 iw_X7_fits (m_X7_fits x.2.1 10000 (xs (t + 1)) hx e1) rfl rfl rfl (Nat.le_of_ble_eq_true rfl) dL_law_984 ⟨Nat.le_of_ble_eq_true rfl, Nat.le_of_ble_eq_true rfl, hc.1, hc.2⟩ (n := 987) rfl ?_
  refine a_aload_n C dL_law_987 rfl (n := 988) rfl ?_
  refine a_arg C X hl dL_law_988 dL_law_989 dL_law_990 dL_law_991 dL_law_992 (jn := 1) (by decide) (by omega) rfl rfl (n := 993) rfl ?_
  refine a_callM C mi_X8_fits ll_132 iw_X8_fits (m_X8_fits x.2.1 10000 (xs (t + 1)) hm e2) rfl rfl rfl (Nat.le_of_ble_eq_true rfl) dL_law_993 ⟨Nat.le_of_ble_eq_true rfl, Nat.le_of_ble_eq_true rfl, hc.1, hc.2⟩ (n := 996) rfl ?_
  exact a_icmp_eqT C dL_law_996 (tgt := 1551) (by decide) (k _ _ hR1)
theorem mi_X7_maybe : MI yX7_maybe cX7_maybe 3 (some .int) 2 := ⟨gT_in (tb3 (List.mem_of_getElem? (i := 147) rfl)) rfl, gT_in (tb1 (List.mem_of_getElem? (i := 1) rfl)) rfl, by decide +kernel⟩
theorem iw_X7_maybe : Cond.instanceMethod yX7_maybe ∈ gT ∧ Cond.selects RX7 yX7_maybe yX7_maybe ∈ gT := ⟨gT_in (tb3 (List.mem_of_getElem? (i := 145) rfl)) rfl, gT_in (tb3 (List.mem_of_getElem? (i := 146) rfl)) rfl⟩
theorem mi_X8_maybe : MI yX8_maybe cX8_maybe 4 (some .int) 2 := ⟨gT_in (tb6 (List.mem_of_getElem? (i := 71) rfl)) rfl, gT_in (tb1 (List.mem_of_getElem? (i := 9) rfl)) rfl, by decide +kernel⟩
theorem iw_X8_maybe : Cond.instanceMethod yX8_maybe ∈ gT ∧ Cond.selects RX8 yX8_maybe yX8_maybe ∈ gT := ⟨gT_in (tb6 (List.mem_of_getElem? (i := 69) rfl)) rfl, gT_in (tb6 (List.mem_of_getElem? (i := 70) rfl)) rfl⟩
theorem ll_133 : Cond.methodLink RL 133 yX7_maybe ∈ gT := gT_in (tb3 (List.mem_of_getElem? (i := 144) rfl)) rfl
theorem ll_136 : Cond.methodLink RL 136 yX8_maybe ∈ gT := gT_in (tb6 (List.mem_of_getElem? (i := 68) rfl)) rfl
set_option maxRecDepth 20000 in
theorem lc_29 {x : Fx} {Q : State → Prop} {ret : Option FieldType} {kc ks : Nat} {D : va_G} {ax am : Nat → Nat} {rs : (Nat → ClassId) × (Nat → Nat) × (Nat → Nat) × (Nat → Nat)} {b Ln t : Nat} {xs : Nat → Int32} {hx hm : Hp} (C : Ok x (D, ax, rs) RL cL_law 4 ret) (X : LX x b Ln xs) (hl : Ln < 2147483648) (ht : t + 6 ≤ Ln) (hc : kc ≤ 600000 ∧ ks ≤ 7302249) (hR : R hx hm) (k : ∀ hx1 hm1, R hx1 hm1 → JA x (D, ax, rs) room_1 4 Q 1551 [some (.ref b), some (.ref (ax 0)), some (.ref (am 0)), some (.int (nI t))] [] (cwX (D, ax, rs) hx1 ++ cwM (D, am, rs) hm1) kc ks) : JA x (D, ax, rs) room_1 4 Q 1001 [some (.ref b), some (.ref (ax 0)), some (.ref (am 0)), some (.int (nI t))] [] (cwX (D, ax, rs) hx ++ cwM (D, am, rs) hm) kc ks := by
  obtain ⟨r, hx1, hm1, e1, e2, hR1⟩ := o_maybe (fu := 10000) (by decide) hR (xs (t + 1)) (xs (t + 2))
  refine a_aload_n C dL_law_1001 rfl (n := 1002) rfl ?_
  refine a_arg C X hl dL_law_1002 dL_law_1003 dL_law_1004 dL_law_1005 dL_law_1006 (jn := 1) (by decide) (by omega) rfl rfl (n := 1007) rfl ?_
  refine a_arg C X hl dL_law_1007 dL_law_1008 dL_law_1009 dL_law_1010 dL_law_1011 (jn := 2) (by decide) (by omega) rfl rfl (n := 1012) rfl ?_
  refine a_callX C mi_X7_maybe ll_133 iw_X7_maybe (m_X7_maybe x.2.1 10000 (xs (t + 1)) (xs (t + 2)) hx e1) rfl rfl rfl (Nat.le_of_ble_eq_true rfl) dL_law_1012 ⟨Nat.le_of_ble_eq_true rfl, Nat.le_of_ble_eq_true rfl, hc.1, hc.2⟩ (n := 1015) rfl ?_
  refine a_aload_n C dL_law_1015 rfl (n := 1016) rfl ?_
  refine a_arg C X hl dL_law_1016 dL_law_1017 dL_law_1018 dL_law_1019 dL_law_1020 (jn := 1) (by decide) (by omega) rfl rfl (n := 1021) rfl ?_
  refine a_arg C X hl dL_law_1021 dL_law_1022 dL_law_1023 dL_law_1024 dL_law_1025 (jn := 2) (by decide) (by omega) rfl rfl (n := 1026) rfl ?_
  refine a_callM C mi_X8_maybe ll_136 iw_X8_maybe (m_X8_maybe x.2.1 10000 (xs (t + 1)) (xs (t + 2)) hm e2) rfl rfl rfl (Nat.le_of_ble_eq_true rfl) dL_law_1026 ⟨Nat.le_of_ble_eq_true rfl, Nat.le_of_ble_eq_true rfl, hc.1, hc.2⟩ (n := 1029) rfl ?_
  exact a_icmp_eqT C dL_law_1029 (tgt := 1551) (by decide) (k _ _ hR1)
theorem mi_X7_stand : MI yX7_stand cX7_stand 5 (some .int) 2 := ⟨gT_in (tb3 (List.mem_of_getElem? (i := 155) rfl)) rfl, gT_in (tb1 (List.mem_of_getElem? (i := 1) rfl)) rfl, by decide +kernel⟩
theorem iw_X7_stand : Cond.instanceMethod yX7_stand ∈ gT ∧ Cond.selects RX7 yX7_stand yX7_stand ∈ gT := ⟨gT_in (tb3 (List.mem_of_getElem? (i := 153) rfl)) rfl, gT_in (tb3 (List.mem_of_getElem? (i := 154) rfl)) rfl⟩
theorem mi_X8_stand : MI yX8_stand cX8_stand 5 (some .int) 2 := ⟨gT_in (tb6 (List.mem_of_getElem? (i := 75) rfl)) rfl, gT_in (tb1 (List.mem_of_getElem? (i := 9) rfl)) rfl, by decide +kernel⟩
theorem iw_X8_stand : Cond.instanceMethod yX8_stand ∈ gT ∧ Cond.selects RX8 yX8_stand yX8_stand ∈ gT := ⟨gT_in (tb6 (List.mem_of_getElem? (i := 73) rfl)) rfl, gT_in (tb6 (List.mem_of_getElem? (i := 74) rfl)) rfl⟩
theorem ll_137 : Cond.methodLink RL 137 yX7_stand ∈ gT := gT_in (tb3 (List.mem_of_getElem? (i := 152) rfl)) rfl
theorem ll_140 : Cond.methodLink RL 140 yX8_stand ∈ gT := gT_in (tb6 (List.mem_of_getElem? (i := 72) rfl)) rfl
set_option maxRecDepth 20000 in
theorem lc_30 {x : Fx} {Q : State → Prop} {ret : Option FieldType} {kc ks : Nat} {D : va_G} {ax am : Nat → Nat} {rs : (Nat → ClassId) × (Nat → Nat) × (Nat → Nat) × (Nat → Nat)} {b Ln t : Nat} {xs : Nat → Int32} {hx hm : Hp} (C : Ok x (D, ax, rs) RL cL_law 4 ret) (X : LX x b Ln xs) (hl : Ln < 2147483648) (ht : t + 6 ≤ Ln) (hc : kc ≤ 600000 ∧ ks ≤ 7302249) (hR : R hx hm) (k : ∀ hx1 hm1, R hx1 hm1 → JA x (D, ax, rs) room_1 4 Q 1551 [some (.ref b), some (.ref (ax 0)), some (.ref (am 0)), some (.int (nI t))] [] (cwX (D, ax, rs) hx1 ++ cwM (D, am, rs) hm1) kc ks) : JA x (D, ax, rs) room_1 4 Q 1034 [some (.ref b), some (.ref (ax 0)), some (.ref (am 0)), some (.int (nI t))] [] (cwX (D, ax, rs) hx ++ cwM (D, am, rs) hm) kc ks := by
  obtain ⟨r, hx1, hm1, e1, e2, hR1⟩ := o_stand (fu := 10000) (by decide) hR (xs (t + 1)) (xs (t + 2))
  refine a_aload_n C dL_law_1034 rfl (n := 1035) rfl ?_
  refine a_arg C X hl dL_law_1035 dL_law_1036 dL_law_1037 dL_law_1038 dL_law_1039 (jn := 1) (by decide) (by omega) rfl rfl (n := 1040) rfl ?_
  refine a_arg C X hl dL_law_1040 dL_law_1041 dL_law_1042 dL_law_1043 dL_law_1044 (jn := 2) (by decide) (by omega) rfl rfl (n := 1045) rfl ?_
  refine a_callX C mi_X7_stand ll_137 iw_X7_stand (m_X7_stand x.2.1 10000 (xs (t + 1)) (xs (t + 2)) hx e1) rfl rfl rfl (Nat.le_of_ble_eq_true rfl) dL_law_1045 ⟨Nat.le_of_ble_eq_true rfl, Nat.le_of_ble_eq_true rfl, hc.1, hc.2⟩ (n := 1048) rfl ?_
  refine a_aload_n C dL_law_1048 rfl (n := 1049) rfl ?_
  refine a_arg C X hl dL_law_1049 dL_law_1050 dL_law_1051 dL_law_1052 dL_law_1053 (jn := 1) (by decide) (by omega) rfl rfl (n := 1054) rfl ?_
  refine a_arg C X hl dL_law_1054 dL_law_1055 dL_law_1056 dL_law_1057 dL_law_1058 (jn := 2) (by decide) (by omega) rfl rfl (n := 1059) rfl ?_
  refine a_callM C mi_X8_stand ll_140 iw_X8_stand (m_X8_stand x.2.1 10000 (xs (t + 1)) (xs (t + 2)) hm e2) rfl rfl rfl (Nat.le_of_ble_eq_true rfl) dL_law_1059 ⟨Nat.le_of_ble_eq_true rfl, Nat.le_of_ble_eq_true rfl, hc.1, hc.2⟩ (n := 1062) rfl ?_
  exact a_icmp_eqT C dL_law_1062 (tgt := 1551) (by decide) (k _ _ hR1)
theorem mi_X7_fire : MI yX7_fire cX7_fire 3 (some .int) 2 := ⟨gT_in (tb3 (List.mem_of_getElem? (i := 164) rfl)) rfl, gT_in (tb1 (List.mem_of_getElem? (i := 1) rfl)) rfl, by decide +kernel⟩
theorem iw_X7_fire : Cond.instanceMethod yX7_fire ∈ gT ∧ Cond.selects RX7 yX7_fire yX7_fire ∈ gT := ⟨gT_in (tb3 (List.mem_of_getElem? (i := 162) rfl)) rfl, gT_in (tb3 (List.mem_of_getElem? (i := 163) rfl)) rfl⟩
theorem mi_X8_fire : MI yX8_fire cX8_fire 3 (some .int) 2 := ⟨gT_in (tb6 (List.mem_of_getElem? (i := 83) rfl)) rfl, gT_in (tb1 (List.mem_of_getElem? (i := 9) rfl)) rfl, by decide +kernel⟩
theorem iw_X8_fire : Cond.instanceMethod yX8_fire ∈ gT ∧ Cond.selects RX8 yX8_fire yX8_fire ∈ gT := ⟨gT_in (tb6 (List.mem_of_getElem? (i := 81) rfl)) rfl, gT_in (tb6 (List.mem_of_getElem? (i := 82) rfl)) rfl⟩
theorem ll_141 : Cond.methodLink RL 141 yX7_fire ∈ gT := gT_in (tb3 (List.mem_of_getElem? (i := 161) rfl)) rfl
theorem ll_144 : Cond.methodLink RL 144 yX8_fire ∈ gT := gT_in (tb6 (List.mem_of_getElem? (i := 80) rfl)) rfl
set_option maxRecDepth 20000 in
theorem lc_31 {x : Fx} {Q : State → Prop} {ret : Option FieldType} {kc ks : Nat} {D : va_G} {ax am : Nat → Nat} {rs : (Nat → ClassId) × (Nat → Nat) × (Nat → Nat) × (Nat → Nat)} {b Ln t : Nat} {xs : Nat → Int32} {hx hm : Hp} (C : Ok x (D, ax, rs) RL cL_law 4 ret) (X : LX x b Ln xs) (hl : Ln < 2147483648) (ht : t + 6 ≤ Ln) (hc : kc ≤ 600000 ∧ ks ≤ 7302249) (hR : R hx hm) (k : ∀ hx1 hm1, R hx1 hm1 → JA x (D, ax, rs) room_1 4 Q 1551 [some (.ref b), some (.ref (ax 0)), some (.ref (am 0)), some (.int (nI t))] [] (cwX (D, ax, rs) hx1 ++ cwM (D, am, rs) hm1) kc ks) : JA x (D, ax, rs) room_1 4 Q 1067 [some (.ref b), some (.ref (ax 0)), some (.ref (am 0)), some (.int (nI t))] [] (cwX (D, ax, rs) hx ++ cwM (D, am, rs) hm) kc ks := by
  obtain ⟨r, hx1, hm1, e1, e2, hR1⟩ := o_fire (fu := 10000) (by decide) hR (xs (t + 1)) (xs (t + 2))
  refine a_aload_n C dL_law_1067 rfl (n := 1068) rfl ?_
  refine a_arg C X hl dL_law_1068 dL_law_1069 dL_law_1070 dL_law_1071 dL_law_1072 (jn := 1) (by decide) (by omega) rfl rfl (n := 1073) rfl ?_
  refine a_arg C X hl dL_law_1073 dL_law_1074 dL_law_1075 dL_law_1076 dL_law_1077 (jn := 2) (by decide) (by omega) rfl rfl (n := 1078) rfl ?_
  refine a_callX C mi_X7_fire ll_141 iw_X7_fire (m_X7_fire x.2.1 10000 (xs (t + 1)) (xs (t + 2)) hx e1) rfl rfl rfl (Nat.le_of_ble_eq_true rfl) dL_law_1078 ⟨Nat.le_of_ble_eq_true rfl, Nat.le_of_ble_eq_true rfl, hc.1, hc.2⟩ (n := 1081) rfl ?_
  refine a_aload_n C dL_law_1081 rfl (n := 1082) rfl ?_
  refine a_arg C X hl dL_law_1082 dL_law_1083 dL_law_1084 dL_law_1085 dL_law_1086 (jn := 1) (by decide) (by omega) rfl rfl (n := 1087) rfl ?_
  refine a_arg C X hl dL_law_1087 dL_law_1088 dL_law_1089 dL_law_1090 dL_law_1091 (jn := 2) (by decide) (by omega) rfl rfl (n := 1092) rfl ?_
  refine a_callM C mi_X8_fire ll_144 iw_X8_fire (m_X8_fire x.2.1 10000 (xs (t + 1)) (xs (t + 2)) hm e2) rfl rfl rfl (Nat.le_of_ble_eq_true rfl) dL_law_1092 ⟨Nat.le_of_ble_eq_true rfl, Nat.le_of_ble_eq_true rfl, hc.1, hc.2⟩ (n := 1095) rfl ?_
  exact a_icmp_eqT C dL_law_1095 (tgt := 1551) (by decide) (k _ _ hR1)
theorem mi_X7_papers : MI yX7_papers cX7_papers 4 (some .int) 1 := ⟨gT_in (tb3 (List.mem_of_getElem? (i := 168) rfl)) rfl, gT_in (tb1 (List.mem_of_getElem? (i := 1) rfl)) rfl, by decide +kernel⟩
theorem iw_X7_papers : Cond.instanceMethod yX7_papers ∈ gT ∧ Cond.selects RX7 yX7_papers yX7_papers ∈ gT := ⟨gT_in (tb3 (List.mem_of_getElem? (i := 166) rfl)) rfl, gT_in (tb3 (List.mem_of_getElem? (i := 167) rfl)) rfl⟩
theorem mi_X8_papers : MI yX8_papers cX8_papers 4 (some .int) 1 := ⟨gT_in (tb6 (List.mem_of_getElem? (i := 87) rfl)) rfl, gT_in (tb1 (List.mem_of_getElem? (i := 9) rfl)) rfl, by decide +kernel⟩
theorem iw_X8_papers : Cond.instanceMethod yX8_papers ∈ gT ∧ Cond.selects RX8 yX8_papers yX8_papers ∈ gT := ⟨gT_in (tb6 (List.mem_of_getElem? (i := 85) rfl)) rfl, gT_in (tb6 (List.mem_of_getElem? (i := 86) rfl)) rfl⟩
theorem ll_145 : Cond.methodLink RL 145 yX7_papers ∈ gT := gT_in (tb3 (List.mem_of_getElem? (i := 165) rfl)) rfl
theorem ll_148 : Cond.methodLink RL 148 yX8_papers ∈ gT := gT_in (tb6 (List.mem_of_getElem? (i := 84) rfl)) rfl
set_option maxRecDepth 20000 in
theorem lc_32 {x : Fx} {Q : State → Prop} {ret : Option FieldType} {kc ks : Nat} {D : va_G} {ax am : Nat → Nat} {rs : (Nat → ClassId) × (Nat → Nat) × (Nat → Nat) × (Nat → Nat)} {b Ln t : Nat} {xs : Nat → Int32} {hx hm : Hp} (C : Ok x (D, ax, rs) RL cL_law 4 ret) (X : LX x b Ln xs) (hl : Ln < 2147483648) (ht : t + 6 ≤ Ln) (hc : kc ≤ 600000 ∧ ks ≤ 7302249) (hR : R hx hm) (k : ∀ hx1 hm1, R hx1 hm1 → JA x (D, ax, rs) room_1 4 Q 1551 [some (.ref b), some (.ref (ax 0)), some (.ref (am 0)), some (.int (nI t))] [] (cwX (D, ax, rs) hx1 ++ cwM (D, am, rs) hm1) kc ks) : JA x (D, ax, rs) room_1 4 Q 1100 [some (.ref b), some (.ref (ax 0)), some (.ref (am 0)), some (.int (nI t))] [] (cwX (D, ax, rs) hx ++ cwM (D, am, rs) hm) kc ks := by
  obtain ⟨r, hx1, hm1, e1, e2, hR1⟩ := o_papers (fu := 10000) (by decide) hR (xs (t + 1))
  refine a_aload_n C dL_law_1100 rfl (n := 1101) rfl ?_
  refine a_arg C X hl dL_law_1101 dL_law_1102 dL_law_1103 dL_law_1104 dL_law_1105 (jn := 1) (by decide) (by omega) rfl rfl (n := 1106) rfl ?_
  refine a_callX C mi_X7_papers ll_145 iw_X7_papers (m_X7_papers x.2.1 10000 (xs (t + 1)) hx e1) rfl rfl rfl (Nat.le_of_ble_eq_true rfl) dL_law_1106 ⟨Nat.le_of_ble_eq_true rfl, Nat.le_of_ble_eq_true rfl, hc.1, hc.2⟩ (n := 1109) rfl ?_
  refine a_aload_n C dL_law_1109 rfl (n := 1110) rfl ?_
  refine a_arg C X hl dL_law_1110 dL_law_1111 dL_law_1112 dL_law_1113 dL_law_1114 (jn := 1) (by decide) (by omega) rfl rfl (n := 1115) rfl ?_
  refine a_callM C mi_X8_papers ll_148 iw_X8_papers (m_X8_papers x.2.1 10000 (xs (t + 1)) hm e2) rfl rfl rfl (Nat.le_of_ble_eq_true rfl) dL_law_1115 ⟨Nat.le_of_ble_eq_true rfl, Nat.le_of_ble_eq_true rfl, hc.1, hc.2⟩ (n := 1118) rfl ?_
  exact a_icmp_eqT C dL_law_1118 (tgt := 1551) (by decide) (k _ _ hR1)
theorem mi_X7_seed : MI yX7_seed cX7_seed 3 (some .int) 1 := ⟨gT_in (tb3 (List.mem_of_getElem? (i := 177) rfl)) rfl, gT_in (tb1 (List.mem_of_getElem? (i := 1) rfl)) rfl, by decide +kernel⟩
theorem iw_X7_seed : Cond.instanceMethod yX7_seed ∈ gT ∧ Cond.selects RX7 yX7_seed yX7_seed ∈ gT := ⟨gT_in (tb3 (List.mem_of_getElem? (i := 175) rfl)) rfl, gT_in (tb3 (List.mem_of_getElem? (i := 176) rfl)) rfl⟩
theorem mi_X8_seed : MI yX8_seed cX8_seed 2 (some .int) 1 := ⟨gT_in (tb6 (List.mem_of_getElem? (i := 96) rfl)) rfl, gT_in (tb1 (List.mem_of_getElem? (i := 9) rfl)) rfl, by decide +kernel⟩
theorem iw_X8_seed : Cond.instanceMethod yX8_seed ∈ gT ∧ Cond.selects RX8 yX8_seed yX8_seed ∈ gT := ⟨gT_in (tb6 (List.mem_of_getElem? (i := 94) rfl)) rfl, gT_in (tb6 (List.mem_of_getElem? (i := 95) rfl)) rfl⟩
theorem ll_149 : Cond.methodLink RL 149 yX7_seed ∈ gT := gT_in (tb3 (List.mem_of_getElem? (i := 174) rfl)) rfl
theorem ll_152 : Cond.methodLink RL 152 yX8_seed ∈ gT := gT_in (tb6 (List.mem_of_getElem? (i := 93) rfl)) rfl
set_option maxRecDepth 20000 in
theorem lc_33 {x : Fx} {Q : State → Prop} {ret : Option FieldType} {kc ks : Nat} {D : va_G} {ax am : Nat → Nat} {rs : (Nat → ClassId) × (Nat → Nat) × (Nat → Nat) × (Nat → Nat)} {b Ln t : Nat} {xs : Nat → Int32} {hx hm : Hp} (C : Ok x (D, ax, rs) RL cL_law 4 ret) (X : LX x b Ln xs) (hl : Ln < 2147483648) (ht : t + 6 ≤ Ln) (hc : kc ≤ 600000 ∧ ks ≤ 7302249) (hR : R hx hm) (k : ∀ hx1 hm1, R hx1 hm1 → JA x (D, ax, rs) room_1 4 Q 1551 [some (.ref b), some (.ref (ax 0)), some (.ref (am 0)), some (.int (nI t))] [] (cwX (D, ax, rs) hx1 ++ cwM (D, am, rs) hm1) kc ks) : JA x (D, ax, rs) room_1 4 Q 1123 [some (.ref b), some (.ref (ax 0)), some (.ref (am 0)), some (.int (nI t))] [] (cwX (D, ax, rs) hx ++ cwM (D, am, rs) hm) kc ks := by
  obtain ⟨r, hx1, hm1, e1, e2, hR1⟩ := o_seed hR (xs (t + 1))
  refine a_aload_n C dL_law_1123 rfl (n := 1124) rfl ?_
  refine a_arg C X hl dL_law_1124 dL_law_1125 dL_law_1126 dL_law_1127 dL_law_1128 (jn := 1) (by decide) (by omega) rfl rfl (n := 1129) rfl ?_
  refine a_callX C mi_X7_seed ll_149 iw_X7_seed (m_X7_seed x.2.1 (xs (t + 1)) hx e1) rfl rfl rfl (Nat.le_of_ble_eq_true rfl) dL_law_1129 ⟨Nat.le_of_ble_eq_true rfl, Nat.le_of_ble_eq_true rfl, hc.1, hc.2⟩ (n := 1132) rfl ?_
  refine a_aload_n C dL_law_1132 rfl (n := 1133) rfl ?_
  refine a_arg C X hl dL_law_1133 dL_law_1134 dL_law_1135 dL_law_1136 dL_law_1137 (jn := 1) (by decide) (by omega) rfl rfl (n := 1138) rfl ?_
  refine a_callM C mi_X8_seed ll_152 iw_X8_seed (m_X8_seed x.2.1 (xs (t + 1)) hm e2) rfl rfl rfl (Nat.le_of_ble_eq_true rfl) dL_law_1138 ⟨Nat.le_of_ble_eq_true rfl, Nat.le_of_ble_eq_true rfl, hc.1, hc.2⟩ (n := 1141) rfl ?_
  exact a_icmp_eqT C dL_law_1141 (tgt := 1551) (by decide) (k _ _ hR1)
theorem mi_X7_feed : MI yX7_feed cX7_feed 4 (some .int) 2 := ⟨gT_in (tb3 (List.mem_of_getElem? (i := 181) rfl)) rfl, gT_in (tb1 (List.mem_of_getElem? (i := 1) rfl)) rfl, by decide +kernel⟩
theorem iw_X7_feed : Cond.instanceMethod yX7_feed ∈ gT ∧ Cond.selects RX7 yX7_feed yX7_feed ∈ gT := ⟨gT_in (tb3 (List.mem_of_getElem? (i := 179) rfl)) rfl, gT_in (tb3 (List.mem_of_getElem? (i := 180) rfl)) rfl⟩
theorem mi_X8_feed : MI yX8_feed cX8_feed 4 (some .int) 2 := ⟨gT_in (tb6 (List.mem_of_getElem? (i := 100) rfl)) rfl, gT_in (tb1 (List.mem_of_getElem? (i := 9) rfl)) rfl, by decide +kernel⟩
theorem iw_X8_feed : Cond.instanceMethod yX8_feed ∈ gT ∧ Cond.selects RX8 yX8_feed yX8_feed ∈ gT := ⟨gT_in (tb6 (List.mem_of_getElem? (i := 98) rfl)) rfl, gT_in (tb6 (List.mem_of_getElem? (i := 99) rfl)) rfl⟩
theorem ll_153 : Cond.methodLink RL 153 yX7_feed ∈ gT := gT_in (tb3 (List.mem_of_getElem? (i := 178) rfl)) rfl
theorem ll_156 : Cond.methodLink RL 156 yX8_feed ∈ gT := gT_in (tb6 (List.mem_of_getElem? (i := 97) rfl)) rfl
set_option maxRecDepth 20000 in
theorem lc_34 {x : Fx} {Q : State → Prop} {ret : Option FieldType} {kc ks : Nat} {D : va_G} {ax am : Nat → Nat} {rs : (Nat → ClassId) × (Nat → Nat) × (Nat → Nat) × (Nat → Nat)} {b Ln t : Nat} {xs : Nat → Int32} {hx hm : Hp} (C : Ok x (D, ax, rs) RL cL_law 4 ret) (X : LX x b Ln xs) (hl : Ln < 2147483648) (ht : t + 6 ≤ Ln) (hc : kc ≤ 600000 ∧ ks ≤ 7302249) (hR : R hx hm) (k : ∀ hx1 hm1, R hx1 hm1 → JA x (D, ax, rs) room_1 4 Q 1551 [some (.ref b), some (.ref (ax 0)), some (.ref (am 0)), some (.int (nI t))] [] (cwX (D, ax, rs) hx1 ++ cwM (D, am, rs) hm1) kc ks) : JA x (D, ax, rs) room_1 4 Q 1146 [some (.ref b), some (.ref (ax 0)), some (.ref (am 0)), some (.int (nI t))] [] (cwX (D, ax, rs) hx ++ cwM (D, am, rs) hm) kc ks := by
  obtain ⟨r, hx1, hm1, e1, e2, hR1⟩ := o_feed (fu := 10000) (by decide) hR (xs (t + 1)) (xs (t + 2))
  refine a_aload_n C dL_law_1146 rfl (n := 1147) rfl ?_
  refine a_arg C X hl dL_law_1147 dL_law_1148 dL_law_1149 dL_law_1150 dL_law_1151 (jn := 1) (by decide) (by omega) rfl rfl (n := 1152) rfl ?_
  refine a_arg C X hl dL_law_1152 dL_law_1153 dL_law_1154 dL_law_1155 dL_law_1156 (jn := 2) (by decide) (by omega) rfl rfl (n := 1157) rfl ?_
  refine a_callX C mi_X7_feed ll_153 iw_X7_feed (m_X7_feed x.2.1 10000 (xs (t + 1)) (xs (t + 2)) hx e1) rfl rfl rfl (Nat.le_of_ble_eq_true rfl) dL_law_1157 ⟨Nat.le_of_ble_eq_true rfl, Nat.le_of_ble_eq_true rfl, hc.1, hc.2⟩ (n := 1160) rfl ?_
  refine a_aload_n C dL_law_1160 rfl (n := 1161) rfl ?_
  refine a_arg C X hl dL_law_1161 dL_law_1162 dL_law_1163 dL_law_1164 dL_law_1165 (jn := 1) (by decide) (by omega) rfl rfl (n := 1166) rfl ?_
  refine a_arg C X hl dL_law_1166 dL_law_1167 dL_law_1168 dL_law_1169 dL_law_1170 (jn := 2) (by decide) (by omega) rfl rfl (n := 1171) rfl ?_
  refine a_callM C mi_X8_feed ll_156 iw_X8_feed (m_X8_feed x.2.1 10000 (xs (t + 1)) (xs (t + 2)) hm e2) rfl rfl rfl (Nat.le_of_ble_eq_true rfl) dL_law_1171 ⟨Nat.le_of_ble_eq_true rfl, Nat.le_of_ble_eq_true rfl, hc.1, hc.2⟩ (n := 1174) rfl ?_
  exact a_icmp_eqT C dL_law_1174 (tgt := 1551) (by decide) (k _ _ hR1)
theorem mi_X7_wipe : MI yX7_wipe cX7_wipe 2 (some .int) 0 := ⟨gT_in (tb3 (List.mem_of_getElem? (i := 189) rfl)) rfl, gT_in (tb1 (List.mem_of_getElem? (i := 1) rfl)) rfl, by decide +kernel⟩
theorem iw_X7_wipe : Cond.instanceMethod yX7_wipe ∈ gT ∧ Cond.selects RX7 yX7_wipe yX7_wipe ∈ gT := ⟨gT_in (tb3 (List.mem_of_getElem? (i := 187) rfl)) rfl, gT_in (tb3 (List.mem_of_getElem? (i := 188) rfl)) rfl⟩
theorem mi_X8_wipe : MI yX8_wipe cX8_wipe 2 (some .int) 0 := ⟨gT_in (tb6 (List.mem_of_getElem? (i := 104) rfl)) rfl, gT_in (tb1 (List.mem_of_getElem? (i := 9) rfl)) rfl, by decide +kernel⟩
theorem iw_X8_wipe : Cond.instanceMethod yX8_wipe ∈ gT ∧ Cond.selects RX8 yX8_wipe yX8_wipe ∈ gT := ⟨gT_in (tb6 (List.mem_of_getElem? (i := 102) rfl)) rfl, gT_in (tb6 (List.mem_of_getElem? (i := 103) rfl)) rfl⟩
theorem ll_157 : Cond.methodLink RL 157 yX7_wipe ∈ gT := gT_in (tb3 (List.mem_of_getElem? (i := 186) rfl)) rfl
theorem ll_160 : Cond.methodLink RL 160 yX8_wipe ∈ gT := gT_in (tb6 (List.mem_of_getElem? (i := 101) rfl)) rfl
set_option maxRecDepth 20000 in
theorem lc_35 {x : Fx} {Q : State → Prop} {ret : Option FieldType} {kc ks : Nat} {D : va_G} {ax am : Nat → Nat} {rs : (Nat → ClassId) × (Nat → Nat) × (Nat → Nat) × (Nat → Nat)} {b Ln t : Nat} {xs : Nat → Int32} {hx hm : Hp} (C : Ok x (D, ax, rs) RL cL_law 4 ret) (X : LX x b Ln xs) (hl : Ln < 2147483648) (ht : t + 6 ≤ Ln) (hc : kc ≤ 600000 ∧ ks ≤ 7302249) (hR : R hx hm) (k : ∀ hx1 hm1, R hx1 hm1 → JA x (D, ax, rs) room_1 4 Q 1551 [some (.ref b), some (.ref (ax 0)), some (.ref (am 0)), some (.int (nI t))] [] (cwX (D, ax, rs) hx1 ++ cwM (D, am, rs) hm1) kc ks) : JA x (D, ax, rs) room_1 4 Q 1179 [some (.ref b), some (.ref (ax 0)), some (.ref (am 0)), some (.int (nI t))] [] (cwX (D, ax, rs) hx ++ cwM (D, am, rs) hm) kc ks := by
  obtain ⟨r, hx1, hm1, e1, e2, hR1⟩ := o_wipe hR
  refine a_aload_n C dL_law_1179 rfl (n := 1180) rfl ?_
  refine a_callX C mi_X7_wipe ll_157 iw_X7_wipe (m_X7_wipe x.2.1 hx e1) rfl rfl rfl (Nat.le_of_ble_eq_true rfl) dL_law_1180 ⟨Nat.le_of_ble_eq_true rfl, Nat.le_of_ble_eq_true rfl, hc.1, hc.2⟩ (n := 1183) rfl ?_
  refine a_aload_n C dL_law_1183 rfl (n := 1184) rfl ?_
  refine a_callM C mi_X8_wipe ll_160 iw_X8_wipe (m_X8_wipe x.2.1 hm e2) rfl rfl rfl (Nat.le_of_ble_eq_true rfl) dL_law_1184 ⟨Nat.le_of_ble_eq_true rfl, Nat.le_of_ble_eq_true rfl, hc.1, hc.2⟩ (n := 1187) rfl ?_
  exact a_icmp_eqT C dL_law_1187 (tgt := 1551) (by decide) (k _ _ hR1)
theorem mi_X7_text : MI yX7_text cX7_text 2 (some .int) 0 := ⟨gT_in (tb3 (List.mem_of_getElem? (i := 193) rfl)) rfl, gT_in (tb1 (List.mem_of_getElem? (i := 1) rfl)) rfl, by decide +kernel⟩
theorem iw_X7_text : Cond.instanceMethod yX7_text ∈ gT ∧ Cond.selects RX7 yX7_text yX7_text ∈ gT := ⟨gT_in (tb3 (List.mem_of_getElem? (i := 191) rfl)) rfl, gT_in (tb3 (List.mem_of_getElem? (i := 192) rfl)) rfl⟩
theorem mi_X8_text : MI yX8_text cX8_text 3 (some .int) 0 := ⟨gT_in (tb6 (List.mem_of_getElem? (i := 108) rfl)) rfl, gT_in (tb1 (List.mem_of_getElem? (i := 9) rfl)) rfl, by decide +kernel⟩
theorem iw_X8_text : Cond.instanceMethod yX8_text ∈ gT ∧ Cond.selects RX8 yX8_text yX8_text ∈ gT := ⟨gT_in (tb6 (List.mem_of_getElem? (i := 106) rfl)) rfl, gT_in (tb6 (List.mem_of_getElem? (i := 107) rfl)) rfl⟩
theorem ll_161 : Cond.methodLink RL 161 yX7_text ∈ gT := gT_in (tb3 (List.mem_of_getElem? (i := 190) rfl)) rfl
theorem ll_164 : Cond.methodLink RL 164 yX8_text ∈ gT := gT_in (tb6 (List.mem_of_getElem? (i := 105) rfl)) rfl
set_option maxRecDepth 20000 in
theorem lc_36 {x : Fx} {Q : State → Prop} {ret : Option FieldType} {kc ks : Nat} {D : va_G} {ax am : Nat → Nat} {rs : (Nat → ClassId) × (Nat → Nat) × (Nat → Nat) × (Nat → Nat)} {b Ln t : Nat} {xs : Nat → Int32} {hx hm : Hp} (C : Ok x (D, ax, rs) RL cL_law 4 ret) (X : LX x b Ln xs) (hl : Ln < 2147483648) (ht : t + 6 ≤ Ln) (hc : kc ≤ 600000 ∧ ks ≤ 7302249) (hR : R hx hm) (k : ∀ hx1 hm1, R hx1 hm1 → JA x (D, ax, rs) room_1 4 Q 1551 [some (.ref b), some (.ref (ax 0)), some (.ref (am 0)), some (.int (nI t))] [] (cwX (D, ax, rs) hx1 ++ cwM (D, am, rs) hm1) kc ks) : JA x (D, ax, rs) room_1 4 Q 1192 [some (.ref b), some (.ref (ax 0)), some (.ref (am 0)), some (.int (nI t))] [] (cwX (D, ax, rs) hx ++ cwM (D, am, rs) hm) kc ks := by
  obtain ⟨r, hx1, hm1, e1, e2, hR1⟩ := o_text (fu := 10000) (by decide) hR
  refine a_aload_n C dL_law_1192 rfl (n := 1193) rfl ?_
  refine a_callX C mi_X7_text ll_161 iw_X7_text (m_X7_text x.2.1 10000 hx e1) rfl rfl rfl (Nat.le_of_ble_eq_true rfl) dL_law_1193 ⟨Nat.le_of_ble_eq_true rfl, Nat.le_of_ble_eq_true rfl, hc.1, hc.2⟩ (n := 1196) rfl ?_
  refine a_aload_n C dL_law_1196 rfl (n := 1197) rfl ?_
  refine a_callM C mi_X8_text ll_164 iw_X8_text (m_X8_text x.2.1 10000 hm e2) rfl rfl rfl (Nat.le_of_ble_eq_true rfl) dL_law_1197 ⟨Nat.le_of_ble_eq_true rfl, Nat.le_of_ble_eq_true rfl, hc.1, hc.2⟩ (n := 1200) rfl ?_
  exact a_icmp_eqT C dL_law_1200 (tgt := 1551) (by decide) (k _ _ hR1)
theorem mi_X7_hold : MI yX7_hold cX7_hold 3 (some .int) 2 := ⟨gT_in (tb4 (List.mem_of_getElem? (i := 88) rfl)) rfl, gT_in (tb1 (List.mem_of_getElem? (i := 1) rfl)) rfl, by decide +kernel⟩
theorem iw_X7_hold : Cond.instanceMethod yX7_hold ∈ gT ∧ Cond.selects RX7 yX7_hold yX7_hold ∈ gT := ⟨gT_in (tb4 (List.mem_of_getElem? (i := 86) rfl)) rfl, gT_in (tb4 (List.mem_of_getElem? (i := 87) rfl)) rfl⟩
theorem mi_X8_hold : MI yX8_hold cX8_hold 3 (some .int) 2 := ⟨gT_in (tb6 (List.mem_of_getElem? (i := 161) rfl)) rfl, gT_in (tb1 (List.mem_of_getElem? (i := 9) rfl)) rfl, by decide +kernel⟩
theorem iw_X8_hold : Cond.instanceMethod yX8_hold ∈ gT ∧ Cond.selects RX8 yX8_hold yX8_hold ∈ gT := ⟨gT_in (tb6 (List.mem_of_getElem? (i := 159) rfl)) rfl, gT_in (tb6 (List.mem_of_getElem? (i := 160) rfl)) rfl⟩
theorem ll_165 : Cond.methodLink RL 165 yX7_hold ∈ gT := gT_in (tb4 (List.mem_of_getElem? (i := 85) rfl)) rfl
theorem ll_168 : Cond.methodLink RL 168 yX8_hold ∈ gT := gT_in (tb6 (List.mem_of_getElem? (i := 158) rfl)) rfl
set_option maxRecDepth 20000 in
theorem lc_37 {x : Fx} {Q : State → Prop} {ret : Option FieldType} {kc ks : Nat} {D : va_G} {ax am : Nat → Nat} {rs : (Nat → ClassId) × (Nat → Nat) × (Nat → Nat) × (Nat → Nat)} {b Ln t : Nat} {xs : Nat → Int32} {hx hm : Hp} (C : Ok x (D, ax, rs) RL cL_law 4 ret) (X : LX x b Ln xs) (hl : Ln < 2147483648) (ht : t + 6 ≤ Ln) (hc : kc ≤ 600000 ∧ ks ≤ 7302249) (hR : R hx hm) (k : ∀ hx1 hm1, R hx1 hm1 → JA x (D, ax, rs) room_1 4 Q 1551 [some (.ref b), some (.ref (ax 0)), some (.ref (am 0)), some (.int (nI t))] [] (cwX (D, ax, rs) hx1 ++ cwM (D, am, rs) hm1) kc ks) : JA x (D, ax, rs) room_1 4 Q 1205 [some (.ref b), some (.ref (ax 0)), some (.ref (am 0)), some (.int (nI t))] [] (cwX (D, ax, rs) hx ++ cwM (D, am, rs) hm) kc ks := by
  obtain ⟨r, hx1, hm1, e1, e2, hR1⟩ := o_hold hR (xs (t + 1)) (xs (t + 2))
  refine a_aload_n C dL_law_1205 rfl (n := 1206) rfl ?_
  refine a_arg C X hl dL_law_1206 dL_law_1207 dL_law_1208 dL_law_1209 dL_law_1210 (jn := 1) (by decide) (by omega) rfl rfl (n := 1211) rfl ?_
  refine a_arg C X hl dL_law_1211 dL_law_1212 dL_law_1213 dL_law_1214 dL_law_1215 (jn := 2) (by decide) (by omega) rfl rfl (n := 1216) rfl ?_
  refine a_callX C mi_X7_hold ll_165 iw_X7_hold (m_X7_hold x.2.1 (xs (t + 1)) (xs (t + 2)) hx e1) rfl rfl rfl (Nat.le_of_ble_eq_true rfl) dL_law_1216 ⟨Nat.le_of_ble_eq_true rfl, Nat.le_of_ble_eq_true rfl, hc.1, hc.2⟩ (n := 1219) rfl ?_
  refine a_aload_n C dL_law_1219 rfl (n := 1220) rfl ?_
  refine a_arg C X hl dL_law_1220 dL_law_1221 dL_law_1222 dL_law_1223 dL_law_1224 (jn := 1) (by decide) (by omega) rfl rfl (n := 1225) rfl ?_
  refine a_arg C X hl dL_law_1225 dL_law_1226 dL_law_1227 dL_law_1228 dL_law_1229 (jn := 2) (by decide) (by omega) rfl rfl (n := 1230) rfl ?_
  refine a_callM C mi_X8_hold ll_168 iw_X8_hold (m_X8_hold x.2.1 (xs (t + 1)) (xs (t + 2)) hm e2) rfl rfl rfl (Nat.le_of_ble_eq_true rfl) dL_law_1230 ⟨Nat.le_of_ble_eq_true rfl, Nat.le_of_ble_eq_true rfl, hc.1, hc.2⟩ (n := 1233) rfl ?_
  exact a_icmp_eqT C dL_law_1233 (tgt := 1551) (by decide) (k _ _ hR1)
theorem mi_X7_as : MI yX7_as cX7_as 4 (some .int) 2 := ⟨gT_in (tb4 (List.mem_of_getElem? (i := 95) rfl)) rfl, gT_in (tb1 (List.mem_of_getElem? (i := 1) rfl)) rfl, by decide +kernel⟩
theorem iw_X7_as : Cond.instanceMethod yX7_as ∈ gT ∧ Cond.selects RX7 yX7_as yX7_as ∈ gT := ⟨gT_in (tb4 (List.mem_of_getElem? (i := 93) rfl)) rfl, gT_in (tb4 (List.mem_of_getElem? (i := 94) rfl)) rfl⟩
theorem mi_X8_as : MI yX8_as cX8_as 4 (some .int) 2 := ⟨gT_in (tb6 (List.mem_of_getElem? (i := 168) rfl)) rfl, gT_in (tb1 (List.mem_of_getElem? (i := 9) rfl)) rfl, by decide +kernel⟩
theorem iw_X8_as : Cond.instanceMethod yX8_as ∈ gT ∧ Cond.selects RX8 yX8_as yX8_as ∈ gT := ⟨gT_in (tb6 (List.mem_of_getElem? (i := 166) rfl)) rfl, gT_in (tb6 (List.mem_of_getElem? (i := 167) rfl)) rfl⟩
theorem ll_169 : Cond.methodLink RL 169 yX7_as ∈ gT := gT_in (tb4 (List.mem_of_getElem? (i := 92) rfl)) rfl
theorem ll_172 : Cond.methodLink RL 172 yX8_as ∈ gT := gT_in (tb6 (List.mem_of_getElem? (i := 165) rfl)) rfl
set_option maxRecDepth 20000 in
theorem lc_38 {x : Fx} {Q : State → Prop} {ret : Option FieldType} {kc ks : Nat} {D : va_G} {ax am : Nat → Nat} {rs : (Nat → ClassId) × (Nat → Nat) × (Nat → Nat) × (Nat → Nat)} {b Ln t : Nat} {xs : Nat → Int32} {hx hm : Hp} (C : Ok x (D, ax, rs) RL cL_law 4 ret) (X : LX x b Ln xs) (hl : Ln < 2147483648) (ht : t + 6 ≤ Ln) (hc : kc ≤ 600000 ∧ ks ≤ 7302249) (hR : R hx hm) (k : ∀ hx1 hm1, R hx1 hm1 → JA x (D, ax, rs) room_1 4 Q 1551 [some (.ref b), some (.ref (ax 0)), some (.ref (am 0)), some (.int (nI t))] [] (cwX (D, ax, rs) hx1 ++ cwM (D, am, rs) hm1) kc ks) : JA x (D, ax, rs) room_1 4 Q 1238 [some (.ref b), some (.ref (ax 0)), some (.ref (am 0)), some (.int (nI t))] [] (cwX (D, ax, rs) hx ++ cwM (D, am, rs) hm) kc ks := by
  obtain ⟨r, hx1, hm1, e1, e2, hR1⟩ := o_as (fu := 10000) (by decide) hR (xs (t + 1)) (xs (t + 2))
  refine a_aload_n C dL_law_1238 rfl (n := 1239) rfl ?_
  refine a_arg C X hl dL_law_1239 dL_law_1240 dL_law_1241 dL_law_1242 dL_law_1243 (jn := 1) (by decide) (by omega) rfl rfl (n := 1244) rfl ?_
  refine a_arg C X hl dL_law_1244 dL_law_1245 dL_law_1246 dL_law_1247 dL_law_1248 (jn := 2) (by decide) (by omega) rfl rfl (n := 1249) rfl ?_
  refine a_callX C mi_X7_as ll_169 iw_X7_as (m_X7_as x.2.1 10000 (xs (t + 1)) (xs (t + 2)) hx e1) rfl rfl rfl (Nat.le_of_ble_eq_true rfl) dL_law_1249 ⟨Nat.le_of_ble_eq_true rfl, Nat.le_of_ble_eq_true rfl, hc.1, hc.2⟩ (n := 1252) rfl ?_
  refine a_aload_n C dL_law_1252 rfl (n := 1253) rfl ?_
  refine a_arg C X hl dL_law_1253 dL_law_1254 dL_law_1255 dL_law_1256 dL_law_1257 (jn := 1) (by decide) (by omega) rfl rfl (n := 1258) rfl ?_
  refine a_arg C X hl dL_law_1258 dL_law_1259 dL_law_1260 dL_law_1261 dL_law_1262 (jn := 2) (by decide) (by omega) rfl rfl (n := 1263) rfl ?_
  refine a_callM C mi_X8_as ll_172 iw_X8_as (m_X8_as x.2.1 10000 (xs (t + 1)) (xs (t + 2)) hm e2) rfl rfl rfl (Nat.le_of_ble_eq_true rfl) dL_law_1263 ⟨Nat.le_of_ble_eq_true rfl, Nat.le_of_ble_eq_true rfl, hc.1, hc.2⟩ (n := 1266) rfl ?_
  exact a_icmp_eqT C dL_law_1266 (tgt := 1551) (by decide) (k _ _ hR1)
theorem mi_X7_sheet : MI yX7_sheet cX7_sheet 4 (some .int) 3 := ⟨gT_in (tb4 (List.mem_of_getElem? (i := 100) rfl)) rfl, gT_in (tb1 (List.mem_of_getElem? (i := 1) rfl)) rfl, by decide +kernel⟩
theorem iw_X7_sheet : Cond.instanceMethod yX7_sheet ∈ gT ∧ Cond.selects RX7 yX7_sheet yX7_sheet ∈ gT := ⟨gT_in (tb4 (List.mem_of_getElem? (i := 98) rfl)) rfl, gT_in (tb4 (List.mem_of_getElem? (i := 99) rfl)) rfl⟩
theorem mi_X8_sheet : MI yX8_sheet cX8_sheet 5 (some .int) 3 := ⟨gT_in (tb6 (List.mem_of_getElem? (i := 172) rfl)) rfl, gT_in (tb1 (List.mem_of_getElem? (i := 9) rfl)) rfl, by decide +kernel⟩
theorem iw_X8_sheet : Cond.instanceMethod yX8_sheet ∈ gT ∧ Cond.selects RX8 yX8_sheet yX8_sheet ∈ gT := ⟨gT_in (tb6 (List.mem_of_getElem? (i := 170) rfl)) rfl, gT_in (tb6 (List.mem_of_getElem? (i := 171) rfl)) rfl⟩
theorem ll_173 : Cond.methodLink RL 173 yX7_sheet ∈ gT := gT_in (tb4 (List.mem_of_getElem? (i := 97) rfl)) rfl
theorem ll_176 : Cond.methodLink RL 176 yX8_sheet ∈ gT := gT_in (tb6 (List.mem_of_getElem? (i := 169) rfl)) rfl
set_option maxRecDepth 20000 in
theorem lc_39 {x : Fx} {Q : State → Prop} {ret : Option FieldType} {kc ks : Nat} {D : va_G} {ax am : Nat → Nat} {rs : (Nat → ClassId) × (Nat → Nat) × (Nat → Nat) × (Nat → Nat)} {b Ln t : Nat} {xs : Nat → Int32} {hx hm : Hp} (C : Ok x (D, ax, rs) RL cL_law 4 ret) (X : LX x b Ln xs) (hl : Ln < 2147483648) (ht : t + 6 ≤ Ln) (hc : kc ≤ 600000 ∧ ks ≤ 7302249) (hR : R hx hm) (k : ∀ hx1 hm1, R hx1 hm1 → JA x (D, ax, rs) room_1 4 Q 1551 [some (.ref b), some (.ref (ax 0)), some (.ref (am 0)), some (.int (nI t))] [] (cwX (D, ax, rs) hx1 ++ cwM (D, am, rs) hm1) kc ks) : JA x (D, ax, rs) room_1 4 Q 1271 [some (.ref b), some (.ref (ax 0)), some (.ref (am 0)), some (.int (nI t))] [] (cwX (D, ax, rs) hx ++ cwM (D, am, rs) hm) kc ks := by
  obtain ⟨r, hx1, hm1, e1, e2, hR1⟩ := o_sheet (fu := 10000) (by decide) hR (xs (t + 1)) (xs (t + 2)) (xs (t + 3))
  refine a_aload_n C dL_law_1271 rfl (n := 1272) rfl ?_
  refine a_arg C X hl dL_law_1272 dL_law_1273 dL_law_1274 dL_law_1275 dL_law_1276 (jn := 1) (by decide) (by omega) rfl rfl (n := 1277) rfl ?_
  refine a_arg C X hl dL_law_1277 dL_law_1278 dL_law_1279 dL_law_1280 dL_law_1281 (jn := 2) (by decide) (by omega) rfl rfl (n := 1282) rfl ?_
  refine a_arg C X hl dL_law_1282 dL_law_1283 dL_law_1284 dL_law_1285 dL_law_1286 (jn := 3) (by decide) (by omega) rfl rfl (n := 1287) rfl ?_
  refine a_callX C mi_X7_sheet ll_173 iw_X7_sheet (m_X7_sheet x.2.1 10000 (xs (t + 1)) (xs (t + 2)) (xs (t + 3)) hx e1) rfl rfl rfl (Nat.le_of_ble_eq_true rfl) dL_law_1287 ⟨Nat.le_of_ble_eq_true rfl, Nat.le_of_ble_eq_true rfl, hc.1, hc.2⟩ (n := 1290) rfl ?_
  refine a_aload_n C dL_law_1290 rfl (n := 1291) rfl ?_
  refine a_arg C X hl dL_law_1291 dL_law_1292 dL_law_1293 dL_law_1294 dL_law_1295 (jn := 1) (by decide) (by omega) rfl rfl (n := 1296) rfl ?_
  refine a_arg C X hl dL_law_1296 dL_law_1297 dL_law_1298 dL_law_1299 dL_law_1300 (jn := 2) (by decide) (by omega) rfl rfl (n := 1301) rfl ?_
  refine a_arg C X hl dL_law_1301 dL_law_1302 dL_law_1303 dL_law_1304 dL_law_1305 (jn := 3) (by decide) (by omega) rfl rfl (n := 1306) rfl ?_
  refine a_callM C mi_X8_sheet ll_176 iw_X8_sheet (m_X8_sheet x.2.1 10000 (xs (t + 1)) (xs (t + 2)) (xs (t + 3)) hm e2) rfl rfl rfl (Nat.le_of_ble_eq_true rfl) dL_law_1306 ⟨Nat.le_of_ble_eq_true rfl, Nat.le_of_ble_eq_true rfl, hc.1, hc.2⟩ (n := 1309) rfl ?_
  exact a_icmp_eqT C dL_law_1309 (tgt := 1551) (by decide) (k _ _ hR1)
theorem mi_X7_write : MI yX7_write cX7_write 4 (some .int) 3 := ⟨gT_in (tb4 (List.mem_of_getElem? (i := 110) rfl)) rfl, gT_in (tb1 (List.mem_of_getElem? (i := 1) rfl)) rfl, by decide +kernel⟩
theorem iw_X7_write : Cond.instanceMethod yX7_write ∈ gT ∧ Cond.selects RX7 yX7_write yX7_write ∈ gT := ⟨gT_in (tb4 (List.mem_of_getElem? (i := 108) rfl)) rfl, gT_in (tb4 (List.mem_of_getElem? (i := 109) rfl)) rfl⟩
theorem mi_X8_write : MI yX8_write cX8_write 4 (some .int) 3 := ⟨gT_in (tb6 (List.mem_of_getElem? (i := 177) rfl)) rfl, gT_in (tb1 (List.mem_of_getElem? (i := 9) rfl)) rfl, by decide +kernel⟩
theorem iw_X8_write : Cond.instanceMethod yX8_write ∈ gT ∧ Cond.selects RX8 yX8_write yX8_write ∈ gT := ⟨gT_in (tb6 (List.mem_of_getElem? (i := 175) rfl)) rfl, gT_in (tb6 (List.mem_of_getElem? (i := 176) rfl)) rfl⟩
theorem ll_177 : Cond.methodLink RL 177 yX7_write ∈ gT := gT_in (tb4 (List.mem_of_getElem? (i := 107) rfl)) rfl
theorem ll_180 : Cond.methodLink RL 180 yX8_write ∈ gT := gT_in (tb6 (List.mem_of_getElem? (i := 174) rfl)) rfl
set_option maxRecDepth 20000 in
theorem lc_40 {x : Fx} {Q : State → Prop} {ret : Option FieldType} {kc ks : Nat} {D : va_G} {ax am : Nat → Nat} {rs : (Nat → ClassId) × (Nat → Nat) × (Nat → Nat) × (Nat → Nat)} {b Ln t : Nat} {xs : Nat → Int32} {hx hm : Hp} (C : Ok x (D, ax, rs) RL cL_law 4 ret) (X : LX x b Ln xs) (hl : Ln < 2147483648) (ht : t + 6 ≤ Ln) (hc : kc ≤ 600000 ∧ ks ≤ 7302249) (hR : R hx hm) (k : ∀ hx1 hm1, R hx1 hm1 → JA x (D, ax, rs) room_1 4 Q 1551 [some (.ref b), some (.ref (ax 0)), some (.ref (am 0)), some (.int (nI t))] [] (cwX (D, ax, rs) hx1 ++ cwM (D, am, rs) hm1) kc ks) : JA x (D, ax, rs) room_1 4 Q 1314 [some (.ref b), some (.ref (ax 0)), some (.ref (am 0)), some (.int (nI t))] [] (cwX (D, ax, rs) hx ++ cwM (D, am, rs) hm) kc ks := by
  obtain ⟨r, hx1, hm1, e1, e2, hR1⟩ := o_write hR (xs (t + 1)) (xs (t + 2)) (xs (t + 3))
  refine a_aload_n C dL_law_1314 rfl (n := 1315) rfl ?_
  refine a_arg C X hl dL_law_1315 dL_law_1316 dL_law_1317 dL_law_1318 dL_law_1319 (jn := 1) (by decide) (by omega) rfl rfl (n := 1320) rfl ?_
  refine a_arg C X hl dL_law_1320 dL_law_1321 dL_law_1322 dL_law_1323 dL_law_1324 (jn := 2) (by decide) (by omega) rfl rfl (n := 1325) rfl ?_
  refine a_arg C X hl dL_law_1325 dL_law_1326 dL_law_1327 dL_law_1328 dL_law_1329 (jn := 3) (by decide) (by omega) rfl rfl (n := 1330) rfl ?_
  refine a_callX C mi_X7_write ll_177 iw_X7_write (m_X7_write x.2.1 (xs (t + 1)) (xs (t + 2)) (xs (t + 3)) hx e1) rfl rfl rfl (Nat.le_of_ble_eq_true rfl) dL_law_1330 ⟨Nat.le_of_ble_eq_true rfl, Nat.le_of_ble_eq_true rfl, hc.1, hc.2⟩ (n := 1333) rfl ?_
  refine a_aload_n C dL_law_1333 rfl (n := 1334) rfl ?_
  refine a_arg C X hl dL_law_1334 dL_law_1335 dL_law_1336 dL_law_1337 dL_law_1338 (jn := 1) (by decide) (by omega) rfl rfl (n := 1339) rfl ?_
  refine a_arg C X hl dL_law_1339 dL_law_1340 dL_law_1341 dL_law_1342 dL_law_1343 (jn := 2) (by decide) (by omega) rfl rfl (n := 1344) rfl ?_
  refine a_arg C X hl dL_law_1344 dL_law_1345 dL_law_1346 dL_law_1347 dL_law_1348 (jn := 3) (by decide) (by omega) rfl rfl (n := 1349) rfl ?_
  refine a_callM C mi_X8_write ll_180 iw_X8_write (m_X8_write x.2.1 (xs (t + 1)) (xs (t + 2)) (xs (t + 3)) hm e2) rfl rfl rfl (Nat.le_of_ble_eq_true rfl) dL_law_1349 ⟨Nat.le_of_ble_eq_true rfl, Nat.le_of_ble_eq_true rfl, hc.1, hc.2⟩ (n := 1352) rfl ?_
  exact a_icmp_eqT C dL_law_1352 (tgt := 1551) (by decide) (k _ _ hR1)
theorem mi_X7_copy : MI yX7_copy cX7_copy 6 (some .int) 5 := ⟨gT_in (tb4 (List.mem_of_getElem? (i := 118) rfl)) rfl, gT_in (tb1 (List.mem_of_getElem? (i := 1) rfl)) rfl, by decide +kernel⟩
theorem iw_X7_copy : Cond.instanceMethod yX7_copy ∈ gT ∧ Cond.selects RX7 yX7_copy yX7_copy ∈ gT := ⟨gT_in (tb4 (List.mem_of_getElem? (i := 116) rfl)) rfl, gT_in (tb4 (List.mem_of_getElem? (i := 117) rfl)) rfl⟩
theorem mi_X8_copy : MI yX8_copy cX8_copy 7 (some .int) 5 := ⟨gT_in (tb6 (List.mem_of_getElem? (i := 184) rfl)) rfl, gT_in (tb1 (List.mem_of_getElem? (i := 9) rfl)) rfl, by decide +kernel⟩
theorem iw_X8_copy : Cond.instanceMethod yX8_copy ∈ gT ∧ Cond.selects RX8 yX8_copy yX8_copy ∈ gT := ⟨gT_in (tb6 (List.mem_of_getElem? (i := 182) rfl)) rfl, gT_in (tb6 (List.mem_of_getElem? (i := 183) rfl)) rfl⟩
theorem ll_181 : Cond.methodLink RL 181 yX7_copy ∈ gT := gT_in (tb4 (List.mem_of_getElem? (i := 115) rfl)) rfl
theorem ll_185 : Cond.methodLink RL 185 yX8_copy ∈ gT := gT_in (tb6 (List.mem_of_getElem? (i := 181) rfl)) rfl
set_option maxRecDepth 20000 in
theorem lc_41 {x : Fx} {Q : State → Prop} {ret : Option FieldType} {kc ks : Nat} {D : va_G} {ax am : Nat → Nat} {rs : (Nat → ClassId) × (Nat → Nat) × (Nat → Nat) × (Nat → Nat)} {b Ln t : Nat} {xs : Nat → Int32} {hx hm : Hp} (C : Ok x (D, ax, rs) RL cL_law 4 ret) (X : LX x b Ln xs) (hl : Ln < 2147483648) (ht : t + 6 ≤ Ln) (hc : kc ≤ 600000 ∧ ks ≤ 7302249) (hR : R hx hm) (k : ∀ hx1 hm1, R hx1 hm1 → JA x (D, ax, rs) room_1 4 Q 1551 [some (.ref b), some (.ref (ax 0)), some (.ref (am 0)), some (.int (nI t))] [] (cwX (D, ax, rs) hx1 ++ cwM (D, am, rs) hm1) kc ks) : JA x (D, ax, rs) room_1 4 Q 1357 [some (.ref b), some (.ref (ax 0)), some (.ref (am 0)), some (.int (nI t))] [] (cwX (D, ax, rs) hx ++ cwM (D, am, rs) hm) kc ks := by
  obtain ⟨r, hx1, hm1, e1, e2, hR1⟩ := o_copy (fu := 10000) (by decide) hR (xs (t + 1)) (xs (t + 2)) (xs (t + 3)) (xs (t + 4)) (xs (t + 5))
  refine a_aload_n C dL_law_1357 rfl (n := 1358) rfl ?_
  refine a_arg C X hl dL_law_1358 dL_law_1359 dL_law_1360 dL_law_1361 dL_law_1362 (jn := 1) (by decide) (by omega) rfl rfl (n := 1363) rfl ?_
  refine a_arg C X hl dL_law_1363 dL_law_1364 dL_law_1365 dL_law_1366 dL_law_1367 (jn := 2) (by decide) (by omega) rfl rfl (n := 1368) rfl ?_
  refine a_arg C X hl dL_law_1368 dL_law_1369 dL_law_1370 dL_law_1371 dL_law_1372 (jn := 3) (by decide) (by omega) rfl rfl (n := 1373) rfl ?_
  refine a_arg C X hl dL_law_1373 dL_law_1374 dL_law_1375 dL_law_1376 dL_law_1377 (jn := 4) (by decide) (by omega) rfl rfl (n := 1378) rfl ?_
  refine a_arg C X hl dL_law_1378 dL_law_1379 dL_law_1380 dL_law_1381 dL_law_1382 (jn := 5) (by decide) (by omega) rfl rfl (n := 1383) rfl ?_
  refine a_callX C mi_X7_copy ll_181 iw_X7_copy (m_X7_copy x.2.1 (xs (t + 1)) (xs (t + 2)) (xs (t + 3)) (xs (t + 4)) (xs (t + 5)) hx e1) rfl rfl rfl (Nat.le_of_ble_eq_true rfl) dL_law_1383 ⟨Nat.le_of_ble_eq_true rfl, Nat.le_of_ble_eq_true rfl, hc.1, hc.2⟩ (n := 1386) rfl ?_
  refine a_aload_n C dL_law_1386 rfl (n := 1387) rfl ?_
  refine a_arg C X hl dL_law_1387 dL_law_1388 dL_law_1389 dL_law_1390 dL_law_1391 (jn := 1) (by decide) (by omega) rfl rfl (n := 1392) rfl ?_
  refine a_arg C X hl dL_law_1392 dL_law_1393 dL_law_1394 dL_law_1395 dL_law_1396 (jn := 2) (by decide) (by omega) rfl rfl (n := 1397) rfl ?_
  refine a_arg C X hl dL_law_1397 dL_law_1398 dL_law_1399 dL_law_1400 dL_law_1401 (jn := 3) (by decide) (by omega) rfl rfl (n := 1402) rfl ?_
  refine a_arg C X hl dL_law_1402 dL_law_1403 dL_law_1404 dL_law_1405 dL_law_1406 (jn := 4) (by decide) (by omega) rfl rfl (n := 1407) rfl ?_
  refine a_arg C X hl dL_law_1407 dL_law_1408 dL_law_1409 dL_law_1410 dL_law_1411 (jn := 5) (by decide) (by omega) rfl rfl (n := 1412) rfl ?_
  refine a_callM C mi_X8_copy ll_185 iw_X8_copy (m_X8_copy x.2.1 10000 (xs (t + 1)) (xs (t + 2)) (xs (t + 3)) (xs (t + 4)) (xs (t + 5)) hm e2) rfl rfl rfl (Nat.le_of_ble_eq_true rfl) dL_law_1412 ⟨Nat.le_of_ble_eq_true rfl, Nat.le_of_ble_eq_true rfl, hc.1, hc.2⟩ (n := 1415) rfl ?_
  exact a_icmp_eqT C dL_law_1415 (tgt := 1551) (by decide) (k _ _ hR1)
theorem mi_X7_load : MI yX7_load cX7_load 4 (some .int) 1 := ⟨gT_in (tb4 (List.mem_of_getElem? (i := 127) rfl)) rfl, gT_in (tb1 (List.mem_of_getElem? (i := 1) rfl)) rfl, by decide +kernel⟩
theorem iw_X7_load : Cond.instanceMethod yX7_load ∈ gT ∧ Cond.selects RX7 yX7_load yX7_load ∈ gT := ⟨gT_in (tb4 (List.mem_of_getElem? (i := 125) rfl)) rfl, gT_in (tb4 (List.mem_of_getElem? (i := 126) rfl)) rfl⟩
theorem mi_X8_load : MI yX8_load cX8_load 3 (some .int) 1 := ⟨gT_in (tb6 (List.mem_of_getElem? (i := 188) rfl)) rfl, gT_in (tb1 (List.mem_of_getElem? (i := 9) rfl)) rfl, by decide +kernel⟩
theorem iw_X8_load : Cond.instanceMethod yX8_load ∈ gT ∧ Cond.selects RX8 yX8_load yX8_load ∈ gT := ⟨gT_in (tb6 (List.mem_of_getElem? (i := 186) rfl)) rfl, gT_in (tb6 (List.mem_of_getElem? (i := 187) rfl)) rfl⟩
theorem ll_186 : Cond.methodLink RL 186 yX7_load ∈ gT := gT_in (tb4 (List.mem_of_getElem? (i := 124) rfl)) rfl
theorem ll_189 : Cond.methodLink RL 189 yX8_load ∈ gT := gT_in (tb6 (List.mem_of_getElem? (i := 185) rfl)) rfl
set_option maxRecDepth 20000 in
theorem lc_42 {x : Fx} {Q : State → Prop} {ret : Option FieldType} {kc ks : Nat} {D : va_G} {ax am : Nat → Nat} {rs : (Nat → ClassId) × (Nat → Nat) × (Nat → Nat) × (Nat → Nat)} {b Ln t : Nat} {xs : Nat → Int32} {hx hm : Hp} (C : Ok x (D, ax, rs) RL cL_law 4 ret) (X : LX x b Ln xs) (hl : Ln < 2147483648) (ht : t + 6 ≤ Ln) (hc : kc ≤ 600000 ∧ ks ≤ 7302249) (hR : R hx hm) (k : ∀ hx1 hm1, R hx1 hm1 → JA x (D, ax, rs) room_1 4 Q 1551 [some (.ref b), some (.ref (ax 0)), some (.ref (am 0)), some (.int (nI t))] [] (cwX (D, ax, rs) hx1 ++ cwM (D, am, rs) hm1) kc ks) : JA x (D, ax, rs) room_1 4 Q 1420 [some (.ref b), some (.ref (ax 0)), some (.ref (am 0)), some (.int (nI t))] [] (cwX (D, ax, rs) hx ++ cwM (D, am, rs) hm) kc ks := by
  obtain ⟨r, hx1, hm1, e1, e2, hR1⟩ := o_load (fu := 10000) (by decide) hR (xs (t + 1))
  refine a_aload_n C dL_law_1420 rfl (n := 1421) rfl ?_
  refine a_arg C X hl dL_law_1421 dL_law_1422 dL_law_1423 dL_law_1424 dL_law_1425 (jn := 1) (by decide) (by omega) rfl rfl (n := 1426) rfl ?_
  refine a_callX C mi_X7_load ll_186 iw_X7_load (m_X7_load x.2.1 10000 (xs (t + 1)) hx e1) rfl rfl rfl (Nat.le_of_ble_eq_true rfl) dL_law_1426 ⟨Nat.le_of_ble_eq_true rfl, Nat.le_of_ble_eq_true rfl, hc.1, hc.2⟩ (n := 1429) rfl ?_
  refine a_aload_n C dL_law_1429 rfl (n := 1430) rfl ?_
  refine a_arg C X hl dL_law_1430 dL_law_1431 dL_law_1432 dL_law_1433 dL_law_1434 (jn := 1) (by decide) (by omega) rfl rfl (n := 1435) rfl ?_
  refine a_callM C mi_X8_load ll_189 iw_X8_load (m_X8_load x.2.1 10000 (xs (t + 1)) hm e2) rfl rfl rfl (Nat.le_of_ble_eq_true rfl) dL_law_1435 ⟨Nat.le_of_ble_eq_true rfl, Nat.le_of_ble_eq_true rfl, hc.1, hc.2⟩ (n := 1438) rfl ?_
  exact a_icmp_eqT C dL_law_1438 (tgt := 1551) (by decide) (k _ _ hR1)
theorem mi_X7_judge : MI yX7_judge cX7_judge 3 (some .int) 1 := ⟨gT_in (tb4 (List.mem_of_getElem? (i := 132) rfl)) rfl, gT_in (tb1 (List.mem_of_getElem? (i := 1) rfl)) rfl, by decide +kernel⟩
theorem iw_X7_judge : Cond.instanceMethod yX7_judge ∈ gT ∧ Cond.selects RX7 yX7_judge yX7_judge ∈ gT := ⟨gT_in (tb4 (List.mem_of_getElem? (i := 130) rfl)) rfl, gT_in (tb4 (List.mem_of_getElem? (i := 131) rfl)) rfl⟩
theorem mi_X8_judge : MI yX8_judge cX8_judge 3 (some .int) 1 := ⟨gT_in (tb6 (List.mem_of_getElem? (i := 192) rfl)) rfl, gT_in (tb1 (List.mem_of_getElem? (i := 9) rfl)) rfl, by decide +kernel⟩
theorem iw_X8_judge : Cond.instanceMethod yX8_judge ∈ gT ∧ Cond.selects RX8 yX8_judge yX8_judge ∈ gT := ⟨gT_in (tb6 (List.mem_of_getElem? (i := 190) rfl)) rfl, gT_in (tb6 (List.mem_of_getElem? (i := 191) rfl)) rfl⟩
theorem ll_190 : Cond.methodLink RL 190 yX7_judge ∈ gT := gT_in (tb4 (List.mem_of_getElem? (i := 129) rfl)) rfl
theorem ll_193 : Cond.methodLink RL 193 yX8_judge ∈ gT := gT_in (tb6 (List.mem_of_getElem? (i := 189) rfl)) rfl
set_option maxRecDepth 20000 in
theorem lc_43 {x : Fx} {Q : State → Prop} {ret : Option FieldType} {kc ks : Nat} {D : va_G} {ax am : Nat → Nat} {rs : (Nat → ClassId) × (Nat → Nat) × (Nat → Nat) × (Nat → Nat)} {b Ln t : Nat} {xs : Nat → Int32} {hx hm : Hp} (C : Ok x (D, ax, rs) RL cL_law 4 ret) (X : LX x b Ln xs) (hl : Ln < 2147483648) (ht : t + 6 ≤ Ln) (hc : kc ≤ 600000 ∧ ks ≤ 7302249) (hR : R hx hm) (k : ∀ hx1 hm1, R hx1 hm1 → JA x (D, ax, rs) room_1 4 Q 1551 [some (.ref b), some (.ref (ax 0)), some (.ref (am 0)), some (.int (nI t))] [] (cwX (D, ax, rs) hx1 ++ cwM (D, am, rs) hm1) kc ks) : JA x (D, ax, rs) room_1 4 Q 1443 [some (.ref b), some (.ref (ax 0)), some (.ref (am 0)), some (.int (nI t))] [] (cwX (D, ax, rs) hx ++ cwM (D, am, rs) hm) kc ks := by
  obtain ⟨r, hx1, hm1, e1, e2, hR1⟩ := o_judge (fu := 10000) (by decide) hR (xs (t + 1))
  refine a_aload_n C dL_law_1443 rfl (n := 1444) rfl ?_
  refine a_arg C X hl dL_law_1444 dL_law_1445 dL_law_1446 dL_law_1447 dL_law_1448 (jn := 1) (by decide) (by omega) rfl rfl (n := 1449) rfl ?_
  refine a_callX C mi_X7_judge ll_190 iw_X7_judge (m_X7_judge x.2.1 10000 (xs (t + 1)) hx e1) rfl rfl rfl (Nat.le_of_ble_eq_true rfl) dL_law_1449 ⟨Nat.le_of_ble_eq_true rfl, Nat.le_of_ble_eq_true rfl, hc.1, hc.2⟩ (n := 1452) rfl ?_
  refine a_aload_n C dL_law_1452 rfl (n := 1453) rfl ?_
  refine a_arg C X hl dL_law_1453 dL_law_1454 dL_law_1455 dL_law_1456 dL_law_1457 (jn := 1) (by decide) (by omega) rfl rfl (n := 1458) rfl ?_
  refine a_callM C mi_X8_judge ll_193 iw_X8_judge (m_X8_judge x.2.1 10000 (xs (t + 1)) hm e2) rfl rfl rfl (Nat.le_of_ble_eq_true rfl) dL_law_1458 ⟨Nat.le_of_ble_eq_true rfl, Nat.le_of_ble_eq_true rfl, hc.1, hc.2⟩ (n := 1461) rfl ?_
  exact a_icmp_eqT C dL_law_1461 (tgt := 1551) (by decide) (k _ _ hR1)
theorem mi_X7_image : MI yX7_image cX7_image 1 (some .int) 0 := ⟨gT_in (tb4 (List.mem_of_getElem? (i := 136) rfl)) rfl, gT_in (tb1 (List.mem_of_getElem? (i := 1) rfl)) rfl, by decide +kernel⟩
theorem iw_X7_image : Cond.instanceMethod yX7_image ∈ gT ∧ Cond.selects RX7 yX7_image yX7_image ∈ gT := ⟨gT_in (tb4 (List.mem_of_getElem? (i := 134) rfl)) rfl, gT_in (tb4 (List.mem_of_getElem? (i := 135) rfl)) rfl⟩
theorem mi_X8_image : MI yX8_image cX8_image 1 (some .int) 0 := ⟨gT_in (tb6 (List.mem_of_getElem? (i := 196) rfl)) rfl, gT_in (tb1 (List.mem_of_getElem? (i := 9) rfl)) rfl, by decide +kernel⟩
theorem iw_X8_image : Cond.instanceMethod yX8_image ∈ gT ∧ Cond.selects RX8 yX8_image yX8_image ∈ gT := ⟨gT_in (tb6 (List.mem_of_getElem? (i := 194) rfl)) rfl, gT_in (tb6 (List.mem_of_getElem? (i := 195) rfl)) rfl⟩
theorem ll_194 : Cond.methodLink RL 194 yX7_image ∈ gT := gT_in (tb4 (List.mem_of_getElem? (i := 133) rfl)) rfl
theorem ll_197 : Cond.methodLink RL 197 yX8_image ∈ gT := gT_in (tb6 (List.mem_of_getElem? (i := 193) rfl)) rfl
set_option maxRecDepth 20000 in
theorem lc_44 {x : Fx} {Q : State → Prop} {ret : Option FieldType} {kc ks : Nat} {D : va_G} {ax am : Nat → Nat} {rs : (Nat → ClassId) × (Nat → Nat) × (Nat → Nat) × (Nat → Nat)} {b Ln t : Nat} {xs : Nat → Int32} {hx hm : Hp} (C : Ok x (D, ax, rs) RL cL_law 4 ret) (X : LX x b Ln xs) (hl : Ln < 2147483648) (ht : t + 6 ≤ Ln) (hc : kc ≤ 600000 ∧ ks ≤ 7302249) (hR : R hx hm) (k : ∀ hx1 hm1, R hx1 hm1 → JA x (D, ax, rs) room_1 4 Q 1551 [some (.ref b), some (.ref (ax 0)), some (.ref (am 0)), some (.int (nI t))] [] (cwX (D, ax, rs) hx1 ++ cwM (D, am, rs) hm1) kc ks) : JA x (D, ax, rs) room_1 4 Q 1466 [some (.ref b), some (.ref (ax 0)), some (.ref (am 0)), some (.int (nI t))] [] (cwX (D, ax, rs) hx ++ cwM (D, am, rs) hm) kc ks := by
  obtain ⟨r, hx1, hm1, e1, e2, hR1⟩ := o_image (fu := 10000) (by decide) hR
  refine a_aload_n C dL_law_1466 rfl (n := 1467) rfl ?_
  refine a_callX C mi_X7_image ll_194 iw_X7_image (m_X7_image x.2.1 hx e1) rfl rfl rfl (Nat.le_of_ble_eq_true rfl) dL_law_1467 ⟨Nat.le_of_ble_eq_true rfl, Nat.le_of_ble_eq_true rfl, hc.1, hc.2⟩ (n := 1470) rfl ?_
  refine a_aload_n C dL_law_1470 rfl (n := 1471) rfl ?_
  refine a_callM C mi_X8_image ll_197 iw_X8_image (m_X8_image x.2.1 10000 hm e2) rfl rfl rfl (Nat.le_of_ble_eq_true rfl) dL_law_1471 ⟨Nat.le_of_ble_eq_true rfl, Nat.le_of_ble_eq_true rfl, hc.1, hc.2⟩ (n := 1474) rfl ?_
  exact a_icmp_eqT C dL_law_1474 (tgt := 1551) (by decide) (k _ _ hR1)
theorem mi_X7_undo : MI yX7_undo cX7_undo 1 (some .int) 0 := ⟨gT_in (tb4 (List.mem_of_getElem? (i := 140) rfl)) rfl, gT_in (tb1 (List.mem_of_getElem? (i := 1) rfl)) rfl, by decide +kernel⟩
theorem iw_X7_undo : Cond.instanceMethod yX7_undo ∈ gT ∧ Cond.selects RX7 yX7_undo yX7_undo ∈ gT := ⟨gT_in (tb4 (List.mem_of_getElem? (i := 138) rfl)) rfl, gT_in (tb4 (List.mem_of_getElem? (i := 139) rfl)) rfl⟩
theorem mi_X8_undo : MI yX8_undo cX8_undo 1 (some .int) 0 := ⟨gT_in (tb6 (List.mem_of_getElem? (i := 200) rfl)) rfl, gT_in (tb1 (List.mem_of_getElem? (i := 9) rfl)) rfl, by decide +kernel⟩
theorem iw_X8_undo : Cond.instanceMethod yX8_undo ∈ gT ∧ Cond.selects RX8 yX8_undo yX8_undo ∈ gT := ⟨gT_in (tb6 (List.mem_of_getElem? (i := 198) rfl)) rfl, gT_in (tb6 (List.mem_of_getElem? (i := 199) rfl)) rfl⟩
theorem ll_198 : Cond.methodLink RL 198 yX7_undo ∈ gT := gT_in (tb4 (List.mem_of_getElem? (i := 137) rfl)) rfl
theorem ll_201 : Cond.methodLink RL 201 yX8_undo ∈ gT := gT_in (tb6 (List.mem_of_getElem? (i := 197) rfl)) rfl
set_option maxRecDepth 20000 in
theorem lc_45 {x : Fx} {Q : State → Prop} {ret : Option FieldType} {kc ks : Nat} {D : va_G} {ax am : Nat → Nat} {rs : (Nat → ClassId) × (Nat → Nat) × (Nat → Nat) × (Nat → Nat)} {b Ln t : Nat} {xs : Nat → Int32} {hx hm : Hp} (C : Ok x (D, ax, rs) RL cL_law 4 ret) (X : LX x b Ln xs) (hl : Ln < 2147483648) (ht : t + 6 ≤ Ln) (hc : kc ≤ 600000 ∧ ks ≤ 7302249) (hR : R hx hm) (k : ∀ hx1 hm1, R hx1 hm1 → JA x (D, ax, rs) room_1 4 Q 1551 [some (.ref b), some (.ref (ax 0)), some (.ref (am 0)), some (.int (nI t))] [] (cwX (D, ax, rs) hx1 ++ cwM (D, am, rs) hm1) kc ks) : JA x (D, ax, rs) room_1 4 Q 1479 [some (.ref b), some (.ref (ax 0)), some (.ref (am 0)), some (.int (nI t))] [] (cwX (D, ax, rs) hx ++ cwM (D, am, rs) hm) kc ks := by
  obtain ⟨r, hx1, hm1, e1, e2, hR1⟩ := o_undo (fu := 10000) (by decide) hR
  refine a_aload_n C dL_law_1479 rfl (n := 1480) rfl ?_
  refine a_callX C mi_X7_undo ll_198 iw_X7_undo (m_X7_undo x.2.1 hx e1) rfl rfl rfl (Nat.le_of_ble_eq_true rfl) dL_law_1480 ⟨Nat.le_of_ble_eq_true rfl, Nat.le_of_ble_eq_true rfl, hc.1, hc.2⟩ (n := 1483) rfl ?_
  refine a_aload_n C dL_law_1483 rfl (n := 1484) rfl ?_
  refine a_callM C mi_X8_undo ll_201 iw_X8_undo (m_X8_undo x.2.1 10000 hm e2) rfl rfl rfl (Nat.le_of_ble_eq_true rfl) dL_law_1484 ⟨Nat.le_of_ble_eq_true rfl, Nat.le_of_ble_eq_true rfl, hc.1, hc.2⟩ (n := 1487) rfl ?_
  exact a_icmp_eqT C dL_law_1487 (tgt := 1551) (by decide) (k _ _ hR1)
theorem mi_X7_tear : MI yX7_tear cX7_tear 2 (some .int) 0 := ⟨gT_in (tb4 (List.mem_of_getElem? (i := 144) rfl)) rfl, gT_in (tb1 (List.mem_of_getElem? (i := 1) rfl)) rfl, by decide +kernel⟩
theorem iw_X7_tear : Cond.instanceMethod yX7_tear ∈ gT ∧ Cond.selects RX7 yX7_tear yX7_tear ∈ gT := ⟨gT_in (tb4 (List.mem_of_getElem? (i := 142) rfl)) rfl, gT_in (tb4 (List.mem_of_getElem? (i := 143) rfl)) rfl⟩
theorem mi_X8_tear : MI yX8_tear cX8_tear 2 (some .int) 0 := ⟨gT_in (tb6 (List.mem_of_getElem? (i := 204) rfl)) rfl, gT_in (tb1 (List.mem_of_getElem? (i := 9) rfl)) rfl, by decide +kernel⟩
theorem iw_X8_tear : Cond.instanceMethod yX8_tear ∈ gT ∧ Cond.selects RX8 yX8_tear yX8_tear ∈ gT := ⟨gT_in (tb6 (List.mem_of_getElem? (i := 202) rfl)) rfl, gT_in (tb6 (List.mem_of_getElem? (i := 203) rfl)) rfl⟩
theorem ll_202 : Cond.methodLink RL 202 yX7_tear ∈ gT := gT_in (tb4 (List.mem_of_getElem? (i := 141) rfl)) rfl
theorem ll_205 : Cond.methodLink RL 205 yX8_tear ∈ gT := gT_in (tb6 (List.mem_of_getElem? (i := 201) rfl)) rfl
set_option maxRecDepth 20000 in
theorem lc_46 {x : Fx} {Q : State → Prop} {ret : Option FieldType} {kc ks : Nat} {D : va_G} {ax am : Nat → Nat} {rs : (Nat → ClassId) × (Nat → Nat) × (Nat → Nat) × (Nat → Nat)} {b Ln t : Nat} {xs : Nat → Int32} {hx hm : Hp} (C : Ok x (D, ax, rs) RL cL_law 4 ret) (X : LX x b Ln xs) (hl : Ln < 2147483648) (ht : t + 6 ≤ Ln) (hc : kc ≤ 600000 ∧ ks ≤ 7302249) (hR : R hx hm) (k : ∀ hx1 hm1, R hx1 hm1 → JA x (D, ax, rs) room_1 4 Q 1551 [some (.ref b), some (.ref (ax 0)), some (.ref (am 0)), some (.int (nI t))] [] (cwX (D, ax, rs) hx1 ++ cwM (D, am, rs) hm1) kc ks) : JA x (D, ax, rs) room_1 4 Q 1492 [some (.ref b), some (.ref (ax 0)), some (.ref (am 0)), some (.int (nI t))] [] (cwX (D, ax, rs) hx ++ cwM (D, am, rs) hm) kc ks := by
  obtain ⟨r, hx1, hm1, e1, e2, hR1⟩ := o_tear hR
  refine a_aload_n C dL_law_1492 rfl (n := 1493) rfl ?_
  refine a_callX C mi_X7_tear ll_202 iw_X7_tear (m_X7_tear x.2.1 hx e1) rfl rfl rfl (Nat.le_of_ble_eq_true rfl) dL_law_1493 ⟨Nat.le_of_ble_eq_true rfl, Nat.le_of_ble_eq_true rfl, hc.1, hc.2⟩ (n := 1496) rfl ?_
  refine a_aload_n C dL_law_1496 rfl (n := 1497) rfl ?_
  refine a_callM C mi_X8_tear ll_205 iw_X8_tear (m_X8_tear x.2.1 hm e2) rfl rfl rfl (Nat.le_of_ble_eq_true rfl) dL_law_1497 ⟨Nat.le_of_ble_eq_true rfl, Nat.le_of_ble_eq_true rfl, hc.1, hc.2⟩ (n := 1500) rfl ?_
  exact a_icmp_eqT C dL_law_1500 (tgt := 1551) (by decide) (k _ _ hR1)
theorem mi_X7_count : MI yX7_count cX7_count 2 (some .int) 1 := ⟨gT_in (tb4 (List.mem_of_getElem? (i := 148) rfl)) rfl, gT_in (tb1 (List.mem_of_getElem? (i := 1) rfl)) rfl, by decide +kernel⟩
theorem iw_X7_count : Cond.instanceMethod yX7_count ∈ gT ∧ Cond.selects RX7 yX7_count yX7_count ∈ gT := ⟨gT_in (tb4 (List.mem_of_getElem? (i := 146) rfl)) rfl, gT_in (tb4 (List.mem_of_getElem? (i := 147) rfl)) rfl⟩
theorem mi_X8_count : MI yX8_count cX8_count 4 (some .int) 1 := ⟨gT_in (tb6 (List.mem_of_getElem? (i := 208) rfl)) rfl, gT_in (tb1 (List.mem_of_getElem? (i := 9) rfl)) rfl, by decide +kernel⟩
theorem iw_X8_count : Cond.instanceMethod yX8_count ∈ gT ∧ Cond.selects RX8 yX8_count yX8_count ∈ gT := ⟨gT_in (tb6 (List.mem_of_getElem? (i := 206) rfl)) rfl, gT_in (tb6 (List.mem_of_getElem? (i := 207) rfl)) rfl⟩
theorem ll_206 : Cond.methodLink RL 206 yX7_count ∈ gT := gT_in (tb4 (List.mem_of_getElem? (i := 145) rfl)) rfl
theorem ll_209 : Cond.methodLink RL 209 yX8_count ∈ gT := gT_in (tb6 (List.mem_of_getElem? (i := 205) rfl)) rfl
set_option maxRecDepth 20000 in
theorem lc_47 {x : Fx} {Q : State → Prop} {ret : Option FieldType} {kc ks : Nat} {D : va_G} {ax am : Nat → Nat} {rs : (Nat → ClassId) × (Nat → Nat) × (Nat → Nat) × (Nat → Nat)} {b Ln t : Nat} {xs : Nat → Int32} {hx hm : Hp} (C : Ok x (D, ax, rs) RL cL_law 4 ret) (X : LX x b Ln xs) (hl : Ln < 2147483648) (ht : t + 6 ≤ Ln) (hc : kc ≤ 600000 ∧ ks ≤ 7302249) (hR : R hx hm) (k : ∀ hx1 hm1, R hx1 hm1 → JA x (D, ax, rs) room_1 4 Q 1551 [some (.ref b), some (.ref (ax 0)), some (.ref (am 0)), some (.int (nI t))] [] (cwX (D, ax, rs) hx1 ++ cwM (D, am, rs) hm1) kc ks) : JA x (D, ax, rs) room_1 4 Q 1505 [some (.ref b), some (.ref (ax 0)), some (.ref (am 0)), some (.int (nI t))] [] (cwX (D, ax, rs) hx ++ cwM (D, am, rs) hm) kc ks := by
  obtain ⟨r, hx1, hm1, e1, e2, hR1⟩ := o_count (fu := 10000) (by decide) hR (xs (t + 1))
  refine a_aload_n C dL_law_1505 rfl (n := 1506) rfl ?_
  refine a_arg C X hl dL_law_1506 dL_law_1507 dL_law_1508 dL_law_1509 dL_law_1510 (jn := 1) (by decide) (by omega) rfl rfl (n := 1511) rfl ?_
  refine a_callX C mi_X7_count ll_206 iw_X7_count (m_X7_count x.2.1 10000 (xs (t + 1)) hx e1) rfl rfl rfl (Nat.le_of_ble_eq_true rfl) dL_law_1511 ⟨Nat.le_of_ble_eq_true rfl, Nat.le_of_ble_eq_true rfl, hc.1, hc.2⟩ (n := 1514) rfl ?_
  refine a_aload_n C dL_law_1514 rfl (n := 1515) rfl ?_
  refine a_arg C X hl dL_law_1515 dL_law_1516 dL_law_1517 dL_law_1518 dL_law_1519 (jn := 1) (by decide) (by omega) rfl rfl (n := 1520) rfl ?_
  refine a_callM C mi_X8_count ll_209 iw_X8_count (m_X8_count x.2.1 10000 (xs (t + 1)) hm e2) rfl rfl rfl (Nat.le_of_ble_eq_true rfl) dL_law_1520 ⟨Nat.le_of_ble_eq_true rfl, Nat.le_of_ble_eq_true rfl, hc.1, hc.2⟩ (n := 1523) rfl ?_
  exact a_icmp_eqT C dL_law_1523 (tgt := 1551) (by decide) (k _ _ hR1)
theorem mi_X7_status : MI yX7_status cX7_status 4 (some .int) 1 := ⟨gT_in (tb4 (List.mem_of_getElem? (i := 161) rfl)) rfl, gT_in (tb1 (List.mem_of_getElem? (i := 1) rfl)) rfl, by decide +kernel⟩
theorem iw_X7_status : Cond.instanceMethod yX7_status ∈ gT ∧ Cond.selects RX7 yX7_status yX7_status ∈ gT := ⟨gT_in (tb4 (List.mem_of_getElem? (i := 159) rfl)) rfl, gT_in (tb4 (List.mem_of_getElem? (i := 160) rfl)) rfl⟩
theorem mi_X8_status : MI yX8_status cX8_status 2 (some .int) 1 := ⟨gT_in (tb6 (List.mem_of_getElem? (i := 212) rfl)) rfl, gT_in (tb1 (List.mem_of_getElem? (i := 9) rfl)) rfl, by decide +kernel⟩
theorem iw_X8_status : Cond.instanceMethod yX8_status ∈ gT ∧ Cond.selects RX8 yX8_status yX8_status ∈ gT := ⟨gT_in (tb6 (List.mem_of_getElem? (i := 210) rfl)) rfl, gT_in (tb6 (List.mem_of_getElem? (i := 211) rfl)) rfl⟩
theorem ll_210 : Cond.methodLink RL 210 yX7_status ∈ gT := gT_in (tb4 (List.mem_of_getElem? (i := 158) rfl)) rfl
theorem ll_213 : Cond.methodLink RL 213 yX8_status ∈ gT := gT_in (tb6 (List.mem_of_getElem? (i := 209) rfl)) rfl
set_option maxRecDepth 20000 in
theorem lc_48 {x : Fx} {Q : State → Prop} {ret : Option FieldType} {kc ks : Nat} {D : va_G} {ax am : Nat → Nat} {rs : (Nat → ClassId) × (Nat → Nat) × (Nat → Nat) × (Nat → Nat)} {b Ln t : Nat} {xs : Nat → Int32} {hx hm : Hp} (C : Ok x (D, ax, rs) RL cL_law 4 ret) (X : LX x b Ln xs) (hl : Ln < 2147483648) (ht : t + 6 ≤ Ln) (hc : kc ≤ 600000 ∧ ks ≤ 7302249) (hR : R hx hm) (k : ∀ hx1 hm1, R hx1 hm1 → JA x (D, ax, rs) room_1 4 Q 1551 [some (.ref b), some (.ref (ax 0)), some (.ref (am 0)), some (.int (nI t))] [] (cwX (D, ax, rs) hx1 ++ cwM (D, am, rs) hm1) kc ks) : JA x (D, ax, rs) room_1 4 Q 1528 [some (.ref b), some (.ref (ax 0)), some (.ref (am 0)), some (.int (nI t))] [] (cwX (D, ax, rs) hx ++ cwM (D, am, rs) hm) kc ks := by
  obtain ⟨r, hx1, hm1, e1, e2, hR1⟩ := o_status (fu := 10000) (by decide) hR (xs (t + 1))
  refine a_aload_n C dL_law_1528 rfl (n := 1529) rfl ?_
  refine a_arg C X hl dL_law_1529 dL_law_1530 dL_law_1531 dL_law_1532 dL_law_1533 (jn := 1) (by decide) (by omega) rfl rfl (n := 1534) rfl ?_
  refine a_callX C mi_X7_status ll_210 iw_X7_status (m_X7_status x.2.1 10000 (xs (t + 1)) hx e1) rfl rfl rfl (Nat.le_of_ble_eq_true rfl) dL_law_1534 ⟨Nat.le_of_ble_eq_true rfl, Nat.le_of_ble_eq_true rfl, hc.1, hc.2⟩ (n := 1537) rfl ?_
  refine a_aload_n C dL_law_1537 rfl (n := 1538) rfl ?_
  refine a_arg C X hl dL_law_1538 dL_law_1539 dL_law_1540 dL_law_1541 dL_law_1542 (jn := 1) (by decide) (by omega) rfl rfl (n := 1543) rfl ?_
  refine a_callM C mi_X8_status ll_213 iw_X8_status (m_X8_status x.2.1 (xs (t + 1)) hm e2) rfl rfl rfl (Nat.le_of_ble_eq_true rfl) dL_law_1543 ⟨Nat.le_of_ble_eq_true rfl, Nat.le_of_ble_eq_true rfl, hc.1, hc.2⟩ (n := 1546) rfl ?_
  exact a_icmp_eqT C dL_law_1546 (tgt := 1551) (by decide) (k _ _ hR1)
