/-! the law's calls, by program (wip/whole/genlaw.py) -/
theorem zs_at {t : mt_T} {av : List pv_T} {M : mm_T} {P : Int32 → Int64 → fI → Prop} (h : zs_i t av M 99 (mm_l M 99 14) (mm_i M) P) : go_S t fr_R av M (qi_ (fun x M' => ∃ z' I', M' = mm_si (mm_pl M 99 14 z') I' ∧ P x z' I')) := by
  have e : mm_si (mm_pl M 99 14 (mm_l M 99 14)) (mm_i M) = M := by
    show (M.1, M.2.1, M.2.2.1, (fun b k => if b = 99 ∧ k = 14 then M.2.2.2.1 99 14 else M.2.2.2.1 b k), M.2.2.2.2) = M
    have : (fun b k => if b = 99 ∧ k = 14 then M.2.2.2.1 99 14 else M.2.2.2.1 b k) = M.2.2.2.1 := by
      funext b k
      by_cases q : b = 99 ∧ k = 14
      · rw [if_pos q, q.1, q.2]
      · rw [if_neg q]
    rw [this]
  have h' : go_W t fr_R 0 (cx_e av (mt_n t)) [] (mm_si (mm_pl M 99 14 (mm_l M 99 14)) (mm_i M)) (qi_ (fun x M' => ∃ z' I', M' = mm_si (mm_pl M 99 14 z') I' ∧ P x z' I')) := h
  rw [e] at h'
  exact h'
theorem lc_put {M : mm_T} {N i : Nat} {nm : String} {Q : Option pv_T → mm_T → Prop} (h1 : mm_k M 1 = (15, N)) (hN : N ≤ 3072) (hi : i + 6 ≤ N) (k5 : mm_k M 5 = (10, 14)) (k9 : mm_k M 99 = (11, 22)) (H : cs_i mt_X10_put [pv_r 5, pv_i (mm_i M 1 (i + 1)), pv_i (mm_i M 1 (i + 2)), pv_i (mm_i M 1 (i + 3)), pv_i (mm_i M 1 (i + 4)), pv_i (mm_i M 1 (i + 5))] M (fun v M1 => mm_S fr_C M M1 → rs_i mt_X11_put [pv_r 99, pv_i (mm_i M 1 (i + 1)), pv_i (mm_i M 1 (i + 2)), pv_i (mm_i M 1 (i + 3)), pv_i (mm_i M 1 (i + 4)), pv_i (mm_i M 1 (i + 5))] M1 (mm_i M1) (fun w I' => v = w ∧ go_W (mt_Ln nm) fr_A 1803 (l4_ i) [] (mm_si M1 I') Q))) : go_W (mt_Ln nm) fr_A 256 (l4_ i) [] M Q := by
  refine go_aload_n dL_law_256 rfl ?_
  refine go_scr (j := 1) h1 hN rfl (by omega) dL_law_257 dL_law_258 dL_law_259 dL_law_260 dL_law_261 ?_
  refine go_scr (j := 2) h1 hN rfl (by omega) dL_law_262 dL_law_263 dL_law_264 dL_law_265 dL_law_266 ?_
  refine go_scr (j := 3) h1 hN rfl (by omega) dL_law_267 dL_law_268 dL_law_269 dL_law_270 dL_law_271 ?_
  refine go_scr (j := 4) h1 hN rfl (by omega) dL_law_272 dL_law_273 dL_law_274 dL_law_275 dL_law_276 ?_
  refine go_scr (j := 5) h1 hN rfl (by omega) dL_law_277 dL_law_278 dL_law_279 dL_law_280 dL_law_281 ?_
  refine go_V (av := [pv_i (mm_i M 1 (i + 1)), pv_i (mm_i M 1 (i + 2)), pv_i (mm_i M 1 (i + 3)), pv_i (mm_i M 1 (i + 4)), pv_i (mm_i M 1 (i + 5))]) (st := []) (ci := 10) ok_X10_put ⟨Nat.le_of_ble_eq_true rfl, Nat.le_of_ble_eq_true rfl⟩ ml_L_13 rfl (by decide) (fun v hv => by simp only [List.mem_cons, List.not_mem_nil, or_false] at hv; rcases hv with rfl | rfl | rfl | rfl | rfl <;> exact pv_1i) (Nat.le_of_ble_eq_true rfl) (fun _ _ => rfl) (by decide) rfl k5 dL_law_282 H (fun r M1 hq hS => ?_)
  obtain ⟨v, rfl, H⟩ := hq
  replace H := H hS
  obtain ⟨e1, e2⟩ := sc_S h1 hS
  have e9 : mm_k M1 99 = (11, 22) := ks_S k9 (by decide) hS
  show go_W (mt_Ln nm) fr_A 285 (l4_ i) [pv_i v] M1 Q
  refine go_aload_n dL_law_285 rfl ?_
  refine go_scr (j := 1) e1 hN rfl (by omega) dL_law_286 dL_law_287 dL_law_288 dL_law_289 dL_law_290 ?_
  rw [e2 (i + 1)]
  refine go_scr (j := 2) e1 hN rfl (by omega) dL_law_291 dL_law_292 dL_law_293 dL_law_294 dL_law_295 ?_
  rw [e2 (i + 2)]
  refine go_scr (j := 3) e1 hN rfl (by omega) dL_law_296 dL_law_297 dL_law_298 dL_law_299 dL_law_300 ?_
  rw [e2 (i + 3)]
  refine go_scr (j := 4) e1 hN rfl (by omega) dL_law_301 dL_law_302 dL_law_303 dL_law_304 dL_law_305 ?_
  rw [e2 (i + 4)]
  refine go_scr (j := 5) e1 hN rfl (by omega) dL_law_306 dL_law_307 dL_law_308 dL_law_309 dL_law_310 ?_
  rw [e2 (i + 5)]
  refine go_V (av := [pv_i (mm_i M 1 (i + 1)), pv_i (mm_i M 1 (i + 2)), pv_i (mm_i M 1 (i + 3)), pv_i (mm_i M 1 (i + 4)), pv_i (mm_i M 1 (i + 5))]) (st := [pv_i v]) (ci := 11) ok_X11_put ⟨Nat.le_of_ble_eq_true rfl, Nat.le_of_ble_eq_true rfl⟩ ml_L_17 rfl (by decide) (fun v hv => by simp only [List.mem_cons, List.not_mem_nil, or_false] at hv; rcases hv with rfl | rfl | rfl | rfl | rfl <;> exact pv_1i) (Nat.le_of_ble_eq_true rfl) (fun _ _ => rfl) (by decide) rfl e9 dL_law_311 H (fun r M2 hq hS2 => ?_)
  obtain ⟨w, rfl, I', rfl, rfl, H⟩ := hq
  exact go_icmp_eq (tgt := 1803) dL_law_314 (by decide) (fun _ => H) (fun q => absurd rfl q)
theorem lc_take {M : mm_T} {N i : Nat} {nm : String} {Q : Option pv_T → mm_T → Prop} (h1 : mm_k M 1 = (15, N)) (hN : N ≤ 3072) (hi : i + 6 ≤ N) (k5 : mm_k M 5 = (10, 14)) (k9 : mm_k M 99 = (11, 22)) (H : cs_i mt_X10_take [pv_r 5, pv_i (mm_i M 1 (i + 1))] M (fun v M1 => mm_S fr_C M M1 → rs_i mt_X11_take [pv_r 99, pv_i (mm_i M 1 (i + 1))] M1 (mm_i M1) (fun w I' => v = w ∧ go_W (mt_Ln nm) fr_A 1803 (l4_ i) [] (mm_si M1 I') Q))) : go_W (mt_Ln nm) fr_A 319 (l4_ i) [] M Q := by
  refine go_aload_n dL_law_319 rfl ?_
  refine go_scr (j := 1) h1 hN rfl (by omega) dL_law_320 dL_law_321 dL_law_322 dL_law_323 dL_law_324 ?_
  refine go_V (av := [pv_i (mm_i M 1 (i + 1))]) (st := []) (ci := 10) ok_X10_take ⟨Nat.le_of_ble_eq_true rfl, Nat.le_of_ble_eq_true rfl⟩ ml_L_18 rfl (by decide) (fun v hv => by simp only [List.mem_cons, List.not_mem_nil, or_false] at hv; rcases hv with rfl <;> exact pv_1i) (Nat.le_of_ble_eq_true rfl) (fun _ _ => rfl) (by decide) rfl k5 dL_law_325 H (fun r M1 hq hS => ?_)
  obtain ⟨v, rfl, H⟩ := hq
  replace H := H hS
  obtain ⟨e1, e2⟩ := sc_S h1 hS
  have e9 : mm_k M1 99 = (11, 22) := ks_S k9 (by decide) hS
  show go_W (mt_Ln nm) fr_A 328 (l4_ i) [pv_i v] M1 Q
  refine go_aload_n dL_law_328 rfl ?_
  refine go_scr (j := 1) e1 hN rfl (by omega) dL_law_329 dL_law_330 dL_law_331 dL_law_332 dL_law_333 ?_
  rw [e2 (i + 1)]
  refine go_V (av := [pv_i (mm_i M 1 (i + 1))]) (st := [pv_i v]) (ci := 11) ok_X11_take ⟨Nat.le_of_ble_eq_true rfl, Nat.le_of_ble_eq_true rfl⟩ ml_L_22 rfl (by decide) (fun v hv => by simp only [List.mem_cons, List.not_mem_nil, or_false] at hv; rcases hv with rfl <;> exact pv_1i) (Nat.le_of_ble_eq_true rfl) (fun _ _ => rfl) (by decide) rfl e9 dL_law_334 H (fun r M2 hq hS2 => ?_)
  obtain ⟨w, rfl, I', rfl, rfl, H⟩ := hq
  exact go_icmp_eq (tgt := 1803) dL_law_337 (by decide) (fun _ => H) (fun q => absurd rfl q)
theorem lc_done {M : mm_T} {N i : Nat} {nm : String} {Q : Option pv_T → mm_T → Prop} (h1 : mm_k M 1 = (15, N)) (hN : N ≤ 3072) (hi : i + 6 ≤ N) (k5 : mm_k M 5 = (10, 14)) (k9 : mm_k M 99 = (11, 22)) (H : cs_i mt_X10_done [pv_r 5, pv_i (mm_i M 1 (i + 1)), pv_i (mm_i M 1 (i + 2))] M (fun v M1 => mm_S fr_C M M1 → rs_i mt_X11_done [pv_r 99, pv_i (mm_i M 1 (i + 1)), pv_i (mm_i M 1 (i + 2))] M1 (mm_i M1) (fun w I' => v = w ∧ go_W (mt_Ln nm) fr_A 1803 (l4_ i) [] (mm_si M1 I') Q))) : go_W (mt_Ln nm) fr_A 342 (l4_ i) [] M Q := by
  refine go_aload_n dL_law_342 rfl ?_
  refine go_scr (j := 1) h1 hN rfl (by omega) dL_law_343 dL_law_344 dL_law_345 dL_law_346 dL_law_347 ?_
  refine go_scr (j := 2) h1 hN rfl (by omega) dL_law_348 dL_law_349 dL_law_350 dL_law_351 dL_law_352 ?_
  refine go_V (av := [pv_i (mm_i M 1 (i + 1)), pv_i (mm_i M 1 (i + 2))]) (st := []) (ci := 10) ok_X10_done ⟨Nat.le_of_ble_eq_true rfl, Nat.le_of_ble_eq_true rfl⟩ ml_L_23 rfl (by decide) (fun v hv => by simp only [List.mem_cons, List.not_mem_nil, or_false] at hv; rcases hv with rfl | rfl <;> exact pv_1i) (Nat.le_of_ble_eq_true rfl) (fun _ _ => rfl) (by decide) rfl k5 dL_law_353 H (fun r M1 hq hS => ?_)
  obtain ⟨v, rfl, H⟩ := hq
  replace H := H hS
  obtain ⟨e1, e2⟩ := sc_S h1 hS
  have e9 : mm_k M1 99 = (11, 22) := ks_S k9 (by decide) hS
  show go_W (mt_Ln nm) fr_A 356 (l4_ i) [pv_i v] M1 Q
  refine go_aload_n dL_law_356 rfl ?_
  refine go_scr (j := 1) e1 hN rfl (by omega) dL_law_357 dL_law_358 dL_law_359 dL_law_360 dL_law_361 ?_
  rw [e2 (i + 1)]
  refine go_scr (j := 2) e1 hN rfl (by omega) dL_law_362 dL_law_363 dL_law_364 dL_law_365 dL_law_366 ?_
  rw [e2 (i + 2)]
  refine go_V (av := [pv_i (mm_i M 1 (i + 1)), pv_i (mm_i M 1 (i + 2))]) (st := [pv_i v]) (ci := 11) ok_X11_done ⟨Nat.le_of_ble_eq_true rfl, Nat.le_of_ble_eq_true rfl⟩ ml_L_27 rfl (by decide) (fun v hv => by simp only [List.mem_cons, List.not_mem_nil, or_false] at hv; rcases hv with rfl | rfl <;> exact pv_1i) (Nat.le_of_ble_eq_true rfl) (fun _ _ => rfl) (by decide) rfl e9 dL_law_367 H (fun r M2 hq hS2 => ?_)
  obtain ⟨w, rfl, I', rfl, rfl, H⟩ := hq
  exact go_icmp_eq (tgt := 1803) dL_law_370 (by decide) (fun _ => H) (fun q => absurd rfl q)
theorem lc_fail {M : mm_T} {N i : Nat} {nm : String} {Q : Option pv_T → mm_T → Prop} (h1 : mm_k M 1 = (15, N)) (hN : N ≤ 3072) (hi : i + 6 ≤ N) (k5 : mm_k M 5 = (10, 14)) (k9 : mm_k M 99 = (11, 22)) (H : cs_i mt_X10_fail [pv_r 5, pv_i (mm_i M 1 (i + 1)), pv_i (mm_i M 1 (i + 2)), pv_i (mm_i M 1 (i + 3))] M (fun v M1 => mm_S fr_C M M1 → rs_i mt_X11_fail [pv_r 99, pv_i (mm_i M 1 (i + 1)), pv_i (mm_i M 1 (i + 2)), pv_i (mm_i M 1 (i + 3))] M1 (mm_i M1) (fun w I' => v = w ∧ go_W (mt_Ln nm) fr_A 1803 (l4_ i) [] (mm_si M1 I') Q))) : go_W (mt_Ln nm) fr_A 375 (l4_ i) [] M Q := by
  refine go_aload_n dL_law_375 rfl ?_
  refine go_scr (j := 1) h1 hN rfl (by omega) dL_law_376 dL_law_377 dL_law_378 dL_law_379 dL_law_380 ?_
  refine go_scr (j := 2) h1 hN rfl (by omega) dL_law_381 dL_law_382 dL_law_383 dL_law_384 dL_law_385 ?_
  refine go_scr (j := 3) h1 hN rfl (by omega) dL_law_386 dL_law_387 dL_law_388 dL_law_389 dL_law_390 ?_
  refine go_V (av := [pv_i (mm_i M 1 (i + 1)), pv_i (mm_i M 1 (i + 2)), pv_i (mm_i M 1 (i + 3))]) (st := []) (ci := 10) ok_X10_fail ⟨Nat.le_of_ble_eq_true rfl, Nat.le_of_ble_eq_true rfl⟩ ml_L_28 rfl (by decide) (fun v hv => by simp only [List.mem_cons, List.not_mem_nil, or_false] at hv; rcases hv with rfl | rfl | rfl <;> exact pv_1i) (Nat.le_of_ble_eq_true rfl) (fun _ _ => rfl) (by decide) rfl k5 dL_law_391 H (fun r M1 hq hS => ?_)
  obtain ⟨v, rfl, H⟩ := hq
  replace H := H hS
  obtain ⟨e1, e2⟩ := sc_S h1 hS
  have e9 : mm_k M1 99 = (11, 22) := ks_S k9 (by decide) hS
  show go_W (mt_Ln nm) fr_A 394 (l4_ i) [pv_i v] M1 Q
  refine go_aload_n dL_law_394 rfl ?_
  refine go_scr (j := 1) e1 hN rfl (by omega) dL_law_395 dL_law_396 dL_law_397 dL_law_398 dL_law_399 ?_
  rw [e2 (i + 1)]
  refine go_scr (j := 2) e1 hN rfl (by omega) dL_law_400 dL_law_401 dL_law_402 dL_law_403 dL_law_404 ?_
  rw [e2 (i + 2)]
  refine go_scr (j := 3) e1 hN rfl (by omega) dL_law_405 dL_law_406 dL_law_407 dL_law_408 dL_law_409 ?_
  rw [e2 (i + 3)]
  refine go_V (av := [pv_i (mm_i M 1 (i + 1)), pv_i (mm_i M 1 (i + 2)), pv_i (mm_i M 1 (i + 3))]) (st := [pv_i v]) (ci := 11) ok_X11_fail ⟨Nat.le_of_ble_eq_true rfl, Nat.le_of_ble_eq_true rfl⟩ ml_L_32 rfl (by decide) (fun v hv => by simp only [List.mem_cons, List.not_mem_nil, or_false] at hv; rcases hv with rfl | rfl | rfl <;> exact pv_1i) (Nat.le_of_ble_eq_true rfl) (fun _ _ => rfl) (by decide) rfl e9 dL_law_410 H (fun r M2 hq hS2 => ?_)
  obtain ⟨w, rfl, I', rfl, rfl, H⟩ := hq
  exact go_icmp_eq (tgt := 1803) dL_law_413 (by decide) (fun _ => H) (fun q => absurd rfl q)
theorem lc_beat {M : mm_T} {N i : Nat} {nm : String} {Q : Option pv_T → mm_T → Prop} (h1 : mm_k M 1 = (15, N)) (hN : N ≤ 3072) (hi : i + 6 ≤ N) (k5 : mm_k M 5 = (10, 14)) (k9 : mm_k M 99 = (11, 22)) (H : cs_i mt_X10_beat [pv_r 5, pv_i (mm_i M 1 (i + 1)), pv_i (mm_i M 1 (i + 2))] M (fun v M1 => mm_S fr_C M M1 → rs_i mt_X11_beat [pv_r 99, pv_i (mm_i M 1 (i + 1)), pv_i (mm_i M 1 (i + 2))] M1 (mm_i M1) (fun w I' => v = w ∧ go_W (mt_Ln nm) fr_A 1803 (l4_ i) [] (mm_si M1 I') Q))) : go_W (mt_Ln nm) fr_A 418 (l4_ i) [] M Q := by
  refine go_aload_n dL_law_418 rfl ?_
  refine go_scr (j := 1) h1 hN rfl (by omega) dL_law_419 dL_law_420 dL_law_421 dL_law_422 dL_law_423 ?_
  refine go_scr (j := 2) h1 hN rfl (by omega) dL_law_424 dL_law_425 dL_law_426 dL_law_427 dL_law_428 ?_
  refine go_V (av := [pv_i (mm_i M 1 (i + 1)), pv_i (mm_i M 1 (i + 2))]) (st := []) (ci := 10) ok_X10_beat ⟨Nat.le_of_ble_eq_true rfl, Nat.le_of_ble_eq_true rfl⟩ ml_L_33 rfl (by decide) (fun v hv => by simp only [List.mem_cons, List.not_mem_nil, or_false] at hv; rcases hv with rfl | rfl <;> exact pv_1i) (Nat.le_of_ble_eq_true rfl) (fun _ _ => rfl) (by decide) rfl k5 dL_law_429 H (fun r M1 hq hS => ?_)
  obtain ⟨v, rfl, H⟩ := hq
  replace H := H hS
  obtain ⟨e1, e2⟩ := sc_S h1 hS
  have e9 : mm_k M1 99 = (11, 22) := ks_S k9 (by decide) hS
  show go_W (mt_Ln nm) fr_A 432 (l4_ i) [pv_i v] M1 Q
  refine go_aload_n dL_law_432 rfl ?_
  refine go_scr (j := 1) e1 hN rfl (by omega) dL_law_433 dL_law_434 dL_law_435 dL_law_436 dL_law_437 ?_
  rw [e2 (i + 1)]
  refine go_scr (j := 2) e1 hN rfl (by omega) dL_law_438 dL_law_439 dL_law_440 dL_law_441 dL_law_442 ?_
  rw [e2 (i + 2)]
  refine go_V (av := [pv_i (mm_i M 1 (i + 1)), pv_i (mm_i M 1 (i + 2))]) (st := [pv_i v]) (ci := 11) ok_X11_beat ⟨Nat.le_of_ble_eq_true rfl, Nat.le_of_ble_eq_true rfl⟩ ml_L_36 rfl (by decide) (fun v hv => by simp only [List.mem_cons, List.not_mem_nil, or_false] at hv; rcases hv with rfl | rfl <;> exact pv_1i) (Nat.le_of_ble_eq_true rfl) (fun _ _ => rfl) (by decide) rfl e9 dL_law_443 H (fun r M2 hq hS2 => ?_)
  obtain ⟨w, rfl, I', rfl, rfl, H⟩ := hq
  exact go_icmp_eq (tgt := 1803) dL_law_446 (by decide) (fun _ => H) (fun q => absurd rfl q)
theorem lc_back {M : mm_T} {N i : Nat} {nm : String} {Q : Option pv_T → mm_T → Prop} (h1 : mm_k M 1 = (15, N)) (hN : N ≤ 3072) (hi : i + 6 ≤ N) (k5 : mm_k M 5 = (10, 14)) (k9 : mm_k M 99 = (11, 22)) (H : cs_i mt_X10_back [pv_r 5, pv_i (mm_i M 1 (i + 1)), pv_i (mm_i M 1 (i + 2))] M (fun v M1 => mm_S fr_C M M1 → rs_i mt_X11_back [pv_r 99, pv_i (mm_i M 1 (i + 1)), pv_i (mm_i M 1 (i + 2))] M1 (mm_i M1) (fun w I' => v = w ∧ go_W (mt_Ln nm) fr_A 1803 (l4_ i) [] (mm_si M1 I') Q))) : go_W (mt_Ln nm) fr_A 451 (l4_ i) [] M Q := by
  refine go_aload_n dL_law_451 rfl ?_
  refine go_scr (j := 1) h1 hN rfl (by omega) dL_law_452 dL_law_453 dL_law_454 dL_law_455 dL_law_456 ?_
  refine go_scr (j := 2) h1 hN rfl (by omega) dL_law_457 dL_law_458 dL_law_459 dL_law_460 dL_law_461 ?_
  refine go_V (av := [pv_i (mm_i M 1 (i + 1)), pv_i (mm_i M 1 (i + 2))]) (st := []) (ci := 10) ok_X10_back ⟨Nat.le_of_ble_eq_true rfl, Nat.le_of_ble_eq_true rfl⟩ ml_L_37 rfl (by decide) (fun v hv => by simp only [List.mem_cons, List.not_mem_nil, or_false] at hv; rcases hv with rfl | rfl <;> exact pv_1i) (Nat.le_of_ble_eq_true rfl) (fun _ _ => rfl) (by decide) rfl k5 dL_law_462 H (fun r M1 hq hS => ?_)
  obtain ⟨v, rfl, H⟩ := hq
  replace H := H hS
  obtain ⟨e1, e2⟩ := sc_S h1 hS
  have e9 : mm_k M1 99 = (11, 22) := ks_S k9 (by decide) hS
  show go_W (mt_Ln nm) fr_A 465 (l4_ i) [pv_i v] M1 Q
  refine go_aload_n dL_law_465 rfl ?_
  refine go_scr (j := 1) e1 hN rfl (by omega) dL_law_466 dL_law_467 dL_law_468 dL_law_469 dL_law_470 ?_
  rw [e2 (i + 1)]
  refine go_scr (j := 2) e1 hN rfl (by omega) dL_law_471 dL_law_472 dL_law_473 dL_law_474 dL_law_475 ?_
  rw [e2 (i + 2)]
  refine go_V (av := [pv_i (mm_i M 1 (i + 1)), pv_i (mm_i M 1 (i + 2))]) (st := [pv_i v]) (ci := 11) ok_X11_back ⟨Nat.le_of_ble_eq_true rfl, Nat.le_of_ble_eq_true rfl⟩ ml_L_40 rfl (by decide) (fun v hv => by simp only [List.mem_cons, List.not_mem_nil, or_false] at hv; rcases hv with rfl | rfl <;> exact pv_1i) (Nat.le_of_ble_eq_true rfl) (fun _ _ => rfl) (by decide) rfl e9 dL_law_476 H (fun r M2 hq hS2 => ?_)
  obtain ⟨w, rfl, I', rfl, rfl, H⟩ := hq
  exact go_icmp_eq (tgt := 1803) dL_law_479 (by decide) (fun _ => H) (fun q => absurd rfl q)
theorem lc_hand {M : mm_T} {N i : Nat} {nm : String} {Q : Option pv_T → mm_T → Prop} (h1 : mm_k M 1 = (15, N)) (hN : N ≤ 3072) (hi : i + 6 ≤ N) (k5 : mm_k M 5 = (10, 14)) (k9 : mm_k M 99 = (11, 22)) (H : cs_i mt_X10_hand [pv_r 5, pv_i (mm_i M 1 (i + 1)), pv_i (mm_i M 1 (i + 2)), pv_i (mm_i M 1 (i + 3))] M (fun v M1 => mm_S fr_C M M1 → rs_i mt_X11_hand [pv_r 99, pv_i (mm_i M 1 (i + 1)), pv_i (mm_i M 1 (i + 2)), pv_i (mm_i M 1 (i + 3))] M1 (mm_i M1) (fun w I' => v = w ∧ go_W (mt_Ln nm) fr_A 1803 (l4_ i) [] (mm_si M1 I') Q))) : go_W (mt_Ln nm) fr_A 484 (l4_ i) [] M Q := by
  refine go_aload_n dL_law_484 rfl ?_
  refine go_scr (j := 1) h1 hN rfl (by omega) dL_law_485 dL_law_486 dL_law_487 dL_law_488 dL_law_489 ?_
  refine go_scr (j := 2) h1 hN rfl (by omega) dL_law_490 dL_law_491 dL_law_492 dL_law_493 dL_law_494 ?_
  refine go_scr (j := 3) h1 hN rfl (by omega) dL_law_495 dL_law_496 dL_law_497 dL_law_498 dL_law_499 ?_
  refine go_V (av := [pv_i (mm_i M 1 (i + 1)), pv_i (mm_i M 1 (i + 2)), pv_i (mm_i M 1 (i + 3))]) (st := []) (ci := 10) ok_X10_hand ⟨Nat.le_of_ble_eq_true rfl, Nat.le_of_ble_eq_true rfl⟩ ml_L_41 rfl (by decide) (fun v hv => by simp only [List.mem_cons, List.not_mem_nil, or_false] at hv; rcases hv with rfl | rfl | rfl <;> exact pv_1i) (Nat.le_of_ble_eq_true rfl) (fun _ _ => rfl) (by decide) rfl k5 dL_law_500 H (fun r M1 hq hS => ?_)
  obtain ⟨v, rfl, H⟩ := hq
  replace H := H hS
  obtain ⟨e1, e2⟩ := sc_S h1 hS
  have e9 : mm_k M1 99 = (11, 22) := ks_S k9 (by decide) hS
  show go_W (mt_Ln nm) fr_A 503 (l4_ i) [pv_i v] M1 Q
  refine go_aload_n dL_law_503 rfl ?_
  refine go_scr (j := 1) e1 hN rfl (by omega) dL_law_504 dL_law_505 dL_law_506 dL_law_507 dL_law_508 ?_
  rw [e2 (i + 1)]
  refine go_scr (j := 2) e1 hN rfl (by omega) dL_law_509 dL_law_510 dL_law_511 dL_law_512 dL_law_513 ?_
  rw [e2 (i + 2)]
  refine go_scr (j := 3) e1 hN rfl (by omega) dL_law_514 dL_law_515 dL_law_516 dL_law_517 dL_law_518 ?_
  rw [e2 (i + 3)]
  refine go_V (av := [pv_i (mm_i M 1 (i + 1)), pv_i (mm_i M 1 (i + 2)), pv_i (mm_i M 1 (i + 3))]) (st := [pv_i v]) (ci := 11) ok_X11_hand ⟨Nat.le_of_ble_eq_true rfl, Nat.le_of_ble_eq_true rfl⟩ ml_L_44 rfl (by decide) (fun v hv => by simp only [List.mem_cons, List.not_mem_nil, or_false] at hv; rcases hv with rfl | rfl | rfl <;> exact pv_1i) (Nat.le_of_ble_eq_true rfl) (fun _ _ => rfl) (by decide) rfl e9 dL_law_519 H (fun r M2 hq hS2 => ?_)
  obtain ⟨w, rfl, I', rfl, rfl, H⟩ := hq
  exact go_icmp_eq (tgt := 1803) dL_law_522 (by decide) (fun _ => H) (fun q => absurd rfl q)
theorem lc_every {M : mm_T} {N i : Nat} {nm : String} {Q : Option pv_T → mm_T → Prop} (h1 : mm_k M 1 = (15, N)) (hN : N ≤ 3072) (hi : i + 6 ≤ N) (k5 : mm_k M 5 = (10, 14)) (k9 : mm_k M 99 = (11, 22)) (H : cs_i mt_X10_every [pv_r 5, pv_i (mm_i M 1 (i + 1)), pv_i (mm_i M 1 (i + 2)), pv_i (mm_i M 1 (i + 3)), pv_i (mm_i M 1 (i + 4)), pv_i (mm_i M 1 (i + 5))] M (fun v M1 => mm_S fr_C M M1 → rs_i mt_X11_every [pv_r 99, pv_i (mm_i M 1 (i + 1)), pv_i (mm_i M 1 (i + 2)), pv_i (mm_i M 1 (i + 3)), pv_i (mm_i M 1 (i + 4)), pv_i (mm_i M 1 (i + 5))] M1 (mm_i M1) (fun w I' => v = w ∧ go_W (mt_Ln nm) fr_A 1803 (l4_ i) [] (mm_si M1 I') Q))) : go_W (mt_Ln nm) fr_A 527 (l4_ i) [] M Q := by
  refine go_aload_n dL_law_527 rfl ?_
  refine go_scr (j := 1) h1 hN rfl (by omega) dL_law_528 dL_law_529 dL_law_530 dL_law_531 dL_law_532 ?_
  refine go_scr (j := 2) h1 hN rfl (by omega) dL_law_533 dL_law_534 dL_law_535 dL_law_536 dL_law_537 ?_
  refine go_scr (j := 3) h1 hN rfl (by omega) dL_law_538 dL_law_539 dL_law_540 dL_law_541 dL_law_542 ?_
  refine go_scr (j := 4) h1 hN rfl (by omega) dL_law_543 dL_law_544 dL_law_545 dL_law_546 dL_law_547 ?_
  refine go_scr (j := 5) h1 hN rfl (by omega) dL_law_548 dL_law_549 dL_law_550 dL_law_551 dL_law_552 ?_
  refine go_V (av := [pv_i (mm_i M 1 (i + 1)), pv_i (mm_i M 1 (i + 2)), pv_i (mm_i M 1 (i + 3)), pv_i (mm_i M 1 (i + 4)), pv_i (mm_i M 1 (i + 5))]) (st := []) (ci := 10) ok_X10_every ⟨Nat.le_of_ble_eq_true rfl, Nat.le_of_ble_eq_true rfl⟩ ml_L_45 rfl (by decide) (fun v hv => by simp only [List.mem_cons, List.not_mem_nil, or_false] at hv; rcases hv with rfl | rfl | rfl | rfl | rfl <;> exact pv_1i) (Nat.le_of_ble_eq_true rfl) (fun _ _ => rfl) (by decide) rfl k5 dL_law_553 H (fun r M1 hq hS => ?_)
  obtain ⟨v, rfl, H⟩ := hq
  replace H := H hS
  obtain ⟨e1, e2⟩ := sc_S h1 hS
  have e9 : mm_k M1 99 = (11, 22) := ks_S k9 (by decide) hS
  show go_W (mt_Ln nm) fr_A 556 (l4_ i) [pv_i v] M1 Q
  refine go_aload_n dL_law_556 rfl ?_
  refine go_scr (j := 1) e1 hN rfl (by omega) dL_law_557 dL_law_558 dL_law_559 dL_law_560 dL_law_561 ?_
  rw [e2 (i + 1)]
  refine go_scr (j := 2) e1 hN rfl (by omega) dL_law_562 dL_law_563 dL_law_564 dL_law_565 dL_law_566 ?_
  rw [e2 (i + 2)]
  refine go_scr (j := 3) e1 hN rfl (by omega) dL_law_567 dL_law_568 dL_law_569 dL_law_570 dL_law_571 ?_
  rw [e2 (i + 3)]
  refine go_scr (j := 4) e1 hN rfl (by omega) dL_law_572 dL_law_573 dL_law_574 dL_law_575 dL_law_576 ?_
  rw [e2 (i + 4)]
  refine go_scr (j := 5) e1 hN rfl (by omega) dL_law_577 dL_law_578 dL_law_579 dL_law_580 dL_law_581 ?_
  rw [e2 (i + 5)]
  refine go_V (av := [pv_i (mm_i M 1 (i + 1)), pv_i (mm_i M 1 (i + 2)), pv_i (mm_i M 1 (i + 3)), pv_i (mm_i M 1 (i + 4)), pv_i (mm_i M 1 (i + 5))]) (st := [pv_i v]) (ci := 11) ok_X11_every ⟨Nat.le_of_ble_eq_true rfl, Nat.le_of_ble_eq_true rfl⟩ ml_L_48 rfl (by decide) (fun v hv => by simp only [List.mem_cons, List.not_mem_nil, or_false] at hv; rcases hv with rfl | rfl | rfl | rfl | rfl <;> exact pv_1i) (Nat.le_of_ble_eq_true rfl) (fun _ _ => rfl) (by decide) rfl e9 dL_law_582 H (fun r M2 hq hS2 => ?_)
  obtain ⟨w, rfl, I', rfl, rfl, H⟩ := hq
  exact go_icmp_eq (tgt := 1803) dL_law_585 (by decide) (fun _ => H) (fun q => absurd rfl q)
theorem lc_stop {M : mm_T} {N i : Nat} {nm : String} {Q : Option pv_T → mm_T → Prop} (h1 : mm_k M 1 = (15, N)) (hN : N ≤ 3072) (hi : i + 6 ≤ N) (k5 : mm_k M 5 = (10, 14)) (k9 : mm_k M 99 = (11, 22)) (H : cs_i mt_X10_stop [pv_r 5, pv_i (mm_i M 1 (i + 1))] M (fun v M1 => mm_S fr_C M M1 → rs_i mt_X11_stop [pv_r 99, pv_i (mm_i M 1 (i + 1))] M1 (mm_i M1) (fun w I' => v = w ∧ go_W (mt_Ln nm) fr_A 1803 (l4_ i) [] (mm_si M1 I') Q))) : go_W (mt_Ln nm) fr_A 590 (l4_ i) [] M Q := by
  refine go_aload_n dL_law_590 rfl ?_
  refine go_scr (j := 1) h1 hN rfl (by omega) dL_law_591 dL_law_592 dL_law_593 dL_law_594 dL_law_595 ?_
  refine go_V (av := [pv_i (mm_i M 1 (i + 1))]) (st := []) (ci := 10) ok_X10_stop ⟨Nat.le_of_ble_eq_true rfl, Nat.le_of_ble_eq_true rfl⟩ ml_L_49 rfl (by decide) (fun v hv => by simp only [List.mem_cons, List.not_mem_nil, or_false] at hv; rcases hv with rfl <;> exact pv_1i) (Nat.le_of_ble_eq_true rfl) (fun _ _ => rfl) (by decide) rfl k5 dL_law_596 H (fun r M1 hq hS => ?_)
  obtain ⟨v, rfl, H⟩ := hq
  replace H := H hS
  obtain ⟨e1, e2⟩ := sc_S h1 hS
  have e9 : mm_k M1 99 = (11, 22) := ks_S k9 (by decide) hS
  show go_W (mt_Ln nm) fr_A 599 (l4_ i) [pv_i v] M1 Q
  refine go_aload_n dL_law_599 rfl ?_
  refine go_scr (j := 1) e1 hN rfl (by omega) dL_law_600 dL_law_601 dL_law_602 dL_law_603 dL_law_604 ?_
  rw [e2 (i + 1)]
  refine go_V (av := [pv_i (mm_i M 1 (i + 1))]) (st := [pv_i v]) (ci := 11) ok_X11_stop ⟨Nat.le_of_ble_eq_true rfl, Nat.le_of_ble_eq_true rfl⟩ ml_L_52 rfl (by decide) (fun v hv => by simp only [List.mem_cons, List.not_mem_nil, or_false] at hv; rcases hv with rfl <;> exact pv_1i) (Nat.le_of_ble_eq_true rfl) (fun _ _ => rfl) (by decide) rfl e9 dL_law_605 H (fun r M2 hq hS2 => ?_)
  obtain ⟨w, rfl, I', rfl, rfl, H⟩ := hq
  exact go_icmp_eq (tgt := 1803) dL_law_608 (by decide) (fun _ => H) (fun q => absurd rfl q)
theorem lc_tick {M : mm_T} {N i : Nat} {nm : String} {Q : Option pv_T → mm_T → Prop} (h1 : mm_k M 1 = (15, N)) (hN : N ≤ 3072) (hi : i + 6 ≤ N) (k5 : mm_k M 5 = (10, 14)) (k9 : mm_k M 99 = (11, 22)) (H : cs_i mt_X10_tick [pv_r 5, pv_i (mm_i M 1 (i + 1))] M (fun v M1 => mm_S fr_C M M1 → rs_i mt_X11_tick [pv_r 99, pv_i (mm_i M 1 (i + 1))] M1 (mm_i M1) (fun w I' => v = w ∧ go_W (mt_Ln nm) fr_A 1803 (l4_ i) [] (mm_si M1 I') Q))) : go_W (mt_Ln nm) fr_A 613 (l4_ i) [] M Q := by
  refine go_aload_n dL_law_613 rfl ?_
  refine go_scr (j := 1) h1 hN rfl (by omega) dL_law_614 dL_law_615 dL_law_616 dL_law_617 dL_law_618 ?_
  refine go_V (av := [pv_i (mm_i M 1 (i + 1))]) (st := []) (ci := 10) ok_X10_tick ⟨Nat.le_of_ble_eq_true rfl, Nat.le_of_ble_eq_true rfl⟩ ml_L_53 rfl (by decide) (fun v hv => by simp only [List.mem_cons, List.not_mem_nil, or_false] at hv; rcases hv with rfl <;> exact pv_1i) (Nat.le_of_ble_eq_true rfl) (fun _ _ => rfl) (by decide) rfl k5 dL_law_619 H (fun r M1 hq hS => ?_)
  obtain ⟨v, rfl, H⟩ := hq
  replace H := H hS
  obtain ⟨e1, e2⟩ := sc_S h1 hS
  have e9 : mm_k M1 99 = (11, 22) := ks_S k9 (by decide) hS
  show go_W (mt_Ln nm) fr_A 622 (l4_ i) [pv_i v] M1 Q
  refine go_aload_n dL_law_622 rfl ?_
  refine go_scr (j := 1) e1 hN rfl (by omega) dL_law_623 dL_law_624 dL_law_625 dL_law_626 dL_law_627 ?_
  rw [e2 (i + 1)]
  refine go_V (av := [pv_i (mm_i M 1 (i + 1))]) (st := [pv_i v]) (ci := 11) ok_X11_tick ⟨Nat.le_of_ble_eq_true rfl, Nat.le_of_ble_eq_true rfl⟩ ml_L_56 rfl (by decide) (fun v hv => by simp only [List.mem_cons, List.not_mem_nil, or_false] at hv; rcases hv with rfl <;> exact pv_1i) (Nat.le_of_ble_eq_true rfl) (fun _ _ => rfl) (by decide) rfl e9 dL_law_628 H (fun r M2 hq hS2 => ?_)
  obtain ⟨w, rfl, I', rfl, rfl, H⟩ := hq
  exact go_icmp_eq (tgt := 1803) dL_law_631 (by decide) (fun _ => H) (fun q => absurd rfl q)
theorem lc_drain {M : mm_T} {N i : Nat} {nm : String} {Q : Option pv_T → mm_T → Prop} (h1 : mm_k M 1 = (15, N)) (hN : N ≤ 3072) (hi : i + 6 ≤ N) (k5 : mm_k M 5 = (10, 14)) (k9 : mm_k M 99 = (11, 22)) (H : cs_i mt_X10_drain [pv_r 5, pv_i (mm_i M 1 (i + 1))] M (fun v M1 => mm_S fr_C M M1 → rs_i mt_X11_drain [pv_r 99, pv_i (mm_i M 1 (i + 1))] M1 (mm_i M1) (fun w I' => v = w ∧ go_W (mt_Ln nm) fr_A 1803 (l4_ i) [] (mm_si M1 I') Q))) : go_W (mt_Ln nm) fr_A 636 (l4_ i) [] M Q := by
  refine go_aload_n dL_law_636 rfl ?_
  refine go_scr (j := 1) h1 hN rfl (by omega) dL_law_637 dL_law_638 dL_law_639 dL_law_640 dL_law_641 ?_
  refine go_V (av := [pv_i (mm_i M 1 (i + 1))]) (st := []) (ci := 10) ok_X10_drain ⟨Nat.le_of_ble_eq_true rfl, Nat.le_of_ble_eq_true rfl⟩ ml_L_57 rfl (by decide) (fun v hv => by simp only [List.mem_cons, List.not_mem_nil, or_false] at hv; rcases hv with rfl <;> exact pv_1i) (Nat.le_of_ble_eq_true rfl) (fun _ _ => rfl) (by decide) rfl k5 dL_law_642 H (fun r M1 hq hS => ?_)
  obtain ⟨v, rfl, H⟩ := hq
  replace H := H hS
  obtain ⟨e1, e2⟩ := sc_S h1 hS
  have e9 : mm_k M1 99 = (11, 22) := ks_S k9 (by decide) hS
  show go_W (mt_Ln nm) fr_A 645 (l4_ i) [pv_i v] M1 Q
  refine go_aload_n dL_law_645 rfl ?_
  refine go_scr (j := 1) e1 hN rfl (by omega) dL_law_646 dL_law_647 dL_law_648 dL_law_649 dL_law_650 ?_
  rw [e2 (i + 1)]
  refine go_V (av := [pv_i (mm_i M 1 (i + 1))]) (st := [pv_i v]) (ci := 11) ok_X11_drain ⟨Nat.le_of_ble_eq_true rfl, Nat.le_of_ble_eq_true rfl⟩ ml_L_60 rfl (by decide) (fun v hv => by simp only [List.mem_cons, List.not_mem_nil, or_false] at hv; rcases hv with rfl <;> exact pv_1i) (Nat.le_of_ble_eq_true rfl) (fun _ _ => rfl) (by decide) rfl e9 dL_law_651 H (fun r M2 hq hS2 => ?_)
  obtain ⟨w, rfl, I', rfl, rfl, H⟩ := hq
  exact go_icmp_eq (tgt := 1803) dL_law_654 (by decide) (fun _ => H) (fun q => absurd rfl q)
theorem lc_open {M : mm_T} {N i : Nat} {nm : String} {Q : Option pv_T → mm_T → Prop} (h1 : mm_k M 1 = (15, N)) (hN : N ≤ 3072) (hi : i + 6 ≤ N) (k5 : mm_k M 5 = (10, 14)) (k9 : mm_k M 99 = (11, 22)) (H : cs_i mt_X10_open [pv_r 5, pv_i (mm_i M 1 (i + 1))] M (fun v M1 => mm_S fr_C M M1 → rs_i mt_X11_open [pv_r 99, pv_i (mm_i M 1 (i + 1))] M1 (mm_i M1) (fun w I' => v = w ∧ go_W (mt_Ln nm) fr_A 1803 (l4_ i) [] (mm_si M1 I') Q))) : go_W (mt_Ln nm) fr_A 659 (l4_ i) [] M Q := by
  refine go_aload_n dL_law_659 rfl ?_
  refine go_scr (j := 1) h1 hN rfl (by omega) dL_law_660 dL_law_661 dL_law_662 dL_law_663 dL_law_664 ?_
  refine go_V (av := [pv_i (mm_i M 1 (i + 1))]) (st := []) (ci := 10) ok_X10_open ⟨Nat.le_of_ble_eq_true rfl, Nat.le_of_ble_eq_true rfl⟩ ml_L_61 rfl (by decide) (fun v hv => by simp only [List.mem_cons, List.not_mem_nil, or_false] at hv; rcases hv with rfl <;> exact pv_1i) (Nat.le_of_ble_eq_true rfl) (fun _ _ => rfl) (by decide) rfl k5 dL_law_665 H (fun r M1 hq hS => ?_)
  obtain ⟨v, rfl, H⟩ := hq
  replace H := H hS
  obtain ⟨e1, e2⟩ := sc_S h1 hS
  have e9 : mm_k M1 99 = (11, 22) := ks_S k9 (by decide) hS
  show go_W (mt_Ln nm) fr_A 668 (l4_ i) [pv_i v] M1 Q
  refine go_aload_n dL_law_668 rfl ?_
  refine go_scr (j := 1) e1 hN rfl (by omega) dL_law_669 dL_law_670 dL_law_671 dL_law_672 dL_law_673 ?_
  rw [e2 (i + 1)]
  refine go_V (av := [pv_i (mm_i M 1 (i + 1))]) (st := [pv_i v]) (ci := 11) ok_X11_open ⟨Nat.le_of_ble_eq_true rfl, Nat.le_of_ble_eq_true rfl⟩ ml_L_64 rfl (by decide) (fun v hv => by simp only [List.mem_cons, List.not_mem_nil, or_false] at hv; rcases hv with rfl <;> exact pv_1i) (Nat.le_of_ble_eq_true rfl) (fun _ _ => rfl) (by decide) rfl e9 dL_law_674 H (fun r M2 hq hS2 => ?_)
  obtain ⟨w, rfl, I', rfl, rfl, H⟩ := hq
  exact go_icmp_eq (tgt := 1803) dL_law_677 (by decide) (fun _ => H) (fun q => absurd rfl q)
theorem lc_cancel {M : mm_T} {N i : Nat} {nm : String} {Q : Option pv_T → mm_T → Prop} (h1 : mm_k M 1 = (15, N)) (hN : N ≤ 3072) (hi : i + 6 ≤ N) (k5 : mm_k M 5 = (10, 14)) (k9 : mm_k M 99 = (11, 22)) (H : cs_i mt_X10_cancel [pv_r 5, pv_i (mm_i M 1 (i + 1))] M (fun v M1 => mm_S fr_C M M1 → rs_i mt_X11_cancel [pv_r 99, pv_i (mm_i M 1 (i + 1))] M1 (mm_i M1) (fun w I' => v = w ∧ go_W (mt_Ln nm) fr_A 1803 (l4_ i) [] (mm_si M1 I') Q))) : go_W (mt_Ln nm) fr_A 682 (l4_ i) [] M Q := by
  refine go_aload_n dL_law_682 rfl ?_
  refine go_scr (j := 1) h1 hN rfl (by omega) dL_law_683 dL_law_684 dL_law_685 dL_law_686 dL_law_687 ?_
  refine go_V (av := [pv_i (mm_i M 1 (i + 1))]) (st := []) (ci := 10) ok_X10_cancel ⟨Nat.le_of_ble_eq_true rfl, Nat.le_of_ble_eq_true rfl⟩ ml_L_65 rfl (by decide) (fun v hv => by simp only [List.mem_cons, List.not_mem_nil, or_false] at hv; rcases hv with rfl <;> exact pv_1i) (Nat.le_of_ble_eq_true rfl) (fun _ _ => rfl) (by decide) rfl k5 dL_law_688 H (fun r M1 hq hS => ?_)
  obtain ⟨v, rfl, H⟩ := hq
  replace H := H hS
  obtain ⟨e1, e2⟩ := sc_S h1 hS
  have e9 : mm_k M1 99 = (11, 22) := ks_S k9 (by decide) hS
  show go_W (mt_Ln nm) fr_A 691 (l4_ i) [pv_i v] M1 Q
  refine go_aload_n dL_law_691 rfl ?_
  refine go_scr (j := 1) e1 hN rfl (by omega) dL_law_692 dL_law_693 dL_law_694 dL_law_695 dL_law_696 ?_
  rw [e2 (i + 1)]
  refine go_V (av := [pv_i (mm_i M 1 (i + 1))]) (st := [pv_i v]) (ci := 11) ok_X11_cancel ⟨Nat.le_of_ble_eq_true rfl, Nat.le_of_ble_eq_true rfl⟩ ml_L_68 rfl (by decide) (fun v hv => by simp only [List.mem_cons, List.not_mem_nil, or_false] at hv; rcases hv with rfl <;> exact pv_1i) (Nat.le_of_ble_eq_true rfl) (fun _ _ => rfl) (by decide) rfl e9 dL_law_697 H (fun r M2 hq hS2 => ?_)
  obtain ⟨w, rfl, I', rfl, rfl, H⟩ := hq
  exact go_icmp_eq (tgt := 1803) dL_law_700 (by decide) (fun _ => H) (fun q => absurd rfl q)
theorem lc_move {M : mm_T} {N i : Nat} {nm : String} {Q : Option pv_T → mm_T → Prop} (h1 : mm_k M 1 = (15, N)) (hN : N ≤ 3072) (hi : i + 6 ≤ N) (k5 : mm_k M 5 = (10, 14)) (k9 : mm_k M 99 = (11, 22)) (H : cs_i mt_X10_move [pv_r 5, pv_i (mm_i M 1 (i + 1)), pv_i (mm_i M 1 (i + 2))] M (fun v M1 => mm_S fr_C M M1 → rs_i mt_X11_move [pv_r 99, pv_i (mm_i M 1 (i + 1)), pv_i (mm_i M 1 (i + 2))] M1 (mm_i M1) (fun w I' => v = w ∧ go_W (mt_Ln nm) fr_A 1803 (l4_ i) [] (mm_si M1 I') Q))) : go_W (mt_Ln nm) fr_A 705 (l4_ i) [] M Q := by
  refine go_aload_n dL_law_705 rfl ?_
  refine go_scr (j := 1) h1 hN rfl (by omega) dL_law_706 dL_law_707 dL_law_708 dL_law_709 dL_law_710 ?_
  refine go_scr (j := 2) h1 hN rfl (by omega) dL_law_711 dL_law_712 dL_law_713 dL_law_714 dL_law_715 ?_
  refine go_V (av := [pv_i (mm_i M 1 (i + 1)), pv_i (mm_i M 1 (i + 2))]) (st := []) (ci := 10) ok_X10_move ⟨Nat.le_of_ble_eq_true rfl, Nat.le_of_ble_eq_true rfl⟩ ml_L_69 rfl (by decide) (fun v hv => by simp only [List.mem_cons, List.not_mem_nil, or_false] at hv; rcases hv with rfl | rfl <;> exact pv_1i) (Nat.le_of_ble_eq_true rfl) (fun _ _ => rfl) (by decide) rfl k5 dL_law_716 H (fun r M1 hq hS => ?_)
  obtain ⟨v, rfl, H⟩ := hq
  replace H := H hS
  obtain ⟨e1, e2⟩ := sc_S h1 hS
  have e9 : mm_k M1 99 = (11, 22) := ks_S k9 (by decide) hS
  show go_W (mt_Ln nm) fr_A 719 (l4_ i) [pv_i v] M1 Q
  refine go_aload_n dL_law_719 rfl ?_
  refine go_scr (j := 1) e1 hN rfl (by omega) dL_law_720 dL_law_721 dL_law_722 dL_law_723 dL_law_724 ?_
  rw [e2 (i + 1)]
  refine go_scr (j := 2) e1 hN rfl (by omega) dL_law_725 dL_law_726 dL_law_727 dL_law_728 dL_law_729 ?_
  rw [e2 (i + 2)]
  refine go_V (av := [pv_i (mm_i M 1 (i + 1)), pv_i (mm_i M 1 (i + 2))]) (st := [pv_i v]) (ci := 11) ok_X11_move ⟨Nat.le_of_ble_eq_true rfl, Nat.le_of_ble_eq_true rfl⟩ ml_L_72 rfl (by decide) (fun v hv => by simp only [List.mem_cons, List.not_mem_nil, or_false] at hv; rcases hv with rfl | rfl <;> exact pv_1i) (Nat.le_of_ble_eq_true rfl) (fun _ _ => rfl) (by decide) rfl e9 dL_law_730 H (fun r M2 hq hS2 => ?_)
  obtain ⟨w, rfl, I', rfl, rfl, H⟩ := hq
  exact go_icmp_eq (tgt := 1803) dL_law_733 (by decide) (fun _ => H) (fun q => absurd rfl q)
theorem lc_raise {M : mm_T} {N i : Nat} {nm : String} {Q : Option pv_T → mm_T → Prop} (h1 : mm_k M 1 = (15, N)) (hN : N ≤ 3072) (hi : i + 6 ≤ N) (k5 : mm_k M 5 = (10, 14)) (k9 : mm_k M 99 = (11, 22)) (H : cs_l mt_X10_raise [pv_r 5, pv_i (mm_i M 1 (i + 1)), pv_i (mm_i M 1 (i + 2))] M (fun v M1 => mm_S fr_C M M1 → rs_l mt_X11_raise [pv_r 99, pv_i (mm_i M 1 (i + 1)), pv_i (mm_i M 1 (i + 2))] M1 (mm_i M1) (fun w I' => v = w ∧ go_W (mt_Ln nm) fr_A 1803 (l4_ i) [] (mm_si M1 I') Q))) : go_W (mt_Ln nm) fr_A 738 (l4_ i) [] M Q := by
  refine go_aload_n dL_law_738 rfl ?_
  refine go_scr (j := 1) h1 hN rfl (by omega) dL_law_739 dL_law_740 dL_law_741 dL_law_742 dL_law_743 ?_
  refine go_scr (j := 2) h1 hN rfl (by omega) dL_law_744 dL_law_745 dL_law_746 dL_law_747 dL_law_748 ?_
  refine go_V (av := [pv_i (mm_i M 1 (i + 1)), pv_i (mm_i M 1 (i + 2))]) (st := []) (ci := 10) ok_X10_raise ⟨Nat.le_of_ble_eq_true rfl, Nat.le_of_ble_eq_true rfl⟩ ml_L_73 rfl (by decide) (fun v hv => by simp only [List.mem_cons, List.not_mem_nil, or_false] at hv; rcases hv with rfl | rfl <;> exact pv_1i) (Nat.le_of_ble_eq_true rfl) (fun _ _ => rfl) (by decide) rfl k5 dL_law_749 H (fun r M1 hq hS => ?_)
  obtain ⟨v, rfl, H⟩ := hq
  replace H := H hS
  obtain ⟨e1, e2⟩ := sc_S h1 hS
  have e9 : mm_k M1 99 = (11, 22) := ks_S k9 (by decide) hS
  show go_W (mt_Ln nm) fr_A 752 (l4_ i) [pv_l v] M1 Q
  refine go_aload_n dL_law_752 rfl ?_
  refine go_scr (j := 1) e1 hN rfl (by omega) dL_law_753 dL_law_754 dL_law_755 dL_law_756 dL_law_757 ?_
  rw [e2 (i + 1)]
  refine go_scr (j := 2) e1 hN rfl (by omega) dL_law_758 dL_law_759 dL_law_760 dL_law_761 dL_law_762 ?_
  rw [e2 (i + 2)]
  refine go_V (av := [pv_i (mm_i M 1 (i + 1)), pv_i (mm_i M 1 (i + 2))]) (st := [pv_l v]) (ci := 11) ok_X11_raise ⟨Nat.le_of_ble_eq_true rfl, Nat.le_of_ble_eq_true rfl⟩ ml_L_77 rfl (by decide) (fun v hv => by simp only [List.mem_cons, List.not_mem_nil, or_false] at hv; rcases hv with rfl | rfl <;> exact pv_1i) (Nat.le_of_ble_eq_true rfl) (fun _ _ => rfl) (by decide) rfl e9 dL_law_763 H (fun r M2 hq hS2 => ?_)
  obtain ⟨w, rfl, I', rfl, rfl, H⟩ := hq
  refine go_lcmpE dL_law_766 ?_
  exact go_if_eq (tgt := 1803) dL_law_767 (by decide) (fun _ => H) (fun q => absurd rfl q)
theorem lc_again {M : mm_T} {N i : Nat} {nm : String} {Q : Option pv_T → mm_T → Prop} (h1 : mm_k M 1 = (15, N)) (hN : N ≤ 3072) (hi : i + 6 ≤ N) (k5 : mm_k M 5 = (10, 14)) (k9 : mm_k M 99 = (11, 22)) (H : cs_i mt_X10_again [pv_r 5, pv_i (mm_i M 1 (i + 1))] M (fun v M1 => mm_S fr_C M M1 → rs_i mt_X11_again [pv_r 99, pv_i (mm_i M 1 (i + 1))] M1 (mm_i M1) (fun w I' => v = w ∧ go_W (mt_Ln nm) fr_A 1803 (l4_ i) [] (mm_si M1 I') Q))) : go_W (mt_Ln nm) fr_A 772 (l4_ i) [] M Q := by
  refine go_aload_n dL_law_772 rfl ?_
  refine go_scr (j := 1) h1 hN rfl (by omega) dL_law_773 dL_law_774 dL_law_775 dL_law_776 dL_law_777 ?_
  refine go_V (av := [pv_i (mm_i M 1 (i + 1))]) (st := []) (ci := 10) ok_X10_again ⟨Nat.le_of_ble_eq_true rfl, Nat.le_of_ble_eq_true rfl⟩ ml_L_78 rfl (by decide) (fun v hv => by simp only [List.mem_cons, List.not_mem_nil, or_false] at hv; rcases hv with rfl <;> exact pv_1i) (Nat.le_of_ble_eq_true rfl) (fun _ _ => rfl) (by decide) rfl k5 dL_law_778 H (fun r M1 hq hS => ?_)
  obtain ⟨v, rfl, H⟩ := hq
  replace H := H hS
  obtain ⟨e1, e2⟩ := sc_S h1 hS
  have e9 : mm_k M1 99 = (11, 22) := ks_S k9 (by decide) hS
  show go_W (mt_Ln nm) fr_A 781 (l4_ i) [pv_i v] M1 Q
  refine go_aload_n dL_law_781 rfl ?_
  refine go_scr (j := 1) e1 hN rfl (by omega) dL_law_782 dL_law_783 dL_law_784 dL_law_785 dL_law_786 ?_
  rw [e2 (i + 1)]
  refine go_V (av := [pv_i (mm_i M 1 (i + 1))]) (st := [pv_i v]) (ci := 11) ok_X11_again ⟨Nat.le_of_ble_eq_true rfl, Nat.le_of_ble_eq_true rfl⟩ ml_L_81 rfl (by decide) (fun v hv => by simp only [List.mem_cons, List.not_mem_nil, or_false] at hv; rcases hv with rfl <;> exact pv_1i) (Nat.le_of_ble_eq_true rfl) (fun _ _ => rfl) (by decide) rfl e9 dL_law_787 H (fun r M2 hq hS2 => ?_)
  obtain ⟨w, rfl, I', rfl, rfl, H⟩ := hq
  exact go_icmp_eq (tgt := 1803) dL_law_790 (by decide) (fun _ => H) (fun q => absurd rfl q)
theorem lc_discard {M : mm_T} {N i : Nat} {nm : String} {Q : Option pv_T → mm_T → Prop} (h1 : mm_k M 1 = (15, N)) (hN : N ≤ 3072) (hi : i + 6 ≤ N) (k5 : mm_k M 5 = (10, 14)) (k9 : mm_k M 99 = (11, 22)) (H : cs_i mt_X10_discard [pv_r 5, pv_i (mm_i M 1 (i + 1))] M (fun v M1 => mm_S fr_C M M1 → rs_i mt_X11_discard [pv_r 99, pv_i (mm_i M 1 (i + 1))] M1 (mm_i M1) (fun w I' => v = w ∧ go_W (mt_Ln nm) fr_A 1803 (l4_ i) [] (mm_si M1 I') Q))) : go_W (mt_Ln nm) fr_A 795 (l4_ i) [] M Q := by
  refine go_aload_n dL_law_795 rfl ?_
  refine go_scr (j := 1) h1 hN rfl (by omega) dL_law_796 dL_law_797 dL_law_798 dL_law_799 dL_law_800 ?_
  refine go_V (av := [pv_i (mm_i M 1 (i + 1))]) (st := []) (ci := 10) ok_X10_discard ⟨Nat.le_of_ble_eq_true rfl, Nat.le_of_ble_eq_true rfl⟩ ml_L_82 rfl (by decide) (fun v hv => by simp only [List.mem_cons, List.not_mem_nil, or_false] at hv; rcases hv with rfl <;> exact pv_1i) (Nat.le_of_ble_eq_true rfl) (fun _ _ => rfl) (by decide) rfl k5 dL_law_801 H (fun r M1 hq hS => ?_)
  obtain ⟨v, rfl, H⟩ := hq
  replace H := H hS
  obtain ⟨e1, e2⟩ := sc_S h1 hS
  have e9 : mm_k M1 99 = (11, 22) := ks_S k9 (by decide) hS
  show go_W (mt_Ln nm) fr_A 804 (l4_ i) [pv_i v] M1 Q
  refine go_aload_n dL_law_804 rfl ?_
  refine go_scr (j := 1) e1 hN rfl (by omega) dL_law_805 dL_law_806 dL_law_807 dL_law_808 dL_law_809 ?_
  rw [e2 (i + 1)]
  refine go_V (av := [pv_i (mm_i M 1 (i + 1))]) (st := [pv_i v]) (ci := 11) ok_X11_discard ⟨Nat.le_of_ble_eq_true rfl, Nat.le_of_ble_eq_true rfl⟩ ml_L_85 rfl (by decide) (fun v hv => by simp only [List.mem_cons, List.not_mem_nil, or_false] at hv; rcases hv with rfl <;> exact pv_1i) (Nat.le_of_ble_eq_true rfl) (fun _ _ => rfl) (by decide) rfl e9 dL_law_810 H (fun r M2 hq hS2 => ?_)
  obtain ⟨w, rfl, I', rfl, rfl, H⟩ := hq
  exact go_icmp_eq (tgt := 1803) dL_law_813 (by decide) (fun _ => H) (fun q => absurd rfl q)
theorem lc_arrange {M : mm_T} {N i : Nat} {nm : String} {Q : Option pv_T → mm_T → Prop} (h1 : mm_k M 1 = (15, N)) (hN : N ≤ 3072) (hi : i + 6 ≤ N) (k5 : mm_k M 5 = (10, 14)) (k9 : mm_k M 99 = (11, 22)) (H : cs_i mt_X10_arrange [pv_r 5, pv_i (mm_i M 1 (i + 1)), pv_i (mm_i M 1 (i + 2)), pv_i (mm_i M 1 (i + 3))] M (fun v M1 => mm_S fr_C M M1 → rs_i mt_X11_arrange [pv_r 99, pv_i (mm_i M 1 (i + 1)), pv_i (mm_i M 1 (i + 2)), pv_i (mm_i M 1 (i + 3))] M1 (mm_i M1) (fun w I' => v = w ∧ go_W (mt_Ln nm) fr_A 1803 (l4_ i) [] (mm_si M1 I') Q))) : go_W (mt_Ln nm) fr_A 818 (l4_ i) [] M Q := by
  refine go_aload_n dL_law_818 rfl ?_
  refine go_scr (j := 1) h1 hN rfl (by omega) dL_law_819 dL_law_820 dL_law_821 dL_law_822 dL_law_823 ?_
  refine go_scr (j := 2) h1 hN rfl (by omega) dL_law_824 dL_law_825 dL_law_826 dL_law_827 dL_law_828 ?_
  refine go_scr (j := 3) h1 hN rfl (by omega) dL_law_829 dL_law_830 dL_law_831 dL_law_832 dL_law_833 ?_
  refine go_V (av := [pv_i (mm_i M 1 (i + 1)), pv_i (mm_i M 1 (i + 2)), pv_i (mm_i M 1 (i + 3))]) (st := []) (ci := 10) ok_X10_arrange ⟨Nat.le_of_ble_eq_true rfl, Nat.le_of_ble_eq_true rfl⟩ ml_L_86 rfl (by decide) (fun v hv => by simp only [List.mem_cons, List.not_mem_nil, or_false] at hv; rcases hv with rfl | rfl | rfl <;> exact pv_1i) (Nat.le_of_ble_eq_true rfl) (fun _ _ => rfl) (by decide) rfl k5 dL_law_834 H (fun r M1 hq hS => ?_)
  obtain ⟨v, rfl, H⟩ := hq
  replace H := H hS
  obtain ⟨e1, e2⟩ := sc_S h1 hS
  have e9 : mm_k M1 99 = (11, 22) := ks_S k9 (by decide) hS
  show go_W (mt_Ln nm) fr_A 837 (l4_ i) [pv_i v] M1 Q
  refine go_aload_n dL_law_837 rfl ?_
  refine go_scr (j := 1) e1 hN rfl (by omega) dL_law_838 dL_law_839 dL_law_840 dL_law_841 dL_law_842 ?_
  rw [e2 (i + 1)]
  refine go_scr (j := 2) e1 hN rfl (by omega) dL_law_843 dL_law_844 dL_law_845 dL_law_846 dL_law_847 ?_
  rw [e2 (i + 2)]
  refine go_scr (j := 3) e1 hN rfl (by omega) dL_law_848 dL_law_849 dL_law_850 dL_law_851 dL_law_852 ?_
  rw [e2 (i + 3)]
  refine go_V (av := [pv_i (mm_i M 1 (i + 1)), pv_i (mm_i M 1 (i + 2)), pv_i (mm_i M 1 (i + 3))]) (st := [pv_i v]) (ci := 11) ok_X11_arrange ⟨Nat.le_of_ble_eq_true rfl, Nat.le_of_ble_eq_true rfl⟩ ml_L_89 rfl (by decide) (fun v hv => by simp only [List.mem_cons, List.not_mem_nil, or_false] at hv; rcases hv with rfl | rfl | rfl <;> exact pv_1i) (Nat.le_of_ble_eq_true rfl) (fun _ _ => rfl) (by decide) rfl e9 dL_law_853 H (fun r M2 hq hS2 => ?_)
  obtain ⟨w, rfl, I', rfl, rfl, H⟩ := hq
  exact go_icmp_eq (tgt := 1803) dL_law_856 (by decide) (fun _ => H) (fun q => absurd rfl q)
theorem lc_rule {M : mm_T} {N i : Nat} {nm : String} {Q : Option pv_T → mm_T → Prop} (h1 : mm_k M 1 = (15, N)) (hN : N ≤ 3072) (hi : i + 6 ≤ N) (k5 : mm_k M 5 = (10, 14)) (k9 : mm_k M 99 = (11, 22)) (H : cs_i mt_X10_rule [pv_r 5, pv_i (mm_i M 1 (i + 1)), pv_i (mm_i M 1 (i + 2))] M (fun v M1 => mm_S fr_C M M1 → rs_i mt_X11_rule [pv_r 99, pv_i (mm_i M 1 (i + 1)), pv_i (mm_i M 1 (i + 2))] M1 (mm_i M1) (fun w I' => v = w ∧ go_W (mt_Ln nm) fr_A 1803 (l4_ i) [] (mm_si M1 I') Q))) : go_W (mt_Ln nm) fr_A 861 (l4_ i) [] M Q := by
  refine go_aload_n dL_law_861 rfl ?_
  refine go_scr (j := 1) h1 hN rfl (by omega) dL_law_862 dL_law_863 dL_law_864 dL_law_865 dL_law_866 ?_
  refine go_scr (j := 2) h1 hN rfl (by omega) dL_law_867 dL_law_868 dL_law_869 dL_law_870 dL_law_871 ?_
  refine go_V (av := [pv_i (mm_i M 1 (i + 1)), pv_i (mm_i M 1 (i + 2))]) (st := []) (ci := 10) ok_X10_rule ⟨Nat.le_of_ble_eq_true rfl, Nat.le_of_ble_eq_true rfl⟩ ml_L_90 rfl (by decide) (fun v hv => by simp only [List.mem_cons, List.not_mem_nil, or_false] at hv; rcases hv with rfl | rfl <;> exact pv_1i) (Nat.le_of_ble_eq_true rfl) (fun _ _ => rfl) (by decide) rfl k5 dL_law_872 H (fun r M1 hq hS => ?_)
  obtain ⟨v, rfl, H⟩ := hq
  replace H := H hS
  obtain ⟨e1, e2⟩ := sc_S h1 hS
  have e9 : mm_k M1 99 = (11, 22) := ks_S k9 (by decide) hS
  show go_W (mt_Ln nm) fr_A 875 (l4_ i) [pv_i v] M1 Q
  refine go_aload_n dL_law_875 rfl ?_
  refine go_scr (j := 1) e1 hN rfl (by omega) dL_law_876 dL_law_877 dL_law_878 dL_law_879 dL_law_880 ?_
  rw [e2 (i + 1)]
  refine go_scr (j := 2) e1 hN rfl (by omega) dL_law_881 dL_law_882 dL_law_883 dL_law_884 dL_law_885 ?_
  rw [e2 (i + 2)]
  refine go_V (av := [pv_i (mm_i M 1 (i + 1)), pv_i (mm_i M 1 (i + 2))]) (st := [pv_i v]) (ci := 11) ok_X11_rule ⟨Nat.le_of_ble_eq_true rfl, Nat.le_of_ble_eq_true rfl⟩ ml_L_93 rfl (by decide) (fun v hv => by simp only [List.mem_cons, List.not_mem_nil, or_false] at hv; rcases hv with rfl | rfl <;> exact pv_1i) (Nat.le_of_ble_eq_true rfl) (fun _ _ => rfl) (by decide) rfl e9 dL_law_886 H (fun r M2 hq hS2 => ?_)
  obtain ⟨w, rfl, I', rfl, rfl, H⟩ := hq
  exact go_icmp_eq (tgt := 1803) dL_law_889 (by decide) (fun _ => H) (fun q => absurd rfl q)
theorem lc_pardon {M : mm_T} {N i : Nat} {nm : String} {Q : Option pv_T → mm_T → Prop} (h1 : mm_k M 1 = (15, N)) (hN : N ≤ 3072) (hi : i + 6 ≤ N) (k5 : mm_k M 5 = (10, 14)) (k9 : mm_k M 99 = (11, 22)) (H : cs_i mt_X10_pardon [pv_r 5, pv_i (mm_i M 1 (i + 1))] M (fun v M1 => mm_S fr_C M M1 → rs_i mt_X11_pardon [pv_r 99, pv_i (mm_i M 1 (i + 1))] M1 (mm_i M1) (fun w I' => v = w ∧ go_W (mt_Ln nm) fr_A 1803 (l4_ i) [] (mm_si M1 I') Q))) : go_W (mt_Ln nm) fr_A 894 (l4_ i) [] M Q := by
  refine go_aload_n dL_law_894 rfl ?_
  refine go_scr (j := 1) h1 hN rfl (by omega) dL_law_895 dL_law_896 dL_law_897 dL_law_898 dL_law_899 ?_
  refine go_V (av := [pv_i (mm_i M 1 (i + 1))]) (st := []) (ci := 10) ok_X10_pardon ⟨Nat.le_of_ble_eq_true rfl, Nat.le_of_ble_eq_true rfl⟩ ml_L_94 rfl (by decide) (fun v hv => by simp only [List.mem_cons, List.not_mem_nil, or_false] at hv; rcases hv with rfl <;> exact pv_1i) (Nat.le_of_ble_eq_true rfl) (fun _ _ => rfl) (by decide) rfl k5 dL_law_900 H (fun r M1 hq hS => ?_)
  obtain ⟨v, rfl, H⟩ := hq
  replace H := H hS
  obtain ⟨e1, e2⟩ := sc_S h1 hS
  have e9 : mm_k M1 99 = (11, 22) := ks_S k9 (by decide) hS
  show go_W (mt_Ln nm) fr_A 903 (l4_ i) [pv_i v] M1 Q
  refine go_aload_n dL_law_903 rfl ?_
  refine go_scr (j := 1) e1 hN rfl (by omega) dL_law_904 dL_law_905 dL_law_906 dL_law_907 dL_law_908 ?_
  rw [e2 (i + 1)]
  refine go_V (av := [pv_i (mm_i M 1 (i + 1))]) (st := [pv_i v]) (ci := 11) ok_X11_pardon ⟨Nat.le_of_ble_eq_true rfl, Nat.le_of_ble_eq_true rfl⟩ ml_L_97 rfl (by decide) (fun v hv => by simp only [List.mem_cons, List.not_mem_nil, or_false] at hv; rcases hv with rfl <;> exact pv_1i) (Nat.le_of_ble_eq_true rfl) (fun _ _ => rfl) (by decide) rfl e9 dL_law_909 H (fun r M2 hq hS2 => ?_)
  obtain ⟨w, rfl, I', rfl, rfl, H⟩ := hq
  exact go_icmp_eq (tgt := 1803) dL_law_912 (by decide) (fun _ => H) (fun q => absurd rfl q)
theorem lc_steps {M : mm_T} {N i : Nat} {nm : String} {Q : Option pv_T → mm_T → Prop} (h1 : mm_k M 1 = (15, N)) (hN : N ≤ 3072) (hi : i + 6 ≤ N) (k5 : mm_k M 5 = (10, 14)) (k9 : mm_k M 99 = (11, 22)) (H : ds_i mt_X10_steps [pv_r 5, pv_i (mm_i M 1 (i + 1)), pv_i (mm_i M 1 (i + 2))] M (fun v M1 => mm_S fr_D M M1 → zs_i mt_X11_steps [pv_r 99, pv_i (mm_i M 1 (i + 1)), pv_i (mm_i M 1 (i + 2))] M1 99 (mm_l M1 99 14) (mm_i M1) (fun w z I' => v = w ∧ go_W (mt_Ln nm) fr_A 1803 (l4_ i) [] (mm_si (mm_pl M1 99 14 z) I') Q))) : go_W (mt_Ln nm) fr_A 917 (l4_ i) [] M Q := by
  refine go_aload_n dL_law_917 rfl ?_
  refine go_scr (j := 1) h1 hN rfl (by omega) dL_law_918 dL_law_919 dL_law_920 dL_law_921 dL_law_922 ?_
  refine go_scr (j := 2) h1 hN rfl (by omega) dL_law_923 dL_law_924 dL_law_925 dL_law_926 dL_law_927 ?_
  refine go_V (av := [pv_i (mm_i M 1 (i + 1)), pv_i (mm_i M 1 (i + 2))]) (st := []) (ci := 10) ok_X10_steps ⟨Nat.le_of_ble_eq_true rfl, Nat.le_of_ble_eq_true rfl⟩ ml_L_98 rfl (by decide) (fun v hv => by simp only [List.mem_cons, List.not_mem_nil, or_false] at hv; rcases hv with rfl | rfl <;> exact pv_1i) (Nat.le_of_ble_eq_true rfl) (fun _ _ => rfl) (by decide) rfl k5 dL_law_928 H (fun r M1 hq hS => ?_)
  obtain ⟨v, rfl, H⟩ := hq
  replace H := H hS
  obtain ⟨e1, e2⟩ := sc_S h1 hS
  have e9 : mm_k M1 99 = (11, 22) := ks_S k9 (by decide) hS
  show go_W (mt_Ln nm) fr_A 931 (l4_ i) [pv_i v] M1 Q
  refine go_aload_n dL_law_931 rfl ?_
  refine go_scr (j := 1) e1 hN rfl (by omega) dL_law_932 dL_law_933 dL_law_934 dL_law_935 dL_law_936 ?_
  rw [e2 (i + 1)]
  refine go_scr (j := 2) e1 hN rfl (by omega) dL_law_937 dL_law_938 dL_law_939 dL_law_940 dL_law_941 ?_
  rw [e2 (i + 2)]
  refine go_V (av := [pv_i (mm_i M 1 (i + 1)), pv_i (mm_i M 1 (i + 2))]) (st := [pv_i v]) (ci := 11) ok_X11_steps ⟨Nat.le_of_ble_eq_true rfl, Nat.le_of_ble_eq_true rfl⟩ ml_L_101 rfl (by decide) (fun v hv => by simp only [List.mem_cons, List.not_mem_nil, or_false] at hv; rcases hv with rfl | rfl <;> exact pv_1i) (Nat.le_of_ble_eq_true rfl) (fun _ _ => rfl) (by decide) rfl e9 dL_law_942 (zs_at H) (fun r M2 hq hS2 => ?_)
  obtain ⟨w, rfl, z, I', rfl, rfl, H⟩ := hq
  exact go_icmp_eq (tgt := 1803) dL_law_945 (by decide) (fun _ => H) (fun q => absurd rfl q)
theorem lc_store {M : mm_T} {N i : Nat} {nm : String} {Q : Option pv_T → mm_T → Prop} (h1 : mm_k M 1 = (15, N)) (hN : N ≤ 3072) (hi : i + 6 ≤ N) (k5 : mm_k M 5 = (10, 14)) (k9 : mm_k M 99 = (11, 22)) (H : cs_i mt_X10_store [pv_r 5, pv_i (mm_i M 1 (i + 1))] M (fun v M1 => mm_S fr_C M M1 → rs_i mt_X11_store [pv_r 99, pv_i (mm_i M 1 (i + 1))] M1 (mm_i M1) (fun w I' => v = w ∧ go_W (mt_Ln nm) fr_A 1803 (l4_ i) [] (mm_si M1 I') Q))) : go_W (mt_Ln nm) fr_A 950 (l4_ i) [] M Q := by
  refine go_aload_n dL_law_950 rfl ?_
  refine go_scr (j := 1) h1 hN rfl (by omega) dL_law_951 dL_law_952 dL_law_953 dL_law_954 dL_law_955 ?_
  refine go_V (av := [pv_i (mm_i M 1 (i + 1))]) (st := []) (ci := 10) ok_X10_store ⟨Nat.le_of_ble_eq_true rfl, Nat.le_of_ble_eq_true rfl⟩ ml_L_102 rfl (by decide) (fun v hv => by simp only [List.mem_cons, List.not_mem_nil, or_false] at hv; rcases hv with rfl <;> exact pv_1i) (Nat.le_of_ble_eq_true rfl) (fun _ _ => rfl) (by decide) rfl k5 dL_law_956 H (fun r M1 hq hS => ?_)
  obtain ⟨v, rfl, H⟩ := hq
  replace H := H hS
  obtain ⟨e1, e2⟩ := sc_S h1 hS
  have e9 : mm_k M1 99 = (11, 22) := ks_S k9 (by decide) hS
  show go_W (mt_Ln nm) fr_A 959 (l4_ i) [pv_i v] M1 Q
  refine go_aload_n dL_law_959 rfl ?_
  refine go_scr (j := 1) e1 hN rfl (by omega) dL_law_960 dL_law_961 dL_law_962 dL_law_963 dL_law_964 ?_
  rw [e2 (i + 1)]
  refine go_V (av := [pv_i (mm_i M 1 (i + 1))]) (st := [pv_i v]) (ci := 11) ok_X11_store ⟨Nat.le_of_ble_eq_true rfl, Nat.le_of_ble_eq_true rfl⟩ ml_L_105 rfl (by decide) (fun v hv => by simp only [List.mem_cons, List.not_mem_nil, or_false] at hv; rcases hv with rfl <;> exact pv_1i) (Nat.le_of_ble_eq_true rfl) (fun _ _ => rfl) (by decide) rfl e9 dL_law_965 H (fun r M2 hq hS2 => ?_)
  obtain ⟨w, rfl, I', rfl, rfl, H⟩ := hq
  exact go_icmp_eq (tgt := 1803) dL_law_968 (by decide) (fun _ => H) (fun q => absurd rfl q)
theorem lc_lane {M : mm_T} {N i : Nat} {nm : String} {Q : Option pv_T → mm_T → Prop} (h1 : mm_k M 1 = (15, N)) (hN : N ≤ 3072) (hi : i + 6 ≤ N) (k5 : mm_k M 5 = (10, 14)) (k9 : mm_k M 99 = (11, 22)) (H : cs_i mt_X10_lane [pv_r 5, pv_i (mm_i M 1 (i + 1)), pv_i (mm_i M 1 (i + 2))] M (fun v M1 => mm_S fr_C M M1 → rs_i mt_X11_lane [pv_r 99, pv_i (mm_i M 1 (i + 1)), pv_i (mm_i M 1 (i + 2))] M1 (mm_i M1) (fun w I' => v = w ∧ go_W (mt_Ln nm) fr_A 1803 (l4_ i) [] (mm_si M1 I') Q))) : go_W (mt_Ln nm) fr_A 973 (l4_ i) [] M Q := by
  refine go_aload_n dL_law_973 rfl ?_
  refine go_scr (j := 1) h1 hN rfl (by omega) dL_law_974 dL_law_975 dL_law_976 dL_law_977 dL_law_978 ?_
  refine go_scr (j := 2) h1 hN rfl (by omega) dL_law_979 dL_law_980 dL_law_981 dL_law_982 dL_law_983 ?_
  refine go_V (av := [pv_i (mm_i M 1 (i + 1)), pv_i (mm_i M 1 (i + 2))]) (st := []) (ci := 10) ok_X10_lane ⟨Nat.le_of_ble_eq_true rfl, Nat.le_of_ble_eq_true rfl⟩ ml_L_106 rfl (by decide) (fun v hv => by simp only [List.mem_cons, List.not_mem_nil, or_false] at hv; rcases hv with rfl | rfl <;> exact pv_1i) (Nat.le_of_ble_eq_true rfl) (fun _ _ => rfl) (by decide) rfl k5 dL_law_984 H (fun r M1 hq hS => ?_)
  obtain ⟨v, rfl, H⟩ := hq
  replace H := H hS
  obtain ⟨e1, e2⟩ := sc_S h1 hS
  have e9 : mm_k M1 99 = (11, 22) := ks_S k9 (by decide) hS
  show go_W (mt_Ln nm) fr_A 987 (l4_ i) [pv_i v] M1 Q
  refine go_aload_n dL_law_987 rfl ?_
  refine go_scr (j := 1) e1 hN rfl (by omega) dL_law_988 dL_law_989 dL_law_990 dL_law_991 dL_law_992 ?_
  rw [e2 (i + 1)]
  refine go_scr (j := 2) e1 hN rfl (by omega) dL_law_993 dL_law_994 dL_law_995 dL_law_996 dL_law_997 ?_
  rw [e2 (i + 2)]
  refine go_V (av := [pv_i (mm_i M 1 (i + 1)), pv_i (mm_i M 1 (i + 2))]) (st := [pv_i v]) (ci := 11) ok_X11_lane ⟨Nat.le_of_ble_eq_true rfl, Nat.le_of_ble_eq_true rfl⟩ ml_L_109 rfl (by decide) (fun v hv => by simp only [List.mem_cons, List.not_mem_nil, or_false] at hv; rcases hv with rfl | rfl <;> exact pv_1i) (Nat.le_of_ble_eq_true rfl) (fun _ _ => rfl) (by decide) rfl e9 dL_law_998 H (fun r M2 hq hS2 => ?_)
  obtain ⟨w, rfl, I', rfl, rfl, H⟩ := hq
  exact go_icmp_eq (tgt := 1803) dL_law_1001 (by decide) (fun _ => H) (fun q => absurd rfl q)
theorem lc_task {M : mm_T} {N i : Nat} {nm : String} {Q : Option pv_T → mm_T → Prop} (h1 : mm_k M 1 = (15, N)) (hN : N ≤ 3072) (hi : i + 6 ≤ N) (k5 : mm_k M 5 = (10, 14)) (k9 : mm_k M 99 = (11, 22)) (H : cs_i mt_X10_task [pv_r 5, pv_i (mm_i M 1 (i + 1)), pv_i (mm_i M 1 (i + 2))] M (fun v M1 => mm_S fr_C M M1 → rs_i mt_X11_task [pv_r 99, pv_i (mm_i M 1 (i + 1)), pv_i (mm_i M 1 (i + 2))] M1 (mm_i M1) (fun w I' => v = w ∧ go_W (mt_Ln nm) fr_A 1803 (l4_ i) [] (mm_si M1 I') Q))) : go_W (mt_Ln nm) fr_A 1006 (l4_ i) [] M Q := by
  refine go_aload_n dL_law_1006 rfl ?_
  refine go_scr (j := 1) h1 hN rfl (by omega) dL_law_1007 dL_law_1008 dL_law_1009 dL_law_1010 dL_law_1011 ?_
  refine go_scr (j := 2) h1 hN rfl (by omega) dL_law_1012 dL_law_1013 dL_law_1014 dL_law_1015 dL_law_1016 ?_
  refine go_V (av := [pv_i (mm_i M 1 (i + 1)), pv_i (mm_i M 1 (i + 2))]) (st := []) (ci := 10) ok_X10_task ⟨Nat.le_of_ble_eq_true rfl, Nat.le_of_ble_eq_true rfl⟩ ml_L_110 rfl (by decide) (fun v hv => by simp only [List.mem_cons, List.not_mem_nil, or_false] at hv; rcases hv with rfl | rfl <;> exact pv_1i) (Nat.le_of_ble_eq_true rfl) (fun _ _ => rfl) (by decide) rfl k5 dL_law_1017 H (fun r M1 hq hS => ?_)
  obtain ⟨v, rfl, H⟩ := hq
  replace H := H hS
  obtain ⟨e1, e2⟩ := sc_S h1 hS
  have e9 : mm_k M1 99 = (11, 22) := ks_S k9 (by decide) hS
  show go_W (mt_Ln nm) fr_A 1020 (l4_ i) [pv_i v] M1 Q
  refine go_aload_n dL_law_1020 rfl ?_
  refine go_scr (j := 1) e1 hN rfl (by omega) dL_law_1021 dL_law_1022 dL_law_1023 dL_law_1024 dL_law_1025 ?_
  rw [e2 (i + 1)]
  refine go_scr (j := 2) e1 hN rfl (by omega) dL_law_1026 dL_law_1027 dL_law_1028 dL_law_1029 dL_law_1030 ?_
  rw [e2 (i + 2)]
  refine go_V (av := [pv_i (mm_i M 1 (i + 1)), pv_i (mm_i M 1 (i + 2))]) (st := [pv_i v]) (ci := 11) ok_X11_task ⟨Nat.le_of_ble_eq_true rfl, Nat.le_of_ble_eq_true rfl⟩ ml_L_113 rfl (by decide) (fun v hv => by simp only [List.mem_cons, List.not_mem_nil, or_false] at hv; rcases hv with rfl | rfl <;> exact pv_1i) (Nat.le_of_ble_eq_true rfl) (fun _ _ => rfl) (by decide) rfl e9 dL_law_1031 H (fun r M2 hq hS2 => ?_)
  obtain ⟨w, rfl, I', rfl, rfl, H⟩ := hq
  exact go_icmp_eq (tgt := 1803) dL_law_1034 (by decide) (fun _ => H) (fun q => absurd rfl q)
theorem lc_rank {M : mm_T} {N i : Nat} {nm : String} {Q : Option pv_T → mm_T → Prop} (h1 : mm_k M 1 = (15, N)) (hN : N ≤ 3072) (hi : i + 6 ≤ N) (k5 : mm_k M 5 = (10, 14)) (k9 : mm_k M 99 = (11, 22)) (H : cs_i mt_X10_rank [pv_r 5, pv_i (mm_i M 1 (i + 1))] M (fun v M1 => mm_S fr_C M M1 → rs_i mt_X11_rank [pv_r 99, pv_i (mm_i M 1 (i + 1))] M1 (mm_i M1) (fun w I' => v = w ∧ go_W (mt_Ln nm) fr_A 1803 (l4_ i) [] (mm_si M1 I') Q))) : go_W (mt_Ln nm) fr_A 1039 (l4_ i) [] M Q := by
  refine go_aload_n dL_law_1039 rfl ?_
  refine go_scr (j := 1) h1 hN rfl (by omega) dL_law_1040 dL_law_1041 dL_law_1042 dL_law_1043 dL_law_1044 ?_
  refine go_V (av := [pv_i (mm_i M 1 (i + 1))]) (st := []) (ci := 10) ok_X10_rank ⟨Nat.le_of_ble_eq_true rfl, Nat.le_of_ble_eq_true rfl⟩ ml_L_114 rfl (by decide) (fun v hv => by simp only [List.mem_cons, List.not_mem_nil, or_false] at hv; rcases hv with rfl <;> exact pv_1i) (Nat.le_of_ble_eq_true rfl) (fun _ _ => rfl) (by decide) rfl k5 dL_law_1045 H (fun r M1 hq hS => ?_)
  obtain ⟨v, rfl, H⟩ := hq
  replace H := H hS
  obtain ⟨e1, e2⟩ := sc_S h1 hS
  have e9 : mm_k M1 99 = (11, 22) := ks_S k9 (by decide) hS
  show go_W (mt_Ln nm) fr_A 1048 (l4_ i) [pv_i v] M1 Q
  refine go_aload_n dL_law_1048 rfl ?_
  refine go_scr (j := 1) e1 hN rfl (by omega) dL_law_1049 dL_law_1050 dL_law_1051 dL_law_1052 dL_law_1053 ?_
  rw [e2 (i + 1)]
  refine go_V (av := [pv_i (mm_i M 1 (i + 1))]) (st := [pv_i v]) (ci := 11) ok_X11_rank ⟨Nat.le_of_ble_eq_true rfl, Nat.le_of_ble_eq_true rfl⟩ ml_L_117 rfl (by decide) (fun v hv => by simp only [List.mem_cons, List.not_mem_nil, or_false] at hv; rcases hv with rfl <;> exact pv_1i) (Nat.le_of_ble_eq_true rfl) (fun _ _ => rfl) (by decide) rfl e9 dL_law_1054 H (fun r M2 hq hS2 => ?_)
  obtain ⟨w, rfl, I', rfl, rfl, H⟩ := hq
  exact go_icmp_eq (tgt := 1803) dL_law_1057 (by decide) (fun _ => H) (fun q => absurd rfl q)
theorem lc_cause {M : mm_T} {N i : Nat} {nm : String} {Q : Option pv_T → mm_T → Prop} (h1 : mm_k M 1 = (15, N)) (hN : N ≤ 3072) (hi : i + 6 ≤ N) (k5 : mm_k M 5 = (10, 14)) (k9 : mm_k M 99 = (11, 22)) (H : cs_i mt_X10_cause [pv_r 5, pv_i (mm_i M 1 (i + 1)), pv_i (mm_i M 1 (i + 2))] M (fun v M1 => mm_S fr_C M M1 → rs_i mt_X11_cause [pv_r 99, pv_i (mm_i M 1 (i + 1)), pv_i (mm_i M 1 (i + 2))] M1 (mm_i M1) (fun w I' => v = w ∧ go_W (mt_Ln nm) fr_A 1803 (l4_ i) [] (mm_si M1 I') Q))) : go_W (mt_Ln nm) fr_A 1062 (l4_ i) [] M Q := by
  refine go_aload_n dL_law_1062 rfl ?_
  refine go_scr (j := 1) h1 hN rfl (by omega) dL_law_1063 dL_law_1064 dL_law_1065 dL_law_1066 dL_law_1067 ?_
  refine go_scr (j := 2) h1 hN rfl (by omega) dL_law_1068 dL_law_1069 dL_law_1070 dL_law_1071 dL_law_1072 ?_
  refine go_V (av := [pv_i (mm_i M 1 (i + 1)), pv_i (mm_i M 1 (i + 2))]) (st := []) (ci := 10) ok_X10_cause ⟨Nat.le_of_ble_eq_true rfl, Nat.le_of_ble_eq_true rfl⟩ ml_L_118 rfl (by decide) (fun v hv => by simp only [List.mem_cons, List.not_mem_nil, or_false] at hv; rcases hv with rfl | rfl <;> exact pv_1i) (Nat.le_of_ble_eq_true rfl) (fun _ _ => rfl) (by decide) rfl k5 dL_law_1073 H (fun r M1 hq hS => ?_)
  obtain ⟨v, rfl, H⟩ := hq
  replace H := H hS
  obtain ⟨e1, e2⟩ := sc_S h1 hS
  have e9 : mm_k M1 99 = (11, 22) := ks_S k9 (by decide) hS
  show go_W (mt_Ln nm) fr_A 1076 (l4_ i) [pv_i v] M1 Q
  refine go_aload_n dL_law_1076 rfl ?_
  refine go_scr (j := 1) e1 hN rfl (by omega) dL_law_1077 dL_law_1078 dL_law_1079 dL_law_1080 dL_law_1081 ?_
  rw [e2 (i + 1)]
  refine go_scr (j := 2) e1 hN rfl (by omega) dL_law_1082 dL_law_1083 dL_law_1084 dL_law_1085 dL_law_1086 ?_
  rw [e2 (i + 2)]
  refine go_V (av := [pv_i (mm_i M 1 (i + 1)), pv_i (mm_i M 1 (i + 2))]) (st := [pv_i v]) (ci := 11) ok_X11_cause ⟨Nat.le_of_ble_eq_true rfl, Nat.le_of_ble_eq_true rfl⟩ ml_L_121 rfl (by decide) (fun v hv => by simp only [List.mem_cons, List.not_mem_nil, or_false] at hv; rcases hv with rfl | rfl <;> exact pv_1i) (Nat.le_of_ble_eq_true rfl) (fun _ _ => rfl) (by decide) rfl e9 dL_law_1087 H (fun r M2 hq hS2 => ?_)
  obtain ⟨w, rfl, I', rfl, rfl, H⟩ := hq
  exact go_icmp_eq (tgt := 1803) dL_law_1090 (by decide) (fun _ => H) (fun q => absurd rfl q)
