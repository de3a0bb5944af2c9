/-! MY OWN: the law, case by case (0; printed by wip/gen/gen89.py) -/
section LAWK
variable {G : Zg} {p : Program} {l : Launch} {e : Env} {s : State} {m : MethodId} {below : List Frame} {meth : Method} {c : Code} {Q : State → Prop} {b L i pc q : Nat} {xs : Nat → Int32} {σ : Zm} {res : Int × Zm} {st rest : List Value}
theorem lc_0 (C : zC G p s m #[Value.ref b] meth c code 4 R_law ret) (hH : lw_H G s b L xs) (hi : i + 7 < L) (hI : Inv σ) (kk : ∀ σ', Inv σ' → zR G p l e room_1 s m #[Value.ref b] below meth c 4 294 24893 Q 294 ztt res σ' (some res) (lvL G b i) 1728 []) : zR G p l e room_1 s m #[Value.ref b] below meth c 4 294 24893 Q 294 ztt res σ (some res) (lvL G b i) 192 [] := by
  obtain ⟨r1, σ1, e1, r2, σ2, e2, heq, hI2⟩ := st_note (sx xs (i + 1)) (sx xs (i + 2)) (sx xs (i + 3)) (sx xs (i + 4)) (sx xs (i + 5)) (sxw xs (i + 4)) σ hI
  refine zr_aloadn C 2 (i := 1) dl_192 rfl ?_
  refine zl_arg5 C hH 1 (by omega) da_193 rfl ?_
  refine zl_arg5 C hH 2 (by omega) da_198 rfl ?_
  refine zl_arg5 C hH 3 (by omega) da_203 rfl ?_
  refine zl_arg5 C hH 4 (by omega) da_208 rfl ?_
  refine zl_arg5 C hH 5 (by omega) da_213 rfl ?_
  refine zl_call C (o := 0) (ci := 9) (fe := fX_note σ (sx xs (i + 1)) (sx xs (i + 2)) (sx xs (i + 3)) (sx xs (i + 4)) (sx xs (i + 5))) [.int (zI (sx xs (i + 1))), .int (zI (sx xs (i + 2))), .int (zI (sx xs (i + 3))), .int (zI (sx xs (i + 4))), .int (zI (sx xs (i + 5)))] lzy_yX9_note lzv_yX9_note lzk_13 lzr_7_3 zo_0 (by decide) rfl (fun r hr => zqX_note l G σ (sx xs (i + 1)) (sx xs (i + 2)) (sx xs (i + 3)) (sx xs (i + 4)) (sx xs (i + 5)) (sxw xs (i + 1)) (sxw xs (i + 2)) (sxw xs (i + 3)) (sxw xs (i + 4)) (sxw xs (i + 5)) r hr) rfl rfl (Nat.le_of_ble_eq_true rfl) dl_218 e1 ?_
  refine zr_aloadn C 1 (i := 2) dl_221 rfl ?_
  refine zl_arg5 C hH 1 (by omega) da_222 rfl ?_
  refine zl_arg5 C hH 2 (by omega) da_227 rfl ?_
  refine zl_arg5 C hH 3 (by omega) da_232 rfl ?_
  refine zl_arg5 C hH 4 (by omega) da_237 rfl ?_
  refine zl_arg5 C hH 5 (by omega) da_242 rfl ?_
  refine zl_call C (o := 273) (ci := 10) (fe := fM_note σ1 (sx xs (i + 1)) (sx xs (i + 2)) (sx xs (i + 3)) (sx xs (i + 4)) (sx xs (i + 5))) [.int (zI (sx xs (i + 1))), .int (zI (sx xs (i + 2))), .int (zI (sx xs (i + 3))), .int (zI (sx xs (i + 4))), .int (zI (sx xs (i + 5)))] lzy_yX10_note lzv_yX10_note lzk_17 lzr_7_2 zo_273 (by decide) rfl (fun r hr => zqM_note l G σ1 (sx xs (i + 1)) (sx xs (i + 2)) (sx xs (i + 3)) (sx xs (i + 4)) (sx xs (i + 5)) (sxw xs (i + 1)) (sxw xs (i + 2)) (sxw xs (i + 3)) (sxw xs (i + 4)) (sxw xs (i + 5)) r hr) rfl rfl (Nat.le_of_ble_eq_true rfl) dl_247 e2 ?_
  exact zl_cmp C dj_250 heq (kk σ2 hI2)
theorem lc_1 (C : zC G p s m #[Value.ref b] meth c code 4 R_law ret) (hH : lw_H G s b L xs) (hi : i + 7 < L) (hI : Inv σ) (kk : ∀ σ', Inv σ' → zR G p l e room_1 s m #[Value.ref b] below meth c 4 294 24893 Q 294 ztt res σ' (some res) (lvL G b i) 1728 []) : zR G p l e room_1 s m #[Value.ref b] below meth c 4 294 24893 Q 294 ztt res σ (some res) (lvL G b i) 255 [] := by
  obtain ⟨r1, σ1, e1, r2, σ2, e2, heq, hI2⟩ := st_at (sx xs (i + 1)) (sx xs (i + 2)) (sx xs (i + 3)) σ hI
  refine zr_aloadn C 2 (i := 1) dl_255 rfl ?_
  refine zl_arg5 C hH 1 (by omega) da_256 rfl ?_
  refine zl_arg5 C hH 2 (by omega) da_261 rfl ?_
  refine zl_arg5 C hH 3 (by omega) da_266 rfl ?_
  refine zl_call C (o := 0) (ci := 9) (fe := fX_at σ (sx xs (i + 1)) (sx xs (i + 2)) (sx xs (i + 3))) [.int (zI (sx xs (i + 1))), .int (zI (sx xs (i + 2))), .int (zI (sx xs (i + 3)))] lzy_yX9_at lzv_yX9_at lzk_18 lzr_5_2 zo_0 (by decide) rfl (fun r hr => zqX_at l G σ (sx xs (i + 1)) (sx xs (i + 2)) (sx xs (i + 3)) (sxw xs (i + 1)) (sxw xs (i + 2)) (sxw xs (i + 3)) r hr) rfl rfl (Nat.le_of_ble_eq_true rfl) dl_271 e1 ?_
  refine zr_aloadn C 1 (i := 2) dl_274 rfl ?_
  refine zl_arg5 C hH 1 (by omega) da_275 rfl ?_
  refine zl_arg5 C hH 2 (by omega) da_280 rfl ?_
  refine zl_arg5 C hH 3 (by omega) da_285 rfl ?_
  refine zl_call C (o := 273) (ci := 10) (fe := fM_at σ1 (sx xs (i + 1)) (sx xs (i + 2)) (sx xs (i + 3))) [.int (zI (sx xs (i + 1))), .int (zI (sx xs (i + 2))), .int (zI (sx xs (i + 3)))] lzy_yX10_at lzv_yX10_at lzk_22 lzr_4_2 zo_273 (by decide) rfl (fun r hr => zqM_at l G σ1 (sx xs (i + 1)) (sx xs (i + 2)) (sx xs (i + 3)) (sxw xs (i + 1)) (sxw xs (i + 2)) (sxw xs (i + 3)) r hr) rfl rfl (Nat.le_of_ble_eq_true rfl) dl_290 e2 ?_
  exact zl_cmp C dj_293 heq (kk σ2 hI2)
theorem lc_2 (C : zC G p s m #[Value.ref b] meth c code 4 R_law ret) (hH : lw_H G s b L xs) (hi : i + 7 < L) (hI : Inv σ) (kk : ∀ σ', Inv σ' → zR G p l e room_1 s m #[Value.ref b] below meth c 4 294 24893 Q 294 ztt res σ' (some res) (lvL G b i) 1728 []) : zR G p l e room_1 s m #[Value.ref b] below meth c 4 294 24893 Q 294 ztt res σ (some res) (lvL G b i) 298 [] := by
  obtain ⟨r1, σ1, e1, r2, σ2, e2, heq, hI2⟩ := st_subject (sx xs (i + 1)) (sx xs (i + 2)) (sx xs (i + 3)) (sx xs (i + 4)) (sxw xs (i + 3)) σ hI
  refine zr_aloadn C 2 (i := 1) dl_298 rfl ?_
  refine zl_arg5 C hH 1 (by omega) da_299 rfl ?_
  refine zl_arg5 C hH 2 (by omega) da_304 rfl ?_
  refine zl_arg5 C hH 3 (by omega) da_309 rfl ?_
  refine zl_arg5 C hH 4 (by omega) da_314 rfl ?_
  refine zl_call C (o := 0) (ci := 9) (fe := fX_subject σ (sx xs (i + 1)) (sx xs (i + 2)) (sx xs (i + 3)) (sx xs (i + 4))) [.int (zI (sx xs (i + 1))), .int (zI (sx xs (i + 2))), .int (zI (sx xs (i + 3))), .int (zI (sx xs (i + 4)))] lzy_yX9_subject lzv_yX9_subject lzk_23 lzr_6_3 zo_0 (by decide) rfl (fun r hr => zqX_subject l G σ (sx xs (i + 1)) (sx xs (i + 2)) (sx xs (i + 3)) (sx xs (i + 4)) (sxw xs (i + 1)) (sxw xs (i + 2)) (sxw xs (i + 3)) (sxw xs (i + 4)) r hr) rfl rfl (Nat.le_of_ble_eq_true rfl) dl_319 e1 ?_
  refine zr_aloadn C 1 (i := 2) dl_322 rfl ?_
  refine zl_arg5 C hH 1 (by omega) da_323 rfl ?_
  refine zl_arg5 C hH 2 (by omega) da_328 rfl ?_
  refine zl_arg5 C hH 3 (by omega) da_333 rfl ?_
  refine zl_arg5 C hH 4 (by omega) da_338 rfl ?_
  refine zl_call C (o := 273) (ci := 10) (fe := fM_subject σ1 (sx xs (i + 1)) (sx xs (i + 2)) (sx xs (i + 3)) (sx xs (i + 4))) [.int (zI (sx xs (i + 1))), .int (zI (sx xs (i + 2))), .int (zI (sx xs (i + 3))), .int (zI (sx xs (i + 4)))] lzy_yX10_subject lzv_yX10_subject lzk_27 lzr_7_2 zo_273 (by decide) rfl (fun r hr => zqM_subject l G σ1 (sx xs (i + 1)) (sx xs (i + 2)) (sx xs (i + 3)) (sx xs (i + 4)) (sxw xs (i + 1)) (sxw xs (i + 2)) (sxw xs (i + 3)) (sxw xs (i + 4)) r hr) rfl rfl (Nat.le_of_ble_eq_true rfl) dl_343 e2 ?_
  exact zl_cmp C dj_346 heq (kk σ2 hI2)
theorem lc_3 (C : zC G p s m #[Value.ref b] meth c code 4 R_law ret) (hH : lw_H G s b L xs) (hi : i + 7 < L) (hI : Inv σ) (kk : ∀ σ', Inv σ' → zR G p l e room_1 s m #[Value.ref b] below meth c 4 294 24893 Q 294 ztt res σ' (some res) (lvL G b i) 1728 []) : zR G p l e room_1 s m #[Value.ref b] below meth c 4 294 24893 Q 294 ztt res σ (some res) (lvL G b i) 351 [] := by
  obtain ⟨r1, σ1, e1, r2, σ2, e2, heq, hI2⟩ := st_bar (sx xs (i + 1)) σ hI
  refine zr_aloadn C 2 (i := 1) dl_351 rfl ?_
  refine zl_arg5 C hH 1 (by omega) da_352 rfl ?_
  refine zl_call C (o := 0) (ci := 9) (fe := fX_bar σ (sx xs (i + 1))) [.int (zI (sx xs (i + 1)))] lzy_yX9_bar lzv_yX9_bar lzk_28 lzr_2_1 zo_0 (by decide) rfl (fun r hr => zqX_bar l G σ (sx xs (i + 1)) (sxw xs (i + 1)) r hr) rfl rfl (Nat.le_of_ble_eq_true rfl) dl_357 e1 ?_
  refine zr_aloadn C 1 (i := 2) dl_360 rfl ?_
  refine zl_arg5 C hH 1 (by omega) da_361 rfl ?_
  refine zl_call C (o := 273) (ci := 10) (fe := fM_bar σ1 (sx xs (i + 1))) [.int (zI (sx xs (i + 1)))] lzy_yX10_bar lzv_yX10_bar lzk_32 lzr_2_1 zo_273 (by decide) rfl (fun r hr => zqM_bar l G σ1 (sx xs (i + 1)) (sxw xs (i + 1)) r hr) rfl rfl (Nat.le_of_ble_eq_true rfl) dl_366 e2 ?_
  exact zl_cmp C dj_369 heq (kk σ2 hI2)
theorem lc_4 (C : zC G p s m #[Value.ref b] meth c code 4 R_law ret) (hH : lw_H G s b L xs) (hi : i + 7 < L) (hI : Inv σ) (kk : ∀ σ', Inv σ' → zR G p l e room_1 s m #[Value.ref b] below meth c 4 294 24893 Q 294 ztt res σ' (some res) (lvL G b i) 1728 []) : zR G p l e room_1 s m #[Value.ref b] below meth c 4 294 24893 Q 294 ztt res σ (some res) (lvL G b i) 374 [] := by
  obtain ⟨r1, σ1, e1, r2, σ2, e2, heq, hI2⟩ := st_copy (sx xs (i + 1)) (sx xs (i + 2)) σ hI
  refine zr_aloadn C 2 (i := 1) dl_374 rfl ?_
  refine zl_arg5 C hH 1 (by omega) da_375 rfl ?_
  refine zl_arg5 C hH 2 (by omega) da_380 rfl ?_
  refine zl_call C (o := 0) (ci := 9) (fe := fX_copy σ (sx xs (i + 1)) (sx xs (i + 2))) [.int (zI (sx xs (i + 1))), .int (zI (sx xs (i + 2)))] lzy_yX9_copy lzv_yX9_copy lzk_33 lzr_4_2 zo_0 (by decide) rfl (fun r hr => zqX_copy l G σ (sx xs (i + 1)) (sx xs (i + 2)) (sxw xs (i + 1)) (sxw xs (i + 2)) r hr) rfl rfl (Nat.le_of_ble_eq_true rfl) dl_385 e1 ?_
  refine zr_aloadn C 1 (i := 2) dl_388 rfl ?_
  refine zl_arg5 C hH 1 (by omega) da_389 rfl ?_
  refine zl_arg5 C hH 2 (by omega) da_394 rfl ?_
  refine zl_call C (o := 273) (ci := 10) (fe := fM_copy σ1 (sx xs (i + 1)) (sx xs (i + 2))) [.int (zI (sx xs (i + 1))), .int (zI (sx xs (i + 2)))] lzy_yX10_copy lzv_yX10_copy lzk_37 lzr_4_2 zo_273 (by decide) rfl (fun r hr => zqM_copy l G σ1 (sx xs (i + 1)) (sx xs (i + 2)) (sxw xs (i + 1)) (sxw xs (i + 2)) r hr) rfl rfl (Nat.le_of_ble_eq_true rfl) dl_399 e2 ?_
  exact zl_cmp C dj_402 heq (kk σ2 hI2)
theorem lc_5 (C : zC G p s m #[Value.ref b] meth c code 4 R_law ret) (hH : lw_H G s b L xs) (hi : i + 7 < L) (hI : Inv σ) (kk : ∀ σ', Inv σ' → zR G p l e room_1 s m #[Value.ref b] below meth c 4 294 24893 Q 294 ztt res σ' (some res) (lvL G b i) 1728 []) : zR G p l e room_1 s m #[Value.ref b] below meth c 4 294 24893 Q 294 ztt res σ (some res) (lvL G b i) 407 [] := by
  obtain ⟨r1, σ1, e1, r2, σ2, e2, heq, hI2⟩ := st_feed (sx xs (i + 1)) (sx xs (i + 2)) (sx xs (i + 3)) (sx xs (i + 4)) (sx xs (i + 5)) σ hI
  refine zr_aloadn C 2 (i := 1) dl_407 rfl ?_
  refine zl_arg5 C hH 1 (by omega) da_408 rfl ?_
  refine zl_arg5 C hH 2 (by omega) da_413 rfl ?_
  refine zl_arg5 C hH 3 (by omega) da_418 rfl ?_
  refine zl_arg5 C hH 4 (by omega) da_423 rfl ?_
  refine zl_arg5 C hH 5 (by omega) da_428 rfl ?_
  refine zl_call C (o := 0) (ci := 9) (fe := fX_feed σ (sx xs (i + 1)) (sx xs (i + 2)) (sx xs (i + 3)) (sx xs (i + 4)) (sx xs (i + 5))) [.int (zI (sx xs (i + 1))), .int (zI (sx xs (i + 2))), .int (zI (sx xs (i + 3))), .int (zI (sx xs (i + 4))), .int (zI (sx xs (i + 5)))] lzy_yX9_feed lzv_yX9_feed lzk_38 lzr_6_1 zo_0 (by decide) rfl (fun r hr => zqX_feed l G σ (sx xs (i + 1)) (sx xs (i + 2)) (sx xs (i + 3)) (sx xs (i + 4)) (sx xs (i + 5)) (sxw xs (i + 1)) (sxw xs (i + 2)) (sxw xs (i + 3)) (sxw xs (i + 4)) (sxw xs (i + 5)) r hr) rfl rfl (Nat.le_of_ble_eq_true rfl) dl_433 e1 ?_
  refine zr_aloadn C 1 (i := 2) dl_436 rfl ?_
  refine zl_arg5 C hH 1 (by omega) da_437 rfl ?_
  refine zl_arg5 C hH 2 (by omega) da_442 rfl ?_
  refine zl_arg5 C hH 3 (by omega) da_447 rfl ?_
  refine zl_arg5 C hH 4 (by omega) da_452 rfl ?_
  refine zl_arg5 C hH 5 (by omega) da_457 rfl ?_
  refine zl_call C (o := 273) (ci := 10) (fe := fM_feed σ1 (sx xs (i + 1)) (sx xs (i + 2)) (sx xs (i + 3)) (sx xs (i + 4)) (sx xs (i + 5))) [.int (zI (sx xs (i + 1))), .int (zI (sx xs (i + 2))), .int (zI (sx xs (i + 3))), .int (zI (sx xs (i + 4))), .int (zI (sx xs (i + 5)))] lzy_yX10_feed lzv_yX10_feed lzk_41 lzr_6_1 zo_273 (by decide) rfl (fun r hr => zqM_feed l G σ1 (sx xs (i + 1)) (sx xs (i + 2)) (sx xs (i + 3)) (sx xs (i + 4)) (sx xs (i + 5)) (sxw xs (i + 1)) (sxw xs (i + 2)) (sxw xs (i + 3)) (sxw xs (i + 4)) (sxw xs (i + 5)) r hr) rfl rfl (Nat.le_of_ble_eq_true rfl) dl_462 e2 ?_
  exact zl_cmp C dj_465 heq (kk σ2 hI2)
theorem lc_6 (C : zC G p s m #[Value.ref b] meth c code 4 R_law ret) (hH : lw_H G s b L xs) (hi : i + 7 < L) (hI : Inv σ) (kk : ∀ σ', Inv σ' → zR G p l e room_1 s m #[Value.ref b] below meth c 4 294 24893 Q 294 ztt res σ' (some res) (lvL G b i) 1728 []) : zR G p l e room_1 s m #[Value.ref b] below meth c 4 294 24893 Q 294 ztt res σ (some res) (lvL G b i) 470 [] := by
  obtain ⟨r1, σ1, e1, r2, σ2, e2, heq, hI2⟩ := st_end (sx xs (i + 1)) σ hI
  refine zr_aloadn C 2 (i := 1) dl_470 rfl ?_
  refine zl_arg5 C hH 1 (by omega) da_471 rfl ?_
  refine zl_call C (o := 0) (ci := 9) (fe := fX_end σ (sx xs (i + 1))) [.int (zI (sx xs (i + 1)))] lzy_yX9_end lzv_yX9_end lzk_42 lzr_2_0 zo_0 (by decide) rfl (fun r hr => zqX_end l G σ (sx xs (i + 1)) (sxw xs (i + 1)) r hr) rfl rfl (Nat.le_of_ble_eq_true rfl) dl_476 e1 ?_
  refine zr_aloadn C 1 (i := 2) dl_479 rfl ?_
  refine zl_arg5 C hH 1 (by omega) da_480 rfl ?_
  refine zl_call C (o := 273) (ci := 10) (fe := fM_end σ1 (sx xs (i + 1))) [.int (zI (sx xs (i + 1)))] lzy_yX10_end lzv_yX10_end lzk_46 lzr_2_1 zo_273 (by decide) rfl (fun r hr => zqM_end l G σ1 (sx xs (i + 1)) (sxw xs (i + 1)) r hr) rfl rfl (Nat.le_of_ble_eq_true rfl) dl_485 e2 ?_
  exact zl_cmp C dj_488 heq (kk σ2 hI2)
theorem lc_7 (C : zC G p s m #[Value.ref b] meth c code 4 R_law ret) (hH : lw_H G s b L xs) (hi : i + 7 < L) (hI : Inv σ) (kk : ∀ σ', Inv σ' → zR G p l e room_1 s m #[Value.ref b] below meth c 4 294 24893 Q 294 ztt res σ' (some res) (lvL G b i) 1728 []) : zR G p l e room_1 s m #[Value.ref b] below meth c 4 294 24893 Q 294 ztt res σ (some res) (lvL G b i) 493 [] := by
  obtain ⟨r1, σ1, e1, r2, σ2, e2, heq, hI2⟩ := st_text  σ hI
  refine zr_aloadn C 2 (i := 1) dl_493 rfl ?_
  refine zl_call C (o := 0) (ci := 9) (fe := fX_text σ ) [] lzy_yX9_text lzv_yX9_text lzk_47 lzr_1_8 zo_0 (by decide) rfl (fun r hr => zqX_text l G σ   r hr) rfl rfl (Nat.le_of_ble_eq_true rfl) dl_494 e1 ?_
  refine zr_aloadn C 1 (i := 2) dl_497 rfl ?_
  refine zl_call C (o := 273) (ci := 10) (fe := fM_text σ1 ) [] lzy_yX10_text lzv_yX10_text lzk_51 lzr_1_10 zo_273 (by decide) rfl (fun r hr => zqM_text l G σ1   r hr) rfl rfl (Nat.le_of_ble_eq_true rfl) dl_498 e2 ?_
  exact zl_cmp C dj_501 heq (kk σ2 hI2)
theorem lc_8 (C : zC G p s m #[Value.ref b] meth c code 4 R_law ret) (hH : lw_H G s b L xs) (hi : i + 7 < L) (hI : Inv σ) (kk : ∀ σ', Inv σ' → zR G p l e room_1 s m #[Value.ref b] below meth c 4 294 24893 Q 294 ztt res σ' (some res) (lvL G b i) 1728 []) : zR G p l e room_1 s m #[Value.ref b] below meth c 4 294 24893 Q 294 ztt res σ (some res) (lvL G b i) 506 [] := by
  obtain ⟨r1, σ1, e1, r2, σ2, e2, heq, hI2⟩ := st_fault (sx xs (i + 1)) σ hI
  refine zr_aloadn C 2 (i := 1) dl_506 rfl ?_
  refine zl_arg5 C hH 1 (by omega) da_507 rfl ?_
  refine zl_call C (o := 0) (ci := 9) (fe := fX_fault σ (sx xs (i + 1))) [.int (zI (sx xs (i + 1)))] lzy_yX9_fault lzv_yX9_fault lzk_52 lzr_2_1 zo_0 (by decide) rfl (fun r hr => zqX_fault l G σ (sx xs (i + 1)) (sxw xs (i + 1)) r hr) rfl rfl (Nat.le_of_ble_eq_true rfl) dl_512 e1 ?_
  refine zr_aloadn C 1 (i := 2) dl_515 rfl ?_
  refine zl_arg5 C hH 1 (by omega) da_516 rfl ?_
  refine zl_call C (o := 273) (ci := 10) (fe := fM_fault σ1 (sx xs (i + 1))) [.int (zI (sx xs (i + 1)))] lzy_yX10_fault lzv_yX10_fault lzk_55 lzr_2_0 zo_273 (by decide) rfl (fun r hr => zqM_fault l G σ1 (sx xs (i + 1)) (sxw xs (i + 1)) r hr) rfl rfl (Nat.le_of_ble_eq_true rfl) dl_521 e2 ?_
  exact zl_cmp C dj_524 heq (kk σ2 hI2)
theorem lc_9 (C : zC G p s m #[Value.ref b] meth c code 4 R_law ret) (hH : lw_H G s b L xs) (hi : i + 7 < L) (hI : Inv σ) (kk : ∀ σ', Inv σ' → zR G p l e room_1 s m #[Value.ref b] below meth c 4 294 24893 Q 294 ztt res σ' (some res) (lvL G b i) 1728 []) : zR G p l e room_1 s m #[Value.ref b] below meth c 4 294 24893 Q 294 ztt res σ (some res) (lvL G b i) 529 [] := by
  obtain ⟨r1, σ1, e1, r2, σ2, e2, heq, hI2⟩ := st_price (sx xs (i + 1)) (sx xs (i + 2)) σ hI
  refine zr_aloadn C 2 (i := 1) dl_529 rfl ?_
  refine zl_arg5 C hH 1 (by omega) da_530 rfl ?_
  refine zl_arg5 C hH 2 (by omega) da_535 rfl ?_
  refine zl_call C (o := 0) (ci := 9) (fe := fX_price σ (sx xs (i + 1)) (sx xs (i + 2))) [.int (zI (sx xs (i + 1))), .int (zI (sx xs (i + 2)))] lzy_yX9_price lzv_yX9_price lzk_56 lzr_3_5 zo_0 (by decide) rfl (fun r hr => zqX_price l G σ (sx xs (i + 1)) (sx xs (i + 2)) (sxw xs (i + 1)) (sxw xs (i + 2)) r hr) rfl rfl (Nat.le_of_ble_eq_true rfl) dl_540 e1 ?_
  refine zr_aloadn C 1 (i := 2) dl_543 rfl ?_
  refine zl_arg5 C hH 1 (by omega) da_544 rfl ?_
  refine zl_arg5 C hH 2 (by omega) da_549 rfl ?_
  refine zl_call C (o := 273) (ci := 10) (fe := fM_price σ1 (sx xs (i + 1)) (sx xs (i + 2))) [.int (zI (sx xs (i + 1))), .int (zI (sx xs (i + 2)))] lzy_yX10_price lzv_yX10_price lzk_60 lzr_3_6 zo_273 (by decide) rfl (fun r hr => zqM_price l G σ1 (sx xs (i + 1)) (sx xs (i + 2)) (sxw xs (i + 1)) (sxw xs (i + 2)) r hr) rfl rfl (Nat.le_of_ble_eq_true rfl) dl_554 e2 ?_
  exact zl_cmp C dj_557 heq (kk σ2 hI2)
theorem lc_10 (C : zC G p s m #[Value.ref b] meth c code 4 R_law ret) (hH : lw_H G s b L xs) (hi : i + 7 < L) (hI : Inv σ) (kk : ∀ σ', Inv σ' → zR G p l e room_1 s m #[Value.ref b] below meth c 4 294 24893 Q 294 ztt res σ' (some res) (lvL G b i) 1728 []) : zR G p l e room_1 s m #[Value.ref b] below meth c 4 294 24893 Q 294 ztt res σ (some res) (lvL G b i) 562 [] := by
  obtain ⟨r1, σ1, e1, r2, σ2, e2, heq, hI2⟩ := st_breaks (sx xs (i + 1)) (sx xs (i + 2)) (sx xs (i + 3)) (sx xs (i + 4)) (sxw xs (i + 3)) σ hI
  refine zr_aloadn C 2 (i := 1) dl_562 rfl ?_
  refine zl_arg5 C hH 1 (by omega) da_563 rfl ?_
  refine zl_arg5 C hH 2 (by omega) da_568 rfl ?_
  refine zl_arg5 C hH 3 (by omega) da_573 rfl ?_
  refine zl_arg5 C hH 4 (by omega) da_578 rfl ?_
  refine zl_call C (o := 0) (ci := 9) (fe := fX_breaks σ (sx xs (i + 1)) (sx xs (i + 2)) (sx xs (i + 3)) (sx xs (i + 4))) [.int (zI (sx xs (i + 1))), .int (zI (sx xs (i + 2))), .int (zI (sx xs (i + 3))), .int (zI (sx xs (i + 4)))] lzy_yX9_breaks lzv_yX9_breaks lzk_61 lzr_5_5 zo_0 (by decide) rfl (fun r hr => zqX_breaks l G σ (sx xs (i + 1)) (sx xs (i + 2)) (sx xs (i + 3)) (sx xs (i + 4)) (sxw xs (i + 1)) (sxw xs (i + 2)) (sxw xs (i + 3)) (sxw xs (i + 4)) r hr) rfl rfl (Nat.le_of_ble_eq_true rfl) dl_583 e1 ?_
  refine zr_aloadn C 1 (i := 2) dl_586 rfl ?_
  refine zl_arg5 C hH 1 (by omega) da_587 rfl ?_
  refine zl_arg5 C hH 2 (by omega) da_592 rfl ?_
  refine zl_arg5 C hH 3 (by omega) da_597 rfl ?_
  refine zl_arg5 C hH 4 (by omega) da_602 rfl ?_
  refine zl_call C (o := 273) (ci := 10) (fe := fM_breaks σ1 (sx xs (i + 1)) (sx xs (i + 2)) (sx xs (i + 3)) (sx xs (i + 4))) [.int (zI (sx xs (i + 1))), .int (zI (sx xs (i + 2))), .int (zI (sx xs (i + 3))), .int (zI (sx xs (i + 4)))] lzy_yX10_breaks lzv_yX10_breaks lzk_64 lzr_5_6 zo_273 (by decide) rfl (fun r hr => zqM_breaks l G σ1 (sx xs (i + 1)) (sx xs (i + 2)) (sx xs (i + 3)) (sx xs (i + 4)) (sxw xs (i + 1)) (sxw xs (i + 2)) (sxw xs (i + 3)) (sxw xs (i + 4)) r hr) rfl rfl (Nat.le_of_ble_eq_true rfl) dl_607 e2 ?_
  exact zl_cmp C dj_610 heq (kk σ2 hI2)
theorem lc_11 (C : zC G p s m #[Value.ref b] meth c code 4 R_law ret) (hH : lw_H G s b L xs) (hi : i + 7 < L) (hI : Inv σ) (kk : ∀ σ', Inv σ' → zR G p l e room_1 s m #[Value.ref b] below meth c 4 294 24893 Q 294 ztt res σ' (some res) (lvL G b i) 1728 []) : zR G p l e room_1 s m #[Value.ref b] below meth c 4 294 24893 Q 294 ztt res σ (some res) (lvL G b i) 615 [] := by
  obtain ⟨r1, σ1, e1, r2, σ2, e2, heq, hI2⟩ := st_fit (sx xs (i + 1)) (sx xs (i + 2)) (sx xs (i + 3)) (sx xs (i + 4)) (sx xs (i + 5)) (bz (sx xs (i + 6))) (sx xs (i + 7)) σ hI
  refine zr_aloadn C 2 (i := 1) dl_615 rfl ?_
  refine zl_arg5 C hH 1 (by omega) da_616 rfl ?_
  refine zl_arg5 C hH 2 (by omega) da_621 rfl ?_
  refine zl_arg5 C hH 3 (by omega) da_626 rfl ?_
  refine zl_arg5 C hH 4 (by omega) da_631 rfl ?_
  refine zl_arg5 C hH 5 (by omega) da_636 rfl ?_
  refine zl_arg6 C hH 6 (by decide) (by omega) da_641 (by decide +kernel) rfl ?_
  refine zl_bool C (sxw xs (i + 6)) db_647 ?_
  refine zl_arg6 C hH 7 (by decide) (by omega) da_655 (by decide +kernel) rfl ?_
  refine zl_call C (o := 0) (ci := 9) (fe := fX_fit σ (sx xs (i + 1)) (sx xs (i + 2)) (sx xs (i + 3)) (sx xs (i + 4)) (sx xs (i + 5)) (bz (sx xs (i + 6))) (sx xs (i + 7))) [.int (zI (sx xs (i + 1))), .int (zI (sx xs (i + 2))), .int (zI (sx xs (i + 3))), .int (zI (sx xs (i + 4))), .int (zI (sx xs (i + 5))), .int (zI (bz (sx xs (i + 6)))), .int (zI (sx xs (i + 7)))] lzy_yX9_fit lzv_yX9_fit lzk_65 lzr_9_6 zo_0 (by decide) rfl (fun r hr => zqX_fit l G σ (sx xs (i + 1)) (sx xs (i + 2)) (sx xs (i + 3)) (sx xs (i + 4)) (sx xs (i + 5)) (bz (sx xs (i + 6))) (sx xs (i + 7)) (sxw xs (i + 1)) (sxw xs (i + 2)) (sxw xs (i + 3)) (sxw xs (i + 4)) (sxw xs (i + 5)) (bzw (sx xs (i + 6))) (sxw xs (i + 7)) r hr) rfl rfl (Nat.le_of_ble_eq_true rfl) dl_661 e1 ?_
  refine zr_aloadn C 1 (i := 2) dl_664 rfl ?_
  refine zl_arg5 C hH 1 (by omega) da_665 rfl ?_
  refine zl_arg5 C hH 2 (by omega) da_670 rfl ?_
  refine zl_arg5 C hH 3 (by omega) da_675 rfl ?_
  refine zl_arg5 C hH 4 (by omega) da_680 rfl ?_
  refine zl_arg5 C hH 5 (by omega) da_685 rfl ?_
  refine zl_arg6 C hH 6 (by decide) (by omega) da_690 (by decide +kernel) rfl ?_
  refine zl_bool C (sxw xs (i + 6)) db_696 ?_
  refine zl_arg6 C hH 7 (by decide) (by omega) da_704 (by decide +kernel) rfl ?_
  refine zl_call C (o := 273) (ci := 10) (fe := fM_fit σ1 (sx xs (i + 1)) (sx xs (i + 2)) (sx xs (i + 3)) (sx xs (i + 4)) (sx xs (i + 5)) (bz (sx xs (i + 6))) (sx xs (i + 7))) [.int (zI (sx xs (i + 1))), .int (zI (sx xs (i + 2))), .int (zI (sx xs (i + 3))), .int (zI (sx xs (i + 4))), .int (zI (sx xs (i + 5))), .int (zI (bz (sx xs (i + 6)))), .int (zI (sx xs (i + 7)))] lzy_yX10_fit lzv_yX10_fit lzk_69 lzr_8_6 zo_273 (by decide) rfl (fun r hr => zqM_fit l G σ1 (sx xs (i + 1)) (sx xs (i + 2)) (sx xs (i + 3)) (sx xs (i + 4)) (sx xs (i + 5)) (bz (sx xs (i + 6))) (sx xs (i + 7)) (sxw xs (i + 1)) (sxw xs (i + 2)) (sxw xs (i + 3)) (sxw xs (i + 4)) (sxw xs (i + 5)) (bzw (sx xs (i + 6))) (sxw xs (i + 7)) r hr) rfl rfl (Nat.le_of_ble_eq_true rfl) dl_710 e2 ?_
  exact zl_cmp C dj_713 heq (kk σ2 hI2)
theorem lc_12 (C : zC G p s m #[Value.ref b] meth c code 4 R_law ret) (hH : lw_H G s b L xs) (hi : i + 7 < L) (hI : Inv σ) (kk : ∀ σ', Inv σ' → zR G p l e room_1 s m #[Value.ref b] below meth c 4 294 24893 Q 294 ztt res σ' (some res) (lvL G b i) 1728 []) : zR G p l e room_1 s m #[Value.ref b] below meth c 4 294 24893 Q 294 ztt res σ (some res) (lvL G b i) 718 [] := by
  obtain ⟨r1, σ1, e1, r2, σ2, e2, heq, hI2⟩ := st_fits (sx xs (i + 1)) (sx xs (i + 2)) (sx xs (i + 3)) (sx xs (i + 4)) (sx xs (i + 5)) (sxw xs (i + 5)) σ hI
  refine zr_aloadn C 2 (i := 1) dl_718 rfl ?_
  refine zl_arg5 C hH 1 (by omega) da_719 rfl ?_
  refine zl_arg5 C hH 2 (by omega) da_724 rfl ?_
  refine zl_arg5 C hH 3 (by omega) da_729 rfl ?_
  refine zl_arg5 C hH 4 (by omega) da_734 rfl ?_
  refine zl_arg5 C hH 5 (by omega) da_739 rfl ?_
  refine zl_call C (o := 0) (ci := 9) (fe := fX_fits σ (sx xs (i + 1)) (sx xs (i + 2)) (sx xs (i + 3)) (sx xs (i + 4)) (sx xs (i + 5))) [.int (zI (sx xs (i + 1))), .int (zI (sx xs (i + 2))), .int (zI (sx xs (i + 3))), .int (zI (sx xs (i + 4))), .int (zI (sx xs (i + 5)))] lzy_yX9_fits lzv_yX9_fits lzk_70 lzr_8_6 zo_0 (by decide) rfl (fun r hr => zqX_fits l G σ (sx xs (i + 1)) (sx xs (i + 2)) (sx xs (i + 3)) (sx xs (i + 4)) (sx xs (i + 5)) (sxw xs (i + 1)) (sxw xs (i + 2)) (sxw xs (i + 3)) (sxw xs (i + 4)) (sxw xs (i + 5)) r hr) rfl rfl (Nat.le_of_ble_eq_true rfl) dl_744 e1 ?_
  refine zr_aloadn C 1 (i := 2) dl_747 rfl ?_
  refine zl_arg5 C hH 1 (by omega) da_748 rfl ?_
  refine zl_arg5 C hH 2 (by omega) da_753 rfl ?_
  refine zl_arg5 C hH 3 (by omega) da_758 rfl ?_
  refine zl_arg5 C hH 4 (by omega) da_763 rfl ?_
  refine zl_arg5 C hH 5 (by omega) da_768 rfl ?_
  refine zl_call C (o := 273) (ci := 10) (fe := fM_fits σ1 (sx xs (i + 1)) (sx xs (i + 2)) (sx xs (i + 3)) (sx xs (i + 4)) (sx xs (i + 5))) [.int (zI (sx xs (i + 1))), .int (zI (sx xs (i + 2))), .int (zI (sx xs (i + 3))), .int (zI (sx xs (i + 4))), .int (zI (sx xs (i + 5)))] lzy_yX10_fits lzv_yX10_fits lzk_73 lzr_6_7 zo_273 (by decide) rfl (fun r hr => zqM_fits l G σ1 (sx xs (i + 1)) (sx xs (i + 2)) (sx xs (i + 3)) (sx xs (i + 4)) (sx xs (i + 5)) (sxw xs (i + 1)) (sxw xs (i + 2)) (sxw xs (i + 3)) (sxw xs (i + 4)) (sxw xs (i + 5)) r hr) rfl rfl (Nat.le_of_ble_eq_true rfl) dl_773 e2 ?_
  exact zl_cmp C dj_776 heq (kk σ2 hI2)
theorem lc_13 (C : zC G p s m #[Value.ref b] meth c code 4 R_law ret) (hH : lw_H G s b L xs) (hi : i + 7 < L) (hI : Inv σ) (kk : ∀ σ', Inv σ' → zR G p l e room_1 s m #[Value.ref b] below meth c 4 294 24893 Q 294 ztt res σ' (some res) (lvL G b i) 1728 []) : zR G p l e room_1 s m #[Value.ref b] below meth c 4 294 24893 Q 294 ztt res σ (some res) (lvL G b i) 781 [] := by
  obtain ⟨r1, σ1, e1, r2, σ2, e2, heq, hI2⟩ := st_cheapest (sx xs (i + 1)) (sx xs (i + 2)) (sx xs (i + 3)) (sx xs (i + 4)) σ hI
  refine zr_aloadn C 2 (i := 1) dl_781 rfl ?_
  refine zl_arg5 C hH 1 (by omega) da_782 rfl ?_
  refine zl_arg5 C hH 2 (by omega) da_787 rfl ?_
  refine zl_arg5 C hH 3 (by omega) da_792 rfl ?_
  refine zl_arg5 C hH 4 (by omega) da_797 rfl ?_
  refine zl_call C (o := 0) (ci := 9) (fe := fX_cheapest σ (sx xs (i + 1)) (sx xs (i + 2)) (sx xs (i + 3)) (sx xs (i + 4))) [.int (zI (sx xs (i + 1))), .int (zI (sx xs (i + 2))), .int (zI (sx xs (i + 3))), .int (zI (sx xs (i + 4)))] lzy_yX9_cheapest lzv_yX9_cheapest lzk_74 lzr_5_7 zo_0 (by decide) rfl (fun r hr => zqX_cheapest l G σ (sx xs (i + 1)) (sx xs (i + 2)) (sx xs (i + 3)) (sx xs (i + 4)) (sxw xs (i + 1)) (sxw xs (i + 2)) (sxw xs (i + 3)) (sxw xs (i + 4)) r hr) rfl rfl (Nat.le_of_ble_eq_true rfl) dl_802 e1 ?_
  refine zr_aloadn C 1 (i := 2) dl_805 rfl ?_
  refine zl_arg5 C hH 1 (by omega) da_806 rfl ?_
  refine zl_arg5 C hH 2 (by omega) da_811 rfl ?_
  refine zl_arg5 C hH 3 (by omega) da_816 rfl ?_
  refine zl_arg5 C hH 4 (by omega) da_821 rfl ?_
  refine zl_call C (o := 273) (ci := 10) (fe := fM_cheapest σ1 (sx xs (i + 1)) (sx xs (i + 2)) (sx xs (i + 3)) (sx xs (i + 4))) [.int (zI (sx xs (i + 1))), .int (zI (sx xs (i + 2))), .int (zI (sx xs (i + 3))), .int (zI (sx xs (i + 4)))] lzy_yX10_cheapest lzv_yX10_cheapest lzk_77 lzr_5_7 zo_273 (by decide) rfl (fun r hr => zqM_cheapest l G σ1 (sx xs (i + 1)) (sx xs (i + 2)) (sx xs (i + 3)) (sx xs (i + 4)) (sxw xs (i + 1)) (sxw xs (i + 2)) (sxw xs (i + 3)) (sxw xs (i + 4)) r hr) rfl rfl (Nat.le_of_ble_eq_true rfl) dl_826 e2 ?_
  exact zl_cmp C dj_829 heq (kk σ2 hI2)
theorem lc_14 (C : zC G p s m #[Value.ref b] meth c code 4 R_law ret) (hH : lw_H G s b L xs) (hi : i + 7 < L) (hI : Inv σ) (kk : ∀ σ', Inv σ' → zR G p l e room_1 s m #[Value.ref b] below meth c 4 294 24893 Q 294 ztt res σ' (some res) (lvL G b i) 1728 []) : zR G p l e room_1 s m #[Value.ref b] below meth c 4 294 24893 Q 294 ztt res σ (some res) (lvL G b i) 834 [] := by
  obtain ⟨r1, σ1, e1, r2, σ2, e2, heq, hI2⟩ := st_three (sx xs (i + 1)) (sx xs (i + 2)) (sx xs (i + 3)) (sx xs (i + 4)) (sx xs (i + 5)) σ hI
  refine zr_aloadn C 2 (i := 1) dl_834 rfl ?_
  refine zl_arg5 C hH 1 (by omega) da_835 rfl ?_
  refine zl_arg5 C hH 2 (by omega) da_840 rfl ?_
  refine zl_arg5 C hH 3 (by omega) da_845 rfl ?_
  refine zl_arg5 C hH 4 (by omega) da_850 rfl ?_
  refine zl_arg5 C hH 5 (by omega) da_855 rfl ?_
  refine zl_call C (o := 0) (ci := 9) (fe := fX_three σ (sx xs (i + 1)) (sx xs (i + 2)) (sx xs (i + 3)) (sx xs (i + 4)) (sx xs (i + 5))) [.int (zI (sx xs (i + 1))), .int (zI (sx xs (i + 2))), .int (zI (sx xs (i + 3))), .int (zI (sx xs (i + 4))), .int (zI (sx xs (i + 5)))] lzy_yX9_three lzv_yX9_three lzk_78 lzr_6_7 zo_0 (by decide) rfl (fun r hr => zqX_three l G σ (sx xs (i + 1)) (sx xs (i + 2)) (sx xs (i + 3)) (sx xs (i + 4)) (sx xs (i + 5)) (sxw xs (i + 1)) (sxw xs (i + 2)) (sxw xs (i + 3)) (sxw xs (i + 4)) (sxw xs (i + 5)) r hr) rfl rfl (Nat.le_of_ble_eq_true rfl) dl_860 e1 ?_
  refine zr_aloadn C 1 (i := 2) dl_863 rfl ?_
  refine zl_arg5 C hH 1 (by omega) da_864 rfl ?_
  refine zl_arg5 C hH 2 (by omega) da_869 rfl ?_
  refine zl_arg5 C hH 3 (by omega) da_874 rfl ?_
  refine zl_arg5 C hH 4 (by omega) da_879 rfl ?_
  refine zl_arg5 C hH 5 (by omega) da_884 rfl ?_
  refine zl_call C (o := 273) (ci := 10) (fe := fM_three σ1 (sx xs (i + 1)) (sx xs (i + 2)) (sx xs (i + 3)) (sx xs (i + 4)) (sx xs (i + 5))) [.int (zI (sx xs (i + 1))), .int (zI (sx xs (i + 2))), .int (zI (sx xs (i + 3))), .int (zI (sx xs (i + 4))), .int (zI (sx xs (i + 5)))] lzy_yX10_three lzv_yX10_three lzk_81 lzr_11_6 zo_273 (by decide) rfl (fun r hr => zqM_three l G σ1 (sx xs (i + 1)) (sx xs (i + 2)) (sx xs (i + 3)) (sx xs (i + 4)) (sx xs (i + 5)) (sxw xs (i + 1)) (sxw xs (i + 2)) (sxw xs (i + 3)) (sxw xs (i + 4)) (sxw xs (i + 5)) r hr) rfl rfl (Nat.le_of_ble_eq_true rfl) dl_889 e2 ?_
  exact zl_cmp C dj_892 heq (kk σ2 hI2)
theorem lc_15 (C : zC G p s m #[Value.ref b] meth c code 4 R_law ret) (hH : lw_H G s b L xs) (hi : i + 7 < L) (hI : Inv σ) (kk : ∀ σ', Inv σ' → zR G p l e room_1 s m #[Value.ref b] below meth c 4 294 24893 Q 294 ztt res σ' (some res) (lvL G b i) 1728 []) : zR G p l e room_1 s m #[Value.ref b] below meth c 4 294 24893 Q 294 ztt res σ (some res) (lvL G b i) 897 [] := by
  obtain ⟨r1, σ1, e1, r2, σ2, e2, heq, hI2⟩ := st_chance (sx xs (i + 1)) (sx xs (i + 2)) (sx xs (i + 3)) (sx xs (i + 4)) (sx xs (i + 5)) (sx xs (i + 6)) σ hI
  refine zr_aloadn C 2 (i := 1) dl_897 rfl ?_
  refine zl_arg5 C hH 1 (by omega) da_898 rfl ?_
  refine zl_arg5 C hH 2 (by omega) da_903 rfl ?_
  refine zl_arg5 C hH 3 (by omega) da_908 rfl ?_
  refine zl_arg5 C hH 4 (by omega) da_913 rfl ?_
  refine zl_arg5 C hH 5 (by omega) da_918 rfl ?_
  refine zl_arg6 C hH 6 (by decide) (by omega) da_923 (by decide +kernel) rfl ?_
  refine zl_call C (o := 0) (ci := 9) (fe := fX_chance σ (sx xs (i + 1)) (sx xs (i + 2)) (sx xs (i + 3)) (sx xs (i + 4)) (sx xs (i + 5)) (sx xs (i + 6))) [.int (zI (sx xs (i + 1))), .int (zI (sx xs (i + 2))), .int (zI (sx xs (i + 3))), .int (zI (sx xs (i + 4))), .int (zI (sx xs (i + 5))), .int (zI (sx xs (i + 6)))] lzy_yX9_chance lzv_yX9_chance lzk_82 lzr_9_7 zo_0 (by decide) rfl (fun r hr => zqX_chance l G σ (sx xs (i + 1)) (sx xs (i + 2)) (sx xs (i + 3)) (sx xs (i + 4)) (sx xs (i + 5)) (sx xs (i + 6)) (sxw xs (i + 1)) (sxw xs (i + 2)) (sxw xs (i + 3)) (sxw xs (i + 4)) (sxw xs (i + 5)) (sxw xs (i + 6)) r hr) rfl rfl (Nat.le_of_ble_eq_true rfl) dl_929 e1 ?_
  refine zr_aloadn C 1 (i := 2) dl_932 rfl ?_
  refine zl_arg5 C hH 1 (by omega) da_933 rfl ?_
  refine zl_arg5 C hH 2 (by omega) da_938 rfl ?_
  refine zl_arg5 C hH 3 (by omega) da_943 rfl ?_
  refine zl_arg5 C hH 4 (by omega) da_948 rfl ?_
  refine zl_arg5 C hH 5 (by omega) da_953 rfl ?_
  refine zl_arg6 C hH 6 (by decide) (by omega) da_958 (by decide +kernel) rfl ?_
  refine zl_call C (o := 273) (ci := 10) (fe := fM_chance σ1 (sx xs (i + 1)) (sx xs (i + 2)) (sx xs (i + 3)) (sx xs (i + 4)) (sx xs (i + 5)) (sx xs (i + 6))) [.int (zI (sx xs (i + 1))), .int (zI (sx xs (i + 2))), .int (zI (sx xs (i + 3))), .int (zI (sx xs (i + 4))), .int (zI (sx xs (i + 5))), .int (zI (sx xs (i + 6)))] lzy_yX10_chance lzv_yX10_chance lzk_86 lzr_10_7 zo_273 (by decide) rfl (fun r hr => zqM_chance l G σ1 (sx xs (i + 1)) (sx xs (i + 2)) (sx xs (i + 3)) (sx xs (i + 4)) (sx xs (i + 5)) (sx xs (i + 6)) (sxw xs (i + 1)) (sxw xs (i + 2)) (sxw xs (i + 3)) (sxw xs (i + 4)) (sxw xs (i + 5)) (sxw xs (i + 6)) r hr) rfl rfl (Nat.le_of_ble_eq_true rfl) dl_964 e2 ?_
  exact zl_cmp C dj_967 heq (kk σ2 hI2)
theorem lc_16 (C : zC G p s m #[Value.ref b] meth c code 4 R_law ret) (hH : lw_H G s b L xs) (hi : i + 7 < L) (hI : Inv σ) (kk : ∀ σ', Inv σ' → zR G p l e room_1 s m #[Value.ref b] below meth c 4 294 24893 Q 294 ztt res σ' (some res) (lvL G b i) 1728 []) : zR G p l e room_1 s m #[Value.ref b] below meth c 4 294 24893 Q 294 ztt res σ (some res) (lvL G b i) 972 [] := by
  obtain ⟨r1, σ1, e1, r2, σ2, e2, heq, hI2⟩ := st_seen (sx xs (i + 1)) (sx xs (i + 2)) σ hI
  refine zr_aloadn C 2 (i := 1) dl_972 rfl ?_
  refine zl_arg5 C hH 1 (by omega) da_973 rfl ?_
  refine zl_arg5 C hH 2 (by omega) da_978 rfl ?_
  refine zl_call C (o := 0) (ci := 9) (fe := fX_seen σ (sx xs (i + 1)) (sx xs (i + 2))) [.int (zI (sx xs (i + 1))), .int (zI (sx xs (i + 2)))] lzy_yX9_seen lzv_yX9_seen lzk_87 lzr_3_4 zo_0 (by decide) rfl (fun r hr => zqX_seen l G σ (sx xs (i + 1)) (sx xs (i + 2)) (sxw xs (i + 1)) (sxw xs (i + 2)) r hr) rfl rfl (Nat.le_of_ble_eq_true rfl) dl_983 e1 ?_
  refine zr_aloadn C 1 (i := 2) dl_986 rfl ?_
  refine zl_arg5 C hH 1 (by omega) da_987 rfl ?_
  refine zl_arg5 C hH 2 (by omega) da_992 rfl ?_
  refine zl_call C (o := 273) (ci := 10) (fe := fM_seen σ1 (sx xs (i + 1)) (sx xs (i + 2))) [.int (zI (sx xs (i + 1))), .int (zI (sx xs (i + 2)))] lzy_yX10_seen lzv_yX10_seen lzk_90 lzr_3_3 zo_273 (by decide) rfl (fun r hr => zqM_seen l G σ1 (sx xs (i + 1)) (sx xs (i + 2)) (sxw xs (i + 1)) (sxw xs (i + 2)) r hr) rfl rfl (Nat.le_of_ble_eq_true rfl) dl_997 e2 ?_
  exact zl_cmp C dj_1000 heq (kk σ2 hI2)
theorem lc_17 (C : zC G p s m #[Value.ref b] meth c code 4 R_law ret) (hH : lw_H G s b L xs) (hi : i + 7 < L) (hI : Inv σ) (kk : ∀ σ', Inv σ' → zR G p l e room_1 s m #[Value.ref b] below meth c 4 294 24893 Q 294 ztt res σ' (some res) (lvL G b i) 1728 []) : zR G p l e room_1 s m #[Value.ref b] below meth c 4 294 24893 Q 294 ztt res σ (some res) (lvL G b i) 1005 [] := by
  obtain ⟨r1, σ1, e1, r2, σ2, e2, heq, hI2⟩ := st_strange (sx xs (i + 1)) (sx xs (i + 2)) σ hI
  refine zr_aloadn C 2 (i := 1) dl_1005 rfl ?_
  refine zl_arg5 C hH 1 (by omega) da_1006 rfl ?_
  refine zl_arg5 C hH 2 (by omega) da_1011 rfl ?_
  refine zl_call C (o := 0) (ci := 9) (fe := fX_strange σ (sx xs (i + 1)) (sx xs (i + 2))) [.int (zI (sx xs (i + 1))), .int (zI (sx xs (i + 2)))] lzy_yX9_strange lzv_yX9_strange lzk_91 lzr_3_4 zo_0 (by decide) rfl (fun r hr => zqX_strange l G σ (sx xs (i + 1)) (sx xs (i + 2)) (sxw xs (i + 1)) (sxw xs (i + 2)) r hr) rfl rfl (Nat.le_of_ble_eq_true rfl) dl_1016 e1 ?_
  refine zr_aloadn C 1 (i := 2) dl_1019 rfl ?_
  refine zl_arg5 C hH 1 (by omega) da_1020 rfl ?_
  refine zl_arg5 C hH 2 (by omega) da_1025 rfl ?_
  refine zl_call C (o := 273) (ci := 10) (fe := fM_strange σ1 (sx xs (i + 1)) (sx xs (i + 2))) [.int (zI (sx xs (i + 1))), .int (zI (sx xs (i + 2)))] lzy_yX10_strange lzv_yX10_strange lzk_94 lzr_3_4 zo_273 (by decide) rfl (fun r hr => zqM_strange l G σ1 (sx xs (i + 1)) (sx xs (i + 2)) (sxw xs (i + 1)) (sxw xs (i + 2)) r hr) rfl rfl (Nat.le_of_ble_eq_true rfl) dl_1030 e2 ?_
  exact zl_cmp C dj_1033 heq (kk σ2 hI2)
end LAWK
