/-! MY OWN: the law, case by case (1; printed by wip/gen/gen89.py) -/
section LAWK
variable {G : Zg} {p : Program} {l : Launch} {e : Env} {s : State} {m : MethodId} {below : List Frame} {meth : Method} {c : Code} {Q : State → Prop} {b L i pc q : Nat} {xs : Nat → Int32} {σ : Zm} {res : Int × Zm} {st rest : List Value}
theorem lc_18 (C : zC G p s m #[Value.ref b] meth c code 4 R_law ret) (hH : lw_H G s b L xs) (hi : i + 7 < L) (hI : Inv σ) (kk : ∀ σ', Inv σ' → zR G p l e room_1 s m #[Value.ref b] below meth c 4 294 24893 Q 294 ztt res σ' (some res) (lvL G b i) 1728 []) : zR G p l e room_1 s m #[Value.ref b] below meth c 4 294 24893 Q 294 ztt res σ (some res) (lvL G b i) 1038 [] := by
  obtain ⟨r1, σ1, e1, r2, σ2, e2, heq, hI2⟩ := st_follows (sx xs (i + 1)) (sx xs (i + 2)) (sx xs (i + 3)) (sx xs (i + 4)) σ hI
  refine zr_aloadn C 2 (i := 1) dl_1038 rfl ?_
  refine zl_arg5 C hH 1 (by omega) da_1039 rfl ?_
  refine zl_arg5 C hH 2 (by omega) da_1044 rfl ?_
  refine zl_arg5 C hH 3 (by omega) da_1049 rfl ?_
  refine zl_arg5 C hH 4 (by omega) da_1054 rfl ?_
  refine zl_call C (o := 0) (ci := 9) (fe := fX_follows σ (sx xs (i + 1)) (sx xs (i + 2)) (sx xs (i + 3)) (sx xs (i + 4))) [.int (zI (sx xs (i + 1))), .int (zI (sx xs (i + 2))), .int (zI (sx xs (i + 3))), .int (zI (sx xs (i + 4)))] lzy_yX9_follows lzv_yX9_follows lzk_95 lzr_9_4 zo_0 (by decide) rfl (fun r hr => zqX_follows l G σ (sx xs (i + 1)) (sx xs (i + 2)) (sx xs (i + 3)) (sx xs (i + 4)) (sxw xs (i + 1)) (sxw xs (i + 2)) (sxw xs (i + 3)) (sxw xs (i + 4)) r hr) rfl rfl (Nat.le_of_ble_eq_true rfl) dl_1059 e1 ?_
  refine zr_aloadn C 1 (i := 2) dl_1062 rfl ?_
  refine zl_arg5 C hH 1 (by omega) da_1063 rfl ?_
  refine zl_arg5 C hH 2 (by omega) da_1068 rfl ?_
  refine zl_arg5 C hH 3 (by omega) da_1073 rfl ?_
  refine zl_arg5 C hH 4 (by omega) da_1078 rfl ?_
  refine zl_call C (o := 273) (ci := 10) (fe := fM_follows σ1 (sx xs (i + 1)) (sx xs (i + 2)) (sx xs (i + 3)) (sx xs (i + 4))) [.int (zI (sx xs (i + 1))), .int (zI (sx xs (i + 2))), .int (zI (sx xs (i + 3))), .int (zI (sx xs (i + 4)))] lzy_yX10_follows lzv_yX10_follows lzk_98 lzr_11_3 zo_273 (by decide) rfl (fun r hr => zqM_follows l G σ1 (sx xs (i + 1)) (sx xs (i + 2)) (sx xs (i + 3)) (sx xs (i + 4)) (sxw xs (i + 1)) (sxw xs (i + 2)) (sxw xs (i + 3)) (sxw xs (i + 4)) r hr) rfl rfl (Nat.le_of_ble_eq_true rfl) dl_1083 e2 ?_
  exact zl_cmp C dj_1086 heq (kk σ2 hI2)
theorem lc_19 (C : zC G p s m #[Value.ref b] meth c code 4 R_law ret) (hH : lw_H G s b L xs) (hi : i + 7 < L) (hI : Inv σ) (kk : ∀ σ', Inv σ' → zR G p l e room_1 s m #[Value.ref b] below meth c 4 294 24893 Q 294 ztt res σ' (some res) (lvL G b i) 1728 []) : zR G p l e room_1 s m #[Value.ref b] below meth c 4 294 24893 Q 294 ztt res σ (some res) (lvL G b i) 1091 [] := by
  obtain ⟨r1, σ1, e1, r2, σ2, e2, heq, hI2⟩ := st_never (sx xs (i + 1)) (sx xs (i + 2)) (sx xs (i + 3)) σ hI
  refine zr_aloadn C 2 (i := 1) dl_1091 rfl ?_
  refine zl_arg5 C hH 1 (by omega) da_1092 rfl ?_
  refine zl_arg5 C hH 2 (by omega) da_1097 rfl ?_
  refine zl_arg5 C hH 3 (by omega) da_1102 rfl ?_
  refine zl_call C (o := 0) (ci := 9) (fe := fX_never σ (sx xs (i + 1)) (sx xs (i + 2)) (sx xs (i + 3))) [.int (zI (sx xs (i + 1))), .int (zI (sx xs (i + 2))), .int (zI (sx xs (i + 3)))] lzy_yX9_never lzv_yX9_never lzk_99 lzr_8_4 zo_0 (by decide) rfl (fun r hr => zqX_never l G σ (sx xs (i + 1)) (sx xs (i + 2)) (sx xs (i + 3)) (sxw xs (i + 1)) (sxw xs (i + 2)) (sxw xs (i + 3)) r hr) rfl rfl (Nat.le_of_ble_eq_true rfl) dl_1107 e1 ?_
  refine zr_aloadn C 1 (i := 2) dl_1110 rfl ?_
  refine zl_arg5 C hH 1 (by omega) da_1111 rfl ?_
  refine zl_arg5 C hH 2 (by omega) da_1116 rfl ?_
  refine zl_arg5 C hH 3 (by omega) da_1121 rfl ?_
  refine zl_call C (o := 273) (ci := 10) (fe := fM_never σ1 (sx xs (i + 1)) (sx xs (i + 2)) (sx xs (i + 3))) [.int (zI (sx xs (i + 1))), .int (zI (sx xs (i + 2))), .int (zI (sx xs (i + 3)))] lzy_yX10_never lzv_yX10_never lzk_102 lzr_8_3 zo_273 (by decide) rfl (fun r hr => zqM_never l G σ1 (sx xs (i + 1)) (sx xs (i + 2)) (sx xs (i + 3)) (sxw xs (i + 1)) (sxw xs (i + 2)) (sxw xs (i + 3)) r hr) rfl rfl (Nat.le_of_ble_eq_true rfl) dl_1126 e2 ?_
  exact zl_cmp C dj_1129 heq (kk σ2 hI2)
theorem lc_20 (C : zC G p s m #[Value.ref b] meth c code 4 R_law ret) (hH : lw_H G s b L xs) (hi : i + 7 < L) (hI : Inv σ) (kk : ∀ σ', Inv σ' → zR G p l e room_1 s m #[Value.ref b] below meth c 4 294 24893 Q 294 ztt res σ' (some res) (lvL G b i) 1728 []) : zR G p l e room_1 s m #[Value.ref b] below meth c 4 294 24893 Q 294 ztt res σ (some res) (lvL G b i) 1134 [] := by
  obtain ⟨r1, σ1, e1, r2, σ2, e2, heq, hI2⟩ := st_hand (sx xs (i + 1)) (sx xs (i + 2)) σ hI
  refine zr_aloadn C 2 (i := 1) dl_1134 rfl ?_
  refine zl_arg5 C hH 1 (by omega) da_1135 rfl ?_
  refine zl_arg5 C hH 2 (by omega) da_1140 rfl ?_
  refine zl_call C (o := 0) (ci := 9) (fe := fX_hand σ (sx xs (i + 1)) (sx xs (i + 2))) [.int (zI (sx xs (i + 1))), .int (zI (sx xs (i + 2)))] lzy_yX9_hand lzv_yX9_hand lzk_103 lzr_3_2 zo_0 (by decide) rfl (fun r hr => zqX_hand l G σ (sx xs (i + 1)) (sx xs (i + 2)) (sxw xs (i + 1)) (sxw xs (i + 2)) r hr) rfl rfl (Nat.le_of_ble_eq_true rfl) dl_1145 e1 ?_
  refine zr_aloadn C 1 (i := 2) dl_1148 rfl ?_
  refine zl_arg5 C hH 1 (by omega) da_1149 rfl ?_
  refine zl_arg5 C hH 2 (by omega) da_1154 rfl ?_
  refine zl_call C (o := 273) (ci := 10) (fe := fM_hand σ1 (sx xs (i + 1)) (sx xs (i + 2))) [.int (zI (sx xs (i + 1))), .int (zI (sx xs (i + 2)))] lzy_yX10_hand lzv_yX10_hand lzk_106 lzr_3_2 zo_273 (by decide) rfl (fun r hr => zqM_hand l G σ1 (sx xs (i + 1)) (sx xs (i + 2)) (sxw xs (i + 1)) (sxw xs (i + 2)) r hr) rfl rfl (Nat.le_of_ble_eq_true rfl) dl_1159 e2 ?_
  exact zl_cmp C dj_1162 heq (kk σ2 hI2)
theorem lc_21 (C : zC G p s m #[Value.ref b] meth c code 4 R_law ret) (hH : lw_H G s b L xs) (hi : i + 7 < L) (hI : Inv σ) (kk : ∀ σ', Inv σ' → zR G p l e room_1 s m #[Value.ref b] below meth c 4 294 24893 Q 294 ztt res σ' (some res) (lvL G b i) 1728 []) : zR G p l e room_1 s m #[Value.ref b] below meth c 4 294 24893 Q 294 ztt res σ (some res) (lvL G b i) 1167 [] := by
  obtain ⟨r1, σ1, e1, r2, σ2, e2, heq, hI2⟩ := st_apart (sx xs (i + 1)) (sx xs (i + 2)) σ hI
  refine zr_aloadn C 2 (i := 1) dl_1167 rfl ?_
  refine zl_arg5 C hH 1 (by omega) da_1168 rfl ?_
  refine zl_arg5 C hH 2 (by omega) da_1173 rfl ?_
  refine zl_call C (o := 0) (ci := 9) (fe := fX_apart σ (sx xs (i + 1)) (sx xs (i + 2))) [.int (zI (sx xs (i + 1))), .int (zI (sx xs (i + 2)))] lzy_yX9_apart lzv_yX9_apart lzk_107 lzr_3_4 zo_0 (by decide) rfl (fun r hr => zqX_apart l G σ (sx xs (i + 1)) (sx xs (i + 2)) (sxw xs (i + 1)) (sxw xs (i + 2)) r hr) rfl rfl (Nat.le_of_ble_eq_true rfl) dl_1178 e1 ?_
  refine zr_aloadn C 1 (i := 2) dl_1181 rfl ?_
  refine zl_arg5 C hH 1 (by omega) da_1182 rfl ?_
  refine zl_arg5 C hH 2 (by omega) da_1187 rfl ?_
  refine zl_call C (o := 273) (ci := 10) (fe := fM_apart σ1 (sx xs (i + 1)) (sx xs (i + 2))) [.int (zI (sx xs (i + 1))), .int (zI (sx xs (i + 2)))] lzy_yX10_apart lzv_yX10_apart lzk_110 lzr_3_4 zo_273 (by decide) rfl (fun r hr => zqM_apart l G σ1 (sx xs (i + 1)) (sx xs (i + 2)) (sxw xs (i + 1)) (sxw xs (i + 2)) r hr) rfl rfl (Nat.le_of_ble_eq_true rfl) dl_1192 e2 ?_
  exact zl_cmp C dj_1195 heq (kk σ2 hI2)
theorem lc_22 (C : zC G p s m #[Value.ref b] meth c code 4 R_law ret) (hH : lw_H G s b L xs) (hi : i + 7 < L) (hI : Inv σ) (kk : ∀ σ', Inv σ' → zR G p l e room_1 s m #[Value.ref b] below meth c 4 294 24893 Q 294 ztt res σ' (some res) (lvL G b i) 1728 []) : zR G p l e room_1 s m #[Value.ref b] below meth c 4 294 24893 Q 294 ztt res σ (some res) (lvL G b i) 1200 [] := by
  obtain ⟨r1, σ1, e1, r2, σ2, e2, heq, hI2⟩ := st_whose (sx xs (i + 1)) (sx xs (i + 2)) σ hI
  refine zr_aloadn C 2 (i := 1) dl_1200 rfl ?_
  refine zl_arg5 C hH 1 (by omega) da_1201 rfl ?_
  refine zl_arg5 C hH 2 (by omega) da_1206 rfl ?_
  refine zl_call C (o := 0) (ci := 9) (fe := fX_whose σ (sx xs (i + 1)) (sx xs (i + 2))) [.int (zI (sx xs (i + 1))), .int (zI (sx xs (i + 2)))] lzy_yX9_whose lzv_yX9_whose lzk_111 lzr_7_4 zo_0 (by decide) rfl (fun r hr => zqX_whose l G σ (sx xs (i + 1)) (sx xs (i + 2)) (sxw xs (i + 1)) (sxw xs (i + 2)) r hr) rfl rfl (Nat.le_of_ble_eq_true rfl) dl_1211 e1 ?_
  refine zr_aloadn C 1 (i := 2) dl_1214 rfl ?_
  refine zl_arg5 C hH 1 (by omega) da_1215 rfl ?_
  refine zl_arg5 C hH 2 (by omega) da_1220 rfl ?_
  refine zl_call C (o := 273) (ci := 10) (fe := fM_whose σ1 (sx xs (i + 1)) (sx xs (i + 2))) [.int (zI (sx xs (i + 1))), .int (zI (sx xs (i + 2)))] lzy_yX10_whose lzv_yX10_whose lzk_114 lzr_8_4 zo_273 (by decide) rfl (fun r hr => zqM_whose l G σ1 (sx xs (i + 1)) (sx xs (i + 2)) (sxw xs (i + 1)) (sxw xs (i + 2)) r hr) rfl rfl (Nat.le_of_ble_eq_true rfl) dl_1225 e2 ?_
  exact zl_cmp C dj_1228 heq (kk σ2 hI2)
theorem lc_23 (C : zC G p s m #[Value.ref b] meth c code 4 R_law ret) (hH : lw_H G s b L xs) (hi : i + 7 < L) (hI : Inv σ) (kk : ∀ σ', Inv σ' → zR G p l e room_1 s m #[Value.ref b] below meth c 4 294 24893 Q 294 ztt res σ' (some res) (lvL G b i) 1728 []) : zR G p l e room_1 s m #[Value.ref b] below meth c 4 294 24893 Q 294 ztt res σ (some res) (lvL G b i) 1233 [] := by
  obtain ⟨r1, σ1, e1, r2, σ2, e2, heq, hI2⟩ := st_endings (sx xs (i + 1)) (sx xs (i + 2)) (sx xs (i + 3)) (sx xs (i + 4)) (sx xs (i + 5)) σ hI
  refine zr_aloadn C 2 (i := 1) dl_1233 rfl ?_
  refine zl_arg5 C hH 1 (by omega) da_1234 rfl ?_
  refine zl_arg5 C hH 2 (by omega) da_1239 rfl ?_
  refine zl_arg5 C hH 3 (by omega) da_1244 rfl ?_
  refine zl_arg5 C hH 4 (by omega) da_1249 rfl ?_
  refine zl_arg5 C hH 5 (by omega) da_1254 rfl ?_
  refine zl_call C (o := 0) (ci := 9) (fe := fX_endings σ (sx xs (i + 1)) (sx xs (i + 2)) (sx xs (i + 3)) (sx xs (i + 4)) (sx xs (i + 5))) [.int (zI (sx xs (i + 1))), .int (zI (sx xs (i + 2))), .int (zI (sx xs (i + 3))), .int (zI (sx xs (i + 4))), .int (zI (sx xs (i + 5)))] lzy_yX9_endings lzv_yX9_endings lzk_115 lzr_11_6 zo_0 (by decide) rfl (fun r hr => zqX_endings l G σ (sx xs (i + 1)) (sx xs (i + 2)) (sx xs (i + 3)) (sx xs (i + 4)) (sx xs (i + 5)) (sxw xs (i + 1)) (sxw xs (i + 2)) (sxw xs (i + 3)) (sxw xs (i + 4)) (sxw xs (i + 5)) r hr) rfl rfl (Nat.le_of_ble_eq_true rfl) dl_1259 e1 ?_
  refine zr_aloadn C 1 (i := 2) dl_1262 rfl ?_
  refine zl_arg5 C hH 1 (by omega) da_1263 rfl ?_
  refine zl_arg5 C hH 2 (by omega) da_1268 rfl ?_
  refine zl_arg5 C hH 3 (by omega) da_1273 rfl ?_
  refine zl_arg5 C hH 4 (by omega) da_1278 rfl ?_
  refine zl_arg5 C hH 5 (by omega) da_1283 rfl ?_
  refine zl_call C (o := 273) (ci := 10) (fe := fM_endings σ1 (sx xs (i + 1)) (sx xs (i + 2)) (sx xs (i + 3)) (sx xs (i + 4)) (sx xs (i + 5))) [.int (zI (sx xs (i + 1))), .int (zI (sx xs (i + 2))), .int (zI (sx xs (i + 3))), .int (zI (sx xs (i + 4))), .int (zI (sx xs (i + 5)))] lzy_yX10_endings lzv_yX10_endings lzk_118 lzr_11_7 zo_273 (by decide) rfl (fun r hr => zqM_endings l G σ1 (sx xs (i + 1)) (sx xs (i + 2)) (sx xs (i + 3)) (sx xs (i + 4)) (sx xs (i + 5)) (sxw xs (i + 1)) (sxw xs (i + 2)) (sxw xs (i + 3)) (sxw xs (i + 4)) (sxw xs (i + 5)) r hr) rfl rfl (Nat.le_of_ble_eq_true rfl) dl_1288 e2 ?_
  exact zl_cmp C dj_1291 heq (kk σ2 hI2)
theorem lc_24 (C : zC G p s m #[Value.ref b] meth c code 4 R_law ret) (hH : lw_H G s b L xs) (hi : i + 7 < L) (hI : Inv σ) (kk : ∀ σ', Inv σ' → zR G p l e room_1 s m #[Value.ref b] below meth c 4 294 24893 Q 294 ztt res σ' (some res) (lvL G b i) 1728 []) : zR G p l e room_1 s m #[Value.ref b] below meth c 4 294 24893 Q 294 ztt res σ (some res) (lvL G b i) 1296 [] := by
  obtain ⟨r1, σ1, e1, r2, σ2, e2, heq, hI2⟩ := st_made (sx xs (i + 1)) (sx xs (i + 2)) (sx xs (i + 3)) (sx xs (i + 4)) (sx xs (i + 5)) σ hI
  refine zr_aloadn C 2 (i := 1) dl_1296 rfl ?_
  refine zl_arg5 C hH 1 (by omega) da_1297 rfl ?_
  refine zl_arg5 C hH 2 (by omega) da_1302 rfl ?_
  refine zl_arg5 C hH 3 (by omega) da_1307 rfl ?_
  refine zl_arg5 C hH 4 (by omega) da_1312 rfl ?_
  refine zl_arg5 C hH 5 (by omega) da_1317 rfl ?_
  refine zl_call C (o := 0) (ci := 9) (fe := fX_made σ (sx xs (i + 1)) (sx xs (i + 2)) (sx xs (i + 3)) (sx xs (i + 4)) (sx xs (i + 5))) [.int (zI (sx xs (i + 1))), .int (zI (sx xs (i + 2))), .int (zI (sx xs (i + 3))), .int (zI (sx xs (i + 4))), .int (zI (sx xs (i + 5)))] lzy_yX9_made lzv_yX9_made lzk_119 lzr_7_7 zo_0 (by decide) rfl (fun r hr => zqX_made l G σ (sx xs (i + 1)) (sx xs (i + 2)) (sx xs (i + 3)) (sx xs (i + 4)) (sx xs (i + 5)) (sxw xs (i + 1)) (sxw xs (i + 2)) (sxw xs (i + 3)) (sxw xs (i + 4)) (sxw xs (i + 5)) r hr) rfl rfl (Nat.le_of_ble_eq_true rfl) dl_1322 e1 ?_
  refine zr_aloadn C 1 (i := 2) dl_1325 rfl ?_
  refine zl_arg5 C hH 1 (by omega) da_1326 rfl ?_
  refine zl_arg5 C hH 2 (by omega) da_1331 rfl ?_
  refine zl_arg5 C hH 3 (by omega) da_1336 rfl ?_
  refine zl_arg5 C hH 4 (by omega) da_1341 rfl ?_
  refine zl_arg5 C hH 5 (by omega) da_1346 rfl ?_
  refine zl_call C (o := 273) (ci := 10) (fe := fM_made σ1 (sx xs (i + 1)) (sx xs (i + 2)) (sx xs (i + 3)) (sx xs (i + 4)) (sx xs (i + 5))) [.int (zI (sx xs (i + 1))), .int (zI (sx xs (i + 2))), .int (zI (sx xs (i + 3))), .int (zI (sx xs (i + 4))), .int (zI (sx xs (i + 5)))] lzy_yX10_made lzv_yX10_made lzk_122 lzr_12_8 zo_273 (by decide) rfl (fun r hr => zqM_made l G σ1 (sx xs (i + 1)) (sx xs (i + 2)) (sx xs (i + 3)) (sx xs (i + 4)) (sx xs (i + 5)) (sxw xs (i + 1)) (sxw xs (i + 2)) (sxw xs (i + 3)) (sxw xs (i + 4)) (sxw xs (i + 5)) r hr) rfl rfl (Nat.le_of_ble_eq_true rfl) dl_1351 e2 ?_
  exact zl_cmp C dj_1354 heq (kk σ2 hI2)
theorem lc_25 (C : zC G p s m #[Value.ref b] meth c code 4 R_law ret) (hH : lw_H G s b L xs) (hi : i + 7 < L) (hI : Inv σ) (kk : ∀ σ', Inv σ' → zR G p l e room_1 s m #[Value.ref b] below meth c 4 294 24893 Q 294 ztt res σ' (some res) (lvL G b i) 1728 []) : zR G p l e room_1 s m #[Value.ref b] below meth c 4 294 24893 Q 294 ztt res σ (some res) (lvL G b i) 1359 [] := by
  obtain ⟨r1, σ1, e1, r2, σ2, e2, heq, hI2⟩ := st_head (sx xs (i + 1)) (sx xs (i + 2)) (sx xs (i + 3)) (sx xs (i + 4)) σ hI
  refine zr_aloadn C 2 (i := 1) dl_1359 rfl ?_
  refine zl_arg5 C hH 1 (by omega) da_1360 rfl ?_
  refine zl_arg5 C hH 2 (by omega) da_1365 rfl ?_
  refine zl_arg5 C hH 3 (by omega) da_1370 rfl ?_
  refine zl_arg5 C hH 4 (by omega) da_1375 rfl ?_
  refine zl_call C (o := 0) (ci := 9) (fe := fX_head σ (sx xs (i + 1)) (sx xs (i + 2)) (sx xs (i + 3)) (sx xs (i + 4))) [.int (zI (sx xs (i + 1))), .int (zI (sx xs (i + 2))), .int (zI (sx xs (i + 3))), .int (zI (sx xs (i + 4)))] lzy_yX9_head lzv_yX9_head lzk_123 lzr_7_5 zo_0 (by decide) rfl (fun r hr => zqX_head l G σ (sx xs (i + 1)) (sx xs (i + 2)) (sx xs (i + 3)) (sx xs (i + 4)) (sxw xs (i + 1)) (sxw xs (i + 2)) (sxw xs (i + 3)) (sxw xs (i + 4)) r hr) rfl rfl (Nat.le_of_ble_eq_true rfl) dl_1380 e1 ?_
  refine zr_aloadn C 1 (i := 2) dl_1383 rfl ?_
  refine zl_arg5 C hH 1 (by omega) da_1384 rfl ?_
  refine zl_arg5 C hH 2 (by omega) da_1389 rfl ?_
  refine zl_arg5 C hH 3 (by omega) da_1394 rfl ?_
  refine zl_arg5 C hH 4 (by omega) da_1399 rfl ?_
  refine zl_call C (o := 273) (ci := 10) (fe := fM_head σ1 (sx xs (i + 1)) (sx xs (i + 2)) (sx xs (i + 3)) (sx xs (i + 4))) [.int (zI (sx xs (i + 1))), .int (zI (sx xs (i + 2))), .int (zI (sx xs (i + 3))), .int (zI (sx xs (i + 4)))] lzy_yX10_head lzv_yX10_head lzk_126 lzr_10_6 zo_273 (by decide) rfl (fun r hr => zqM_head l G σ1 (sx xs (i + 1)) (sx xs (i + 2)) (sx xs (i + 3)) (sx xs (i + 4)) (sxw xs (i + 1)) (sxw xs (i + 2)) (sxw xs (i + 3)) (sxw xs (i + 4)) r hr) rfl rfl (Nat.le_of_ble_eq_true rfl) dl_1404 e2 ?_
  exact zl_cmp C dj_1407 heq (kk σ2 hI2)
theorem lc_26 (C : zC G p s m #[Value.ref b] meth c code 4 R_law ret) (hH : lw_H G s b L xs) (hi : i + 7 < L) (hI : Inv σ) (kk : ∀ σ', Inv σ' → zR G p l e room_1 s m #[Value.ref b] below meth c 4 294 24893 Q 294 ztt res σ' (some res) (lvL G b i) 1728 []) : zR G p l e room_1 s m #[Value.ref b] below meth c 4 294 24893 Q 294 ztt res σ (some res) (lvL G b i) 1412 [] := by
  obtain ⟨r1, σ1, e1, r2, σ2, e2, heq, hI2⟩ := st_shape (sx xs (i + 1)) (sx xs (i + 2)) σ hI
  refine zr_aloadn C 2 (i := 1) dl_1412 rfl ?_
  refine zl_arg5 C hH 1 (by omega) da_1413 rfl ?_
  refine zl_arg5 C hH 2 (by omega) da_1418 rfl ?_
  refine zl_call C (o := 0) (ci := 9) (fe := fX_shape σ (sx xs (i + 1)) (sx xs (i + 2))) [.int (zI (sx xs (i + 1))), .int (zI (sx xs (i + 2)))] lzy_yX9_shape lzv_yX9_shape lzk_127 lzr_3_1 zo_0 (by decide) rfl (fun r hr => zqX_shape l G σ (sx xs (i + 1)) (sx xs (i + 2)) (sxw xs (i + 1)) (sxw xs (i + 2)) r hr) rfl rfl (Nat.le_of_ble_eq_true rfl) dl_1423 e1 ?_
  refine zr_aloadn C 1 (i := 2) dl_1426 rfl ?_
  refine zl_arg5 C hH 1 (by omega) da_1427 rfl ?_
  refine zl_arg5 C hH 2 (by omega) da_1432 rfl ?_
  refine zl_call C (o := 273) (ci := 10) (fe := fM_shape σ1 (sx xs (i + 1)) (sx xs (i + 2))) [.int (zI (sx xs (i + 1))), .int (zI (sx xs (i + 2)))] lzy_yX10_shape lzv_yX10_shape lzk_130 lzr_3_1 zo_273 (by decide) rfl (fun r hr => zqM_shape l G σ1 (sx xs (i + 1)) (sx xs (i + 2)) (sxw xs (i + 1)) (sxw xs (i + 2)) r hr) rfl rfl (Nat.le_of_ble_eq_true rfl) dl_1437 e2 ?_
  exact zl_cmp C dj_1440 heq (kk σ2 hI2)
theorem lc_27 (C : zC G p s m #[Value.ref b] meth c code 4 R_law ret) (hH : lw_H G s b L xs) (hi : i + 7 < L) (hI : Inv σ) (kk : ∀ σ', Inv σ' → zR G p l e room_1 s m #[Value.ref b] below meth c 4 294 24893 Q 294 ztt res σ' (some res) (lvL G b i) 1728 []) : zR G p l e room_1 s m #[Value.ref b] below meth c 4 294 24893 Q 294 ztt res σ (some res) (lvL G b i) 1445 [] := by
  obtain ⟨r1, σ1, e1, r2, σ2, e2, heq, hI2⟩ := st_lasts (sx xs (i + 1)) (bz (sx xs (i + 2))) σ hI
  refine zr_aloadn C 2 (i := 1) dl_1445 rfl ?_
  refine zl_arg5 C hH 1 (by omega) da_1446 rfl ?_
  refine zl_arg5 C hH 2 (by omega) da_1451 rfl ?_
  refine zl_bool C (sxw xs (i + 2)) db_1456 ?_
  refine zl_call C (o := 0) (ci := 9) (fe := fX_lasts σ (sx xs (i + 1)) (bz (sx xs (i + 2)))) [.int (zI (sx xs (i + 1))), .int (zI (bz (sx xs (i + 2))))] lzy_yX9_lasts lzv_yX9_lasts lzk_131 lzr_7_2 zo_0 (by decide) rfl (fun r hr => zqX_lasts l G σ (sx xs (i + 1)) (bz (sx xs (i + 2))) (sxw xs (i + 1)) (bzw (sx xs (i + 2))) r hr) rfl rfl (Nat.le_of_ble_eq_true rfl) dl_1464 e1 ?_
  refine zr_aloadn C 1 (i := 2) dl_1467 rfl ?_
  refine zl_arg5 C hH 1 (by omega) da_1468 rfl ?_
  refine zl_arg5 C hH 2 (by omega) da_1473 rfl ?_
  refine zl_bool C (sxw xs (i + 2)) db_1478 ?_
  refine zl_call C (o := 273) (ci := 10) (fe := fM_lasts σ1 (sx xs (i + 1)) (bz (sx xs (i + 2)))) [.int (zI (sx xs (i + 1))), .int (zI (bz (sx xs (i + 2))))] lzy_yX10_lasts lzv_yX10_lasts lzk_135 lzr_7_2 zo_273 (by decide) rfl (fun r hr => zqM_lasts l G σ1 (sx xs (i + 1)) (bz (sx xs (i + 2))) (sxw xs (i + 1)) (bzw (sx xs (i + 2))) r hr) rfl rfl (Nat.le_of_ble_eq_true rfl) dl_1486 e2 ?_
  exact zl_cmp C dj_1489 heq (kk σ2 hI2)
theorem lc_28 (C : zC G p s m #[Value.ref b] meth c code 4 R_law ret) (hH : lw_H G s b L xs) (hi : i + 7 < L) (hI : Inv σ) (kk : ∀ σ', Inv σ' → zR G p l e room_1 s m #[Value.ref b] below meth c 4 294 24893 Q 294 ztt res σ' (some res) (lvL G b i) 1728 []) : zR G p l e room_1 s m #[Value.ref b] below meth c 4 294 24893 Q 294 ztt res σ (some res) (lvL G b i) 1494 [] := by
  obtain ⟨r1, σ1, e1, r2, σ2, e2, heq, hI2⟩ := st_page (sx xs (i + 1)) (sx xs (i + 2)) (sx xs (i + 3)) (sx xs (i + 4)) σ hI
  refine zr_aloadn C 2 (i := 1) dl_1494 rfl ?_
  refine zl_arg5 C hH 1 (by omega) da_1495 rfl ?_
  refine zl_arg5 C hH 2 (by omega) da_1500 rfl ?_
  refine zl_arg5 C hH 3 (by omega) da_1505 rfl ?_
  refine zl_arg5 C hH 4 (by omega) da_1510 rfl ?_
  refine zl_call C (o := 0) (ci := 9) (fe := fX_page σ (sx xs (i + 1)) (sx xs (i + 2)) (sx xs (i + 3)) (sx xs (i + 4))) [.int (zI (sx xs (i + 1))), .int (zI (sx xs (i + 2))), .int (zI (sx xs (i + 3))), .int (zI (sx xs (i + 4)))] lzy_yX9_page lzv_yX9_page lzk_136 lzr_6_1 zo_0 (by decide) rfl (fun r hr => zqX_page l G σ (sx xs (i + 1)) (sx xs (i + 2)) (sx xs (i + 3)) (sx xs (i + 4)) (sxw xs (i + 1)) (sxw xs (i + 2)) (sxw xs (i + 3)) (sxw xs (i + 4)) r hr) rfl rfl (Nat.le_of_ble_eq_true rfl) dl_1515 e1 ?_
  refine zr_aloadn C 1 (i := 2) dl_1518 rfl ?_
  refine zl_arg5 C hH 1 (by omega) da_1519 rfl ?_
  refine zl_arg5 C hH 2 (by omega) da_1524 rfl ?_
  refine zl_arg5 C hH 3 (by omega) da_1529 rfl ?_
  refine zl_arg5 C hH 4 (by omega) da_1534 rfl ?_
  refine zl_call C (o := 273) (ci := 10) (fe := fM_page σ1 (sx xs (i + 1)) (sx xs (i + 2)) (sx xs (i + 3)) (sx xs (i + 4))) [.int (zI (sx xs (i + 1))), .int (zI (sx xs (i + 2))), .int (zI (sx xs (i + 3))), .int (zI (sx xs (i + 4)))] lzy_yX10_page lzv_yX10_page lzk_139 lzr_6_1 zo_273 (by decide) rfl (fun r hr => zqM_page l G σ1 (sx xs (i + 1)) (sx xs (i + 2)) (sx xs (i + 3)) (sx xs (i + 4)) (sxw xs (i + 1)) (sxw xs (i + 2)) (sxw xs (i + 3)) (sxw xs (i + 4)) r hr) rfl rfl (Nat.le_of_ble_eq_true rfl) dl_1539 e2 ?_
  exact zl_cmp C dj_1542 heq (kk σ2 hI2)
theorem lc_29 (C : zC G p s m #[Value.ref b] meth c code 4 R_law ret) (hH : lw_H G s b L xs) (hi : i + 7 < L) (hI : Inv σ) (kk : ∀ σ', Inv σ' → zR G p l e room_1 s m #[Value.ref b] below meth c 4 294 24893 Q 294 ztt res σ' (some res) (lvL G b i) 1728 []) : zR G p l e room_1 s m #[Value.ref b] below meth c 4 294 24893 Q 294 ztt res σ (some res) (lvL G b i) 1547 [] := by
  obtain ⟨r1, σ1, e1, r2, σ2, e2, heq, hI2⟩ := st_orders (sx xs (i + 1)) σ hI
  refine zr_aloadn C 2 (i := 1) dl_1547 rfl ?_
  refine zl_arg5 C hH 1 (by omega) da_1548 rfl ?_
  refine zl_call C (o := 0) (ci := 9) (fe := fX_orders σ (sx xs (i + 1))) [.int (zI (sx xs (i + 1)))] lzy_yX9_orders lzv_yX9_orders lzk_140 lzr_2_5 zo_0 (by decide) rfl (fun r hr => zqX_orders l G σ (sx xs (i + 1)) (sxw xs (i + 1)) r hr) rfl rfl (Nat.le_of_ble_eq_true rfl) dl_1553 e1 ?_
  refine zr_aloadn C 1 (i := 2) dl_1556 rfl ?_
  refine zl_arg5 C hH 1 (by omega) da_1557 rfl ?_
  refine zl_call C (o := 273) (ci := 10) (fe := fM_orders σ1 (sx xs (i + 1))) [.int (zI (sx xs (i + 1)))] lzy_yX10_orders lzv_yX10_orders lzk_143 lzr_2_7 zo_273 (by decide) rfl (fun r hr => zqM_orders l G σ1 (sx xs (i + 1)) (sxw xs (i + 1)) r hr) rfl rfl (Nat.le_of_ble_eq_true rfl) dl_1562 e2 ?_
  exact zl_cmp C dj_1565 heq (kk σ2 hI2)
theorem lc_30 (C : zC G p s m #[Value.ref b] meth c code 4 R_law ret) (hH : lw_H G s b L xs) (hi : i + 7 < L) (hI : Inv σ) (kk : ∀ σ', Inv σ' → zR G p l e room_1 s m #[Value.ref b] below meth c 4 294 24893 Q 294 ztt res σ' (some res) (lvL G b i) 1728 []) : zR G p l e room_1 s m #[Value.ref b] below meth c 4 294 24893 Q 294 ztt res σ (some res) (lvL G b i) 1570 [] := by
  obtain ⟨r1, σ1, e1, r2, σ2, e2, heq, hI2⟩ := st_where (sx xs (i + 1)) (sx xs (i + 2)) (sx xs (i + 3)) σ hI
  refine zr_aloadn C 2 (i := 1) dl_1570 rfl ?_
  refine zl_arg5 C hH 1 (by omega) da_1571 rfl ?_
  refine zl_arg5 C hH 2 (by omega) da_1576 rfl ?_
  refine zl_arg5 C hH 3 (by omega) da_1581 rfl ?_
  refine zl_call C (o := 0) (ci := 9) (fe := fX_where σ (sx xs (i + 1)) (sx xs (i + 2)) (sx xs (i + 3))) [.int (zI (sx xs (i + 1))), .int (zI (sx xs (i + 2))), .int (zI (sx xs (i + 3)))] lzy_yX9_where lzv_yX9_where lzk_144 lzr_4_4 zo_0 (by decide) rfl (fun r hr => zqX_where l G σ (sx xs (i + 1)) (sx xs (i + 2)) (sx xs (i + 3)) (sxw xs (i + 1)) (sxw xs (i + 2)) (sxw xs (i + 3)) r hr) rfl rfl (Nat.le_of_ble_eq_true rfl) dl_1586 e1 ?_
  refine zr_aloadn C 1 (i := 2) dl_1589 rfl ?_
  refine zl_arg5 C hH 1 (by omega) da_1590 rfl ?_
  refine zl_arg5 C hH 2 (by omega) da_1595 rfl ?_
  refine zl_arg5 C hH 3 (by omega) da_1600 rfl ?_
  refine zl_call C (o := 273) (ci := 10) (fe := fM_where σ1 (sx xs (i + 1)) (sx xs (i + 2)) (sx xs (i + 3))) [.int (zI (sx xs (i + 1))), .int (zI (sx xs (i + 2))), .int (zI (sx xs (i + 3)))] lzy_yX10_where lzv_yX10_where lzk_147 lzr_4_7 zo_273 (by decide) rfl (fun r hr => zqM_where l G σ1 (sx xs (i + 1)) (sx xs (i + 2)) (sx xs (i + 3)) (sxw xs (i + 1)) (sxw xs (i + 2)) (sxw xs (i + 3)) r hr) rfl rfl (Nat.le_of_ble_eq_true rfl) dl_1605 e2 ?_
  exact zl_cmp C dj_1608 heq (kk σ2 hI2)
theorem lc_31 (C : zC G p s m #[Value.ref b] meth c code 4 R_law ret) (hH : lw_H G s b L xs) (hi : i + 7 < L) (hI : Inv σ) (kk : ∀ σ', Inv σ' → zR G p l e room_1 s m #[Value.ref b] below meth c 4 294 24893 Q 294 ztt res σ' (some res) (lvL G b i) 1728 []) : zR G p l e room_1 s m #[Value.ref b] below meth c 4 294 24893 Q 294 ztt res σ (some res) (lvL G b i) 1613 [] := by
  obtain ⟨r1, σ1, e1, r2, σ2, e2, heq, hI2⟩ := st_weight (sx xs (i + 1)) (sx xs (i + 2)) σ hI
  refine zr_aloadn C 2 (i := 1) dl_1613 rfl ?_
  refine zl_arg5 C hH 1 (by omega) da_1614 rfl ?_
  refine zl_arg5 C hH 2 (by omega) da_1619 rfl ?_
  refine zl_call C (o := 0) (ci := 9) (fe := fX_weight σ (sx xs (i + 1)) (sx xs (i + 2))) [.int (zI (sx xs (i + 1))), .int (zI (sx xs (i + 2)))] lzy_yX9_weight lzv_yX9_weight lzk_148 lzr_3_2 zo_0 (by decide) rfl (fun r hr => zqX_weight l G σ (sx xs (i + 1)) (sx xs (i + 2)) (sxw xs (i + 1)) (sxw xs (i + 2)) r hr) rfl rfl (Nat.le_of_ble_eq_true rfl) dl_1624 e1 ?_
  refine zr_aloadn C 1 (i := 2) dl_1627 rfl ?_
  refine zl_arg5 C hH 1 (by omega) da_1628 rfl ?_
  refine zl_arg5 C hH 2 (by omega) da_1633 rfl ?_
  refine zl_call C (o := 273) (ci := 10) (fe := fM_weight σ1 (sx xs (i + 1)) (sx xs (i + 2))) [.int (zI (sx xs (i + 1))), .int (zI (sx xs (i + 2)))] lzy_yX10_weight lzv_yX10_weight lzk_151 lzr_3_2 zo_273 (by decide) rfl (fun r hr => zqM_weight l G σ1 (sx xs (i + 1)) (sx xs (i + 2)) (sxw xs (i + 1)) (sxw xs (i + 2)) r hr) rfl rfl (Nat.le_of_ble_eq_true rfl) dl_1638 e2 ?_
  exact zl_cmp C dj_1641 heq (kk σ2 hI2)
theorem lc_32 (C : zC G p s m #[Value.ref b] meth c code 4 R_law ret) (hH : lw_H G s b L xs) (hi : i + 7 < L) (hI : Inv σ) (kk : ∀ σ', Inv σ' → zR G p l e room_1 s m #[Value.ref b] below meth c 4 294 24893 Q 294 ztt res σ' (some res) (lvL G b i) 1728 []) : zR G p l e room_1 s m #[Value.ref b] below meth c 4 294 24893 Q 294 ztt res σ (some res) (lvL G b i) 1646 [] := by
  obtain ⟨r1, σ1, e1, r2, σ2, e2, heq, hI2⟩ := st_story (sx xs (i + 1)) (sx xs (i + 2)) σ hI
  refine zr_aloadn C 2 (i := 1) dl_1646 rfl ?_
  refine zl_arg5 C hH 1 (by omega) da_1647 rfl ?_
  refine zl_arg5 C hH 2 (by omega) da_1652 rfl ?_
  refine zl_call C (o := 0) (ci := 9) (fe := fX_story σ (sx xs (i + 1)) (sx xs (i + 2))) [.int (zI (sx xs (i + 1))), .int (zI (sx xs (i + 2)))] lzy_yX9_story lzv_yX9_story lzk_152 lzr_10_5 zo_0 (by decide) rfl (fun r hr => zqX_story l G σ (sx xs (i + 1)) (sx xs (i + 2)) (sxw xs (i + 1)) (sxw xs (i + 2)) r hr) rfl rfl (Nat.le_of_ble_eq_true rfl) dl_1657 e1 ?_
  refine zr_aloadn C 1 (i := 2) dl_1660 rfl ?_
  refine zl_arg5 C hH 1 (by omega) da_1661 rfl ?_
  refine zl_arg5 C hH 2 (by omega) da_1666 rfl ?_
  refine zl_call C (o := 273) (ci := 10) (fe := fM_story σ1 (sx xs (i + 1)) (sx xs (i + 2))) [.int (zI (sx xs (i + 1))), .int (zI (sx xs (i + 2)))] lzy_yX10_story lzv_yX10_story lzk_155 lzr_5_7 zo_273 (by decide) rfl (fun r hr => zqM_story l G σ1 (sx xs (i + 1)) (sx xs (i + 2)) (sxw xs (i + 1)) (sxw xs (i + 2)) r hr) rfl rfl (Nat.le_of_ble_eq_true rfl) dl_1671 e2 ?_
  exact zl_cmp C dj_1674 heq (kk σ2 hI2)
theorem lc_33 (C : zC G p s m #[Value.ref b] meth c code 4 R_law ret) (hH : lw_H G s b L xs) (hi : i + 7 < L) (hI : Inv σ) (kk : ∀ σ', Inv σ' → zR G p l e room_1 s m #[Value.ref b] below meth c 4 294 24893 Q 294 ztt res σ' (some res) (lvL G b i) 1728 []) : zR G p l e room_1 s m #[Value.ref b] below meth c 4 294 24893 Q 294 ztt res σ (some res) (lvL G b i) 1679 [] := by
  obtain ⟨r1, σ1, e1, r2, σ2, e2, heq, hI2⟩ := st_image  σ hI
  refine zr_aloadn C 2 (i := 1) dl_1679 rfl ?_
  refine zl_call C (o := 0) (ci := 9) (fe := fX_image σ ) [] lzy_yX9_image lzv_yX9_image lzk_156 lzr_1_3 zo_0 (by decide) rfl (fun r hr => zqX_image l G σ   r hr) rfl rfl (Nat.le_of_ble_eq_true rfl) dl_1680 e1 ?_
  refine zr_aloadn C 1 (i := 2) dl_1683 rfl ?_
  refine zl_call C (o := 273) (ci := 10) (fe := fM_image σ1 ) [] lzy_yX10_image lzv_yX10_image lzk_159 lzr_1_1 zo_273 (by decide) rfl (fun r hr => zqM_image l G σ1   r hr) rfl rfl (Nat.le_of_ble_eq_true rfl) dl_1684 e2 ?_
  exact zl_cmp C dj_1687 heq (kk σ2 hI2)
theorem lc_34 (C : zC G p s m #[Value.ref b] meth c code 4 R_law ret) (hH : lw_H G s b L xs) (hi : i + 7 < L) (hI : Inv σ) (kk : ∀ σ', Inv σ' → zR G p l e room_1 s m #[Value.ref b] below meth c 4 294 24893 Q 294 ztt res σ' (some res) (lvL G b i) 1728 []) : zR G p l e room_1 s m #[Value.ref b] below meth c 4 294 24893 Q 294 ztt res σ (some res) (lvL G b i) 1692 [] := by
  obtain ⟨r1, σ1, e1, r2, σ2, e2, heq, hI2⟩ := st_back  σ hI
  refine zr_aloadn C 2 (i := 1) dl_1692 rfl ?_
  refine zl_call C (o := 0) (ci := 9) (fe := fX_back σ ) [] lzy_yX9_back lzv_yX9_back lzk_160 lzr_1_3 zo_0 (by decide) rfl (fun r hr => zqX_back l G σ   r hr) rfl rfl (Nat.le_of_ble_eq_true rfl) dl_1693 e1 ?_
  refine zr_aloadn C 1 (i := 2) dl_1696 rfl ?_
  refine zl_call C (o := 273) (ci := 10) (fe := fM_back σ1 ) [] lzy_yX10_back lzv_yX10_back lzk_163 lzr_1_1 zo_273 (by decide) rfl (fun r hr => zqM_back l G σ1   r hr) rfl rfl (Nat.le_of_ble_eq_true rfl) dl_1697 e2 ?_
  exact zl_cmp C dj_1700 heq (kk σ2 hI2)
theorem lc_35 (C : zC G p s m #[Value.ref b] meth c code 4 R_law ret) (hH : lw_H G s b L xs) (hi : i + 7 < L) (hI : Inv σ) (kk : ∀ σ', Inv σ' → zR G p l e room_1 s m #[Value.ref b] below meth c 4 294 24893 Q 294 ztt res σ' (some res) (lvL G b i) 1728 []) : zR G p l e room_1 s m #[Value.ref b] below meth c 4 294 24893 Q 294 ztt res σ (some res) (lvL G b i) 1705 [] := by
  obtain ⟨r1, σ1, e1, r2, σ2, e2, heq, hI2⟩ := st_about (sx xs (i + 1)) (sxw xs (i + 1)) σ hI
  refine zr_aloadn C 2 (i := 1) dl_1705 rfl ?_
  refine zl_arg5 C hH 1 (by omega) da_1706 rfl ?_
  refine zl_call C (o := 0) (ci := 9) (fe := fX_about σ (sx xs (i + 1))) [.int (zI (sx xs (i + 1)))] lzy_yX9_about lzv_yX9_about lzk_164 lzr_2_3 zo_0 (by decide) rfl (fun r hr => zqX_about l G σ (sx xs (i + 1)) (sxw xs (i + 1)) r hr) rfl rfl (Nat.le_of_ble_eq_true rfl) dl_1711 e1 ?_
  refine zr_aloadn C 1 (i := 2) dl_1714 rfl ?_
  refine zl_arg5 C hH 1 (by omega) da_1715 rfl ?_
  refine zl_call C (o := 273) (ci := 10) (fe := fM_about σ1 (sx xs (i + 1))) [.int (zI (sx xs (i + 1)))] lzy_yX10_about lzv_yX10_about lzk_167 lzr_2_2 zo_273 (by decide) rfl (fun r hr => zqM_about l G σ1 (sx xs (i + 1)) (sxw xs (i + 1)) r hr) rfl rfl (Nat.le_of_ble_eq_true rfl) dl_1720 e2 ?_
  exact zl_cmp C dj_1723 heq (kk σ2 hI2)
end LAWK
