theorem zo_0 : zin 294 0 9 := by unfold zin; decide +kernel
theorem lk_X9_84 : zL RX9 84 yX9_isPiece := Or.inl (by decide +kernel)
theorem zy_X9_isPiece : zY yX9_isPiece cX9_isPiece 1 (some .boolean) 1 := by unfold zY; decide +kernel
theorem zs_X9_isPiece : Cond.static yX9_isPiece ∈ ztb := by decide +kernel
theorem zrm_3_1_1 : zRm (zrm 3) 0 0 1 1 := by unfold zRm; decide
theorem lk_X9_88 : zL RX9 88 yX9_isVoice := Or.inl (by decide +kernel)
theorem zy_X9_isVoice : zY yX9_isVoice cX9_isVoice 1 (some .boolean) 1 := by unfold zY; decide +kernel
theorem zs_X9_isVoice : Cond.static yX9_isVoice ∈ ztb := by decide +kernel
theorem lk_X9_91 : zL RX9 91 yX9_isNote := Or.inl (by decide +kernel)
theorem zy_X9_isNote : zY yX9_isNote cX9_isNote 4 (some .boolean) 4 := by unfold zY; decide +kernel
theorem zs_X9_isNote : Cond.static yX9_isNote ∈ ztb := by decide +kernel
theorem ff_X9_10 : zF RX9 10 9 0 (.object "BrokenFugue$State") := Or.inl (by unfold zFd; decide +kernel)
theorem zf_0_0 : zRF 0 0 = 1 := by decide +kernel
theorem zo_1 : zin 294 1 7 := by unfold zin; decide +kernel
theorem ff_X9_98 : zF RX9 98 7 0 (.array (.object "BrokenFugue$Line")) := Or.inr ⟨"BrokenFugue", by unfold zFn; decide +kernel⟩
theorem zf_1_0 : zRF 1 0 = 2 := by decide +kernel
theorem zo_2 : zin 294 2 23 := by unfold zin; decide +kernel
theorem zn_2 : zLN 2 = 16 := by decide +kernel
theorem lk_X9_105 : zL RX9 105 yX3_sing := Or.inl (by decide +kernel)
theorem lk_X9_109 : zL RX9 109 yX7_lengthOf := Or.inl (by decide +kernel)
theorem zy_X7_lengthOf : zY yX7_lengthOf cX7_lengthOf 4 (some .int) 1 := by unfold zY; decide +kernel
theorem zv_X7_lengthOf : zYv yX7_lengthOf := by unfold zYv; decide +kernel
theorem lk_X9_101 : zL RX9 101 yX3_silence := Or.inl (by decide +kernel)
theorem zy_X3_silence : zY yX3_silence cX3_silence 3 none 2 := by unfold zY; decide +kernel
theorem zv_X3_silence : zYv yX3_silence := by unfold zYv; decide +kernel
theorem zrm_3_3_2 : zRm (zrm 3) 0 0 3 2 := by unfold zRm; decide
theorem lk_X9_95 : zL RX9 95 yX9_isPitch := Or.inl (by decide +kernel)
theorem w_31 : zw 31 = 31 := by decide +kernel
theorem ff_X9_117 : zF RX9 117 3 1 (.array .int) := Or.inr ⟨"BrokenFugue", by unfold zFn; decide +kernel⟩
theorem ff_X9_121 : zF RX9 121 3 0 (.array .int) := Or.inr ⟨"BrokenFugue", by unfold zFn; decide +kernel⟩
theorem lk_X9_124 : zL RX9 124 yX9_isSubject := Or.inl (by decide +kernel)
theorem zy_X9_isSubject : zY yX9_isSubject cX9_isSubject 1 (some .boolean) 1 := by unfold zY; decide +kernel
theorem zs_X9_isSubject : Cond.static yX9_isSubject ∈ ztb := by decide +kernel
theorem w_m100 : zw (-100) = (-100) := by decide +kernel
theorem ff_X9_127 : zF RX9 127 7 1 (.array (.object "BrokenFugue$Line")) := Or.inr ⟨"BrokenFugue", by unfold zFn; decide +kernel⟩
theorem zf_1_1 : zRF 1 1 = 3 := by decide +kernel
theorem zo_3 : zin 294 3 23 := by unfold zin; decide +kernel
theorem zn_3 : zLN 3 = 6 := by decide +kernel
theorem lk_X9_130 : zL RX9 130 yX3_beats := Or.inl (by decide +kernel)
theorem w_m20 : zw (-20) = (-20) := by decide +kernel
theorem ff_X9_134 : zF RX9 134 7 7 .int := Or.inr ⟨"BrokenFugue", by unfold zFn; decide +kernel⟩
theorem lk_X9_138 : zL RX9 138 yX3_take := Or.inl (by decide +kernel)
theorem ff_X9_28 : zF RX9 28 9 3 (.object "BrokenFugue$Reader") := Or.inl (by unfold zFd; decide +kernel)
theorem zf_0_3 : zRF 0 3 = 150 := by decide +kernel
theorem ff_X9_142 : zF RX9 142 5 2 .int := Or.inr ⟨"BrokenFugue", by unfold zFn; decide +kernel⟩
theorem lk_X9_145 : zL RX9 145 yX5_append := Or.inl (by decide +kernel)
theorem zy_X5_append : zY yX5_append cX5_append 3 none 1 := by unfold zY; decide +kernel
theorem zv_X5_append : zYv yX5_append := by unfold zYv; decide +kernel
theorem ff_X9_148 : zF RX9 148 7 8 .int := Or.inr ⟨"BrokenFugue", by unfold zFn; decide +kernel⟩
theorem ff_X9_21 : zF RX9 21 9 2 (.array (.object "BrokenFugue$Rules")) := Or.inl (by unfold zFd; decide +kernel)
theorem zf_0_2 : zRF 0 2 = 149 := by decide +kernel
theorem zo_149 : zin 294 149 24 := by unfold zin; decide +kernel
theorem zn_149 : zLN 149 = 6 := by decide +kernel
theorem ze_24 {o : Nat} (h : zin 294 o 24) {N : Nat} (hN : zLN o = N) {j : Int} (hj : 0 ≤ j ∧ j < (N : Int)) : zin 294 (zRF o j.toNat) 6 := by
  have h2 : ∀ o, o < 294 → zSH o = 24 → ∀ k, k < zLN o → (zSH (zRF o k) = 6 ∧ zRF o k < 294) := by decide +kernel
  exact h2 o h.2 h.1 j.toNat (by omega)
theorem lk_X9_151 : zL RX9 151 yX5_read := Or.inl (by decide +kernel)
theorem zy_X5_read : zY yX5_read cX5_read 3 none 1 := by unfold zY; decide +kernel
theorem zv_X5_read : zYv yX5_read := by unfold zYv; decide +kernel
theorem zrm_8_3_7 : zRm (zrm 8) 0 0 3 7 := by unfold zRm; decide
theorem ff_X9_76 : zF RX9 76 9 11 .boolean := Or.inl (by unfold zFd; decide +kernel)
theorem ff_X9_155 : zF RX9 155 5 3 .int := Or.inr ⟨"BrokenFugue", by unfold zFn; decide +kernel⟩
theorem ff_X9_158 : zF RX9 158 7 3 (.array .int) := Or.inr ⟨"BrokenFugue", by unfold zFn; decide +kernel⟩
theorem zf_1_3 : zRF 1 3 = 5 := by decide +kernel
theorem zo_5 : zin 294 5 20 := by unfold zin; decide +kernel
theorem zn_5 : zLN 5 = 6 := by decide +kernel
theorem ff_X9_161 : zF RX9 161 5 4 .int := Or.inr ⟨"BrokenFugue", by unfold zFn; decide +kernel⟩
theorem lk_X9_164 : zL RX9 164 yX9_isText := Or.inl (by decide +kernel)
theorem zy_X9_isText : zY yX9_isText cX9_isText 2 (some .boolean) 1 := by unfold zY; decide +kernel
theorem zv_X9_isText : zYv yX9_isText := by unfold zYv; decide +kernel
theorem zrm_5_2_1 : zRm (zrm 5) 0 0 2 1 := by unfold zRm; decide
theorem ff_X9_35 : zF RX9 35 9 4 (.object "BrokenFugue$Judge") := Or.inl (by unfold zFd; decide +kernel)
theorem zf_0_4 : zRF 0 4 = 153 := by decide +kernel
theorem zo_153 : zin 294 153 2 := by unfold zin; decide +kernel
theorem lk_X9_167 : zL RX9 167 yX2_begin := Or.inl (by decide +kernel)
theorem lk_X9_170 : zL RX9 170 yX2_askPiece := Or.inl (by decide +kernel)
theorem zy_X2_askPiece : zY yX2_askPiece cX2_askPiece 10 none 4 := by unfold zY; decide +kernel
theorem zv_X2_askPiece : zYv yX2_askPiece := by unfold zYv; decide +kernel
theorem zrm_5_10_4 : zRm (zrm 5) 0 0 10 4 := by unfold zRm; decide
theorem ff_X9_174 : zF RX9 174 2 6 .int := Or.inr ⟨"BrokenFugue", by unfold zFn; decide +kernel⟩
theorem ff_X9_177 : zF RX9 177 2 5 .int := Or.inr ⟨"BrokenFugue", by unfold zFn; decide +kernel⟩
theorem ff_X9_180 : zF RX9 180 2 2 (.array .int) := Or.inr ⟨"BrokenFugue", by unfold zFn; decide +kernel⟩
theorem zf_153_2 : zRF 153 2 = 156 := by decide +kernel
theorem zo_156 : zin 294 156 20 := by unfold zin; decide +kernel
theorem zn_156 : zLN 156 = 5 := by decide +kernel
theorem zrm_6_2_1 : zRm (zrm 6) 0 0 2 1 := by unfold zRm; decide
theorem lk_X9_183 : zL RX9 183 yX9_hasNotes := Or.inl (by decide +kernel)
theorem zy_X9_hasNotes : zY yX9_hasNotes cX9_hasNotes 2 (some .boolean) 1 := by unfold zY; decide +kernel
theorem zv_X9_hasNotes : zYv yX9_hasNotes := by unfold zYv; decide +kernel
theorem zrm_6_2_2 : zRm (zrm 6) 0 0 2 2 := by unfold zRm; decide
theorem zrm_6_3_0 : zRm (zrm 6) 0 0 3 0 := by unfold zRm; decide
theorem ff_X9_42 : zF RX9 42 9 5 (.object "BrokenFugue$Fitter") := Or.inl (by unfold zFd; decide +kernel)
theorem zf_0_5 : zRF 0 5 = 157 := by decide +kernel
theorem lk_X9_186 : zL RX9 186 yX1_begin := Or.inl (by decide +kernel)
theorem zy_X1_begin : zY yX1_begin cX1_begin 4 none 3 := by unfold zY; decide +kernel
theorem zv_X1_begin : zYv yX1_begin := by unfold zYv; decide +kernel
theorem zrm_6_4_5 : zRm (zrm 6) 0 0 4 5 := by unfold zRm; decide
theorem zq_X9_189 : Cond.constant RX9 189 (2147483647) ∈ ztb := by decide +kernel
theorem lk_X9_190 : zL RX9 190 yX1_priceOf := Or.inl (by decide +kernel)
theorem zq_X9_194 : Cond.constant RX9 194 (1000000) ∈ ztb := by decide +kernel
theorem lk_X9_195 : zL RX9 195 yX9_formCode := Or.inl (by decide +kernel)
theorem zy_X9_formCode : zY yX9_formCode cX9_formCode 4 (some .int) 1 := by unfold zY; decide +kernel
theorem zs_X9_formCode : Cond.static yX9_formCode ∈ ztb := by decide +kernel
theorem zrm_7_2_1 : zRm (zrm 7) 0 0 2 1 := by unfold zRm; decide
theorem zrm_7_2_2 : zRm (zrm 7) 0 0 2 2 := by unfold zRm; decide
theorem zrm_7_3_0 : zRm (zrm 7) 0 0 3 0 := by unfold zRm; decide
theorem zrm_7_4_5 : zRm (zrm 7) 0 0 4 5 := by unfold zRm; decide
theorem lk_X9_198 : zL RX9 198 yX1_findCheapest := Or.inl (by decide +kernel)
theorem zy_X1_findCheapest : zY yX1_findCheapest cX1_findCheapest 6 none 3 := by unfold zY; decide +kernel
theorem zv_X1_findCheapest : zYv yX1_findCheapest := by unfold zYv; decide +kernel
theorem zrm_7_6_6 : zRm (zrm 7) 0 0 6 6 := by unfold zRm; decide
theorem ff_X9_205 : zF RX9 205 1 10 .int := Or.inr ⟨"BrokenFugue", by unfold zFn; decide +kernel⟩
theorem zrm_7_4_0 : zRm (zrm 7) 0 0 4 0 := by unfold zRm; decide
theorem ff_X9_202 : zF RX9 202 1 9 .int := Or.inr ⟨"BrokenFugue", by unfold zFn; decide +kernel⟩
theorem lk_X9_208 : zL RX9 208 yX1_findThree := Or.inl (by decide +kernel)
theorem zy_X1_findThree : zY yX1_findThree cX1_findThree 7 none 3 := by unfold zY; decide +kernel
theorem zv_X1_findThree : zYv yX1_findThree := by unfold zYv; decide +kernel
theorem zrm_7_7_6 : zRm (zrm 7) 0 0 7 6 := by unfold zRm; decide
theorem ff_X9_212 : zF RX9 212 1 11 .int := Or.inr ⟨"BrokenFugue", by unfold zFn; decide +kernel⟩
theorem w_40 : zw 40 = 40 := by decide +kernel
theorem w_9999 : zw 9999 = 9999 := by decide +kernel
theorem lk_X9_215 : zL RX9 215 yX1_shuffle := Or.inl (by decide +kernel)
theorem zy_X1_shuffle : zY yX1_shuffle cX1_shuffle 8 none 2 := by unfold zY; decide +kernel
theorem zv_X1_shuffle : zYv yX1_shuffle := by unfold zYv; decide +kernel
theorem zrm_7_8_2 : zRm (zrm 7) 0 0 8 2 := by unfold zRm; decide
theorem ff_X9_219 : zF RX9 219 1 4 (.object "BrokenFugue$Line") := Or.inr ⟨"BrokenFugue", by unfold zFn; decide +kernel⟩
theorem lk_X9_323 : zL RX9 323 yX8_clear := Or.inl (by decide +kernel)
theorem zy_X8_clear : zY yX8_clear cX8_clear 1 none 0 := by unfold zY; decide +kernel
theorem zv_X8_clear : zYv yX8_clear := by unfold zYv; decide +kernel
theorem lk_X9_326 : zL RX9 326 yX8_add := Or.inl (by decide +kernel)
theorem zy_X8_add : zY yX8_add cX8_add 7 none 2 := by unfold zY; decide +kernel
theorem zv_X8_add : zYv yX8_add := by unfold zYv; decide +kernel
theorem zrm_3_7_2 : zRm (zrm 3) 0 0 7 2 := by unfold zRm; decide
theorem lk_X9_223 : zL RX9 223 yX9_isSet := Or.inl (by decide +kernel)
theorem zy_X9_isSet : zY yX9_isSet cX9_isSet 1 (some .boolean) 1 := by unfold zY; decide +kernel
theorem zs_X9_isSet : Cond.static yX9_isSet ∈ ztb := by decide +kernel
theorem ff_X9_63 : zF RX9 63 9 8 (.object "BrokenFugue$Steps") := Or.inl (by unfold zFd; decide +kernel)
theorem zf_0_8 : zRF 0 8 = 218 := by decide +kernel
theorem zo_218 : zin 294 218 8 := by unfold zin; decide +kernel
theorem w_101 : zw 101 = 101 := by decide +kernel
theorem lk_X9_226 : zL RX9 226 yX9_learn := Or.inl (by decide +kernel)
theorem zy_X9_learn : zY yX9_learn cX9_learn 5 none 3 := by unfold zY; decide +kernel
theorem zv_X9_learn : zYv yX9_learn := by unfold zYv; decide +kernel
theorem zrm_4_5_3 : zRm (zrm 4) 0 0 5 3 := by unfold zRm; decide
theorem ff_X9_230 : zF RX9 230 8 0 (.array .int) := Or.inr ⟨"BrokenFugue", by unfold zFn; decide +kernel⟩
theorem zf_218_0 : zRF 218 0 = 219 := by decide +kernel
theorem zo_219 : zin 294 219 20 := by unfold zin; decide +kernel
theorem zn_219 : zLN 219 = 25 := by decide +kernel
theorem ff_X9_67 : zF RX9 67 9 9 (.object "BrokenFugue$Steps") := Or.inl (by unfold zFd; decide +kernel)
theorem zf_0_9 : zRF 0 9 = 221 := by decide +kernel
theorem zo_221 : zin 294 221 8 := by unfold zin; decide +kernel
theorem lk_X9_233 : zL RX9 233 yX8_strangeBy := Or.inl (by decide +kernel)
theorem zy_X8_strangeBy : zY yX8_strangeBy cX8_strangeBy 5 (some .int) 1 := by unfold zY; decide +kernel
theorem zv_X8_strangeBy : zYv yX8_strangeBy := by unfold zYv; decide +kernel
theorem zrm_4_5_1 : zRm (zrm 4) 0 0 5 1 := by unfold zRm; decide
theorem lk_X9_237 : zL RX9 237 yX3_noteAhead := Or.inl (by decide +kernel)
theorem zrm_4_3_1 : zRm (zrm 4) 0 0 3 1 := by unfold zRm; decide
theorem lk_X9_240 : zL RX9 240 yX9_boundedStep := Or.inl (by decide +kernel)
theorem ff_X9_243 : zF RX9 243 8 3 .int := Or.inr ⟨"BrokenFugue", by unfold zFn; decide +kernel⟩
theorem ff_X9_246 : zF RX9 246 8 1 (.array .int) := Or.inr ⟨"BrokenFugue", by unfold zFn; decide +kernel⟩
theorem zf_218_1 : zRF 218 1 = 220 := by decide +kernel
theorem zo_220 : zin 294 220 20 := by unfold zin; decide +kernel
theorem zn_220 : zLN 220 = 25 := by decide +kernel
theorem ff_X9_249 : zF RX9 249 7 2 (.array .int) := Or.inr ⟨"BrokenFugue", by unfold zFn; decide +kernel⟩
theorem zf_1_2 : zRF 1 2 = 4 := by decide +kernel
theorem zo_4 : zin 294 4 20 := by unfold zin; decide +kernel
theorem zn_4 : zLN 4 = 4 := by decide +kernel
theorem lk_X9_252 : zL RX9 252 yX8_distanceTo := Or.inl (by decide +kernel)
theorem zy_X8_distanceTo : zY yX8_distanceTo cX8_distanceTo 4 (some .int) 1 := by unfold zY; decide +kernel
theorem zv_X8_distanceTo : zYv yX8_distanceTo := by unfold zYv; decide +kernel
theorem zrm_4_4_1 : zRm (zrm 4) 0 0 4 1 := by unfold zRm; decide
theorem lk_X9_255 : zL RX9 255 yX7_piecesOf := Or.inl (by decide +kernel)
theorem zy_X7_piecesOf : zY yX7_piecesOf cX7_piecesOf 4 (some .int) 1 := by unfold zY; decide +kernel
theorem zv_X7_piecesOf : zYv yX7_piecesOf := by unfold zYv; decide +kernel
theorem zrm_4_4_0 : zRm (zrm 4) 0 0 4 0 := by unfold zRm; decide
theorem lk_X9_329 : zL RX9 329 yX3_isLike := Or.inl (by decide +kernel)
theorem zy_X3_isLike : zY yX3_isLike cX3_isLike 4 (some .boolean) 2 := by unfold zY; decide +kernel
theorem zv_X3_isLike : zYv yX3_isLike := by unfold zYv; decide +kernel
theorem zrm_5_5_3 : zRm (zrm 5) 0 0 5 3 := by unfold zRm; decide
theorem zrm_5_5_1 : zRm (zrm 5) 0 0 5 1 := by unfold zRm; decide
theorem zrm_5_2_0 : zRm (zrm 5) 0 0 2 0 := by unfold zRm; decide
theorem lk_X9_258 : zL RX9 258 yX9_isEnding := Or.inl (by decide +kernel)
theorem zy_X9_isEnding : zY yX9_isEnding cX9_isEnding 5 (some .boolean) 3 := by unfold zY; decide +kernel
theorem zv_X9_isEnding : zYv yX9_isEnding := by unfold zYv; decide +kernel
theorem zrm_6_5_1 : zRm (zrm 6) 0 0 5 1 := by unfold zRm; decide
theorem lk_X9_261 : zL RX9 261 yX9_worth := Or.inl (by decide +kernel)
theorem zy_X9_worth : zY yX9_worth cX9_worth 5 (some .int) 4 := by unfold zY; decide +kernel
theorem zv_X9_worth : zYv yX9_worth := by unfold zYv; decide +kernel
theorem zrm_7_1_1 : zRm (zrm 7) 0 0 1 1 := by unfold zRm; decide
theorem zrm_7_2_0 : zRm (zrm 7) 0 0 2 0 := by unfold zRm; decide
theorem ff_X9_49 : zF RX9 49 9 6 (.object "BrokenFugue$Maker") := Or.inl (by unfold zFd; decide +kernel)
theorem zf_0_6 : zRF 0 6 = 177 := by decide +kernel
theorem lk_X9_265 : zL RX9 265 yX4_begin := Or.inl (by decide +kernel)
theorem zy_X4_begin : zY yX4_begin cX4_begin 6 none 4 := by unfold zY; decide +kernel
theorem zv_X4_begin : zYv yX4_begin := by unfold zYv; decide +kernel
theorem zrm_7_6_2 : zRm (zrm 7) 0 0 6 2 := by unfold zRm; decide
theorem lk_X9_268 : zL RX9 268 yX4_solve := Or.inl (by decide +kernel)
theorem zy_X4_solve : zY yX4_solve cX4_solve 6 none 1 := by unfold zY; decide +kernel
theorem zv_X4_solve : zYv yX4_solve := by unfold zYv; decide +kernel
theorem ff_X9_274 : zF RX9 274 4 4 (.array .int) := Or.inr ⟨"BrokenFugue", by unfold zFn; decide +kernel⟩
theorem ff_X9_271 : zF RX9 271 4 10 .int := Or.inr ⟨"BrokenFugue", by unfold zFn; decide +kernel⟩
theorem w_120 : zw 120 = 120 := by decide +kernel
theorem ff_X9_72 : zF RX9 72 9 10 (.array (.object "BrokenFugue$Line")) := Or.inl (by unfold zFd; decide +kernel)
theorem zf_0_10 : zRF 0 10 = 224 := by decide +kernel
theorem zo_224 : zin 294 224 23 := by unfold zin; decide +kernel
theorem zn_224 : zLN 224 = 4 := by decide +kernel
theorem lk_X9_277 : zL RX9 277 yX3_takeOverturned := Or.inl (by decide +kernel)
theorem zy_X3_takeOverturned : zY yX3_takeOverturned cX3_takeOverturned 5 (some .boolean) 2 := by unfold zY; decide +kernel
theorem zv_X3_takeOverturned : zYv yX3_takeOverturned := by unfold zYv; decide +kernel
theorem zrm_5_5_2 : zRm (zrm 5) 0 0 5 2 := by unfold zRm; decide
theorem ff_X9_281 : zF RX9 281 7 9 .int := Or.inr ⟨"BrokenFugue", by unfold zFn; decide +kernel⟩
theorem ff_X9_284 : zF RX9 284 7 4 (.array .int) := Or.inr ⟨"BrokenFugue", by unfold zFn; decide +kernel⟩
theorem zf_1_4 : zRF 1 4 = 6 := by decide +kernel
theorem zo_6 : zin 294 6 20 := by unfold zin; decide +kernel
theorem zn_6 : zLN 6 = 10 := by decide +kernel
theorem ff_X9_287 : zF RX9 287 7 5 (.array .int) := Or.inr ⟨"BrokenFugue", by unfold zFn; decide +kernel⟩
theorem zf_1_5 : zRF 1 5 = 7 := by decide +kernel
theorem zo_7 : zin 294 7 20 := by unfold zin; decide +kernel
theorem zn_7 : zLN 7 = 10 := by decide +kernel
theorem zrm_2_4_1 : zRm (zrm 2) 0 0 4 1 := by unfold zRm; decide
theorem ff_X9_296 : zF RX9 296 7 10 .int := Or.inr ⟨"BrokenFugue", by unfold zFn; decide +kernel⟩
theorem w_99 : zw 99 = 99 := by decide +kernel
theorem ff_X9_299 : zF RX9 299 7 6 (.array .int) := Or.inr ⟨"BrokenFugue", by unfold zFn; decide +kernel⟩
theorem zf_1_6 : zRF 1 6 = 8 := by decide +kernel
theorem zo_8 : zin 294 8 20 := by unfold zin; decide +kernel
theorem zn_8 : zLN 8 = 32 := by decide +kernel
theorem ff_X9_56 : zF RX9 56 9 7 (.object "BrokenFugue$Binder") := Or.inl (by unfold zFd; decide +kernel)
theorem zf_0_7 : zRF 0 7 = 210 := by decide +kernel
theorem lk_X9_305 : zL RX9 305 yX0_link := Or.inl (by decide +kernel)
theorem zy_X0_link : zY yX0_link cX0_link 5 none 2 := by unfold zY; decide +kernel
theorem zv_X0_link : zYv yX0_link := by unfold zYv; decide +kernel
theorem lk_X9_309 : zL RX9 309 yX0_count := Or.inl (by decide +kernel)
theorem zy_X0_count : zY yX0_count cX0_count 10 (some .int) 3 := by unfold zY; decide +kernel
theorem zv_X0_count : zYv yX0_count := by unfold zYv; decide +kernel
theorem zrm_4_10_1 : zRm (zrm 4) 0 0 10 1 := by unfold zRm; decide
theorem lk_X9_302 : zL RX9 302 yX9_ordersOf := Or.inl (by decide +kernel)
theorem zy_X9_ordersOf : zY yX9_ordersOf cX9_ordersOf 2 (some .int) 1 := by unfold zY; decide +kernel
theorem zv_X9_ordersOf : zYv yX9_ordersOf := by unfold zYv; decide +kernel
theorem zrm_5_2_4 : zRm (zrm 5) 0 0 2 4 := by unfold zRm; decide
theorem zq_X9_312 : Cond.constantLong RX9 312 (1000) ∈ ztb := by decide +kernel
theorem wx_1000 : zx 1000 = 1000 := by decide +kernel
theorem ff_X9_16 : zF RX9 16 9 1 (.object "BrokenFugue$State") := Or.inl (by unfold zFd; decide +kernel)
theorem zf_0_1 : zRF 0 1 = 75 := by decide +kernel
theorem zo_75 : zin 294 75 7 := by unfold zin; decide +kernel
theorem lk_X9_314 : zL RX9 314 yX7_take := Or.inl (by decide +kernel)
theorem zy_X7_take : zY yX7_take cX7_take 3 none 1 := by unfold zY; decide +kernel
theorem zv_X7_take : zYv yX7_take := by unfold zYv; decide +kernel
theorem w_23 : zw 23 = 23 := by decide +kernel
theorem w_35 : zw 35 = 35 := by decide +kernel
theorem w_m2 : zw (-2) = (-2) := by decide +kernel
theorem lk_X9_317 : zL RX9 317 yX9_aboutOne := Or.inl (by decide +kernel)
theorem zy_X9_aboutOne : zY yX9_aboutOne cX9_aboutOne 2 (some .int) 1 := by unfold zY; decide +kernel
theorem zv_X9_aboutOne : zYv yX9_aboutOne := by unfold zYv; decide +kernel
theorem eX9_note_0 : zD cX9_note 0 (.iload_n 1) 1 1 := ⟨by decide +kernel, rfl⟩
theorem eX9_note_1 : zD cX9_note 1 (.invokestatic 84) 3 4 := ⟨by decide +kernel, rfl⟩
theorem eX9_note_4 : zDj cX9_note 4 (.ifCond .eq 23) 23 27 7 := ⟨by decide +kernel, rfl, by decide⟩
theorem eX9_note_7 : zD cX9_note 7 (.iload_n 2) 1 8 := ⟨by decide +kernel, rfl⟩
theorem eX9_note_8 : zD cX9_note 8 (.invokestatic 88) 3 11 := ⟨by decide +kernel, rfl⟩
theorem eX9_note_11 : zDj cX9_note 11 (.ifCond .eq 16) 16 27 14 := ⟨by decide +kernel, rfl, by decide⟩
theorem eX9_note_14 : zD cX9_note 14 (.iload_n 3) 1 15 := ⟨by decide +kernel, rfl⟩
theorem eX9_note_15 : zD cX9_note 15 (.iload 5) 2 17 := ⟨by decide +kernel, rfl⟩
theorem eX9_note_17 : zD cX9_note 17 (.bipush 8) 2 19 := ⟨by decide +kernel, rfl⟩
theorem eX9_note_19 : zD cX9_note 19 (.bipush 32) 2 21 := ⟨by decide +kernel, rfl⟩
theorem eX9_note_21 : zD cX9_note 21 (.invokestatic 91) 3 24 := ⟨by decide +kernel, rfl⟩
theorem eX9_note_24 : zDj cX9_note 24 (.ifCond .ne 5) 5 29 27 := ⟨by decide +kernel, rfl, by decide⟩
theorem eX9_note_27 : zD cX9_note 27 (.iconst (-1)) 1 28 := ⟨by decide +kernel, rfl⟩
theorem eX9_note_28 : zD cX9_note 28 .ireturn 1 29 := ⟨by decide +kernel, rfl⟩
theorem eX9_note_29 : zD cX9_note 29 (.iload 4) 2 31 := ⟨by decide +kernel, rfl⟩
theorem eX9_note_31 : zD cX9_note 31 (.iconst (-1)) 1 32 := ⟨by decide +kernel, rfl⟩
theorem eX9_note_32 : zDj cX9_note 32 (.if_icmp .eq 13) 13 45 35 := ⟨by decide +kernel, rfl, by decide⟩
theorem eX9_note_35 : zD cX9_note 35 (.iload 4) 2 37 := ⟨by decide +kernel, rfl⟩
theorem eX9_note_37 : zD cX9_note 37 (.invokestatic 95) 3 40 := ⟨by decide +kernel, rfl⟩
theorem eX9_note_40 : zDj cX9_note 40 (.ifCond .ne 5) 5 45 43 := ⟨by decide +kernel, rfl, by decide⟩
theorem eX9_note_43 : zD cX9_note 43 (.iconst (-1)) 1 44 := ⟨by decide +kernel, rfl⟩
theorem eX9_note_44 : zD cX9_note 44 .ireturn 1 45 := ⟨by decide +kernel, rfl⟩
theorem eX9_note_45 : zD cX9_note 45 (.aload_n 0) 1 46 := ⟨by decide +kernel, rfl⟩
theorem eX9_note_46 : zD cX9_note 46 (.getfield 10) 3 49 := ⟨by decide +kernel, rfl⟩
theorem eX9_note_49 : zD cX9_note 49 (.getfield 98) 3 52 := ⟨by decide +kernel, rfl⟩
theorem eX9_note_52 : zD cX9_note 52 (.iload_n 1) 1 53 := ⟨by decide +kernel, rfl⟩
theorem eX9_note_53 : zD cX9_note 53 (.iconst 4) 1 54 := ⟨by decide +kernel, rfl⟩
theorem eX9_note_54 : zD cX9_note 54 .imul 1 55 := ⟨by decide +kernel, rfl⟩
theorem eX9_note_55 : zD cX9_note 55 (.iload_n 2) 1 56 := ⟨by decide +kernel, rfl⟩
theorem eX9_note_56 : zD cX9_note 56 .iadd 1 57 := ⟨by decide +kernel, rfl⟩
theorem eX9_note_57 : zD cX9_note 57 .aaload 1 58 := ⟨by decide +kernel, rfl⟩
theorem eX9_note_58 : zD cX9_note 58 (.astore 6) 2 60 := ⟨by decide +kernel, rfl⟩
theorem eX9_note_60 : zD cX9_note 60 (.iload 4) 2 62 := ⟨by decide +kernel, rfl⟩
theorem eX9_note_62 : zD cX9_note 62 (.iconst (-1)) 1 63 := ⟨by decide +kernel, rfl⟩
theorem eX9_note_63 : zDj cX9_note 63 (.if_icmp .ne 14) 14 77 66 := ⟨by decide +kernel, rfl, by decide⟩
theorem eX9_note_66 : zD cX9_note 66 (.aload 6) 2 68 := ⟨by decide +kernel, rfl⟩
theorem eX9_note_68 : zD cX9_note 68 (.iload_n 3) 1 69 := ⟨by decide +kernel, rfl⟩
theorem eX9_note_69 : zD cX9_note 69 (.iload 5) 2 71 := ⟨by decide +kernel, rfl⟩
theorem eX9_note_71 : zD cX9_note 71 (.invokevirtual 101) 3 74 := ⟨by decide +kernel, rfl⟩
theorem eX9_note_74 : zDj cX9_note 74 (.goto 13) 13 87 77 := ⟨by decide +kernel, rfl, by decide⟩
theorem eX9_note_77 : zD cX9_note 77 (.aload 6) 2 79 := ⟨by decide +kernel, rfl⟩
theorem eX9_note_79 : zD cX9_note 79 (.iload_n 3) 1 80 := ⟨by decide +kernel, rfl⟩
theorem eX9_note_80 : zD cX9_note 80 (.iload 4) 2 82 := ⟨by decide +kernel, rfl⟩
theorem eX9_note_82 : zD cX9_note 82 (.iload 5) 2 84 := ⟨by decide +kernel, rfl⟩
theorem eX9_note_84 : zD cX9_note 84 (.invokevirtual 105) 3 87 := ⟨by decide +kernel, rfl⟩
theorem eX9_note_87 : zD cX9_note 87 (.aload_n 0) 1 88 := ⟨by decide +kernel, rfl⟩
theorem eX9_note_88 : zD cX9_note 88 (.getfield 10) 3 91 := ⟨by decide +kernel, rfl⟩
theorem eX9_note_91 : zD cX9_note 91 (.iload_n 1) 1 92 := ⟨by decide +kernel, rfl⟩
theorem eX9_note_92 : zD cX9_note 92 (.invokevirtual 109) 3 95 := ⟨by decide +kernel, rfl⟩
theorem eX9_note_95 : zD cX9_note 95 .ireturn 1 96 := ⟨by decide +kernel, rfl⟩
theorem eX9_at_0 : zD cX9_at 0 (.iload_n 1) 1 1 := ⟨by decide +kernel, rfl⟩
theorem eX9_at_1 : zD cX9_at 1 (.invokestatic 84) 3 4 := ⟨by decide +kernel, rfl⟩
theorem eX9_at_4 : zDj cX9_at 4 (.ifCond .eq 20) 20 24 7 := ⟨by decide +kernel, rfl, by decide⟩
theorem eX9_at_7 : zD cX9_at 7 (.iload_n 2) 1 8 := ⟨by decide +kernel, rfl⟩
theorem eX9_at_8 : zD cX9_at 8 (.invokestatic 88) 3 11 := ⟨by decide +kernel, rfl⟩
theorem eX9_at_11 : zDj cX9_at 11 (.ifCond .eq 13) 13 24 14 := ⟨by decide +kernel, rfl, by decide⟩
theorem eX9_at_14 : zD cX9_at 14 (.iload_n 3) 1 15 := ⟨by decide +kernel, rfl⟩
theorem eX9_at_15 : zD cX9_at 15 (.iconst 0) 1 16 := ⟨by decide +kernel, rfl⟩
theorem eX9_at_16 : zD cX9_at 16 (.bipush 31) 2 18 := ⟨by decide +kernel, rfl⟩
theorem eX9_at_18 : zD cX9_at 18 (.invokestatic 113) 3 21 := ⟨by decide +kernel, rfl⟩
theorem eX9_at_21 : zDj cX9_at 21 (.ifCond .ne 5) 5 26 24 := ⟨by decide +kernel, rfl, by decide⟩
theorem eX9_at_24 : zD cX9_at 24 (.iconst (-1)) 1 25 := ⟨by decide +kernel, rfl⟩
theorem eX9_at_25 : zD cX9_at 25 .ireturn 1 26 := ⟨by decide +kernel, rfl⟩
theorem eX9_at_26 : zD cX9_at 26 (.aload_n 0) 1 27 := ⟨by decide +kernel, rfl⟩
theorem eX9_at_27 : zD cX9_at 27 (.getfield 10) 3 30 := ⟨by decide +kernel, rfl⟩
theorem eX9_at_30 : zD cX9_at 30 (.getfield 98) 3 33 := ⟨by decide +kernel, rfl⟩
theorem eX9_at_33 : zD cX9_at 33 (.iload_n 1) 1 34 := ⟨by decide +kernel, rfl⟩
theorem eX9_at_34 : zD cX9_at 34 (.iconst 4) 1 35 := ⟨by decide +kernel, rfl⟩
theorem eX9_at_35 : zD cX9_at 35 .imul 1 36 := ⟨by decide +kernel, rfl⟩
theorem eX9_at_36 : zD cX9_at 36 (.iload_n 2) 1 37 := ⟨by decide +kernel, rfl⟩
theorem eX9_at_37 : zD cX9_at 37 .iadd 1 38 := ⟨by decide +kernel, rfl⟩
theorem eX9_at_38 : zD cX9_at 38 .aaload 1 39 := ⟨by decide +kernel, rfl⟩
theorem eX9_at_39 : zD cX9_at 39 (.astore 4) 2 41 := ⟨by decide +kernel, rfl⟩
theorem eX9_at_41 : zD cX9_at 41 (.aload 4) 2 43 := ⟨by decide +kernel, rfl⟩
theorem eX9_at_43 : zD cX9_at 43 (.getfield 117) 3 46 := ⟨by decide +kernel, rfl⟩
theorem eX9_at_46 : zD cX9_at 46 (.iload_n 3) 1 47 := ⟨by decide +kernel, rfl⟩
theorem eX9_at_47 : zD cX9_at 47 .iaload 1 48 := ⟨by decide +kernel, rfl⟩
theorem eX9_at_48 : zDj cX9_at 48 (.ifCond .ne 5) 5 53 51 := ⟨by decide +kernel, rfl, by decide⟩
theorem eX9_at_51 : zD cX9_at 51 (.iconst (-1)) 1 52 := ⟨by decide +kernel, rfl⟩
theorem eX9_at_52 : zD cX9_at 52 .ireturn 1 53 := ⟨by decide +kernel, rfl⟩
theorem eX9_at_53 : zD cX9_at 53 (.aload 4) 2 55 := ⟨by decide +kernel, rfl⟩
theorem eX9_at_55 : zD cX9_at 55 (.getfield 117) 3 58 := ⟨by decide +kernel, rfl⟩
theorem eX9_at_58 : zD cX9_at 58 (.iload_n 3) 1 59 := ⟨by decide +kernel, rfl⟩
theorem eX9_at_59 : zD cX9_at 59 .iaload 1 60 := ⟨by decide +kernel, rfl⟩
theorem eX9_at_60 : zD cX9_at 60 (.iconst 2) 1 61 := ⟨by decide +kernel, rfl⟩
theorem eX9_at_61 : zDj cX9_at 61 (.if_icmp .ne 16) 16 77 64 := ⟨by decide +kernel, rfl, by decide⟩
theorem eX9_at_64 : zD cX9_at 64 (.aload 4) 2 66 := ⟨by decide +kernel, rfl⟩
theorem eX9_at_66 : zD cX9_at 66 (.getfield 121) 3 69 := ⟨by decide +kernel, rfl⟩
theorem eX9_at_69 : zD cX9_at 69 (.iload_n 3) 1 70 := ⟨by decide +kernel, rfl⟩
theorem eX9_at_70 : zD cX9_at 70 .iaload 1 71 := ⟨by decide +kernel, rfl⟩
theorem eX9_at_71 : zD cX9_at 71 (.bipush 100) 2 73 := ⟨by decide +kernel, rfl⟩
theorem eX9_at_73 : zD cX9_at 73 .iadd 1 74 := ⟨by decide +kernel, rfl⟩
theorem eX9_at_74 : zDj cX9_at 74 (.goto 10) 10 84 77 := ⟨by decide +kernel, rfl, by decide⟩
theorem eX9_at_77 : zD cX9_at 77 (.aload 4) 2 79 := ⟨by decide +kernel, rfl⟩
theorem eX9_at_79 : zD cX9_at 79 (.getfield 121) 3 82 := ⟨by decide +kernel, rfl⟩
theorem eX9_at_82 : zD cX9_at 82 (.iload_n 3) 1 83 := ⟨by decide +kernel, rfl⟩
theorem eX9_at_83 : zD cX9_at 83 .iaload 1 84 := ⟨by decide +kernel, rfl⟩
theorem eX9_at_84 : zD cX9_at 84 .ireturn 1 85 := ⟨by decide +kernel, rfl⟩
theorem eX9_subject_0 : zD cX9_subject 0 (.iload_n 1) 1 1 := ⟨by decide +kernel, rfl⟩
theorem eX9_subject_1 : zD cX9_subject 1 (.invokestatic 124) 3 4 := ⟨by decide +kernel, rfl⟩
theorem eX9_subject_4 : zDj cX9_subject 4 (.ifCond .eq 15) 15 19 7 := ⟨by decide +kernel, rfl, by decide⟩
theorem eX9_subject_7 : zD cX9_subject 7 (.iload_n 2) 1 8 := ⟨by decide +kernel, rfl⟩
theorem eX9_subject_8 : zD cX9_subject 8 (.iload 4) 2 10 := ⟨by decide +kernel, rfl⟩
theorem eX9_subject_10 : zD cX9_subject 10 (.iconst 4) 1 11 := ⟨by decide +kernel, rfl⟩
theorem eX9_subject_11 : zD cX9_subject 11 (.bipush 12) 2 13 := ⟨by decide +kernel, rfl⟩
theorem eX9_subject_13 : zD cX9_subject 13 (.invokestatic 91) 3 16 := ⟨by decide +kernel, rfl⟩
theorem eX9_subject_16 : zDj cX9_subject 16 (.ifCond .ne 5) 5 21 19 := ⟨by decide +kernel, rfl, by decide⟩
theorem eX9_subject_19 : zD cX9_subject 19 (.iconst (-1)) 1 20 := ⟨by decide +kernel, rfl⟩
theorem eX9_subject_20 : zD cX9_subject 20 .ireturn 1 21 := ⟨by decide +kernel, rfl⟩
theorem eX9_subject_21 : zD cX9_subject 21 (.iload_n 3) 1 22 := ⟨by decide +kernel, rfl⟩
theorem eX9_subject_22 : zD cX9_subject 22 (.bipush (-100)) 2 24 := ⟨by decide +kernel, rfl⟩
theorem eX9_subject_24 : zDj cX9_subject 24 (.if_icmp .eq 16) 16 40 27 := ⟨by decide +kernel, rfl, by decide⟩
theorem eX9_subject_27 : zD cX9_subject 27 (.iload_n 3) 1 28 := ⟨by decide +kernel, rfl⟩
theorem eX9_subject_28 : zD cX9_subject 28 (.bipush (-20)) 2 30 := ⟨by decide +kernel, rfl⟩
theorem eX9_subject_30 : zD cX9_subject 30 (.bipush 20) 2 32 := ⟨by decide +kernel, rfl⟩
theorem eX9_subject_32 : zD cX9_subject 32 (.invokestatic 113) 3 35 := ⟨by decide +kernel, rfl⟩
theorem eX9_subject_35 : zDj cX9_subject 35 (.ifCond .ne 5) 5 40 38 := ⟨by decide +kernel, rfl, by decide⟩
theorem eX9_subject_38 : zD cX9_subject 38 (.iconst (-1)) 1 39 := ⟨by decide +kernel, rfl⟩
theorem eX9_subject_39 : zD cX9_subject 39 .ireturn 1 40 := ⟨by decide +kernel, rfl⟩
theorem eX9_subject_40 : zD cX9_subject 40 (.aload_n 0) 1 41 := ⟨by decide +kernel, rfl⟩
theorem eX9_subject_41 : zD cX9_subject 41 (.getfield 10) 3 44 := ⟨by decide +kernel, rfl⟩
theorem eX9_subject_44 : zD cX9_subject 44 (.getfield 127) 3 47 := ⟨by decide +kernel, rfl⟩
theorem eX9_subject_47 : zD cX9_subject 47 (.iload_n 1) 1 48 := ⟨by decide +kernel, rfl⟩
theorem eX9_subject_48 : zD cX9_subject 48 .aaload 1 49 := ⟨by decide +kernel, rfl⟩
theorem eX9_subject_49 : zD cX9_subject 49 (.astore 5) 2 51 := ⟨by decide +kernel, rfl⟩
theorem eX9_subject_51 : zD cX9_subject 51 (.iload_n 3) 1 52 := ⟨by decide +kernel, rfl⟩
theorem eX9_subject_52 : zD cX9_subject 52 (.bipush (-100)) 2 54 := ⟨by decide +kernel, rfl⟩
theorem eX9_subject_54 : zDj cX9_subject 54 (.if_icmp .ne 14) 14 68 57 := ⟨by decide +kernel, rfl, by decide⟩
theorem eX9_subject_57 : zD cX9_subject 57 (.aload 5) 2 59 := ⟨by decide +kernel, rfl⟩
theorem eX9_subject_59 : zD cX9_subject 59 (.iload_n 2) 1 60 := ⟨by decide +kernel, rfl⟩
theorem eX9_subject_60 : zD cX9_subject 60 (.iload 4) 2 62 := ⟨by decide +kernel, rfl⟩
theorem eX9_subject_62 : zD cX9_subject 62 (.invokevirtual 101) 3 65 := ⟨by decide +kernel, rfl⟩
theorem eX9_subject_65 : zDj cX9_subject 65 (.goto 12) 12 77 68 := ⟨by decide +kernel, rfl, by decide⟩
theorem eX9_subject_68 : zD cX9_subject 68 (.aload 5) 2 70 := ⟨by decide +kernel, rfl⟩
theorem eX9_subject_70 : zD cX9_subject 70 (.iload_n 2) 1 71 := ⟨by decide +kernel, rfl⟩
theorem eX9_subject_71 : zD cX9_subject 71 (.iload_n 3) 1 72 := ⟨by decide +kernel, rfl⟩
theorem eX9_subject_72 : zD cX9_subject 72 (.iload 4) 2 74 := ⟨by decide +kernel, rfl⟩
theorem eX9_subject_74 : zD cX9_subject 74 (.invokevirtual 105) 3 77 := ⟨by decide +kernel, rfl⟩
theorem eX9_subject_77 : zD cX9_subject 77 (.aload 5) 2 79 := ⟨by decide +kernel, rfl⟩
theorem eX9_subject_79 : zD cX9_subject 79 (.invokevirtual 130) 3 82 := ⟨by decide +kernel, rfl⟩
theorem eX9_subject_82 : zD cX9_subject 82 .ireturn 1 83 := ⟨by decide +kernel, rfl⟩
theorem eX9_bar_0 : zD cX9_bar 0 (.iload_n 1) 1 1 := ⟨by decide +kernel, rfl⟩
theorem eX9_bar_1 : zD cX9_bar 1 (.iconst 1) 1 2 := ⟨by decide +kernel, rfl⟩
theorem eX9_bar_2 : zD cX9_bar 2 (.bipush 12) 2 4 := ⟨by decide +kernel, rfl⟩
theorem eX9_bar_4 : zD cX9_bar 4 (.invokestatic 113) 3 7 := ⟨by decide +kernel, rfl⟩
theorem eX9_bar_7 : zDj cX9_bar 7 (.ifCond .ne 5) 5 12 10 := ⟨by decide +kernel, rfl, by decide⟩
theorem eX9_bar_10 : zD cX9_bar 10 (.iconst 0) 1 11 := ⟨by decide +kernel, rfl⟩
theorem eX9_bar_11 : zD cX9_bar 11 .ireturn 1 12 := ⟨by decide +kernel, rfl⟩
theorem eX9_bar_12 : zD cX9_bar 12 (.aload_n 0) 1 13 := ⟨by decide +kernel, rfl⟩
theorem eX9_bar_13 : zD cX9_bar 13 (.getfield 10) 3 16 := ⟨by decide +kernel, rfl⟩
theorem eX9_bar_16 : zD cX9_bar 16 (.iload_n 1) 1 17 := ⟨by decide +kernel, rfl⟩
theorem eX9_bar_17 : zD cX9_bar 17 (.putfield 134) 3 20 := ⟨by decide +kernel, rfl⟩
theorem eX9_bar_20 : zD cX9_bar 20 (.iconst 1) 1 21 := ⟨by decide +kernel, rfl⟩
theorem eX9_bar_21 : zD cX9_bar 21 .ireturn 1 22 := ⟨by decide +kernel, rfl⟩
theorem eX9_copy_0 : zD cX9_copy 0 (.iload_n 1) 1 1 := ⟨by decide +kernel, rfl⟩
theorem eX9_copy_1 : zD cX9_copy 1 (.invokestatic 84) 3 4 := ⟨by decide +kernel, rfl⟩
theorem eX9_copy_4 : zDj cX9_copy 4 (.ifCond .eq 10) 10 14 7 := ⟨by decide +kernel, rfl, by decide⟩
theorem eX9_copy_7 : zD cX9_copy 7 (.iload_n 2) 1 8 := ⟨by decide +kernel, rfl⟩
theorem eX9_copy_8 : zD cX9_copy 8 (.invokestatic 84) 3 11 := ⟨by decide +kernel, rfl⟩
theorem eX9_copy_11 : zDj cX9_copy 11 (.ifCond .ne 5) 5 16 14 := ⟨by decide +kernel, rfl, by decide⟩
theorem eX9_copy_14 : zD cX9_copy 14 (.iconst 0) 1 15 := ⟨by decide +kernel, rfl⟩
theorem eX9_copy_15 : zD cX9_copy 15 .ireturn 1 16 := ⟨by decide +kernel, rfl⟩
theorem eX9_copy_16 : zD cX9_copy 16 (.iconst 0) 1 17 := ⟨by decide +kernel, rfl⟩
theorem eX9_copy_17 : zD cX9_copy 17 (.istore_n 3) 1 18 := ⟨by decide +kernel, rfl⟩
theorem eX9_copy_18 : zD cX9_copy 18 (.iload_n 3) 1 19 := ⟨by decide +kernel, rfl⟩
theorem eX9_copy_19 : zD cX9_copy 19 (.iconst 4) 1 20 := ⟨by decide +kernel, rfl⟩
theorem eX9_copy_20 : zDj cX9_copy 20 (.if_icmp .ge 38) 38 58 23 := ⟨by decide +kernel, rfl, by decide⟩
theorem eX9_copy_23 : zD cX9_copy 23 (.aload_n 0) 1 24 := ⟨by decide +kernel, rfl⟩
theorem eX9_copy_24 : zD cX9_copy 24 (.getfield 10) 3 27 := ⟨by decide +kernel, rfl⟩
theorem eX9_copy_27 : zD cX9_copy 27 (.getfield 98) 3 30 := ⟨by decide +kernel, rfl⟩
theorem eX9_copy_30 : zD cX9_copy 30 (.iload_n 2) 1 31 := ⟨by decide +kernel, rfl⟩
theorem eX9_copy_31 : zD cX9_copy 31 (.iconst 4) 1 32 := ⟨by decide +kernel, rfl⟩
theorem eX9_copy_32 : zD cX9_copy 32 .imul 1 33 := ⟨by decide +kernel, rfl⟩
theorem eX9_copy_33 : zD cX9_copy 33 (.iload_n 3) 1 34 := ⟨by decide +kernel, rfl⟩
theorem eX9_copy_34 : zD cX9_copy 34 .iadd 1 35 := ⟨by decide +kernel, rfl⟩
theorem eX9_copy_35 : zD cX9_copy 35 .aaload 1 36 := ⟨by decide +kernel, rfl⟩
theorem eX9_copy_36 : zD cX9_copy 36 (.aload_n 0) 1 37 := ⟨by decide +kernel, rfl⟩
theorem eX9_copy_37 : zD cX9_copy 37 (.getfield 10) 3 40 := ⟨by decide +kernel, rfl⟩
theorem eX9_copy_40 : zD cX9_copy 40 (.getfield 98) 3 43 := ⟨by decide +kernel, rfl⟩
theorem eX9_copy_43 : zD cX9_copy 43 (.iload_n 1) 1 44 := ⟨by decide +kernel, rfl⟩
theorem eX9_copy_44 : zD cX9_copy 44 (.iconst 4) 1 45 := ⟨by decide +kernel, rfl⟩
theorem eX9_copy_45 : zD cX9_copy 45 .imul 1 46 := ⟨by decide +kernel, rfl⟩
theorem eX9_copy_46 : zD cX9_copy 46 (.iload_n 3) 1 47 := ⟨by decide +kernel, rfl⟩
theorem eX9_copy_47 : zD cX9_copy 47 .iadd 1 48 := ⟨by decide +kernel, rfl⟩
theorem eX9_copy_48 : zD cX9_copy 48 .aaload 1 49 := ⟨by decide +kernel, rfl⟩
theorem eX9_copy_49 : zD cX9_copy 49 (.invokevirtual 138) 3 52 := ⟨by decide +kernel, rfl⟩
theorem eX9_copy_52 : zD cX9_copy 52 (.iinc 3 1) 3 55 := ⟨by decide +kernel, rfl⟩
theorem eX9_copy_55 : zDj cX9_copy 55 (.goto (-37)) (-37) 18 58 := ⟨by decide +kernel, rfl, by decide⟩
theorem eX9_copy_58 : zD cX9_copy 58 (.iconst 1) 1 59 := ⟨by decide +kernel, rfl⟩
theorem eX9_copy_59 : zD cX9_copy 59 .ireturn 1 60 := ⟨by decide +kernel, rfl⟩
theorem eX9_feed_0 : zD cX9_feed 0 (.aload_n 0) 1 1 := ⟨by decide +kernel, rfl⟩
theorem eX9_feed_1 : zD cX9_feed 1 (.getfield 28) 3 4 := ⟨by decide +kernel, rfl⟩
theorem eX9_feed_4 : zD cX9_feed 4 (.getfield 142) 3 7 := ⟨by decide +kernel, rfl⟩
theorem eX9_feed_7 : zD cX9_feed 7 (.bipush 20) 2 9 := ⟨by decide +kernel, rfl⟩
theorem eX9_feed_9 : zD cX9_feed 9 .iadd 1 10 := ⟨by decide +kernel, rfl⟩
theorem eX9_feed_10 : zD cX9_feed 10 (.sipush 300) 3 13 := ⟨by decide +kernel, rfl⟩
theorem eX9_feed_13 : zDj cX9_feed 13 (.if_icmp .le 5) 5 18 16 := ⟨by decide +kernel, rfl, by decide⟩
theorem eX9_feed_16 : zD cX9_feed 16 (.iconst (-1)) 1 17 := ⟨by decide +kernel, rfl⟩
theorem eX9_feed_17 : zD cX9_feed 17 .ireturn 1 18 := ⟨by decide +kernel, rfl⟩
theorem eX9_feed_18 : zD cX9_feed 18 (.aload_n 0) 1 19 := ⟨by decide +kernel, rfl⟩
theorem eX9_feed_19 : zD cX9_feed 19 (.getfield 28) 3 22 := ⟨by decide +kernel, rfl⟩
theorem eX9_feed_22 : zD cX9_feed 22 (.iload_n 1) 1 23 := ⟨by decide +kernel, rfl⟩
theorem eX9_feed_23 : zD cX9_feed 23 (.invokevirtual 145) 3 26 := ⟨by decide +kernel, rfl⟩
theorem eX9_feed_26 : zD cX9_feed 26 (.aload_n 0) 1 27 := ⟨by decide +kernel, rfl⟩
theorem eX9_feed_27 : zD cX9_feed 27 (.getfield 28) 3 30 := ⟨by decide +kernel, rfl⟩
theorem eX9_feed_30 : zD cX9_feed 30 (.iload_n 2) 1 31 := ⟨by decide +kernel, rfl⟩
theorem eX9_feed_31 : zD cX9_feed 31 (.invokevirtual 145) 3 34 := ⟨by decide +kernel, rfl⟩
theorem eX9_feed_34 : zD cX9_feed 34 (.aload_n 0) 1 35 := ⟨by decide +kernel, rfl⟩
theorem eX9_feed_35 : zD cX9_feed 35 (.getfield 28) 3 38 := ⟨by decide +kernel, rfl⟩
theorem eX9_feed_38 : zD cX9_feed 38 (.iload_n 3) 1 39 := ⟨by decide +kernel, rfl⟩
theorem eX9_feed_39 : zD cX9_feed 39 (.invokevirtual 145) 3 42 := ⟨by decide +kernel, rfl⟩
theorem eX9_feed_42 : zD cX9_feed 42 (.aload_n 0) 1 43 := ⟨by decide +kernel, rfl⟩
theorem eX9_feed_43 : zD cX9_feed 43 (.getfield 28) 3 46 := ⟨by decide +kernel, rfl⟩
theorem eX9_feed_46 : zD cX9_feed 46 (.iload 4) 2 48 := ⟨by decide +kernel, rfl⟩
theorem eX9_feed_48 : zD cX9_feed 48 (.invokevirtual 145) 3 51 := ⟨by decide +kernel, rfl⟩
theorem eX9_feed_51 : zD cX9_feed 51 (.aload_n 0) 1 52 := ⟨by decide +kernel, rfl⟩
theorem eX9_feed_52 : zD cX9_feed 52 (.getfield 28) 3 55 := ⟨by decide +kernel, rfl⟩
theorem eX9_feed_55 : zD cX9_feed 55 (.iload 5) 2 57 := ⟨by decide +kernel, rfl⟩
theorem eX9_feed_57 : zD cX9_feed 57 (.invokevirtual 145) 3 60 := ⟨by decide +kernel, rfl⟩
theorem eX9_feed_60 : zD cX9_feed 60 (.aload_n 0) 1 61 := ⟨by decide +kernel, rfl⟩
theorem eX9_feed_61 : zD cX9_feed 61 (.getfield 28) 3 64 := ⟨by decide +kernel, rfl⟩
theorem eX9_feed_64 : zD cX9_feed 64 (.getfield 142) 3 67 := ⟨by decide +kernel, rfl⟩
theorem eX9_feed_67 : zD cX9_feed 67 .ireturn 1 68 := ⟨by decide +kernel, rfl⟩
theorem eX9_end_0 : zD cX9_end 0 (.iload_n 1) 1 1 := ⟨by decide +kernel, rfl⟩
theorem eX9_end_1 : zDj cX9_end 1 (.ifCond .lt 14) 14 15 4 := ⟨by decide +kernel, rfl, by decide⟩
theorem eX9_end_4 : zD cX9_end 4 (.iload_n 1) 1 5 := ⟨by decide +kernel, rfl⟩
theorem eX9_end_5 : zD cX9_end 5 (.aload_n 0) 1 6 := ⟨by decide +kernel, rfl⟩
theorem eX9_end_6 : zD cX9_end 6 (.getfield 28) 3 9 := ⟨by decide +kernel, rfl⟩
theorem eX9_end_9 : zD cX9_end 9 (.getfield 142) 3 12 := ⟨by decide +kernel, rfl⟩
theorem eX9_end_12 : zDj cX9_end 12 (.if_icmp .le 5) 5 17 15 := ⟨by decide +kernel, rfl, by decide⟩
theorem eX9_end_15 : zD cX9_end 15 (.iconst (-1)) 1 16 := ⟨by decide +kernel, rfl⟩
theorem eX9_end_16 : zD cX9_end 16 .ireturn 1 17 := ⟨by decide +kernel, rfl⟩
theorem eX9_end_17 : zD cX9_end 17 (.aload_n 0) 1 18 := ⟨by decide +kernel, rfl⟩
theorem eX9_end_18 : zD cX9_end 18 (.getfield 28) 3 21 := ⟨by decide +kernel, rfl⟩
theorem eX9_end_21 : zD cX9_end 21 (.iload_n 1) 1 22 := ⟨by decide +kernel, rfl⟩
theorem eX9_end_22 : zD cX9_end 22 (.putfield 142) 3 25 := ⟨by decide +kernel, rfl⟩
theorem eX9_end_25 : zD cX9_end 25 (.iload_n 1) 1 26 := ⟨by decide +kernel, rfl⟩
theorem eX9_end_26 : zD cX9_end 26 .ireturn 1 27 := ⟨by decide +kernel, rfl⟩
theorem eX9_text_0 : zD cX9_text 0 (.aload_n 0) 1 1 := ⟨by decide +kernel, rfl⟩
theorem eX9_text_1 : zD cX9_text 1 (.getfield 10) 3 4 := ⟨by decide +kernel, rfl⟩
theorem eX9_text_4 : zD cX9_text 4 (.getfield 148) 3 7 := ⟨by decide +kernel, rfl⟩
theorem eX9_text_7 : zD cX9_text 7 (.bipush 6) 2 9 := ⟨by decide +kernel, rfl⟩
theorem eX9_text_9 : zDj cX9_text 9 (.if_icmp .lt 5) 5 14 12 := ⟨by decide +kernel, rfl, by decide⟩
theorem eX9_text_12 : zD cX9_text 12 (.iconst (-1)) 1 13 := ⟨by decide +kernel, rfl⟩
theorem eX9_text_13 : zD cX9_text 13 .ireturn 1 14 := ⟨by decide +kernel, rfl⟩
theorem eX9_text_14 : zD cX9_text 14 (.aload_n 0) 1 15 := ⟨by decide +kernel, rfl⟩
theorem eX9_text_15 : zD cX9_text 15 (.getfield 28) 3 18 := ⟨by decide +kernel, rfl⟩
theorem eX9_text_18 : zD cX9_text 18 (.aload_n 0) 1 19 := ⟨by decide +kernel, rfl⟩
theorem eX9_text_19 : zD cX9_text 19 (.getfield 21) 3 22 := ⟨by decide +kernel, rfl⟩
theorem eX9_text_22 : zD cX9_text 22 (.aload_n 0) 1 23 := ⟨by decide +kernel, rfl⟩
theorem eX9_text_23 : zD cX9_text 23 (.getfield 10) 3 26 := ⟨by decide +kernel, rfl⟩
theorem eX9_text_26 : zD cX9_text 26 (.getfield 148) 3 29 := ⟨by decide +kernel, rfl⟩
theorem eX9_text_29 : zD cX9_text 29 .aaload 1 30 := ⟨by decide +kernel, rfl⟩
theorem eX9_text_30 : zD cX9_text 30 (.invokevirtual 151) 3 33 := ⟨by decide +kernel, rfl⟩
theorem eX9_text_33 : zD cX9_text 33 (.aload_n 0) 1 34 := ⟨by decide +kernel, rfl⟩
theorem eX9_text_34 : zD cX9_text 34 (.getfield 28) 3 37 := ⟨by decide +kernel, rfl⟩
theorem eX9_text_37 : zD cX9_text 37 (.iconst 0) 1 38 := ⟨by decide +kernel, rfl⟩
theorem eX9_text_38 : zD cX9_text 38 (.putfield 142) 3 41 := ⟨by decide +kernel, rfl⟩
theorem eX9_text_41 : zD cX9_text 41 (.aload_n 0) 1 42 := ⟨by decide +kernel, rfl⟩
theorem eX9_text_42 : zD cX9_text 42 (.iconst 1) 1 43 := ⟨by decide +kernel, rfl⟩
theorem eX9_text_43 : zD cX9_text 43 (.putfield 76) 3 46 := ⟨by decide +kernel, rfl⟩
theorem eX9_text_46 : zD cX9_text 46 (.aload_n 0) 1 47 := ⟨by decide +kernel, rfl⟩
theorem eX9_text_47 : zD cX9_text 47 (.getfield 28) 3 50 := ⟨by decide +kernel, rfl⟩
theorem eX9_text_50 : zD cX9_text 50 (.getfield 155) 3 53 := ⟨by decide +kernel, rfl⟩
theorem eX9_text_53 : zDj cX9_text 53 (.ifCond .eq 5) 5 58 56 := ⟨by decide +kernel, rfl, by decide⟩
theorem eX9_text_56 : zD cX9_text 56 (.iconst (-1)) 1 57 := ⟨by decide +kernel, rfl⟩
theorem eX9_text_57 : zD cX9_text 57 .ireturn 1 58 := ⟨by decide +kernel, rfl⟩
theorem eX9_text_58 : zD cX9_text 58 (.aload_n 0) 1 59 := ⟨by decide +kernel, rfl⟩
theorem eX9_text_59 : zD cX9_text 59 (.getfield 10) 3 62 := ⟨by decide +kernel, rfl⟩
theorem eX9_text_62 : zD cX9_text 62 (.getfield 158) 3 65 := ⟨by decide +kernel, rfl⟩
theorem eX9_text_65 : zD cX9_text 65 (.aload_n 0) 1 66 := ⟨by decide +kernel, rfl⟩
theorem eX9_text_66 : zD cX9_text 66 (.getfield 10) 3 69 := ⟨by decide +kernel, rfl⟩
theorem eX9_text_69 : zD cX9_text 69 (.getfield 148) 3 72 := ⟨by decide +kernel, rfl⟩
theorem eX9_text_72 : zD cX9_text 72 (.iconst 1) 1 73 := ⟨by decide +kernel, rfl⟩
theorem eX9_text_73 : zD cX9_text 73 .iastore 1 74 := ⟨by decide +kernel, rfl⟩
theorem eX9_text_74 : zD cX9_text 74 (.aload_n 0) 1 75 := ⟨by decide +kernel, rfl⟩
theorem eX9_text_75 : zD cX9_text 75 (.getfield 10) 3 78 := ⟨by decide +kernel, rfl⟩
theorem eX9_text_78 : zD cX9_text 78 .dup 1 79 := ⟨by decide +kernel, rfl⟩
theorem eX9_text_79 : zD cX9_text 79 (.getfield 148) 3 82 := ⟨by decide +kernel, rfl⟩
theorem eX9_text_82 : zD cX9_text 82 (.iconst 1) 1 83 := ⟨by decide +kernel, rfl⟩
theorem eX9_text_83 : zD cX9_text 83 .iadd 1 84 := ⟨by decide +kernel, rfl⟩
theorem eX9_text_84 : zD cX9_text 84 (.putfield 148) 3 87 := ⟨by decide +kernel, rfl⟩
theorem eX9_text_87 : zD cX9_text 87 (.aload_n 0) 1 88 := ⟨by decide +kernel, rfl⟩
theorem eX9_text_88 : zD cX9_text 88 (.getfield 10) 3 91 := ⟨by decide +kernel, rfl⟩
theorem eX9_text_91 : zD cX9_text 91 (.getfield 148) 3 94 := ⟨by decide +kernel, rfl⟩
theorem eX9_text_94 : zD cX9_text 94 (.iconst 1) 1 95 := ⟨by decide +kernel, rfl⟩
theorem eX9_text_95 : zD cX9_text 95 .isub 1 96 := ⟨by decide +kernel, rfl⟩
theorem eX9_text_96 : zD cX9_text 96 .ireturn 1 97 := ⟨by decide +kernel, rfl⟩
theorem eX9_fault_0 : zD cX9_fault 0 (.aload_n 0) 1 1 := ⟨by decide +kernel, rfl⟩
theorem eX9_fault_1 : zD cX9_fault 1 (.getfield 76) 3 4 := ⟨by decide +kernel, rfl⟩
theorem eX9_fault_4 : zDj cX9_fault 4 (.ifCond .eq 12) 12 16 7 := ⟨by decide +kernel, rfl, by decide⟩
theorem eX9_fault_7 : zD cX9_fault 7 (.iload_n 1) 1 8 := ⟨by decide +kernel, rfl⟩
theorem eX9_fault_8 : zD cX9_fault 8 (.iconst 0) 1 9 := ⟨by decide +kernel, rfl⟩
theorem eX9_fault_9 : zD cX9_fault 9 (.iconst 1) 1 10 := ⟨by decide +kernel, rfl⟩
theorem eX9_fault_10 : zD cX9_fault 10 (.invokestatic 113) 3 13 := ⟨by decide +kernel, rfl⟩
theorem eX9_fault_13 : zDj cX9_fault 13 (.ifCond .ne 5) 5 18 16 := ⟨by decide +kernel, rfl, by decide⟩
theorem eX9_fault_16 : zD cX9_fault 16 (.iconst (-1)) 1 17 := ⟨by decide +kernel, rfl⟩
theorem eX9_fault_17 : zD cX9_fault 17 .ireturn 1 18 := ⟨by decide +kernel, rfl⟩
theorem eX9_fault_18 : zD cX9_fault 18 (.iload_n 1) 1 19 := ⟨by decide +kernel, rfl⟩
theorem eX9_fault_19 : zDj cX9_fault 19 (.ifCond .ne 13) 13 32 22 := ⟨by decide +kernel, rfl, by decide⟩
theorem eX9_fault_22 : zD cX9_fault 22 (.aload_n 0) 1 23 := ⟨by decide +kernel, rfl⟩
theorem eX9_fault_23 : zD cX9_fault 23 (.getfield 28) 3 26 := ⟨by decide +kernel, rfl⟩
theorem eX9_fault_26 : zD cX9_fault 26 (.getfield 155) 3 29 := ⟨by decide +kernel, rfl⟩
theorem eX9_fault_29 : zDj cX9_fault 29 (.goto 10) 10 39 32 := ⟨by decide +kernel, rfl, by decide⟩
theorem eX9_fault_32 : zD cX9_fault 32 (.aload_n 0) 1 33 := ⟨by decide +kernel, rfl⟩
theorem eX9_fault_33 : zD cX9_fault 33 (.getfield 28) 3 36 := ⟨by decide +kernel, rfl⟩
theorem eX9_fault_36 : zD cX9_fault 36 (.getfield 161) 3 39 := ⟨by decide +kernel, rfl⟩
theorem eX9_fault_39 : zD cX9_fault 39 .ireturn 1 40 := ⟨by decide +kernel, rfl⟩
theorem eX9_isText_0 : zD cX9_isText 0 (.iload_n 1) 1 1 := ⟨by decide +kernel, rfl⟩
theorem eX9_isText_1 : zD cX9_isText 1 (.iconst 0) 1 2 := ⟨by decide +kernel, rfl⟩
theorem eX9_isText_2 : zD cX9_isText 2 (.aload_n 0) 1 3 := ⟨by decide +kernel, rfl⟩
theorem eX9_isText_3 : zD cX9_isText 3 (.getfield 10) 3 6 := ⟨by decide +kernel, rfl⟩
theorem eX9_isText_6 : zD cX9_isText 6 (.getfield 148) 3 9 := ⟨by decide +kernel, rfl⟩
theorem eX9_isText_9 : zD cX9_isText 9 (.iconst 1) 1 10 := ⟨by decide +kernel, rfl⟩
theorem eX9_isText_10 : zD cX9_isText 10 .isub 1 11 := ⟨by decide +kernel, rfl⟩
theorem eX9_isText_11 : zD cX9_isText 11 (.invokestatic 113) 3 14 := ⟨by decide +kernel, rfl⟩
theorem eX9_isText_14 : zD cX9_isText 14 .ireturn 1 15 := ⟨by decide +kernel, rfl⟩
theorem eX9_price_0 : zD cX9_price 0 (.aload_n 0) 1 1 := ⟨by decide +kernel, rfl⟩
theorem eX9_price_1 : zD cX9_price 1 (.iload_n 1) 1 2 := ⟨by decide +kernel, rfl⟩
theorem eX9_price_2 : zD cX9_price 2 (.invokevirtual 164) 3 5 := ⟨by decide +kernel, rfl⟩
theorem eX9_price_5 : zDj cX9_price 5 (.ifCond .eq 10) 10 15 8 := ⟨by decide +kernel, rfl, by decide⟩
theorem eX9_price_8 : zD cX9_price 8 (.iload_n 2) 1 9 := ⟨by decide +kernel, rfl⟩
theorem eX9_price_9 : zD cX9_price 9 (.invokestatic 84) 3 12 := ⟨by decide +kernel, rfl⟩
theorem eX9_price_12 : zDj cX9_price 12 (.ifCond .ne 5) 5 17 15 := ⟨by decide +kernel, rfl, by decide⟩
theorem eX9_price_15 : zD cX9_price 15 (.iconst (-1)) 1 16 := ⟨by decide +kernel, rfl⟩
theorem eX9_price_16 : zD cX9_price 16 .ireturn 1 17 := ⟨by decide +kernel, rfl⟩
theorem eX9_price_17 : zD cX9_price 17 (.aload_n 0) 1 18 := ⟨by decide +kernel, rfl⟩
theorem eX9_price_18 : zD cX9_price 18 (.getfield 35) 3 21 := ⟨by decide +kernel, rfl⟩
theorem eX9_price_21 : zD cX9_price 21 (.aload_n 0) 1 22 := ⟨by decide +kernel, rfl⟩
theorem eX9_price_22 : zD cX9_price 22 (.getfield 10) 3 25 := ⟨by decide +kernel, rfl⟩
theorem eX9_price_25 : zD cX9_price 25 (.getfield 134) 3 28 := ⟨by decide +kernel, rfl⟩
theorem eX9_price_28 : zD cX9_price 28 (.iconst (-1)) 1 29 := ⟨by decide +kernel, rfl⟩
theorem eX9_price_29 : zD cX9_price 29 (.invokevirtual 167) 3 32 := ⟨by decide +kernel, rfl⟩
theorem eX9_price_32 : zD cX9_price 32 (.aload_n 0) 1 33 := ⟨by decide +kernel, rfl⟩
theorem eX9_price_33 : zD cX9_price 33 (.getfield 35) 3 36 := ⟨by decide +kernel, rfl⟩
theorem eX9_price_36 : zD cX9_price 36 (.aload_n 0) 1 37 := ⟨by decide +kernel, rfl⟩
theorem eX9_price_37 : zD cX9_price 37 (.getfield 21) 3 40 := ⟨by decide +kernel, rfl⟩
theorem eX9_price_40 : zD cX9_price 40 (.iload_n 1) 1 41 := ⟨by decide +kernel, rfl⟩
theorem eX9_price_41 : zD cX9_price 41 .aaload 1 42 := ⟨by decide +kernel, rfl⟩
theorem eX9_price_42 : zD cX9_price 42 (.aload_n 0) 1 43 := ⟨by decide +kernel, rfl⟩
theorem eX9_price_43 : zD cX9_price 43 (.getfield 10) 3 46 := ⟨by decide +kernel, rfl⟩
theorem eX9_price_46 : zD cX9_price 46 (.getfield 98) 3 49 := ⟨by decide +kernel, rfl⟩
theorem eX9_price_49 : zD cX9_price 49 (.iload_n 2) 1 50 := ⟨by decide +kernel, rfl⟩
theorem eX9_price_50 : zD cX9_price 50 (.iconst 4) 1 51 := ⟨by decide +kernel, rfl⟩
theorem eX9_price_51 : zD cX9_price 51 .imul 1 52 := ⟨by decide +kernel, rfl⟩
theorem eX9_price_52 : zD cX9_price 52 (.iconst 0) 1 53 := ⟨by decide +kernel, rfl⟩
theorem eX9_price_53 : zD cX9_price 53 (.invokevirtual 170) 3 56 := ⟨by decide +kernel, rfl⟩
theorem eX9_price_56 : zD cX9_price 56 (.aload_n 0) 1 57 := ⟨by decide +kernel, rfl⟩
theorem eX9_price_57 : zD cX9_price 57 (.getfield 35) 3 60 := ⟨by decide +kernel, rfl⟩
theorem eX9_price_60 : zD cX9_price 60 (.getfield 174) 3 63 := ⟨by decide +kernel, rfl⟩
theorem eX9_price_63 : zD cX9_price 63 .ireturn 1 64 := ⟨by decide +kernel, rfl⟩
theorem eX9_breaks_0 : zD cX9_breaks 0 (.aload_n 0) 1 1 := ⟨by decide +kernel, rfl⟩
theorem eX9_breaks_1 : zD cX9_breaks 1 (.iload_n 1) 1 2 := ⟨by decide +kernel, rfl⟩
theorem eX9_breaks_2 : zD cX9_breaks 2 (.invokevirtual 164) 3 5 := ⟨by decide +kernel, rfl⟩
theorem eX9_breaks_5 : zDj cX9_breaks 5 (.ifCond .eq 10) 10 15 8 := ⟨by decide +kernel, rfl, by decide⟩
theorem eX9_breaks_8 : zD cX9_breaks 8 (.iload_n 2) 1 9 := ⟨by decide +kernel, rfl⟩
theorem eX9_breaks_9 : zD cX9_breaks 9 (.invokestatic 84) 3 12 := ⟨by decide +kernel, rfl⟩
theorem eX9_breaks_12 : zDj cX9_breaks 12 (.ifCond .ne 5) 5 17 15 := ⟨by decide +kernel, rfl, by decide⟩
theorem eX9_breaks_15 : zD cX9_breaks 15 (.iconst (-1)) 1 16 := ⟨by decide +kernel, rfl⟩
theorem eX9_breaks_16 : zD cX9_breaks 16 .ireturn 1 17 := ⟨by decide +kernel, rfl⟩
theorem eX9_breaks_17 : zD cX9_breaks 17 (.aload_n 0) 1 18 := ⟨by decide +kernel, rfl⟩
theorem eX9_breaks_18 : zD cX9_breaks 18 (.getfield 35) 3 21 := ⟨by decide +kernel, rfl⟩
theorem eX9_breaks_21 : zD cX9_breaks 21 (.aload_n 0) 1 22 := ⟨by decide +kernel, rfl⟩
theorem eX9_breaks_22 : zD cX9_breaks 22 (.getfield 10) 3 25 := ⟨by decide +kernel, rfl⟩
theorem eX9_breaks_25 : zD cX9_breaks 25 (.getfield 134) 3 28 := ⟨by decide +kernel, rfl⟩
theorem eX9_breaks_28 : zD cX9_breaks 28 (.iload_n 3) 1 29 := ⟨by decide +kernel, rfl⟩
theorem eX9_breaks_29 : zD cX9_breaks 29 (.invokevirtual 167) 3 32 := ⟨by decide +kernel, rfl⟩
theorem eX9_breaks_32 : zD cX9_breaks 32 (.aload_n 0) 1 33 := ⟨by decide +kernel, rfl⟩
theorem eX9_breaks_33 : zD cX9_breaks 33 (.getfield 35) 3 36 := ⟨by decide +kernel, rfl⟩
theorem eX9_breaks_36 : zD cX9_breaks 36 (.aload_n 0) 1 37 := ⟨by decide +kernel, rfl⟩
theorem eX9_breaks_37 : zD cX9_breaks 37 (.getfield 21) 3 40 := ⟨by decide +kernel, rfl⟩
theorem eX9_breaks_40 : zD cX9_breaks 40 (.iload_n 1) 1 41 := ⟨by decide +kernel, rfl⟩
theorem eX9_breaks_41 : zD cX9_breaks 41 .aaload 1 42 := ⟨by decide +kernel, rfl⟩
theorem eX9_breaks_42 : zD cX9_breaks 42 (.aload_n 0) 1 43 := ⟨by decide +kernel, rfl⟩
theorem eX9_breaks_43 : zD cX9_breaks 43 (.getfield 10) 3 46 := ⟨by decide +kernel, rfl⟩
theorem eX9_breaks_46 : zD cX9_breaks 46 (.getfield 98) 3 49 := ⟨by decide +kernel, rfl⟩
theorem eX9_breaks_49 : zD cX9_breaks 49 (.iload_n 2) 1 50 := ⟨by decide +kernel, rfl⟩
theorem eX9_breaks_50 : zD cX9_breaks 50 (.iconst 4) 1 51 := ⟨by decide +kernel, rfl⟩
theorem eX9_breaks_51 : zD cX9_breaks 51 .imul 1 52 := ⟨by decide +kernel, rfl⟩
theorem eX9_breaks_52 : zD cX9_breaks 52 (.iconst 0) 1 53 := ⟨by decide +kernel, rfl⟩
theorem eX9_breaks_53 : zD cX9_breaks 53 (.invokevirtual 170) 3 56 := ⟨by decide +kernel, rfl⟩
theorem eX9_breaks_56 : zD cX9_breaks 56 (.iload_n 3) 1 57 := ⟨by decide +kernel, rfl⟩
theorem eX9_breaks_57 : zD cX9_breaks 57 (.iconst (-1)) 1 58 := ⟨by decide +kernel, rfl⟩
theorem eX9_breaks_58 : zDj cX9_breaks 58 (.if_icmp .ne 11) 11 69 61 := ⟨by decide +kernel, rfl, by decide⟩
theorem eX9_breaks_61 : zD cX9_breaks 61 (.aload_n 0) 1 62 := ⟨by decide +kernel, rfl⟩
theorem eX9_breaks_62 : zD cX9_breaks 62 (.getfield 35) 3 65 := ⟨by decide +kernel, rfl⟩
theorem eX9_breaks_65 : zD cX9_breaks 65 (.getfield 177) 3 68 := ⟨by decide +kernel, rfl⟩
theorem eX9_breaks_68 : zD cX9_breaks 68 .ireturn 1 69 := ⟨by decide +kernel, rfl⟩
theorem eX9_breaks_69 : zD cX9_breaks 69 (.iload_n 3) 1 70 := ⟨by decide +kernel, rfl⟩
theorem eX9_breaks_70 : zDj cX9_breaks 70 (.ifCond .lt 24) 24 94 73 := ⟨by decide +kernel, rfl, by decide⟩
theorem eX9_breaks_73 : zD cX9_breaks 73 (.iload_n 3) 1 74 := ⟨by decide +kernel, rfl⟩
theorem eX9_breaks_74 : zD cX9_breaks 74 (.aload_n 0) 1 75 := ⟨by decide +kernel, rfl⟩
theorem eX9_breaks_75 : zD cX9_breaks 75 (.getfield 35) 3 78 := ⟨by decide +kernel, rfl⟩
theorem eX9_breaks_78 : zD cX9_breaks 78 (.getfield 177) 3 81 := ⟨by decide +kernel, rfl⟩
theorem eX9_breaks_81 : zDj cX9_breaks 81 (.if_icmp .ge 13) 13 94 84 := ⟨by decide +kernel, rfl, by decide⟩
theorem eX9_breaks_84 : zD cX9_breaks 84 (.iload 4) 2 86 := ⟨by decide +kernel, rfl⟩
theorem eX9_breaks_86 : zD cX9_breaks 86 (.iconst 0) 1 87 := ⟨by decide +kernel, rfl⟩
theorem eX9_breaks_87 : zD cX9_breaks 87 (.iconst 4) 1 88 := ⟨by decide +kernel, rfl⟩
theorem eX9_breaks_88 : zD cX9_breaks 88 (.invokestatic 113) 3 91 := ⟨by decide +kernel, rfl⟩
theorem eX9_breaks_91 : zDj cX9_breaks 91 (.ifCond .ne 5) 5 96 94 := ⟨by decide +kernel, rfl, by decide⟩
theorem eX9_breaks_94 : zD cX9_breaks 94 (.iconst (-1)) 1 95 := ⟨by decide +kernel, rfl⟩
theorem eX9_breaks_95 : zD cX9_breaks 95 .ireturn 1 96 := ⟨by decide +kernel, rfl⟩
theorem eX9_breaks_96 : zD cX9_breaks 96 (.aload_n 0) 1 97 := ⟨by decide +kernel, rfl⟩
theorem eX9_breaks_97 : zD cX9_breaks 97 (.getfield 35) 3 100 := ⟨by decide +kernel, rfl⟩
theorem eX9_breaks_100 : zD cX9_breaks 100 (.getfield 180) 3 103 := ⟨by decide +kernel, rfl⟩
theorem eX9_breaks_103 : zD cX9_breaks 103 (.iload 4) 2 105 := ⟨by decide +kernel, rfl⟩
theorem eX9_breaks_105 : zD cX9_breaks 105 .iaload 1 106 := ⟨by decide +kernel, rfl⟩
theorem eX9_breaks_106 : zD cX9_breaks 106 .ireturn 1 107 := ⟨by decide +kernel, rfl⟩
theorem eX9_hasNotes_0 : zD cX9_hasNotes 0 (.iload_n 1) 1 1 := ⟨by decide +kernel, rfl⟩
theorem eX9_hasNotes_1 : zD cX9_hasNotes 1 (.invokestatic 124) 3 4 := ⟨by decide +kernel, rfl⟩
theorem eX9_hasNotes_4 : zDj cX9_hasNotes 4 (.ifCond .eq 22) 22 26 7 := ⟨by decide +kernel, rfl, by decide⟩
theorem eX9_hasNotes_7 : zD cX9_hasNotes 7 (.aload_n 0) 1 8 := ⟨by decide +kernel, rfl⟩
theorem eX9_hasNotes_8 : zD cX9_hasNotes 8 (.getfield 10) 3 11 := ⟨by decide +kernel, rfl⟩
theorem eX9_hasNotes_11 : zD cX9_hasNotes 11 (.getfield 127) 3 14 := ⟨by decide +kernel, rfl⟩
theorem eX9_hasNotes_14 : zD cX9_hasNotes 14 (.iload_n 1) 1 15 := ⟨by decide +kernel, rfl⟩
theorem eX9_hasNotes_15 : zD cX9_hasNotes 15 .aaload 1 16 := ⟨by decide +kernel, rfl⟩
theorem eX9_hasNotes_16 : zD cX9_hasNotes 16 (.invokevirtual 130) 3 19 := ⟨by decide +kernel, rfl⟩
theorem eX9_hasNotes_19 : zDj cX9_hasNotes 19 (.ifCond .le 7) 7 26 22 := ⟨by decide +kernel, rfl, by decide⟩
theorem eX9_hasNotes_22 : zD cX9_hasNotes 22 (.iconst 1) 1 23 := ⟨by decide +kernel, rfl⟩
theorem eX9_hasNotes_23 : zDj cX9_hasNotes 23 (.goto 4) 4 27 26 := ⟨by decide +kernel, rfl, by decide⟩
theorem eX9_hasNotes_26 : zD cX9_hasNotes 26 (.iconst 0) 1 27 := ⟨by decide +kernel, rfl⟩
theorem eX9_hasNotes_27 : zD cX9_hasNotes 27 .ireturn 1 28 := ⟨by decide +kernel, rfl⟩
theorem eX9_fit_0 : zD cX9_fit 0 (.aload_n 0) 1 1 := ⟨by decide +kernel, rfl⟩
theorem eX9_fit_1 : zD cX9_fit 1 (.iload_n 1) 1 2 := ⟨by decide +kernel, rfl⟩
theorem eX9_fit_2 : zD cX9_fit 2 (.invokevirtual 164) 3 5 := ⟨by decide +kernel, rfl⟩
theorem eX9_fit_5 : zDj cX9_fit 5 (.ifCond .eq 19) 19 24 8 := ⟨by decide +kernel, rfl, by decide⟩
theorem eX9_fit_8 : zD cX9_fit 8 (.aload_n 0) 1 9 := ⟨by decide +kernel, rfl⟩
theorem eX9_fit_9 : zD cX9_fit 9 (.iload_n 2) 1 10 := ⟨by decide +kernel, rfl⟩
theorem eX9_fit_10 : zD cX9_fit 10 (.invokevirtual 183) 3 13 := ⟨by decide +kernel, rfl⟩
theorem eX9_fit_13 : zDj cX9_fit 13 (.ifCond .eq 11) 11 24 16 := ⟨by decide +kernel, rfl, by decide⟩
theorem eX9_fit_16 : zD cX9_fit 16 (.aload_n 0) 1 17 := ⟨by decide +kernel, rfl⟩
theorem eX9_fit_17 : zD cX9_fit 17 (.iload_n 3) 1 18 := ⟨by decide +kernel, rfl⟩
theorem eX9_fit_18 : zD cX9_fit 18 (.invokevirtual 183) 3 21 := ⟨by decide +kernel, rfl⟩
theorem eX9_fit_21 : zDj cX9_fit 21 (.ifCond .ne 5) 5 26 24 := ⟨by decide +kernel, rfl, by decide⟩
theorem eX9_fit_24 : zD cX9_fit 24 (.iconst (-1)) 1 25 := ⟨by decide +kernel, rfl⟩
theorem eX9_fit_25 : zD cX9_fit 25 .ireturn 1 26 := ⟨by decide +kernel, rfl⟩
theorem eX9_fit_26 : zD cX9_fit 26 (.iload 4) 2 28 := ⟨by decide +kernel, rfl⟩
theorem eX9_fit_28 : zD cX9_fit 28 (.bipush (-12)) 2 30 := ⟨by decide +kernel, rfl⟩
theorem eX9_fit_30 : zD cX9_fit 30 (.bipush 12) 2 32 := ⟨by decide +kernel, rfl⟩
theorem eX9_fit_32 : zD cX9_fit 32 (.invokestatic 113) 3 35 := ⟨by decide +kernel, rfl⟩
theorem eX9_fit_35 : zDj cX9_fit 35 (.ifCond .eq 24) 24 59 38 := ⟨by decide +kernel, rfl, by decide⟩
theorem eX9_fit_38 : zD cX9_fit 38 (.iload 5) 2 40 := ⟨by decide +kernel, rfl⟩
theorem eX9_fit_40 : zD cX9_fit 40 (.iconst 0) 1 41 := ⟨by decide +kernel, rfl⟩
theorem eX9_fit_41 : zD cX9_fit 41 (.bipush 8) 2 43 := ⟨by decide +kernel, rfl⟩
theorem eX9_fit_43 : zD cX9_fit 43 (.invokestatic 113) 3 46 := ⟨by decide +kernel, rfl⟩
theorem eX9_fit_46 : zDj cX9_fit 46 (.ifCond .eq 13) 13 59 49 := ⟨by decide +kernel, rfl, by decide⟩
theorem eX9_fit_49 : zD cX9_fit 49 (.iload 7) 2 51 := ⟨by decide +kernel, rfl⟩
theorem eX9_fit_51 : zD cX9_fit 51 (.iconst 1) 1 52 := ⟨by decide +kernel, rfl⟩
theorem eX9_fit_52 : zD cX9_fit 52 (.iconst 2) 1 53 := ⟨by decide +kernel, rfl⟩
theorem eX9_fit_53 : zD cX9_fit 53 (.invokestatic 113) 3 56 := ⟨by decide +kernel, rfl⟩
theorem eX9_fit_56 : zDj cX9_fit 56 (.ifCond .ne 5) 5 61 59 := ⟨by decide +kernel, rfl, by decide⟩
theorem eX9_fit_59 : zD cX9_fit 59 (.iconst (-1)) 1 60 := ⟨by decide +kernel, rfl⟩
theorem eX9_fit_60 : zD cX9_fit 60 .ireturn 1 61 := ⟨by decide +kernel, rfl⟩
theorem eX9_fit_61 : zD cX9_fit 61 (.aload_n 0) 1 62 := ⟨by decide +kernel, rfl⟩
theorem eX9_fit_62 : zD cX9_fit 62 (.getfield 42) 3 65 := ⟨by decide +kernel, rfl⟩
theorem eX9_fit_65 : zD cX9_fit 65 (.aload_n 0) 1 66 := ⟨by decide +kernel, rfl⟩
theorem eX9_fit_66 : zD cX9_fit 66 (.getfield 21) 3 69 := ⟨by decide +kernel, rfl⟩
theorem eX9_fit_69 : zD cX9_fit 69 (.iload_n 1) 1 70 := ⟨by decide +kernel, rfl⟩
theorem eX9_fit_70 : zD cX9_fit 70 .aaload 1 71 := ⟨by decide +kernel, rfl⟩
theorem eX9_fit_71 : zD cX9_fit 71 (.aload_n 0) 1 72 := ⟨by decide +kernel, rfl⟩
theorem eX9_fit_72 : zD cX9_fit 72 (.getfield 10) 3 75 := ⟨by decide +kernel, rfl⟩
theorem eX9_fit_75 : zD cX9_fit 75 (.getfield 134) 3 78 := ⟨by decide +kernel, rfl⟩
theorem eX9_fit_78 : zD cX9_fit 78 (.aload_n 0) 1 79 := ⟨by decide +kernel, rfl⟩
theorem eX9_fit_79 : zD cX9_fit 79 (.getfield 10) 3 82 := ⟨by decide +kernel, rfl⟩
theorem eX9_fit_82 : zD cX9_fit 82 (.getfield 127) 3 85 := ⟨by decide +kernel, rfl⟩
theorem eX9_fit_85 : zD cX9_fit 85 (.iload_n 2) 1 86 := ⟨by decide +kernel, rfl⟩
theorem eX9_fit_86 : zD cX9_fit 86 .aaload 1 87 := ⟨by decide +kernel, rfl⟩
theorem eX9_fit_87 : zD cX9_fit 87 (.invokevirtual 186) 3 90 := ⟨by decide +kernel, rfl⟩
theorem eX9_fit_90 : zD cX9_fit 90 (.iload 7) 2 92 := ⟨by decide +kernel, rfl⟩
theorem eX9_fit_92 : zD cX9_fit 92 (.iconst 1) 1 93 := ⟨by decide +kernel, rfl⟩
theorem eX9_fit_93 : zD cX9_fit 93 .isub 1 94 := ⟨by decide +kernel, rfl⟩
theorem eX9_fit_94 : zD cX9_fit 94 (.sipush 450) 3 97 := ⟨by decide +kernel, rfl⟩
theorem eX9_fit_97 : zD cX9_fit 97 .imul 1 98 := ⟨by decide +kernel, rfl⟩
theorem eX9_fit_98 : zD cX9_fit 98 (.iload 6) 2 100 := ⟨by decide +kernel, rfl⟩
theorem eX9_fit_100 : zDj cX9_fit 100 (.ifCond .eq 9) 9 109 103 := ⟨by decide +kernel, rfl, by decide⟩
theorem eX9_fit_103 : zD cX9_fit 103 (.sipush 225) 3 106 := ⟨by decide +kernel, rfl⟩
theorem eX9_fit_106 : zDj cX9_fit 106 (.goto 4) 4 110 109 := ⟨by decide +kernel, rfl, by decide⟩
theorem eX9_fit_109 : zD cX9_fit 109 (.iconst 0) 1 110 := ⟨by decide +kernel, rfl⟩
theorem eX9_fit_110 : zD cX9_fit 110 .iadd 1 111 := ⟨by decide +kernel, rfl⟩
theorem eX9_fit_111 : zD cX9_fit 111 (.iload 5) 2 113 := ⟨by decide +kernel, rfl⟩
theorem eX9_fit_113 : zD cX9_fit 113 (.bipush 25) 2 115 := ⟨by decide +kernel, rfl⟩
theorem eX9_fit_115 : zD cX9_fit 115 .imul 1 116 := ⟨by decide +kernel, rfl⟩
theorem eX9_fit_116 : zD cX9_fit 116 .iadd 1 117 := ⟨by decide +kernel, rfl⟩
theorem eX9_fit_117 : zD cX9_fit 117 (.iload 4) 2 119 := ⟨by decide +kernel, rfl⟩
theorem eX9_fit_119 : zD cX9_fit 119 .iadd 1 120 := ⟨by decide +kernel, rfl⟩
theorem eX9_fit_120 : zD cX9_fit 120 (.bipush 12) 2 122 := ⟨by decide +kernel, rfl⟩
theorem eX9_fit_122 : zD cX9_fit 122 .iadd 1 123 := ⟨by decide +kernel, rfl⟩
theorem eX9_fit_123 : zD cX9_fit 123 (.istore 8) 2 125 := ⟨by decide +kernel, rfl⟩
theorem eX9_fit_125 : zD cX9_fit 125 (.aload_n 0) 1 126 := ⟨by decide +kernel, rfl⟩
theorem eX9_fit_126 : zD cX9_fit 126 (.getfield 42) 3 129 := ⟨by decide +kernel, rfl⟩
theorem eX9_fit_129 : zD cX9_fit 129 (.aload_n 0) 1 130 := ⟨by decide +kernel, rfl⟩
theorem eX9_fit_130 : zD cX9_fit 130 (.getfield 21) 3 133 := ⟨by decide +kernel, rfl⟩
theorem eX9_fit_133 : zD cX9_fit 133 (.iload_n 1) 1 134 := ⟨by decide +kernel, rfl⟩
theorem eX9_fit_134 : zD cX9_fit 134 .aaload 1 135 := ⟨by decide +kernel, rfl⟩
theorem eX9_fit_135 : zD cX9_fit 135 (.aload_n 0) 1 136 := ⟨by decide +kernel, rfl⟩
theorem eX9_fit_136 : zD cX9_fit 136 (.getfield 10) 3 139 := ⟨by decide +kernel, rfl⟩
theorem eX9_fit_139 : zD cX9_fit 139 (.getfield 127) 3 142 := ⟨by decide +kernel, rfl⟩
theorem eX9_fit_142 : zD cX9_fit 142 (.iload_n 3) 1 143 := ⟨by decide +kernel, rfl⟩
theorem eX9_fit_143 : zD cX9_fit 143 .aaload 1 144 := ⟨by decide +kernel, rfl⟩
theorem eX9_fit_144 : zD cX9_fit 144 (.iload 8) 2 146 := ⟨by decide +kernel, rfl⟩
theorem eX9_fit_146 : zD cX9_fit 146 (.ldc 189) 2 148 := ⟨by decide +kernel, rfl⟩
theorem eX9_fit_148 : zD cX9_fit 148 (.invokevirtual 190) 3 151 := ⟨by decide +kernel, rfl⟩
theorem eX9_fit_151 : zD cX9_fit 151 .ireturn 1 152 := ⟨by decide +kernel, rfl⟩
theorem eX9_fits_0 : zD cX9_fits 0 (.aload_n 0) 1 1 := ⟨by decide +kernel, rfl⟩
theorem eX9_fits_1 : zD cX9_fits 1 (.iload_n 1) 1 2 := ⟨by decide +kernel, rfl⟩
theorem eX9_fits_2 : zD cX9_fits 2 (.invokevirtual 164) 3 5 := ⟨by decide +kernel, rfl⟩
theorem eX9_fits_5 : zDj cX9_fits 5 (.ifCond .eq 36) 36 41 8 := ⟨by decide +kernel, rfl, by decide⟩
theorem eX9_fits_8 : zD cX9_fits 8 (.aload_n 0) 1 9 := ⟨by decide +kernel, rfl⟩
theorem eX9_fits_9 : zD cX9_fits 9 (.iload_n 2) 1 10 := ⟨by decide +kernel, rfl⟩
theorem eX9_fits_10 : zD cX9_fits 10 (.invokevirtual 183) 3 13 := ⟨by decide +kernel, rfl⟩
theorem eX9_fits_13 : zDj cX9_fits 13 (.ifCond .eq 28) 28 41 16 := ⟨by decide +kernel, rfl, by decide⟩
theorem eX9_fits_16 : zD cX9_fits 16 (.aload_n 0) 1 17 := ⟨by decide +kernel, rfl⟩
theorem eX9_fits_17 : zD cX9_fits 17 (.iload_n 3) 1 18 := ⟨by decide +kernel, rfl⟩
theorem eX9_fits_18 : zD cX9_fits 18 (.invokevirtual 183) 3 21 := ⟨by decide +kernel, rfl⟩
theorem eX9_fits_21 : zDj cX9_fits 21 (.ifCond .eq 20) 20 41 24 := ⟨by decide +kernel, rfl, by decide⟩
theorem eX9_fits_24 : zD cX9_fits 24 (.iload 4) 2 26 := ⟨by decide +kernel, rfl⟩
theorem eX9_fits_26 : zD cX9_fits 26 (.iconst 0) 1 27 := ⟨by decide +kernel, rfl⟩
theorem eX9_fits_27 : zD cX9_fits 27 (.ldc 194) 2 29 := ⟨by decide +kernel, rfl⟩
theorem eX9_fits_29 : zD cX9_fits 29 (.invokestatic 113) 3 32 := ⟨by decide +kernel, rfl⟩
theorem eX9_fits_32 : zDj cX9_fits 32 (.ifCond .eq 9) 9 41 35 := ⟨by decide +kernel, rfl, by decide⟩
theorem eX9_fits_35 : zD cX9_fits 35 (.iload 5) 2 37 := ⟨by decide +kernel, rfl⟩
theorem eX9_fits_37 : zD cX9_fits 37 (.iconst (-1)) 1 38 := ⟨by decide +kernel, rfl⟩
theorem eX9_fits_38 : zDj cX9_fits 38 (.if_icmp .ge 5) 5 43 41 := ⟨by decide +kernel, rfl, by decide⟩
theorem eX9_fits_41 : zD cX9_fits 41 (.iconst (-1)) 1 42 := ⟨by decide +kernel, rfl⟩
theorem eX9_fits_42 : zD cX9_fits 42 .ireturn 1 43 := ⟨by decide +kernel, rfl⟩
theorem eX9_fits_43 : zD cX9_fits 43 (.aload_n 0) 1 44 := ⟨by decide +kernel, rfl⟩
theorem eX9_fits_44 : zD cX9_fits 44 (.getfield 42) 3 47 := ⟨by decide +kernel, rfl⟩
theorem eX9_fits_47 : zD cX9_fits 47 (.aload_n 0) 1 48 := ⟨by decide +kernel, rfl⟩
theorem eX9_fits_48 : zD cX9_fits 48 (.getfield 21) 3 51 := ⟨by decide +kernel, rfl⟩
theorem eX9_fits_51 : zD cX9_fits 51 (.iload_n 1) 1 52 := ⟨by decide +kernel, rfl⟩
theorem eX9_fits_52 : zD cX9_fits 52 .aaload 1 53 := ⟨by decide +kernel, rfl⟩
theorem eX9_fits_53 : zD cX9_fits 53 (.aload_n 0) 1 54 := ⟨by decide +kernel, rfl⟩
theorem eX9_fits_54 : zD cX9_fits 54 (.getfield 10) 3 57 := ⟨by decide +kernel, rfl⟩
theorem eX9_fits_57 : zD cX9_fits 57 (.getfield 134) 3 60 := ⟨by decide +kernel, rfl⟩
theorem eX9_fits_60 : zD cX9_fits 60 (.aload_n 0) 1 61 := ⟨by decide +kernel, rfl⟩
theorem eX9_fits_61 : zD cX9_fits 61 (.getfield 10) 3 64 := ⟨by decide +kernel, rfl⟩
theorem eX9_fits_64 : zD cX9_fits 64 (.getfield 127) 3 67 := ⟨by decide +kernel, rfl⟩
theorem eX9_fits_67 : zD cX9_fits 67 (.iload_n 2) 1 68 := ⟨by decide +kernel, rfl⟩
theorem eX9_fits_68 : zD cX9_fits 68 .aaload 1 69 := ⟨by decide +kernel, rfl⟩
theorem eX9_fits_69 : zD cX9_fits 69 (.invokevirtual 186) 3 72 := ⟨by decide +kernel, rfl⟩
theorem eX9_fits_72 : zD cX9_fits 72 (.iconst 0) 1 73 := ⟨by decide +kernel, rfl⟩
theorem eX9_fits_73 : zD cX9_fits 73 (.istore 6) 2 75 := ⟨by decide +kernel, rfl⟩
theorem eX9_fits_75 : zD cX9_fits 75 (.iconst 0) 1 76 := ⟨by decide +kernel, rfl⟩
theorem eX9_fits_76 : zD cX9_fits 76 (.istore 7) 2 78 := ⟨by decide +kernel, rfl⟩
theorem eX9_fits_78 : zD cX9_fits 78 (.iload 7) 2 80 := ⟨by decide +kernel, rfl⟩
theorem eX9_fits_80 : zD cX9_fits 80 (.sipush 900) 3 83 := ⟨by decide +kernel, rfl⟩
theorem eX9_fits_83 : zDj cX9_fits 83 (.if_icmp .ge 59) 59 142 86 := ⟨by decide +kernel, rfl, by decide⟩
theorem eX9_fits_86 : zD cX9_fits 86 (.aload_n 0) 1 87 := ⟨by decide +kernel, rfl⟩
theorem eX9_fits_87 : zD cX9_fits 87 (.getfield 42) 3 90 := ⟨by decide +kernel, rfl⟩
theorem eX9_fits_90 : zD cX9_fits 90 (.aload_n 0) 1 91 := ⟨by decide +kernel, rfl⟩
theorem eX9_fits_91 : zD cX9_fits 91 (.getfield 21) 3 94 := ⟨by decide +kernel, rfl⟩
theorem eX9_fits_94 : zD cX9_fits 94 (.iload_n 1) 1 95 := ⟨by decide +kernel, rfl⟩
theorem eX9_fits_95 : zD cX9_fits 95 .aaload 1 96 := ⟨by decide +kernel, rfl⟩
theorem eX9_fits_96 : zD cX9_fits 96 (.aload_n 0) 1 97 := ⟨by decide +kernel, rfl⟩
theorem eX9_fits_97 : zD cX9_fits 97 (.getfield 10) 3 100 := ⟨by decide +kernel, rfl⟩
theorem eX9_fits_100 : zD cX9_fits 100 (.getfield 127) 3 103 := ⟨by decide +kernel, rfl⟩
theorem eX9_fits_103 : zD cX9_fits 103 (.iload_n 3) 1 104 := ⟨by decide +kernel, rfl⟩
theorem eX9_fits_104 : zD cX9_fits 104 .aaload 1 105 := ⟨by decide +kernel, rfl⟩
theorem eX9_fits_105 : zD cX9_fits 105 (.iload 7) 2 107 := ⟨by decide +kernel, rfl⟩
theorem eX9_fits_107 : zD cX9_fits 107 (.iload 4) 2 109 := ⟨by decide +kernel, rfl⟩
theorem eX9_fits_109 : zD cX9_fits 109 (.invokevirtual 190) 3 112 := ⟨by decide +kernel, rfl⟩
theorem eX9_fits_112 : zD cX9_fits 112 (.iload 4) 2 114 := ⟨by decide +kernel, rfl⟩
theorem eX9_fits_114 : zDj cX9_fits 114 (.if_icmp .le 6) 6 120 117 := ⟨by decide +kernel, rfl, by decide⟩
theorem eX9_fits_117 : zDj cX9_fits 117 (.goto 19) 19 136 120 := ⟨by decide +kernel, rfl, by decide⟩
theorem eX9_fits_120 : zD cX9_fits 120 (.iload 6) 2 122 := ⟨by decide +kernel, rfl⟩
theorem eX9_fits_122 : zD cX9_fits 122 (.iload 5) 2 124 := ⟨by decide +kernel, rfl⟩
theorem eX9_fits_124 : zDj cX9_fits 124 (.if_icmp .ne 9) 9 133 127 := ⟨by decide +kernel, rfl, by decide⟩
theorem eX9_fits_127 : zD cX9_fits 127 (.iload 7) 2 129 := ⟨by decide +kernel, rfl⟩
theorem eX9_fits_129 : zD cX9_fits 129 (.invokestatic 195) 3 132 := ⟨by decide +kernel, rfl⟩
theorem eX9_fits_132 : zD cX9_fits 132 .ireturn 1 133 := ⟨by decide +kernel, rfl⟩
theorem eX9_fits_133 : zD cX9_fits 133 (.iinc 6 1) 3 136 := ⟨by decide +kernel, rfl⟩
theorem eX9_fits_136 : zD cX9_fits 136 (.iinc 7 1) 3 139 := ⟨by decide +kernel, rfl⟩
theorem eX9_fits_139 : zDj cX9_fits 139 (.goto (-61)) (-61) 78 142 := ⟨by decide +kernel, rfl, by decide⟩
theorem eX9_fits_142 : zD cX9_fits 142 (.iload 5) 2 144 := ⟨by decide +kernel, rfl⟩
theorem eX9_fits_144 : zD cX9_fits 144 (.iconst (-1)) 1 145 := ⟨by decide +kernel, rfl⟩
theorem eX9_fits_145 : zDj cX9_fits 145 (.if_icmp .ne 8) 8 153 148 := ⟨by decide +kernel, rfl, by decide⟩
theorem eX9_fits_148 : zD cX9_fits 148 (.iload 6) 2 150 := ⟨by decide +kernel, rfl⟩
theorem eX9_fits_150 : zDj cX9_fits 150 (.goto 4) 4 154 153 := ⟨by decide +kernel, rfl, by decide⟩
theorem eX9_fits_153 : zD cX9_fits 153 (.iconst (-1)) 1 154 := ⟨by decide +kernel, rfl⟩
theorem eX9_fits_154 : zD cX9_fits 154 .ireturn 1 155 := ⟨by decide +kernel, rfl⟩
theorem eX9_cheapest_0 : zD cX9_cheapest 0 (.aload_n 0) 1 1 := ⟨by decide +kernel, rfl⟩
theorem eX9_cheapest_1 : zD cX9_cheapest 1 (.iload_n 1) 1 2 := ⟨by decide +kernel, rfl⟩
theorem eX9_cheapest_2 : zD cX9_cheapest 2 (.invokevirtual 164) 3 5 := ⟨by decide +kernel, rfl⟩
theorem eX9_cheapest_5 : zDj cX9_cheapest 5 (.ifCond .eq 29) 29 34 8 := ⟨by decide +kernel, rfl, by decide⟩
theorem eX9_cheapest_8 : zD cX9_cheapest 8 (.aload_n 0) 1 9 := ⟨by decide +kernel, rfl⟩
theorem eX9_cheapest_9 : zD cX9_cheapest 9 (.iload_n 2) 1 10 := ⟨by decide +kernel, rfl⟩
theorem eX9_cheapest_10 : zD cX9_cheapest 10 (.invokevirtual 183) 3 13 := ⟨by decide +kernel, rfl⟩
theorem eX9_cheapest_13 : zDj cX9_cheapest 13 (.ifCond .eq 21) 21 34 16 := ⟨by decide +kernel, rfl, by decide⟩
theorem eX9_cheapest_16 : zD cX9_cheapest 16 (.aload_n 0) 1 17 := ⟨by decide +kernel, rfl⟩
theorem eX9_cheapest_17 : zD cX9_cheapest 17 (.iload_n 3) 1 18 := ⟨by decide +kernel, rfl⟩
theorem eX9_cheapest_18 : zD cX9_cheapest 18 (.invokevirtual 183) 3 21 := ⟨by decide +kernel, rfl⟩
theorem eX9_cheapest_21 : zDj cX9_cheapest 21 (.ifCond .eq 13) 13 34 24 := ⟨by decide +kernel, rfl, by decide⟩
theorem eX9_cheapest_24 : zD cX9_cheapest 24 (.iload 4) 2 26 := ⟨by decide +kernel, rfl⟩
theorem eX9_cheapest_26 : zD cX9_cheapest 26 (.iconst 0) 1 27 := ⟨by decide +kernel, rfl⟩
theorem eX9_cheapest_27 : zD cX9_cheapest 27 (.iconst 1) 1 28 := ⟨by decide +kernel, rfl⟩
theorem eX9_cheapest_28 : zD cX9_cheapest 28 (.invokestatic 113) 3 31 := ⟨by decide +kernel, rfl⟩
theorem eX9_cheapest_31 : zDj cX9_cheapest 31 (.ifCond .ne 5) 5 36 34 := ⟨by decide +kernel, rfl, by decide⟩
theorem eX9_cheapest_34 : zD cX9_cheapest 34 (.iconst (-1)) 1 35 := ⟨by decide +kernel, rfl⟩
theorem eX9_cheapest_35 : zD cX9_cheapest 35 .ireturn 1 36 := ⟨by decide +kernel, rfl⟩
theorem eX9_cheapest_36 : zD cX9_cheapest 36 (.aload_n 0) 1 37 := ⟨by decide +kernel, rfl⟩
theorem eX9_cheapest_37 : zD cX9_cheapest 37 (.getfield 42) 3 40 := ⟨by decide +kernel, rfl⟩
theorem eX9_cheapest_40 : zD cX9_cheapest 40 (.aload_n 0) 1 41 := ⟨by decide +kernel, rfl⟩
theorem eX9_cheapest_41 : zD cX9_cheapest 41 (.getfield 21) 3 44 := ⟨by decide +kernel, rfl⟩
theorem eX9_cheapest_44 : zD cX9_cheapest 44 (.iload_n 1) 1 45 := ⟨by decide +kernel, rfl⟩
theorem eX9_cheapest_45 : zD cX9_cheapest 45 .aaload 1 46 := ⟨by decide +kernel, rfl⟩
theorem eX9_cheapest_46 : zD cX9_cheapest 46 (.aload_n 0) 1 47 := ⟨by decide +kernel, rfl⟩
theorem eX9_cheapest_47 : zD cX9_cheapest 47 (.getfield 10) 3 50 := ⟨by decide +kernel, rfl⟩
theorem eX9_cheapest_50 : zD cX9_cheapest 50 (.getfield 134) 3 53 := ⟨by decide +kernel, rfl⟩
theorem eX9_cheapest_53 : zD cX9_cheapest 53 (.aload_n 0) 1 54 := ⟨by decide +kernel, rfl⟩
theorem eX9_cheapest_54 : zD cX9_cheapest 54 (.getfield 10) 3 57 := ⟨by decide +kernel, rfl⟩
theorem eX9_cheapest_57 : zD cX9_cheapest 57 (.getfield 127) 3 60 := ⟨by decide +kernel, rfl⟩
theorem eX9_cheapest_60 : zD cX9_cheapest 60 (.iload_n 2) 1 61 := ⟨by decide +kernel, rfl⟩
theorem eX9_cheapest_61 : zD cX9_cheapest 61 .aaload 1 62 := ⟨by decide +kernel, rfl⟩
theorem eX9_cheapest_62 : zD cX9_cheapest 62 (.invokevirtual 186) 3 65 := ⟨by decide +kernel, rfl⟩
theorem eX9_cheapest_65 : zD cX9_cheapest 65 (.aload_n 0) 1 66 := ⟨by decide +kernel, rfl⟩
theorem eX9_cheapest_66 : zD cX9_cheapest 66 (.getfield 42) 3 69 := ⟨by decide +kernel, rfl⟩
theorem eX9_cheapest_69 : zD cX9_cheapest 69 (.aload_n 0) 1 70 := ⟨by decide +kernel, rfl⟩
theorem eX9_cheapest_70 : zD cX9_cheapest 70 (.getfield 21) 3 73 := ⟨by decide +kernel, rfl⟩
theorem eX9_cheapest_73 : zD cX9_cheapest 73 (.iload_n 1) 1 74 := ⟨by decide +kernel, rfl⟩
theorem eX9_cheapest_74 : zD cX9_cheapest 74 .aaload 1 75 := ⟨by decide +kernel, rfl⟩
theorem eX9_cheapest_75 : zD cX9_cheapest 75 (.aload_n 0) 1 76 := ⟨by decide +kernel, rfl⟩
theorem eX9_cheapest_76 : zD cX9_cheapest 76 (.getfield 10) 3 79 := ⟨by decide +kernel, rfl⟩
theorem eX9_cheapest_79 : zD cX9_cheapest 79 (.getfield 127) 3 82 := ⟨by decide +kernel, rfl⟩
theorem eX9_cheapest_82 : zD cX9_cheapest 82 (.iload_n 3) 1 83 := ⟨by decide +kernel, rfl⟩
theorem eX9_cheapest_83 : zD cX9_cheapest 83 .aaload 1 84 := ⟨by decide +kernel, rfl⟩
theorem eX9_cheapest_84 : zD cX9_cheapest 84 (.iconst (-1)) 1 85 := ⟨by decide +kernel, rfl⟩
theorem eX9_cheapest_85 : zD cX9_cheapest 85 (.invokevirtual 198) 3 88 := ⟨by decide +kernel, rfl⟩
theorem eX9_cheapest_88 : zD cX9_cheapest 88 (.iload 4) 2 90 := ⟨by decide +kernel, rfl⟩
theorem eX9_cheapest_90 : zDj cX9_cheapest 90 (.ifCond .ne 13) 13 103 93 := ⟨by decide +kernel, rfl, by decide⟩
theorem eX9_cheapest_93 : zD cX9_cheapest 93 (.aload_n 0) 1 94 := ⟨by decide +kernel, rfl⟩
theorem eX9_cheapest_94 : zD cX9_cheapest 94 (.getfield 42) 3 97 := ⟨by decide +kernel, rfl⟩
theorem eX9_cheapest_97 : zD cX9_cheapest 97 (.getfield 202) 3 100 := ⟨by decide +kernel, rfl⟩
theorem eX9_cheapest_100 : zDj cX9_cheapest 100 (.goto 13) 13 113 103 := ⟨by decide +kernel, rfl, by decide⟩
theorem eX9_cheapest_103 : zD cX9_cheapest 103 (.aload_n 0) 1 104 := ⟨by decide +kernel, rfl⟩
theorem eX9_cheapest_104 : zD cX9_cheapest 104 (.getfield 42) 3 107 := ⟨by decide +kernel, rfl⟩
theorem eX9_cheapest_107 : zD cX9_cheapest 107 (.getfield 205) 3 110 := ⟨by decide +kernel, rfl⟩
theorem eX9_cheapest_110 : zD cX9_cheapest 110 (.invokestatic 195) 3 113 := ⟨by decide +kernel, rfl⟩
theorem eX9_cheapest_113 : zD cX9_cheapest 113 .ireturn 1 114 := ⟨by decide +kernel, rfl⟩
theorem eX9_three_0 : zD cX9_three 0 (.aload_n 0) 1 1 := ⟨by decide +kernel, rfl⟩
theorem eX9_three_1 : zD cX9_three 1 (.iload_n 1) 1 2 := ⟨by decide +kernel, rfl⟩
theorem eX9_three_2 : zD cX9_three 2 (.invokevirtual 164) 3 5 := ⟨by decide +kernel, rfl⟩
theorem eX9_three_5 : zDj cX9_three 5 (.ifCond .eq 38) 38 43 8 := ⟨by decide +kernel, rfl, by decide⟩
theorem eX9_three_8 : zD cX9_three 8 (.aload_n 0) 1 9 := ⟨by decide +kernel, rfl⟩
theorem eX9_three_9 : zD cX9_three 9 (.iload_n 2) 1 10 := ⟨by decide +kernel, rfl⟩
theorem eX9_three_10 : zD cX9_three 10 (.invokevirtual 183) 3 13 := ⟨by decide +kernel, rfl⟩
theorem eX9_three_13 : zDj cX9_three 13 (.ifCond .eq 30) 30 43 16 := ⟨by decide +kernel, rfl, by decide⟩
theorem eX9_three_16 : zD cX9_three 16 (.aload_n 0) 1 17 := ⟨by decide +kernel, rfl⟩
theorem eX9_three_17 : zD cX9_three 17 (.iload_n 3) 1 18 := ⟨by decide +kernel, rfl⟩
theorem eX9_three_18 : zD cX9_three 18 (.invokevirtual 183) 3 21 := ⟨by decide +kernel, rfl⟩
theorem eX9_three_21 : zDj cX9_three 21 (.ifCond .eq 22) 22 43 24 := ⟨by decide +kernel, rfl, by decide⟩
theorem eX9_three_24 : zD cX9_three 24 (.aload_n 0) 1 25 := ⟨by decide +kernel, rfl⟩
theorem eX9_three_25 : zD cX9_three 25 (.iload 4) 2 27 := ⟨by decide +kernel, rfl⟩
theorem eX9_three_27 : zD cX9_three 27 (.invokevirtual 183) 3 30 := ⟨by decide +kernel, rfl⟩
theorem eX9_three_30 : zDj cX9_three 30 (.ifCond .eq 13) 13 43 33 := ⟨by decide +kernel, rfl, by decide⟩
theorem eX9_three_33 : zD cX9_three 33 (.iload 5) 2 35 := ⟨by decide +kernel, rfl⟩
theorem eX9_three_35 : zD cX9_three 35 (.iconst 0) 1 36 := ⟨by decide +kernel, rfl⟩
theorem eX9_three_36 : zD cX9_three 36 (.iconst 2) 1 37 := ⟨by decide +kernel, rfl⟩
theorem eX9_three_37 : zD cX9_three 37 (.invokestatic 113) 3 40 := ⟨by decide +kernel, rfl⟩
theorem eX9_three_40 : zDj cX9_three 40 (.ifCond .ne 5) 5 45 43 := ⟨by decide +kernel, rfl, by decide⟩
theorem eX9_three_43 : zD cX9_three 43 (.iconst (-1)) 1 44 := ⟨by decide +kernel, rfl⟩
theorem eX9_three_44 : zD cX9_three 44 .ireturn 1 45 := ⟨by decide +kernel, rfl⟩
theorem eX9_three_45 : zD cX9_three 45 (.iload_n 2) 1 46 := ⟨by decide +kernel, rfl⟩
theorem eX9_three_46 : zD cX9_three 46 (.iload_n 3) 1 47 := ⟨by decide +kernel, rfl⟩
theorem eX9_three_47 : zDj cX9_three 47 (.if_icmp .eq 15) 15 62 50 := ⟨by decide +kernel, rfl, by decide⟩
theorem eX9_three_50 : zD cX9_three 50 (.iload_n 2) 1 51 := ⟨by decide +kernel, rfl⟩
theorem eX9_three_51 : zD cX9_three 51 (.iload 4) 2 53 := ⟨by decide +kernel, rfl⟩
theorem eX9_three_53 : zDj cX9_three 53 (.if_icmp .eq 9) 9 62 56 := ⟨by decide +kernel, rfl, by decide⟩
theorem eX9_three_56 : zD cX9_three 56 (.iload_n 3) 1 57 := ⟨by decide +kernel, rfl⟩
theorem eX9_three_57 : zD cX9_three 57 (.iload 4) 2 59 := ⟨by decide +kernel, rfl⟩
theorem eX9_three_59 : zDj cX9_three 59 (.if_icmp .ne 5) 5 64 62 := ⟨by decide +kernel, rfl, by decide⟩
theorem eX9_three_62 : zD cX9_three 62 (.iconst (-1)) 1 63 := ⟨by decide +kernel, rfl⟩
theorem eX9_three_63 : zD cX9_three 63 .ireturn 1 64 := ⟨by decide +kernel, rfl⟩
theorem eX9_three_64 : zD cX9_three 64 (.aload_n 0) 1 65 := ⟨by decide +kernel, rfl⟩
theorem eX9_three_65 : zD cX9_three 65 (.getfield 42) 3 68 := ⟨by decide +kernel, rfl⟩
theorem eX9_three_68 : zD cX9_three 68 (.aload_n 0) 1 69 := ⟨by decide +kernel, rfl⟩
theorem eX9_three_69 : zD cX9_three 69 (.getfield 21) 3 72 := ⟨by decide +kernel, rfl⟩
theorem eX9_three_72 : zD cX9_three 72 (.iload_n 1) 1 73 := ⟨by decide +kernel, rfl⟩
theorem eX9_three_73 : zD cX9_three 73 .aaload 1 74 := ⟨by decide +kernel, rfl⟩
theorem eX9_three_74 : zD cX9_three 74 (.aload_n 0) 1 75 := ⟨by decide +kernel, rfl⟩
theorem eX9_three_75 : zD cX9_three 75 (.getfield 10) 3 78 := ⟨by decide +kernel, rfl⟩
theorem eX9_three_78 : zD cX9_three 78 (.getfield 134) 3 81 := ⟨by decide +kernel, rfl⟩
theorem eX9_three_81 : zD cX9_three 81 (.aload_n 0) 1 82 := ⟨by decide +kernel, rfl⟩
theorem eX9_three_82 : zD cX9_three 82 (.getfield 10) 3 85 := ⟨by decide +kernel, rfl⟩
theorem eX9_three_85 : zD cX9_three 85 (.getfield 127) 3 88 := ⟨by decide +kernel, rfl⟩
theorem eX9_three_88 : zD cX9_three 88 (.iload_n 2) 1 89 := ⟨by decide +kernel, rfl⟩
theorem eX9_three_89 : zD cX9_three 89 .aaload 1 90 := ⟨by decide +kernel, rfl⟩
theorem eX9_three_90 : zD cX9_three 90 (.invokevirtual 186) 3 93 := ⟨by decide +kernel, rfl⟩
theorem eX9_three_93 : zD cX9_three 93 (.aload_n 0) 1 94 := ⟨by decide +kernel, rfl⟩
theorem eX9_three_94 : zD cX9_three 94 (.getfield 42) 3 97 := ⟨by decide +kernel, rfl⟩
theorem eX9_three_97 : zD cX9_three 97 (.aload_n 0) 1 98 := ⟨by decide +kernel, rfl⟩
theorem eX9_three_98 : zD cX9_three 98 (.getfield 21) 3 101 := ⟨by decide +kernel, rfl⟩
theorem eX9_three_101 : zD cX9_three 101 (.iload_n 1) 1 102 := ⟨by decide +kernel, rfl⟩
theorem eX9_three_102 : zD cX9_three 102 .aaload 1 103 := ⟨by decide +kernel, rfl⟩
theorem eX9_three_103 : zD cX9_three 103 (.aload_n 0) 1 104 := ⟨by decide +kernel, rfl⟩
theorem eX9_three_104 : zD cX9_three 104 (.getfield 10) 3 107 := ⟨by decide +kernel, rfl⟩
theorem eX9_three_107 : zD cX9_three 107 (.getfield 127) 3 110 := ⟨by decide +kernel, rfl⟩
theorem eX9_three_110 : zD cX9_three 110 (.iload_n 3) 1 111 := ⟨by decide +kernel, rfl⟩
theorem eX9_three_111 : zD cX9_three 111 .aaload 1 112 := ⟨by decide +kernel, rfl⟩
theorem eX9_three_112 : zD cX9_three 112 (.aload_n 0) 1 113 := ⟨by decide +kernel, rfl⟩
theorem eX9_three_113 : zD cX9_three 113 (.getfield 10) 3 116 := ⟨by decide +kernel, rfl⟩
theorem eX9_three_116 : zD cX9_three 116 (.getfield 127) 3 119 := ⟨by decide +kernel, rfl⟩
theorem eX9_three_119 : zD cX9_three 119 (.iload 4) 2 121 := ⟨by decide +kernel, rfl⟩
theorem eX9_three_121 : zD cX9_three 121 .aaload 1 122 := ⟨by decide +kernel, rfl⟩
theorem eX9_three_122 : zD cX9_three 122 (.invokevirtual 208) 3 125 := ⟨by decide +kernel, rfl⟩
theorem eX9_three_125 : zD cX9_three 125 (.iload 5) 2 127 := ⟨by decide +kernel, rfl⟩
theorem eX9_three_127 : zDj cX9_three 127 (.ifCond .ne 11) 11 138 130 := ⟨by decide +kernel, rfl, by decide⟩
theorem eX9_three_130 : zD cX9_three 130 (.aload_n 0) 1 131 := ⟨by decide +kernel, rfl⟩
theorem eX9_three_131 : zD cX9_three 131 (.getfield 42) 3 134 := ⟨by decide +kernel, rfl⟩
theorem eX9_three_134 : zD cX9_three 134 (.getfield 202) 3 137 := ⟨by decide +kernel, rfl⟩
theorem eX9_three_137 : zD cX9_three 137 .ireturn 1 138 := ⟨by decide +kernel, rfl⟩
theorem eX9_three_138 : zD cX9_three 138 (.iload 5) 2 140 := ⟨by decide +kernel, rfl⟩
theorem eX9_three_140 : zD cX9_three 140 (.iconst 1) 1 141 := ⟨by decide +kernel, rfl⟩
theorem eX9_three_141 : zDj cX9_three 141 (.if_icmp .ne 13) 13 154 144 := ⟨by decide +kernel, rfl, by decide⟩
theorem eX9_three_144 : zD cX9_three 144 (.aload_n 0) 1 145 := ⟨by decide +kernel, rfl⟩
theorem eX9_three_145 : zD cX9_three 145 (.getfield 42) 3 148 := ⟨by decide +kernel, rfl⟩
theorem eX9_three_148 : zD cX9_three 148 (.getfield 205) 3 151 := ⟨by decide +kernel, rfl⟩
theorem eX9_three_151 : zDj cX9_three 151 (.goto 10) 10 161 154 := ⟨by decide +kernel, rfl, by decide⟩
theorem eX9_three_154 : zD cX9_three 154 (.aload_n 0) 1 155 := ⟨by decide +kernel, rfl⟩
theorem eX9_three_155 : zD cX9_three 155 (.getfield 42) 3 158 := ⟨by decide +kernel, rfl⟩
theorem eX9_three_158 : zD cX9_three 158 (.getfield 212) 3 161 := ⟨by decide +kernel, rfl⟩
theorem eX9_three_161 : zD cX9_three 161 (.invokestatic 195) 3 164 := ⟨by decide +kernel, rfl⟩
theorem eX9_three_164 : zD cX9_three 164 .ireturn 1 165 := ⟨by decide +kernel, rfl⟩
theorem eX9_chance_0 : zD cX9_chance 0 (.aload_n 0) 1 1 := ⟨by decide +kernel, rfl⟩
theorem eX9_chance_1 : zD cX9_chance 1 (.iload_n 1) 1 2 := ⟨by decide +kernel, rfl⟩
theorem eX9_chance_2 : zD cX9_chance 2 (.invokevirtual 164) 3 5 := ⟨by decide +kernel, rfl⟩
theorem eX9_chance_5 : zDj cX9_chance 5 (.ifCond .eq 30) 30 35 8 := ⟨by decide +kernel, rfl, by decide⟩
theorem eX9_chance_8 : zD cX9_chance 8 (.aload_n 0) 1 9 := ⟨by decide +kernel, rfl⟩
theorem eX9_chance_9 : zD cX9_chance 9 (.iload_n 2) 1 10 := ⟨by decide +kernel, rfl⟩
theorem eX9_chance_10 : zD cX9_chance 10 (.invokevirtual 183) 3 13 := ⟨by decide +kernel, rfl⟩
theorem eX9_chance_13 : zDj cX9_chance 13 (.ifCond .eq 22) 22 35 16 := ⟨by decide +kernel, rfl, by decide⟩
theorem eX9_chance_16 : zD cX9_chance 16 (.aload_n 0) 1 17 := ⟨by decide +kernel, rfl⟩
theorem eX9_chance_17 : zD cX9_chance 17 (.iload_n 3) 1 18 := ⟨by decide +kernel, rfl⟩
theorem eX9_chance_18 : zD cX9_chance 18 (.invokevirtual 183) 3 21 := ⟨by decide +kernel, rfl⟩
theorem eX9_chance_21 : zDj cX9_chance 21 (.ifCond .eq 14) 14 35 24 := ⟨by decide +kernel, rfl, by decide⟩
theorem eX9_chance_24 : zD cX9_chance 24 (.iload 4) 2 26 := ⟨by decide +kernel, rfl⟩
theorem eX9_chance_26 : zD cX9_chance 26 (.iconst 0) 1 27 := ⟨by decide +kernel, rfl⟩
theorem eX9_chance_27 : zD cX9_chance 27 (.ldc 194) 2 29 := ⟨by decide +kernel, rfl⟩
theorem eX9_chance_29 : zD cX9_chance 29 (.invokestatic 113) 3 32 := ⟨by decide +kernel, rfl⟩
theorem eX9_chance_32 : zDj cX9_chance 32 (.ifCond .ne 5) 5 37 35 := ⟨by decide +kernel, rfl, by decide⟩
theorem eX9_chance_35 : zD cX9_chance 35 (.iconst (-1)) 1 36 := ⟨by decide +kernel, rfl⟩
theorem eX9_chance_36 : zD cX9_chance 36 .ireturn 1 37 := ⟨by decide +kernel, rfl⟩
theorem eX9_chance_37 : zD cX9_chance 37 (.iload 5) 2 39 := ⟨by decide +kernel, rfl⟩
theorem eX9_chance_39 : zD cX9_chance 39 (.iconst 1) 1 40 := ⟨by decide +kernel, rfl⟩
theorem eX9_chance_40 : zD cX9_chance 40 (.bipush 40) 2 42 := ⟨by decide +kernel, rfl⟩
theorem eX9_chance_42 : zD cX9_chance 42 (.invokestatic 113) 3 45 := ⟨by decide +kernel, rfl⟩
theorem eX9_chance_45 : zDj cX9_chance 45 (.ifCond .eq 15) 15 60 48 := ⟨by decide +kernel, rfl, by decide⟩
theorem eX9_chance_48 : zD cX9_chance 48 (.iload 6) 2 50 := ⟨by decide +kernel, rfl⟩
theorem eX9_chance_50 : zD cX9_chance 50 (.iconst 0) 1 51 := ⟨by decide +kernel, rfl⟩
theorem eX9_chance_51 : zD cX9_chance 51 (.sipush 9999) 3 54 := ⟨by decide +kernel, rfl⟩
theorem eX9_chance_54 : zD cX9_chance 54 (.invokestatic 113) 3 57 := ⟨by decide +kernel, rfl⟩
theorem eX9_chance_57 : zDj cX9_chance 57 (.ifCond .ne 5) 5 62 60 := ⟨by decide +kernel, rfl, by decide⟩
theorem eX9_chance_60 : zD cX9_chance 60 (.iconst (-1)) 1 61 := ⟨by decide +kernel, rfl⟩
theorem eX9_chance_61 : zD cX9_chance 61 .ireturn 1 62 := ⟨by decide +kernel, rfl⟩
theorem eX9_chance_62 : zD cX9_chance 62 (.aload_n 0) 1 63 := ⟨by decide +kernel, rfl⟩
theorem eX9_chance_63 : zD cX9_chance 63 (.getfield 42) 3 66 := ⟨by decide +kernel, rfl⟩
theorem eX9_chance_66 : zD cX9_chance 66 (.aload_n 0) 1 67 := ⟨by decide +kernel, rfl⟩
theorem eX9_chance_67 : zD cX9_chance 67 (.getfield 21) 3 70 := ⟨by decide +kernel, rfl⟩
theorem eX9_chance_70 : zD cX9_chance 70 (.iload_n 1) 1 71 := ⟨by decide +kernel, rfl⟩
theorem eX9_chance_71 : zD cX9_chance 71 .aaload 1 72 := ⟨by decide +kernel, rfl⟩
theorem eX9_chance_72 : zD cX9_chance 72 (.aload_n 0) 1 73 := ⟨by decide +kernel, rfl⟩
theorem eX9_chance_73 : zD cX9_chance 73 (.getfield 10) 3 76 := ⟨by decide +kernel, rfl⟩
theorem eX9_chance_76 : zD cX9_chance 76 (.getfield 134) 3 79 := ⟨by decide +kernel, rfl⟩
theorem eX9_chance_79 : zD cX9_chance 79 (.aload_n 0) 1 80 := ⟨by decide +kernel, rfl⟩
theorem eX9_chance_80 : zD cX9_chance 80 (.getfield 10) 3 83 := ⟨by decide +kernel, rfl⟩
theorem eX9_chance_83 : zD cX9_chance 83 (.getfield 127) 3 86 := ⟨by decide +kernel, rfl⟩
theorem eX9_chance_86 : zD cX9_chance 86 (.iload_n 2) 1 87 := ⟨by decide +kernel, rfl⟩
theorem eX9_chance_87 : zD cX9_chance 87 .aaload 1 88 := ⟨by decide +kernel, rfl⟩
theorem eX9_chance_88 : zD cX9_chance 88 (.invokevirtual 186) 3 91 := ⟨by decide +kernel, rfl⟩
theorem eX9_chance_91 : zD cX9_chance 91 (.iconst 0) 1 92 := ⟨by decide +kernel, rfl⟩
theorem eX9_chance_92 : zD cX9_chance 92 (.istore 7) 2 94 := ⟨by decide +kernel, rfl⟩
theorem eX9_chance_94 : zD cX9_chance 94 (.iconst 0) 1 95 := ⟨by decide +kernel, rfl⟩
theorem eX9_chance_95 : zD cX9_chance 95 (.istore 8) 2 97 := ⟨by decide +kernel, rfl⟩
theorem eX9_chance_97 : zD cX9_chance 97 (.iload 8) 2 99 := ⟨by decide +kernel, rfl⟩
theorem eX9_chance_99 : zD cX9_chance 99 (.iload 5) 2 101 := ⟨by decide +kernel, rfl⟩
theorem eX9_chance_101 : zDj cX9_chance 101 (.if_icmp .ge 71) 71 172 104 := ⟨by decide +kernel, rfl, by decide⟩
theorem eX9_chance_104 : zD cX9_chance 104 (.aload_n 0) 1 105 := ⟨by decide +kernel, rfl⟩
theorem eX9_chance_105 : zD cX9_chance 105 (.getfield 42) 3 108 := ⟨by decide +kernel, rfl⟩
theorem eX9_chance_108 : zD cX9_chance 108 (.aload_n 0) 1 109 := ⟨by decide +kernel, rfl⟩
theorem eX9_chance_109 : zD cX9_chance 109 (.getfield 10) 3 112 := ⟨by decide +kernel, rfl⟩
theorem eX9_chance_112 : zD cX9_chance 112 (.getfield 127) 3 115 := ⟨by decide +kernel, rfl⟩
theorem eX9_chance_115 : zD cX9_chance 115 (.iload_n 3) 1 116 := ⟨by decide +kernel, rfl⟩
theorem eX9_chance_116 : zD cX9_chance 116 .aaload 1 117 := ⟨by decide +kernel, rfl⟩
theorem eX9_chance_117 : zD cX9_chance 117 (.iload 6) 2 119 := ⟨by decide +kernel, rfl⟩
theorem eX9_chance_119 : zD cX9_chance 119 (.sipush 1000) 3 122 := ⟨by decide +kernel, rfl⟩
theorem eX9_chance_122 : zD cX9_chance 122 (.iload 8) 2 124 := ⟨by decide +kernel, rfl⟩
theorem eX9_chance_124 : zD cX9_chance 124 .imul 1 125 := ⟨by decide +kernel, rfl⟩
theorem eX9_chance_125 : zD cX9_chance 125 .iadd 1 126 := ⟨by decide +kernel, rfl⟩
theorem eX9_chance_126 : zD cX9_chance 126 (.invokevirtual 215) 3 129 := ⟨by decide +kernel, rfl⟩
theorem eX9_chance_129 : zD cX9_chance 129 (.aload_n 0) 1 130 := ⟨by decide +kernel, rfl⟩
theorem eX9_chance_130 : zD cX9_chance 130 (.getfield 42) 3 133 := ⟨by decide +kernel, rfl⟩
theorem eX9_chance_133 : zD cX9_chance 133 (.aload_n 0) 1 134 := ⟨by decide +kernel, rfl⟩
theorem eX9_chance_134 : zD cX9_chance 134 (.getfield 21) 3 137 := ⟨by decide +kernel, rfl⟩
theorem eX9_chance_137 : zD cX9_chance 137 (.iload_n 1) 1 138 := ⟨by decide +kernel, rfl⟩
theorem eX9_chance_138 : zD cX9_chance 138 .aaload 1 139 := ⟨by decide +kernel, rfl⟩
theorem eX9_chance_139 : zD cX9_chance 139 (.aload_n 0) 1 140 := ⟨by decide +kernel, rfl⟩
theorem eX9_chance_140 : zD cX9_chance 140 (.getfield 42) 3 143 := ⟨by decide +kernel, rfl⟩
theorem eX9_chance_143 : zD cX9_chance 143 (.getfield 219) 3 146 := ⟨by decide +kernel, rfl⟩
theorem eX9_chance_146 : zD cX9_chance 146 (.iload 4) 2 148 := ⟨by decide +kernel, rfl⟩
theorem eX9_chance_148 : zD cX9_chance 148 (.invokevirtual 198) 3 151 := ⟨by decide +kernel, rfl⟩
theorem eX9_chance_151 : zD cX9_chance 151 (.aload_n 0) 1 152 := ⟨by decide +kernel, rfl⟩
theorem eX9_chance_152 : zD cX9_chance 152 (.getfield 42) 3 155 := ⟨by decide +kernel, rfl⟩
theorem eX9_chance_155 : zD cX9_chance 155 (.getfield 202) 3 158 := ⟨by decide +kernel, rfl⟩
theorem eX9_chance_158 : zD cX9_chance 158 (.iload 4) 2 160 := ⟨by decide +kernel, rfl⟩
theorem eX9_chance_160 : zDj cX9_chance 160 (.if_icmp .gt 6) 6 166 163 := ⟨by decide +kernel, rfl, by decide⟩
theorem eX9_chance_163 : zD cX9_chance 163 (.iinc 7 1) 3 166 := ⟨by decide +kernel, rfl⟩
theorem eX9_chance_166 : zD cX9_chance 166 (.iinc 8 1) 3 169 := ⟨by decide +kernel, rfl⟩
theorem eX9_chance_169 : zDj cX9_chance 169 (.goto (-72)) (-72) 97 172 := ⟨by decide +kernel, rfl, by decide⟩
theorem eX9_chance_172 : zD cX9_chance 172 (.iload 7) 2 174 := ⟨by decide +kernel, rfl⟩
theorem eX9_chance_174 : zD cX9_chance 174 .ireturn 1 175 := ⟨by decide +kernel, rfl⟩
theorem eX9_learn_0 : zD cX9_learn 0 (.aload_n 1) 1 1 := ⟨by decide +kernel, rfl⟩
theorem eX9_learn_1 : zD cX9_learn 1 (.invokevirtual 323) 3 4 := ⟨by decide +kernel, rfl⟩
theorem eX9_learn_4 : zD cX9_learn 4 (.iconst 0) 1 5 := ⟨by decide +kernel, rfl⟩
theorem eX9_learn_5 : zD cX9_learn 5 (.istore 4) 2 7 := ⟨by decide +kernel, rfl⟩
theorem eX9_learn_7 : zD cX9_learn 7 (.iload 4) 2 9 := ⟨by decide +kernel, rfl⟩
theorem eX9_learn_9 : zD cX9_learn 9 (.bipush 16) 2 11 := ⟨by decide +kernel, rfl⟩
theorem eX9_learn_11 : zDj cX9_learn 11 (.if_icmp .ge 35) 35 46 14 := ⟨by decide +kernel, rfl, by decide⟩
theorem eX9_learn_14 : zD cX9_learn 14 (.iload_n 2) 1 15 := ⟨by decide +kernel, rfl⟩
theorem eX9_learn_15 : zD cX9_learn 15 (.iload 4) 2 17 := ⟨by decide +kernel, rfl⟩
theorem eX9_learn_17 : zD cX9_learn 17 (.iconst 4) 1 18 := ⟨by decide +kernel, rfl⟩
theorem eX9_learn_18 : zD cX9_learn 18 .idiv 1 19 := ⟨by decide +kernel, rfl⟩
theorem eX9_learn_19 : zD cX9_learn 19 .ishr 1 20 := ⟨by decide +kernel, rfl⟩
theorem eX9_learn_20 : zD cX9_learn 20 (.iconst 1) 1 21 := ⟨by decide +kernel, rfl⟩
theorem eX9_learn_21 : zD cX9_learn 21 .iand 1 22 := ⟨by decide +kernel, rfl⟩
theorem eX9_learn_22 : zDj cX9_learn 22 (.ifCond .eq 18) 18 40 25 := ⟨by decide +kernel, rfl, by decide⟩
theorem eX9_learn_25 : zD cX9_learn 25 (.aload_n 1) 1 26 := ⟨by decide +kernel, rfl⟩
theorem eX9_learn_26 : zD cX9_learn 26 (.aload_n 0) 1 27 := ⟨by decide +kernel, rfl⟩
theorem eX9_learn_27 : zD cX9_learn 27 (.getfield 10) 3 30 := ⟨by decide +kernel, rfl⟩
theorem eX9_learn_30 : zD cX9_learn 30 (.getfield 98) 3 33 := ⟨by decide +kernel, rfl⟩
theorem eX9_learn_33 : zD cX9_learn 33 (.iload 4) 2 35 := ⟨by decide +kernel, rfl⟩
theorem eX9_learn_35 : zD cX9_learn 35 .aaload 1 36 := ⟨by decide +kernel, rfl⟩
theorem eX9_learn_36 : zD cX9_learn 36 (.iload_n 3) 1 37 := ⟨by decide +kernel, rfl⟩
theorem eX9_learn_37 : zD cX9_learn 37 (.invokevirtual 326) 3 40 := ⟨by decide +kernel, rfl⟩
theorem eX9_learn_40 : zD cX9_learn 40 (.iinc 4 1) 3 43 := ⟨by decide +kernel, rfl⟩
theorem eX9_learn_43 : zDj cX9_learn 43 (.goto (-36)) (-36) 7 46 := ⟨by decide +kernel, rfl, by decide⟩
theorem eX9_learn_46 : zD cX9_learn 46 .return_ 1 47 := ⟨by decide +kernel, rfl⟩
theorem eX9_seen_0 : zD cX9_seen 0 (.iload_n 1) 1 1 := ⟨by decide +kernel, rfl⟩
theorem eX9_seen_1 : zD cX9_seen 1 (.invokestatic 223) 3 4 := ⟨by decide +kernel, rfl⟩
theorem eX9_seen_4 : zDj cX9_seen 4 (.ifCond .eq 14) 14 18 7 := ⟨by decide +kernel, rfl, by decide⟩
theorem eX9_seen_7 : zD cX9_seen 7 (.iload_n 2) 1 8 := ⟨by decide +kernel, rfl⟩
theorem eX9_seen_8 : zD cX9_seen 8 (.bipush (-12)) 2 10 := ⟨by decide +kernel, rfl⟩
theorem eX9_seen_10 : zD cX9_seen 10 (.bipush 12) 2 12 := ⟨by decide +kernel, rfl⟩
theorem eX9_seen_12 : zD cX9_seen 12 (.invokestatic 113) 3 15 := ⟨by decide +kernel, rfl⟩
theorem eX9_seen_15 : zDj cX9_seen 15 (.ifCond .ne 5) 5 20 18 := ⟨by decide +kernel, rfl, by decide⟩
theorem eX9_seen_18 : zD cX9_seen 18 (.iconst (-1)) 1 19 := ⟨by decide +kernel, rfl⟩
theorem eX9_seen_19 : zD cX9_seen 19 .ireturn 1 20 := ⟨by decide +kernel, rfl⟩
theorem eX9_seen_20 : zD cX9_seen 20 (.aload_n 0) 1 21 := ⟨by decide +kernel, rfl⟩
theorem eX9_seen_21 : zD cX9_seen 21 (.aload_n 0) 1 22 := ⟨by decide +kernel, rfl⟩
theorem eX9_seen_22 : zD cX9_seen 22 (.getfield 63) 3 25 := ⟨by decide +kernel, rfl⟩
theorem eX9_seen_25 : zD cX9_seen 25 (.iload_n 1) 1 26 := ⟨by decide +kernel, rfl⟩
theorem eX9_seen_26 : zD cX9_seen 26 (.bipush 101) 2 28 := ⟨by decide +kernel, rfl⟩
theorem eX9_seen_28 : zD cX9_seen 28 (.invokevirtual 226) 3 31 := ⟨by decide +kernel, rfl⟩
theorem eX9_seen_31 : zD cX9_seen 31 (.aload_n 0) 1 32 := ⟨by decide +kernel, rfl⟩
theorem eX9_seen_32 : zD cX9_seen 32 (.getfield 63) 3 35 := ⟨by decide +kernel, rfl⟩
theorem eX9_seen_35 : zD cX9_seen 35 (.getfield 230) 3 38 := ⟨by decide +kernel, rfl⟩
theorem eX9_seen_38 : zD cX9_seen 38 (.iload_n 2) 1 39 := ⟨by decide +kernel, rfl⟩
theorem eX9_seen_39 : zD cX9_seen 39 (.bipush 12) 2 41 := ⟨by decide +kernel, rfl⟩
theorem eX9_seen_41 : zD cX9_seen 41 .iadd 1 42 := ⟨by decide +kernel, rfl⟩
theorem eX9_seen_42 : zD cX9_seen 42 .iaload 1 43 := ⟨by decide +kernel, rfl⟩
theorem eX9_seen_43 : zD cX9_seen 43 .ireturn 1 44 := ⟨by decide +kernel, rfl⟩
theorem eX9_strange_0 : zD cX9_strange 0 (.iload_n 1) 1 1 := ⟨by decide +kernel, rfl⟩
theorem eX9_strange_1 : zD cX9_strange 1 (.invokestatic 223) 3 4 := ⟨by decide +kernel, rfl⟩
theorem eX9_strange_4 : zDj cX9_strange 4 (.ifCond .eq 10) 10 14 7 := ⟨by decide +kernel, rfl, by decide⟩
theorem eX9_strange_7 : zD cX9_strange 7 (.iload_n 2) 1 8 := ⟨by decide +kernel, rfl⟩
theorem eX9_strange_8 : zD cX9_strange 8 (.invokestatic 84) 3 11 := ⟨by decide +kernel, rfl⟩
theorem eX9_strange_11 : zDj cX9_strange 11 (.ifCond .ne 5) 5 16 14 := ⟨by decide +kernel, rfl, by decide⟩
theorem eX9_strange_14 : zD cX9_strange 14 (.iconst (-1)) 1 15 := ⟨by decide +kernel, rfl⟩
theorem eX9_strange_15 : zD cX9_strange 15 .ireturn 1 16 := ⟨by decide +kernel, rfl⟩
theorem eX9_strange_16 : zD cX9_strange 16 (.aload_n 0) 1 17 := ⟨by decide +kernel, rfl⟩
theorem eX9_strange_17 : zD cX9_strange 17 (.aload_n 0) 1 18 := ⟨by decide +kernel, rfl⟩
theorem eX9_strange_18 : zD cX9_strange 18 (.getfield 67) 3 21 := ⟨by decide +kernel, rfl⟩
theorem eX9_strange_21 : zD cX9_strange 21 (.iload_n 1) 1 22 := ⟨by decide +kernel, rfl⟩
theorem eX9_strange_22 : zD cX9_strange 22 (.iconst 1) 1 23 := ⟨by decide +kernel, rfl⟩
theorem eX9_strange_23 : zD cX9_strange 23 (.iload_n 2) 1 24 := ⟨by decide +kernel, rfl⟩
theorem eX9_strange_24 : zD cX9_strange 24 .ishl 1 25 := ⟨by decide +kernel, rfl⟩
theorem eX9_strange_25 : zD cX9_strange 25 (.iconst (-1)) 1 26 := ⟨by decide +kernel, rfl⟩
theorem eX9_strange_26 : zD cX9_strange 26 .ixor 1 27 := ⟨by decide +kernel, rfl⟩
theorem eX9_strange_27 : zD cX9_strange 27 .iand 1 28 := ⟨by decide +kernel, rfl⟩
theorem eX9_strange_28 : zD cX9_strange 28 (.bipush 101) 2 30 := ⟨by decide +kernel, rfl⟩
theorem eX9_strange_30 : zD cX9_strange 30 (.invokevirtual 226) 3 33 := ⟨by decide +kernel, rfl⟩
theorem eX9_strange_33 : zD cX9_strange 33 (.aload_n 0) 1 34 := ⟨by decide +kernel, rfl⟩
theorem eX9_strange_34 : zD cX9_strange 34 (.aload_n 0) 1 35 := ⟨by decide +kernel, rfl⟩
theorem eX9_strange_35 : zD cX9_strange 35 (.getfield 63) 3 38 := ⟨by decide +kernel, rfl⟩
theorem eX9_strange_38 : zD cX9_strange 38 (.iconst 1) 1 39 := ⟨by decide +kernel, rfl⟩
theorem eX9_strange_39 : zD cX9_strange 39 (.iload_n 2) 1 40 := ⟨by decide +kernel, rfl⟩
theorem eX9_strange_40 : zD cX9_strange 40 .ishl 1 41 := ⟨by decide +kernel, rfl⟩
theorem eX9_strange_41 : zD cX9_strange 41 (.bipush 101) 2 43 := ⟨by decide +kernel, rfl⟩
theorem eX9_strange_43 : zD cX9_strange 43 (.invokevirtual 226) 3 46 := ⟨by decide +kernel, rfl⟩
theorem eX9_strange_46 : zD cX9_strange 46 (.aload_n 0) 1 47 := ⟨by decide +kernel, rfl⟩
theorem eX9_strange_47 : zD cX9_strange 47 (.getfield 63) 3 50 := ⟨by decide +kernel, rfl⟩
theorem eX9_strange_50 : zD cX9_strange 50 (.aload_n 0) 1 51 := ⟨by decide +kernel, rfl⟩
theorem eX9_strange_51 : zD cX9_strange 51 (.getfield 67) 3 54 := ⟨by decide +kernel, rfl⟩
theorem eX9_strange_54 : zD cX9_strange 54 (.invokevirtual 233) 3 57 := ⟨by decide +kernel, rfl⟩
theorem eX9_strange_57 : zD cX9_strange 57 .ireturn 1 58 := ⟨by decide +kernel, rfl⟩
theorem eX9_follows_0 : zD cX9_follows 0 (.iload_n 1) 1 1 := ⟨by decide +kernel, rfl⟩
theorem eX9_follows_1 : zD cX9_follows 1 (.invokestatic 223) 3 4 := ⟨by decide +kernel, rfl⟩
theorem eX9_follows_4 : zDj cX9_follows 4 (.ifCond .eq 25) 25 29 7 := ⟨by decide +kernel, rfl, by decide⟩
theorem eX9_follows_7 : zD cX9_follows 7 (.iload_n 2) 1 8 := ⟨by decide +kernel, rfl⟩
theorem eX9_follows_8 : zD cX9_follows 8 (.invokestatic 84) 3 11 := ⟨by decide +kernel, rfl⟩
theorem eX9_follows_11 : zDj cX9_follows 11 (.ifCond .eq 18) 18 29 14 := ⟨by decide +kernel, rfl, by decide⟩
theorem eX9_follows_14 : zD cX9_follows 14 (.iload_n 3) 1 15 := ⟨by decide +kernel, rfl⟩
theorem eX9_follows_15 : zD cX9_follows 15 (.invokestatic 88) 3 18 := ⟨by decide +kernel, rfl⟩
theorem eX9_follows_18 : zDj cX9_follows 18 (.ifCond .eq 11) 11 29 21 := ⟨by decide +kernel, rfl, by decide⟩
theorem eX9_follows_21 : zD cX9_follows 21 (.iload 4) 2 23 := ⟨by decide +kernel, rfl⟩
theorem eX9_follows_23 : zD cX9_follows 23 (.invokestatic 95) 3 26 := ⟨by decide +kernel, rfl⟩
theorem eX9_follows_26 : zDj cX9_follows 26 (.ifCond .ne 5) 5 31 29 := ⟨by decide +kernel, rfl, by decide⟩
theorem eX9_follows_29 : zD cX9_follows 29 (.iconst (-1)) 1 30 := ⟨by decide +kernel, rfl⟩
theorem eX9_follows_30 : zD cX9_follows 30 .ireturn 1 31 := ⟨by decide +kernel, rfl⟩
theorem eX9_follows_31 : zD cX9_follows 31 (.aload_n 0) 1 32 := ⟨by decide +kernel, rfl⟩
theorem eX9_follows_32 : zD cX9_follows 32 (.getfield 10) 3 35 := ⟨by decide +kernel, rfl⟩
theorem eX9_follows_35 : zD cX9_follows 35 (.getfield 98) 3 38 := ⟨by decide +kernel, rfl⟩
theorem eX9_follows_38 : zD cX9_follows 38 (.iload_n 2) 1 39 := ⟨by decide +kernel, rfl⟩
theorem eX9_follows_39 : zD cX9_follows 39 (.iconst 4) 1 40 := ⟨by decide +kernel, rfl⟩
theorem eX9_follows_40 : zD cX9_follows 40 .imul 1 41 := ⟨by decide +kernel, rfl⟩
theorem eX9_follows_41 : zD cX9_follows 41 (.iload_n 3) 1 42 := ⟨by decide +kernel, rfl⟩
theorem eX9_follows_42 : zD cX9_follows 42 .iadd 1 43 := ⟨by decide +kernel, rfl⟩
theorem eX9_follows_43 : zD cX9_follows 43 .aaload 1 44 := ⟨by decide +kernel, rfl⟩
theorem eX9_follows_44 : zD cX9_follows 44 (.astore 5) 2 46 := ⟨by decide +kernel, rfl⟩
theorem eX9_follows_46 : zD cX9_follows 46 (.aload 5) 2 48 := ⟨by decide +kernel, rfl⟩
theorem eX9_follows_48 : zD cX9_follows 48 (.bipush 32) 2 50 := ⟨by decide +kernel, rfl⟩
theorem eX9_follows_50 : zD cX9_follows 50 (.invokevirtual 237) 3 53 := ⟨by decide +kernel, rfl⟩
theorem eX9_follows_53 : zD cX9_follows 53 (.istore 6) 2 55 := ⟨by decide +kernel, rfl⟩
theorem eX9_follows_55 : zD cX9_follows 55 (.aload 5) 2 57 := ⟨by decide +kernel, rfl⟩
theorem eX9_follows_57 : zD cX9_follows 57 (.iload 6) 2 59 := ⟨by decide +kernel, rfl⟩
theorem eX9_follows_59 : zD cX9_follows 59 (.invokevirtual 237) 3 62 := ⟨by decide +kernel, rfl⟩
theorem eX9_follows_62 : zD cX9_follows 62 (.istore 7) 2 64 := ⟨by decide +kernel, rfl⟩
theorem eX9_follows_64 : zD cX9_follows 64 (.iload 6) 2 66 := ⟨by decide +kernel, rfl⟩
theorem eX9_follows_66 : zDj cX9_follows 66 (.ifCond .lt 8) 8 74 69 := ⟨by decide +kernel, rfl, by decide⟩
theorem eX9_follows_69 : zD cX9_follows 69 (.iload 7) 2 71 := ⟨by decide +kernel, rfl⟩
theorem eX9_follows_71 : zDj cX9_follows 71 (.ifCond .ge 5) 5 76 74 := ⟨by decide +kernel, rfl, by decide⟩
theorem eX9_follows_74 : zD cX9_follows 74 (.iconst (-1)) 1 75 := ⟨by decide +kernel, rfl⟩
theorem eX9_follows_75 : zD cX9_follows 75 .ireturn 1 76 := ⟨by decide +kernel, rfl⟩
theorem eX9_follows_76 : zD cX9_follows 76 (.aload_n 0) 1 77 := ⟨by decide +kernel, rfl⟩
theorem eX9_follows_77 : zD cX9_follows 77 (.aload_n 0) 1 78 := ⟨by decide +kernel, rfl⟩
theorem eX9_follows_78 : zD cX9_follows 78 (.getfield 63) 3 81 := ⟨by decide +kernel, rfl⟩
theorem eX9_follows_81 : zD cX9_follows 81 (.iload_n 1) 1 82 := ⟨by decide +kernel, rfl⟩
theorem eX9_follows_82 : zD cX9_follows 82 (.aload 5) 2 84 := ⟨by decide +kernel, rfl⟩
theorem eX9_follows_84 : zD cX9_follows 84 (.getfield 121) 3 87 := ⟨by decide +kernel, rfl⟩
theorem eX9_follows_87 : zD cX9_follows 87 (.iload 6) 2 89 := ⟨by decide +kernel, rfl⟩
theorem eX9_follows_89 : zD cX9_follows 89 .iaload 1 90 := ⟨by decide +kernel, rfl⟩
theorem eX9_follows_90 : zD cX9_follows 90 (.aload 5) 2 92 := ⟨by decide +kernel, rfl⟩
theorem eX9_follows_92 : zD cX9_follows 92 (.getfield 121) 3 95 := ⟨by decide +kernel, rfl⟩
theorem eX9_follows_95 : zD cX9_follows 95 (.iload 7) 2 97 := ⟨by decide +kernel, rfl⟩
theorem eX9_follows_97 : zD cX9_follows 97 .iaload 1 98 := ⟨by decide +kernel, rfl⟩
theorem eX9_follows_98 : zD cX9_follows 98 .isub 1 99 := ⟨by decide +kernel, rfl⟩
theorem eX9_follows_99 : zD cX9_follows 99 (.invokestatic 240) 3 102 := ⟨by decide +kernel, rfl⟩
theorem eX9_follows_102 : zD cX9_follows 102 (.invokevirtual 226) 3 105 := ⟨by decide +kernel, rfl⟩
theorem eX9_follows_105 : zD cX9_follows 105 (.aload_n 0) 1 106 := ⟨by decide +kernel, rfl⟩
theorem eX9_follows_106 : zD cX9_follows 106 (.getfield 63) 3 109 := ⟨by decide +kernel, rfl⟩
theorem eX9_follows_109 : zD cX9_follows 109 (.getfield 243) 3 112 := ⟨by decide +kernel, rfl⟩
theorem eX9_follows_112 : zD cX9_follows 112 (.iconst 1) 1 113 := ⟨by decide +kernel, rfl⟩
theorem eX9_follows_113 : zDj cX9_follows 113 (.if_icmp .ge 5) 5 118 116 := ⟨by decide +kernel, rfl, by decide⟩
theorem eX9_follows_116 : zD cX9_follows 116 (.iconst (-1)) 1 117 := ⟨by decide +kernel, rfl⟩
theorem eX9_follows_117 : zD cX9_follows 117 .ireturn 1 118 := ⟨by decide +kernel, rfl⟩
theorem eX9_follows_118 : zD cX9_follows 118 (.iload 4) 2 120 := ⟨by decide +kernel, rfl⟩
theorem eX9_follows_120 : zD cX9_follows 120 (.aload 5) 2 122 := ⟨by decide +kernel, rfl⟩
theorem eX9_follows_122 : zD cX9_follows 122 (.getfield 121) 3 125 := ⟨by decide +kernel, rfl⟩
theorem eX9_follows_125 : zD cX9_follows 125 (.iload 6) 2 127 := ⟨by decide +kernel, rfl⟩
theorem eX9_follows_127 : zD cX9_follows 127 .iaload 1 128 := ⟨by decide +kernel, rfl⟩
theorem eX9_follows_128 : zD cX9_follows 128 .isub 1 129 := ⟨by decide +kernel, rfl⟩
theorem eX9_follows_129 : zD cX9_follows 129 (.invokestatic 240) 3 132 := ⟨by decide +kernel, rfl⟩
theorem eX9_follows_132 : zD cX9_follows 132 (.istore 8) 2 134 := ⟨by decide +kernel, rfl⟩
theorem eX9_follows_134 : zD cX9_follows 134 (.sipush 1000) 3 137 := ⟨by decide +kernel, rfl⟩
theorem eX9_follows_137 : zD cX9_follows 137 (.aload_n 0) 1 138 := ⟨by decide +kernel, rfl⟩
theorem eX9_follows_138 : zD cX9_follows 138 (.getfield 63) 3 141 := ⟨by decide +kernel, rfl⟩
theorem eX9_follows_141 : zD cX9_follows 141 (.getfield 246) 3 144 := ⟨by decide +kernel, rfl⟩
theorem eX9_follows_144 : zD cX9_follows 144 (.iload 8) 2 146 := ⟨by decide +kernel, rfl⟩
theorem eX9_follows_146 : zD cX9_follows 146 (.bipush 12) 2 148 := ⟨by decide +kernel, rfl⟩
theorem eX9_follows_148 : zD cX9_follows 148 .iadd 1 149 := ⟨by decide +kernel, rfl⟩
theorem eX9_follows_149 : zD cX9_follows 149 .iaload 1 150 := ⟨by decide +kernel, rfl⟩
theorem eX9_follows_150 : zD cX9_follows 150 .imul 1 151 := ⟨by decide +kernel, rfl⟩
theorem eX9_follows_151 : zD cX9_follows 151 (.aload_n 0) 1 152 := ⟨by decide +kernel, rfl⟩
theorem eX9_follows_152 : zD cX9_follows 152 (.getfield 63) 3 155 := ⟨by decide +kernel, rfl⟩
theorem eX9_follows_155 : zD cX9_follows 155 (.getfield 243) 3 158 := ⟨by decide +kernel, rfl⟩
theorem eX9_follows_158 : zD cX9_follows 158 .idiv 1 159 := ⟨by decide +kernel, rfl⟩
theorem eX9_follows_159 : zD cX9_follows 159 .ireturn 1 160 := ⟨by decide +kernel, rfl⟩
theorem eX9_never_0 : zD cX9_never 0 (.iload_n 1) 1 1 := ⟨by decide +kernel, rfl⟩
theorem eX9_never_1 : zD cX9_never 1 (.invokestatic 223) 3 4 := ⟨by decide +kernel, rfl⟩
theorem eX9_never_4 : zDj cX9_never 4 (.ifCond .eq 17) 17 21 7 := ⟨by decide +kernel, rfl, by decide⟩
theorem eX9_never_7 : zD cX9_never 7 (.iload_n 2) 1 8 := ⟨by decide +kernel, rfl⟩
theorem eX9_never_8 : zD cX9_never 8 (.invokestatic 84) 3 11 := ⟨by decide +kernel, rfl⟩
theorem eX9_never_11 : zDj cX9_never 11 (.ifCond .eq 10) 10 21 14 := ⟨by decide +kernel, rfl, by decide⟩
theorem eX9_never_14 : zD cX9_never 14 (.iload_n 3) 1 15 := ⟨by decide +kernel, rfl⟩
theorem eX9_never_15 : zD cX9_never 15 (.invokestatic 88) 3 18 := ⟨by decide +kernel, rfl⟩
theorem eX9_never_18 : zDj cX9_never 18 (.ifCond .ne 5) 5 23 21 := ⟨by decide +kernel, rfl, by decide⟩
theorem eX9_never_21 : zD cX9_never 21 (.iconst (-1)) 1 22 := ⟨by decide +kernel, rfl⟩
theorem eX9_never_22 : zD cX9_never 22 .ireturn 1 23 := ⟨by decide +kernel, rfl⟩
theorem eX9_never_23 : zD cX9_never 23 (.aload_n 0) 1 24 := ⟨by decide +kernel, rfl⟩
theorem eX9_never_24 : zD cX9_never 24 (.getfield 10) 3 27 := ⟨by decide +kernel, rfl⟩
theorem eX9_never_27 : zD cX9_never 27 (.getfield 98) 3 30 := ⟨by decide +kernel, rfl⟩
theorem eX9_never_30 : zD cX9_never 30 (.iload_n 2) 1 31 := ⟨by decide +kernel, rfl⟩
theorem eX9_never_31 : zD cX9_never 31 (.iconst 4) 1 32 := ⟨by decide +kernel, rfl⟩
theorem eX9_never_32 : zD cX9_never 32 .imul 1 33 := ⟨by decide +kernel, rfl⟩
theorem eX9_never_33 : zD cX9_never 33 (.iload_n 3) 1 34 := ⟨by decide +kernel, rfl⟩
theorem eX9_never_34 : zD cX9_never 34 .iadd 1 35 := ⟨by decide +kernel, rfl⟩
theorem eX9_never_35 : zD cX9_never 35 .aaload 1 36 := ⟨by decide +kernel, rfl⟩
theorem eX9_never_36 : zD cX9_never 36 (.astore 4) 2 38 := ⟨by decide +kernel, rfl⟩
theorem eX9_never_38 : zD cX9_never 38 (.aload 4) 2 40 := ⟨by decide +kernel, rfl⟩
theorem eX9_never_40 : zD cX9_never 40 (.bipush 32) 2 42 := ⟨by decide +kernel, rfl⟩
theorem eX9_never_42 : zD cX9_never 42 (.invokevirtual 237) 3 45 := ⟨by decide +kernel, rfl⟩
theorem eX9_never_45 : zD cX9_never 45 (.istore 5) 2 47 := ⟨by decide +kernel, rfl⟩
theorem eX9_never_47 : zD cX9_never 47 (.iload 5) 2 49 := ⟨by decide +kernel, rfl⟩
theorem eX9_never_49 : zDj cX9_never 49 (.ifCond .ge 5) 5 54 52 := ⟨by decide +kernel, rfl, by decide⟩
theorem eX9_never_52 : zD cX9_never 52 (.iconst (-1)) 1 53 := ⟨by decide +kernel, rfl⟩
theorem eX9_never_53 : zD cX9_never 53 .ireturn 1 54 := ⟨by decide +kernel, rfl⟩
theorem eX9_never_54 : zD cX9_never 54 (.aload_n 0) 1 55 := ⟨by decide +kernel, rfl⟩
theorem eX9_never_55 : zD cX9_never 55 (.aload_n 0) 1 56 := ⟨by decide +kernel, rfl⟩
theorem eX9_never_56 : zD cX9_never 56 (.getfield 63) 3 59 := ⟨by decide +kernel, rfl⟩
theorem eX9_never_59 : zD cX9_never 59 (.iload_n 1) 1 60 := ⟨by decide +kernel, rfl⟩
theorem eX9_never_60 : zD cX9_never 60 (.bipush 101) 2 62 := ⟨by decide +kernel, rfl⟩
theorem eX9_never_62 : zD cX9_never 62 (.invokevirtual 226) 3 65 := ⟨by decide +kernel, rfl⟩
theorem eX9_never_65 : zD cX9_never 65 (.iconst 0) 1 66 := ⟨by decide +kernel, rfl⟩
theorem eX9_never_66 : zD cX9_never 66 (.istore 6) 2 68 := ⟨by decide +kernel, rfl⟩
theorem eX9_never_68 : zD cX9_never 68 (.iconst 0) 1 69 := ⟨by decide +kernel, rfl⟩
theorem eX9_never_69 : zD cX9_never 69 (.istore 7) 2 71 := ⟨by decide +kernel, rfl⟩
theorem eX9_never_71 : zD cX9_never 71 (.iload 7) 2 73 := ⟨by decide +kernel, rfl⟩
theorem eX9_never_73 : zD cX9_never 73 (.bipush 60) 2 75 := ⟨by decide +kernel, rfl⟩
theorem eX9_never_75 : zDj cX9_never 75 (.if_icmp .gt 40) 40 115 78 := ⟨by decide +kernel, rfl, by decide⟩
theorem eX9_never_78 : zD cX9_never 78 (.aload_n 0) 1 79 := ⟨by decide +kernel, rfl⟩
theorem eX9_never_79 : zD cX9_never 79 (.getfield 63) 3 82 := ⟨by decide +kernel, rfl⟩
theorem eX9_never_82 : zD cX9_never 82 (.getfield 230) 3 85 := ⟨by decide +kernel, rfl⟩
theorem eX9_never_85 : zD cX9_never 85 (.iload 7) 2 87 := ⟨by decide +kernel, rfl⟩
theorem eX9_never_87 : zD cX9_never 87 (.aload 4) 2 89 := ⟨by decide +kernel, rfl⟩
theorem eX9_never_89 : zD cX9_never 89 (.getfield 121) 3 92 := ⟨by decide +kernel, rfl⟩
theorem eX9_never_92 : zD cX9_never 92 (.iload 5) 2 94 := ⟨by decide +kernel, rfl⟩
theorem eX9_never_94 : zD cX9_never 94 .iaload 1 95 := ⟨by decide +kernel, rfl⟩
theorem eX9_never_95 : zD cX9_never 95 .isub 1 96 := ⟨by decide +kernel, rfl⟩
theorem eX9_never_96 : zD cX9_never 96 (.invokestatic 240) 3 99 := ⟨by decide +kernel, rfl⟩
theorem eX9_never_99 : zD cX9_never 99 (.bipush 12) 2 101 := ⟨by decide +kernel, rfl⟩
theorem eX9_never_101 : zD cX9_never 101 .iadd 1 102 := ⟨by decide +kernel, rfl⟩
theorem eX9_never_102 : zD cX9_never 102 .iaload 1 103 := ⟨by decide +kernel, rfl⟩
theorem eX9_never_103 : zDj cX9_never 103 (.ifCond .ne 6) 6 109 106 := ⟨by decide +kernel, rfl, by decide⟩
theorem eX9_never_106 : zD cX9_never 106 (.iinc 6 1) 3 109 := ⟨by decide +kernel, rfl⟩
theorem eX9_never_109 : zD cX9_never 109 (.iinc 7 1) 3 112 := ⟨by decide +kernel, rfl⟩
theorem eX9_never_112 : zDj cX9_never 112 (.goto (-41)) (-41) 71 115 := ⟨by decide +kernel, rfl, by decide⟩
theorem eX9_never_115 : zD cX9_never 115 (.iload 6) 2 117 := ⟨by decide +kernel, rfl⟩
theorem eX9_never_117 : zD cX9_never 117 .ireturn 1 118 := ⟨by decide +kernel, rfl⟩
theorem eX9_hand_0 : zD cX9_hand 0 (.iload_n 1) 1 1 := ⟨by decide +kernel, rfl⟩
theorem eX9_hand_1 : zD cX9_hand 1 (.invokestatic 84) 3 4 := ⟨by decide +kernel, rfl⟩
theorem eX9_hand_4 : zDj cX9_hand 4 (.ifCond .eq 12) 12 16 7 := ⟨by decide +kernel, rfl, by decide⟩
theorem eX9_hand_7 : zD cX9_hand 7 (.iload_n 2) 1 8 := ⟨by decide +kernel, rfl⟩
theorem eX9_hand_8 : zD cX9_hand 8 (.iconst (-1)) 1 9 := ⟨by decide +kernel, rfl⟩
theorem eX9_hand_9 : zD cX9_hand 9 (.iconst 3) 1 10 := ⟨by decide +kernel, rfl⟩
theorem eX9_hand_10 : zD cX9_hand 10 (.invokestatic 113) 3 13 := ⟨by decide +kernel, rfl⟩
theorem eX9_hand_13 : zDj cX9_hand 13 (.ifCond .ne 5) 5 18 16 := ⟨by decide +kernel, rfl, by decide⟩
theorem eX9_hand_16 : zD cX9_hand 16 (.iconst 0) 1 17 := ⟨by decide +kernel, rfl⟩
theorem eX9_hand_17 : zD cX9_hand 17 .ireturn 1 18 := ⟨by decide +kernel, rfl⟩
theorem eX9_hand_18 : zD cX9_hand 18 (.aload_n 0) 1 19 := ⟨by decide +kernel, rfl⟩
theorem eX9_hand_19 : zD cX9_hand 19 (.getfield 10) 3 22 := ⟨by decide +kernel, rfl⟩
theorem eX9_hand_22 : zD cX9_hand 22 (.getfield 249) 3 25 := ⟨by decide +kernel, rfl⟩
theorem eX9_hand_25 : zD cX9_hand 25 (.iload_n 1) 1 26 := ⟨by decide +kernel, rfl⟩
theorem eX9_hand_26 : zD cX9_hand 26 (.iload_n 2) 1 27 := ⟨by decide +kernel, rfl⟩
theorem eX9_hand_27 : zD cX9_hand 27 .iastore 1 28 := ⟨by decide +kernel, rfl⟩
theorem eX9_hand_28 : zD cX9_hand 28 (.iconst 1) 1 29 := ⟨by decide +kernel, rfl⟩
theorem eX9_hand_29 : zD cX9_hand 29 .ireturn 1 30 := ⟨by decide +kernel, rfl⟩
theorem eX9_apart_0 : zD cX9_apart 0 (.iload_n 1) 1 1 := ⟨by decide +kernel, rfl⟩
theorem eX9_apart_1 : zD cX9_apart 1 (.invokestatic 223) 3 4 := ⟨by decide +kernel, rfl⟩
theorem eX9_apart_4 : zDj cX9_apart 4 (.ifCond .eq 10) 10 14 7 := ⟨by decide +kernel, rfl, by decide⟩
theorem eX9_apart_7 : zD cX9_apart 7 (.iload_n 2) 1 8 := ⟨by decide +kernel, rfl⟩
theorem eX9_apart_8 : zD cX9_apart 8 (.invokestatic 223) 3 11 := ⟨by decide +kernel, rfl⟩
theorem eX9_apart_11 : zDj cX9_apart 11 (.ifCond .ne 5) 5 16 14 := ⟨by decide +kernel, rfl, by decide⟩
theorem eX9_apart_14 : zD cX9_apart 14 (.iconst (-1)) 1 15 := ⟨by decide +kernel, rfl⟩
theorem eX9_apart_15 : zD cX9_apart 15 .ireturn 1 16 := ⟨by decide +kernel, rfl⟩
theorem eX9_apart_16 : zD cX9_apart 16 (.aload_n 0) 1 17 := ⟨by decide +kernel, rfl⟩
theorem eX9_apart_17 : zD cX9_apart 17 (.aload_n 0) 1 18 := ⟨by decide +kernel, rfl⟩
theorem eX9_apart_18 : zD cX9_apart 18 (.getfield 63) 3 21 := ⟨by decide +kernel, rfl⟩
theorem eX9_apart_21 : zD cX9_apart 21 (.iload_n 1) 1 22 := ⟨by decide +kernel, rfl⟩
theorem eX9_apart_22 : zD cX9_apart 22 (.bipush 101) 2 24 := ⟨by decide +kernel, rfl⟩
theorem eX9_apart_24 : zD cX9_apart 24 (.invokevirtual 226) 3 27 := ⟨by decide +kernel, rfl⟩
theorem eX9_apart_27 : zD cX9_apart 27 (.aload_n 0) 1 28 := ⟨by decide +kernel, rfl⟩
theorem eX9_apart_28 : zD cX9_apart 28 (.aload_n 0) 1 29 := ⟨by decide +kernel, rfl⟩
theorem eX9_apart_29 : zD cX9_apart 29 (.getfield 67) 3 32 := ⟨by decide +kernel, rfl⟩
theorem eX9_apart_32 : zD cX9_apart 32 (.iload_n 2) 1 33 := ⟨by decide +kernel, rfl⟩
theorem eX9_apart_33 : zD cX9_apart 33 (.bipush 101) 2 35 := ⟨by decide +kernel, rfl⟩
theorem eX9_apart_35 : zD cX9_apart 35 (.invokevirtual 226) 3 38 := ⟨by decide +kernel, rfl⟩
theorem eX9_apart_38 : zD cX9_apart 38 (.aload_n 0) 1 39 := ⟨by decide +kernel, rfl⟩
theorem eX9_apart_39 : zD cX9_apart 39 (.getfield 63) 3 42 := ⟨by decide +kernel, rfl⟩
theorem eX9_apart_42 : zD cX9_apart 42 (.aload_n 0) 1 43 := ⟨by decide +kernel, rfl⟩
theorem eX9_apart_43 : zD cX9_apart 43 (.getfield 67) 3 46 := ⟨by decide +kernel, rfl⟩
theorem eX9_apart_46 : zD cX9_apart 46 (.invokevirtual 252) 3 49 := ⟨by decide +kernel, rfl⟩
theorem eX9_apart_49 : zD cX9_apart 49 .ireturn 1 50 := ⟨by decide +kernel, rfl⟩
theorem eX9_whose_0 : zD cX9_whose 0 (.iload_n 1) 1 1 := ⟨by decide +kernel, rfl⟩
theorem eX9_whose_1 : zD cX9_whose 1 (.invokestatic 84) 3 4 := ⟨by decide +kernel, rfl⟩
theorem eX9_whose_4 : zDj cX9_whose 4 (.ifCond .eq 12) 12 16 7 := ⟨by decide +kernel, rfl, by decide⟩
theorem eX9_whose_7 : zD cX9_whose 7 (.iload_n 2) 1 8 := ⟨by decide +kernel, rfl⟩
theorem eX9_whose_8 : zD cX9_whose 8 (.iconst 0) 1 9 := ⟨by decide +kernel, rfl⟩
theorem eX9_whose_9 : zD cX9_whose 9 (.iconst 1) 1 10 := ⟨by decide +kernel, rfl⟩
theorem eX9_whose_10 : zD cX9_whose 10 (.invokestatic 113) 3 13 := ⟨by decide +kernel, rfl⟩
theorem eX9_whose_13 : zDj cX9_whose 13 (.ifCond .ne 5) 5 18 16 := ⟨by decide +kernel, rfl, by decide⟩
theorem eX9_whose_16 : zD cX9_whose 16 (.iconst (-1)) 1 17 := ⟨by decide +kernel, rfl⟩
theorem eX9_whose_17 : zD cX9_whose 17 .ireturn 1 18 := ⟨by decide +kernel, rfl⟩
theorem eX9_whose_18 : zD cX9_whose 18 (.aload_n 0) 1 19 := ⟨by decide +kernel, rfl⟩
theorem eX9_whose_19 : zD cX9_whose 19 (.aload_n 0) 1 20 := ⟨by decide +kernel, rfl⟩
theorem eX9_whose_20 : zD cX9_whose 20 (.getfield 63) 3 23 := ⟨by decide +kernel, rfl⟩
theorem eX9_whose_23 : zD cX9_whose 23 (.iconst 1) 1 24 := ⟨by decide +kernel, rfl⟩
theorem eX9_whose_24 : zD cX9_whose 24 (.iload_n 1) 1 25 := ⟨by decide +kernel, rfl⟩
theorem eX9_whose_25 : zD cX9_whose 25 .ishl 1 26 := ⟨by decide +kernel, rfl⟩
theorem eX9_whose_26 : zD cX9_whose 26 (.bipush 101) 2 28 := ⟨by decide +kernel, rfl⟩
theorem eX9_whose_28 : zD cX9_whose 28 (.invokevirtual 226) 3 31 := ⟨by decide +kernel, rfl⟩
theorem eX9_whose_31 : zD cX9_whose 31 (.iconst (-1)) 1 32 := ⟨by decide +kernel, rfl⟩
theorem eX9_whose_32 : zD cX9_whose 32 (.istore_n 3) 1 33 := ⟨by decide +kernel, rfl⟩
theorem eX9_whose_33 : zD cX9_whose 33 (.iconst (-1)) 1 34 := ⟨by decide +kernel, rfl⟩
theorem eX9_whose_34 : zD cX9_whose 34 (.istore 4) 2 36 := ⟨by decide +kernel, rfl⟩
theorem eX9_whose_36 : zD cX9_whose 36 (.iconst 0) 1 37 := ⟨by decide +kernel, rfl⟩
theorem eX9_whose_37 : zD cX9_whose 37 (.istore 5) 2 39 := ⟨by decide +kernel, rfl⟩
theorem eX9_whose_39 : zD cX9_whose 39 (.iload 5) 2 41 := ⟨by decide +kernel, rfl⟩
theorem eX9_whose_41 : zD cX9_whose 41 (.iconst 4) 1 42 := ⟨by decide +kernel, rfl⟩
theorem eX9_whose_42 : zDj cX9_whose 42 (.if_icmp .ge 72) 72 114 45 := ⟨by decide +kernel, rfl, by decide⟩
theorem eX9_whose_45 : zD cX9_whose 45 (.aload_n 0) 1 46 := ⟨by decide +kernel, rfl⟩
theorem eX9_whose_46 : zD cX9_whose 46 (.aload_n 0) 1 47 := ⟨by decide +kernel, rfl⟩
theorem eX9_whose_47 : zD cX9_whose 47 (.getfield 67) 3 50 := ⟨by decide +kernel, rfl⟩
theorem eX9_whose_50 : zD cX9_whose 50 (.aload_n 0) 1 51 := ⟨by decide +kernel, rfl⟩
theorem eX9_whose_51 : zD cX9_whose 51 (.getfield 10) 3 54 := ⟨by decide +kernel, rfl⟩
theorem eX9_whose_54 : zD cX9_whose 54 (.iload 5) 2 56 := ⟨by decide +kernel, rfl⟩
theorem eX9_whose_56 : zD cX9_whose 56 (.invokevirtual 255) 3 59 := ⟨by decide +kernel, rfl⟩
theorem eX9_whose_59 : zD cX9_whose 59 (.iconst 1) 1 60 := ⟨by decide +kernel, rfl⟩
theorem eX9_whose_60 : zD cX9_whose 60 (.iload_n 1) 1 61 := ⟨by decide +kernel, rfl⟩
theorem eX9_whose_61 : zD cX9_whose 61 .ishl 1 62 := ⟨by decide +kernel, rfl⟩
theorem eX9_whose_62 : zD cX9_whose 62 (.iconst (-1)) 1 63 := ⟨by decide +kernel, rfl⟩
theorem eX9_whose_63 : zD cX9_whose 63 .ixor 1 64 := ⟨by decide +kernel, rfl⟩
theorem eX9_whose_64 : zD cX9_whose 64 .iand 1 65 := ⟨by decide +kernel, rfl⟩
theorem eX9_whose_65 : zD cX9_whose 65 (.bipush 101) 2 67 := ⟨by decide +kernel, rfl⟩
theorem eX9_whose_67 : zD cX9_whose 67 (.invokevirtual 226) 3 70 := ⟨by decide +kernel, rfl⟩
theorem eX9_whose_70 : zD cX9_whose 70 (.aload_n 0) 1 71 := ⟨by decide +kernel, rfl⟩
theorem eX9_whose_71 : zD cX9_whose 71 (.getfield 63) 3 74 := ⟨by decide +kernel, rfl⟩
theorem eX9_whose_74 : zD cX9_whose 74 (.aload_n 0) 1 75 := ⟨by decide +kernel, rfl⟩
theorem eX9_whose_75 : zD cX9_whose 75 (.getfield 67) 3 78 := ⟨by decide +kernel, rfl⟩
theorem eX9_whose_78 : zD cX9_whose 78 (.invokevirtual 252) 3 81 := ⟨by decide +kernel, rfl⟩
theorem eX9_whose_81 : zD cX9_whose 81 (.istore 6) 2 83 := ⟨by decide +kernel, rfl⟩
theorem eX9_whose_83 : zD cX9_whose 83 (.iload 6) 2 85 := ⟨by decide +kernel, rfl⟩
theorem eX9_whose_85 : zD cX9_whose 85 (.iconst (-1)) 1 86 := ⟨by decide +kernel, rfl⟩
theorem eX9_whose_86 : zDj cX9_whose 86 (.if_icmp .eq 22) 22 108 89 := ⟨by decide +kernel, rfl, by decide⟩
theorem eX9_whose_89 : zD cX9_whose 89 (.iload_n 3) 1 90 := ⟨by decide +kernel, rfl⟩
theorem eX9_whose_90 : zD cX9_whose 90 (.iconst (-1)) 1 91 := ⟨by decide +kernel, rfl⟩
theorem eX9_whose_91 : zDj cX9_whose 91 (.if_icmp .eq 10) 10 101 94 := ⟨by decide +kernel, rfl, by decide⟩
theorem eX9_whose_94 : zD cX9_whose 94 (.iload 6) 2 96 := ⟨by decide +kernel, rfl⟩
theorem eX9_whose_96 : zD cX9_whose 96 (.iload 4) 2 98 := ⟨by decide +kernel, rfl⟩
theorem eX9_whose_98 : zDj cX9_whose 98 (.if_icmp .ge 10) 10 108 101 := ⟨by decide +kernel, rfl, by decide⟩
theorem eX9_whose_101 : zD cX9_whose 101 (.iload 5) 2 103 := ⟨by decide +kernel, rfl⟩
theorem eX9_whose_103 : zD cX9_whose 103 (.istore_n 3) 1 104 := ⟨by decide +kernel, rfl⟩
theorem eX9_whose_104 : zD cX9_whose 104 (.iload 6) 2 106 := ⟨by decide +kernel, rfl⟩
theorem eX9_whose_106 : zD cX9_whose 106 (.istore 4) 2 108 := ⟨by decide +kernel, rfl⟩
theorem eX9_whose_108 : zD cX9_whose 108 (.iinc 5 1) 3 111 := ⟨by decide +kernel, rfl⟩
theorem eX9_whose_111 : zDj cX9_whose 111 (.goto (-72)) (-72) 39 114 := ⟨by decide +kernel, rfl, by decide⟩
theorem eX9_whose_114 : zD cX9_whose 114 (.iload_n 2) 1 115 := ⟨by decide +kernel, rfl⟩
theorem eX9_whose_115 : zDj cX9_whose 115 (.ifCond .ne 7) 7 122 118 := ⟨by decide +kernel, rfl, by decide⟩
theorem eX9_whose_118 : zD cX9_whose 118 (.iload_n 3) 1 119 := ⟨by decide +kernel, rfl⟩
theorem eX9_whose_119 : zDj cX9_whose 119 (.goto 5) 5 124 122 := ⟨by decide +kernel, rfl, by decide⟩
theorem eX9_whose_122 : zD cX9_whose 122 (.iload 4) 2 124 := ⟨by decide +kernel, rfl⟩
theorem eX9_whose_124 : zD cX9_whose 124 .ireturn 1 125 := ⟨by decide +kernel, rfl⟩
theorem eX9_isEnding_0 : zD cX9_isEnding 0 (.iload_n 1) 1 1 := ⟨by decide +kernel, rfl⟩
theorem eX9_isEnding_1 : zD cX9_isEnding 1 (.iload_n 2) 1 2 := ⟨by decide +kernel, rfl⟩
theorem eX9_isEnding_2 : zDj cX9_isEnding 2 (.if_icmp .ne 5) 5 7 5 := ⟨by decide +kernel, rfl, by decide⟩
theorem eX9_isEnding_5 : zD cX9_isEnding 5 (.iconst 0) 1 6 := ⟨by decide +kernel, rfl⟩
theorem eX9_isEnding_6 : zD cX9_isEnding 6 .ireturn 1 7 := ⟨by decide +kernel, rfl⟩
theorem eX9_isEnding_7 : zD cX9_isEnding 7 (.iconst 0) 1 8 := ⟨by decide +kernel, rfl⟩
theorem eX9_isEnding_8 : zD cX9_isEnding 8 (.istore 4) 2 10 := ⟨by decide +kernel, rfl⟩
theorem eX9_isEnding_10 : zD cX9_isEnding 10 (.iload 4) 2 12 := ⟨by decide +kernel, rfl⟩
theorem eX9_isEnding_12 : zD cX9_isEnding 12 (.iconst 4) 1 13 := ⟨by decide +kernel, rfl⟩
theorem eX9_isEnding_13 : zDj cX9_isEnding 13 (.if_icmp .ge 46) 46 59 16 := ⟨by decide +kernel, rfl, by decide⟩
theorem eX9_isEnding_16 : zD cX9_isEnding 16 (.aload_n 0) 1 17 := ⟨by decide +kernel, rfl⟩
theorem eX9_isEnding_17 : zD cX9_isEnding 17 (.getfield 10) 3 20 := ⟨by decide +kernel, rfl⟩
theorem eX9_isEnding_20 : zD cX9_isEnding 20 (.getfield 98) 3 23 := ⟨by decide +kernel, rfl⟩
theorem eX9_isEnding_23 : zD cX9_isEnding 23 (.iload_n 1) 1 24 := ⟨by decide +kernel, rfl⟩
theorem eX9_isEnding_24 : zD cX9_isEnding 24 (.iconst 4) 1 25 := ⟨by decide +kernel, rfl⟩
theorem eX9_isEnding_25 : zD cX9_isEnding 25 .imul 1 26 := ⟨by decide +kernel, rfl⟩
theorem eX9_isEnding_26 : zD cX9_isEnding 26 (.iload 4) 2 28 := ⟨by decide +kernel, rfl⟩
theorem eX9_isEnding_28 : zD cX9_isEnding 28 .iadd 1 29 := ⟨by decide +kernel, rfl⟩
theorem eX9_isEnding_29 : zD cX9_isEnding 29 .aaload 1 30 := ⟨by decide +kernel, rfl⟩
theorem eX9_isEnding_30 : zD cX9_isEnding 30 (.aload_n 0) 1 31 := ⟨by decide +kernel, rfl⟩
theorem eX9_isEnding_31 : zD cX9_isEnding 31 (.getfield 10) 3 34 := ⟨by decide +kernel, rfl⟩
theorem eX9_isEnding_34 : zD cX9_isEnding 34 (.getfield 98) 3 37 := ⟨by decide +kernel, rfl⟩
theorem eX9_isEnding_37 : zD cX9_isEnding 37 (.iload_n 2) 1 38 := ⟨by decide +kernel, rfl⟩
theorem eX9_isEnding_38 : zD cX9_isEnding 38 (.iconst 4) 1 39 := ⟨by decide +kernel, rfl⟩
theorem eX9_isEnding_39 : zD cX9_isEnding 39 .imul 1 40 := ⟨by decide +kernel, rfl⟩
theorem eX9_isEnding_40 : zD cX9_isEnding 40 (.iload 4) 2 42 := ⟨by decide +kernel, rfl⟩
theorem eX9_isEnding_42 : zD cX9_isEnding 42 .iadd 1 43 := ⟨by decide +kernel, rfl⟩
theorem eX9_isEnding_43 : zD cX9_isEnding 43 .aaload 1 44 := ⟨by decide +kernel, rfl⟩
theorem eX9_isEnding_44 : zD cX9_isEnding 44 (.iload_n 3) 1 45 := ⟨by decide +kernel, rfl⟩
theorem eX9_isEnding_45 : zD cX9_isEnding 45 (.invokevirtual 329) 3 48 := ⟨by decide +kernel, rfl⟩
theorem eX9_isEnding_48 : zDj cX9_isEnding 48 (.ifCond .ne 5) 5 53 51 := ⟨by decide +kernel, rfl, by decide⟩
theorem eX9_isEnding_51 : zD cX9_isEnding 51 (.iconst 0) 1 52 := ⟨by decide +kernel, rfl⟩
theorem eX9_isEnding_52 : zD cX9_isEnding 52 .ireturn 1 53 := ⟨by decide +kernel, rfl⟩
theorem eX9_isEnding_53 : zD cX9_isEnding 53 (.iinc 4 1) 3 56 := ⟨by decide +kernel, rfl⟩
theorem eX9_isEnding_56 : zDj cX9_isEnding 56 (.goto (-46)) (-46) 10 59 := ⟨by decide +kernel, rfl, by decide⟩
theorem eX9_isEnding_59 : zD cX9_isEnding 59 (.iconst 1) 1 60 := ⟨by decide +kernel, rfl⟩
theorem eX9_isEnding_60 : zD cX9_isEnding 60 .ireturn 1 61 := ⟨by decide +kernel, rfl⟩
theorem eX9_worth_0 : zD cX9_worth 0 (.aload_n 0) 1 1 := ⟨by decide +kernel, rfl⟩
theorem eX9_worth_1 : zD cX9_worth 1 (.getfield 35) 3 4 := ⟨by decide +kernel, rfl⟩
theorem eX9_worth_4 : zD cX9_worth 4 (.aload_n 0) 1 5 := ⟨by decide +kernel, rfl⟩
theorem eX9_worth_5 : zD cX9_worth 5 (.getfield 10) 3 8 := ⟨by decide +kernel, rfl⟩
theorem eX9_worth_8 : zD cX9_worth 8 (.getfield 134) 3 11 := ⟨by decide +kernel, rfl⟩
theorem eX9_worth_11 : zD cX9_worth 11 (.iconst (-1)) 1 12 := ⟨by decide +kernel, rfl⟩
theorem eX9_worth_12 : zD cX9_worth 12 (.invokevirtual 167) 3 15 := ⟨by decide +kernel, rfl⟩
theorem eX9_worth_15 : zD cX9_worth 15 (.aload_n 0) 1 16 := ⟨by decide +kernel, rfl⟩
theorem eX9_worth_16 : zD cX9_worth 16 (.getfield 35) 3 19 := ⟨by decide +kernel, rfl⟩
theorem eX9_worth_19 : zD cX9_worth 19 (.aload_n 0) 1 20 := ⟨by decide +kernel, rfl⟩
theorem eX9_worth_20 : zD cX9_worth 20 (.getfield 21) 3 23 := ⟨by decide +kernel, rfl⟩
theorem eX9_worth_23 : zD cX9_worth 23 (.iload_n 1) 1 24 := ⟨by decide +kernel, rfl⟩
theorem eX9_worth_24 : zD cX9_worth 24 .aaload 1 25 := ⟨by decide +kernel, rfl⟩
theorem eX9_worth_25 : zD cX9_worth 25 (.aload_n 0) 1 26 := ⟨by decide +kernel, rfl⟩
theorem eX9_worth_26 : zD cX9_worth 26 (.getfield 10) 3 29 := ⟨by decide +kernel, rfl⟩
theorem eX9_worth_29 : zD cX9_worth 29 (.getfield 98) 3 32 := ⟨by decide +kernel, rfl⟩
theorem eX9_worth_32 : zD cX9_worth 32 (.iload_n 3) 1 33 := ⟨by decide +kernel, rfl⟩
theorem eX9_worth_33 : zD cX9_worth 33 (.iconst 4) 1 34 := ⟨by decide +kernel, rfl⟩
theorem eX9_worth_34 : zD cX9_worth 34 .imul 1 35 := ⟨by decide +kernel, rfl⟩
theorem eX9_worth_35 : zD cX9_worth 35 (.iload 4) 2 37 := ⟨by decide +kernel, rfl⟩
theorem eX9_worth_37 : zD cX9_worth 37 (.invokevirtual 170) 3 40 := ⟨by decide +kernel, rfl⟩
theorem eX9_worth_40 : zD cX9_worth 40 (.aload_n 0) 1 41 := ⟨by decide +kernel, rfl⟩
theorem eX9_worth_41 : zD cX9_worth 41 (.aload_n 0) 1 42 := ⟨by decide +kernel, rfl⟩
theorem eX9_worth_42 : zD cX9_worth 42 (.getfield 67) 3 45 := ⟨by decide +kernel, rfl⟩
theorem eX9_worth_45 : zD cX9_worth 45 (.iload_n 2) 1 46 := ⟨by decide +kernel, rfl⟩
theorem eX9_worth_46 : zD cX9_worth 46 (.iconst 1) 1 47 := ⟨by decide +kernel, rfl⟩
theorem eX9_worth_47 : zD cX9_worth 47 (.iload_n 3) 1 48 := ⟨by decide +kernel, rfl⟩
theorem eX9_worth_48 : zD cX9_worth 48 .ishl 1 49 := ⟨by decide +kernel, rfl⟩
theorem eX9_worth_49 : zD cX9_worth 49 (.iconst (-1)) 1 50 := ⟨by decide +kernel, rfl⟩
theorem eX9_worth_50 : zD cX9_worth 50 .ixor 1 51 := ⟨by decide +kernel, rfl⟩
theorem eX9_worth_51 : zD cX9_worth 51 .iand 1 52 := ⟨by decide +kernel, rfl⟩
theorem eX9_worth_52 : zD cX9_worth 52 (.bipush 101) 2 54 := ⟨by decide +kernel, rfl⟩
theorem eX9_worth_54 : zD cX9_worth 54 (.invokevirtual 226) 3 57 := ⟨by decide +kernel, rfl⟩
theorem eX9_worth_57 : zD cX9_worth 57 (.aload_n 0) 1 58 := ⟨by decide +kernel, rfl⟩
theorem eX9_worth_58 : zD cX9_worth 58 (.aload_n 0) 1 59 := ⟨by decide +kernel, rfl⟩
theorem eX9_worth_59 : zD cX9_worth 59 (.getfield 63) 3 62 := ⟨by decide +kernel, rfl⟩
theorem eX9_worth_62 : zD cX9_worth 62 (.iconst 1) 1 63 := ⟨by decide +kernel, rfl⟩
theorem eX9_worth_63 : zD cX9_worth 63 (.iload_n 3) 1 64 := ⟨by decide +kernel, rfl⟩
theorem eX9_worth_64 : zD cX9_worth 64 .ishl 1 65 := ⟨by decide +kernel, rfl⟩
theorem eX9_worth_65 : zD cX9_worth 65 (.bipush 101) 2 67 := ⟨by decide +kernel, rfl⟩
theorem eX9_worth_67 : zD cX9_worth 67 (.invokevirtual 226) 3 70 := ⟨by decide +kernel, rfl⟩
theorem eX9_worth_70 : zD cX9_worth 70 (.aload_n 0) 1 71 := ⟨by decide +kernel, rfl⟩
theorem eX9_worth_71 : zD cX9_worth 71 (.getfield 35) 3 74 := ⟨by decide +kernel, rfl⟩
theorem eX9_worth_74 : zD cX9_worth 74 (.getfield 174) 3 77 := ⟨by decide +kernel, rfl⟩
theorem eX9_worth_77 : zD cX9_worth 77 (.iconst 0) 1 78 := ⟨by decide +kernel, rfl⟩
theorem eX9_worth_78 : zD cX9_worth 78 (.aload_n 0) 1 79 := ⟨by decide +kernel, rfl⟩
theorem eX9_worth_79 : zD cX9_worth 79 (.getfield 63) 3 82 := ⟨by decide +kernel, rfl⟩
theorem eX9_worth_82 : zD cX9_worth 82 (.aload_n 0) 1 83 := ⟨by decide +kernel, rfl⟩
theorem eX9_worth_83 : zD cX9_worth 83 (.getfield 67) 3 86 := ⟨by decide +kernel, rfl⟩
theorem eX9_worth_86 : zD cX9_worth 86 (.invokevirtual 233) 3 89 := ⟨by decide +kernel, rfl⟩
theorem eX9_worth_89 : zD cX9_worth 89 (.invokestatic 290) 3 92 := ⟨by decide +kernel, rfl⟩
theorem eX9_worth_92 : zD cX9_worth 92 .iadd 1 93 := ⟨by decide +kernel, rfl⟩
theorem eX9_worth_93 : zD cX9_worth 93 .ireturn 1 94 := ⟨by decide +kernel, rfl⟩
theorem eX9_endings_0 : zD cX9_endings 0 (.aload_n 0) 1 1 := ⟨by decide +kernel, rfl⟩
theorem eX9_endings_1 : zD cX9_endings 1 (.iload_n 1) 1 2 := ⟨by decide +kernel, rfl⟩
theorem eX9_endings_2 : zD cX9_endings 2 (.invokevirtual 164) 3 5 := ⟨by decide +kernel, rfl⟩
theorem eX9_endings_5 : zDj cX9_endings 5 (.ifCond .eq 28) 28 33 8 := ⟨by decide +kernel, rfl, by decide⟩
theorem eX9_endings_8 : zD cX9_endings 8 (.iload_n 2) 1 9 := ⟨by decide +kernel, rfl⟩
theorem eX9_endings_9 : zD cX9_endings 9 (.invokestatic 223) 3 12 := ⟨by decide +kernel, rfl⟩
theorem eX9_endings_12 : zDj cX9_endings 12 (.ifCond .eq 21) 21 33 15 := ⟨by decide +kernel, rfl, by decide⟩
theorem eX9_endings_15 : zD cX9_endings 15 (.iload_n 3) 1 16 := ⟨by decide +kernel, rfl⟩
theorem eX9_endings_16 : zD cX9_endings 16 (.invokestatic 84) 3 19 := ⟨by decide +kernel, rfl⟩
theorem eX9_endings_19 : zDj cX9_endings 19 (.ifCond .eq 14) 14 33 22 := ⟨by decide +kernel, rfl, by decide⟩
theorem eX9_endings_22 : zD cX9_endings 22 (.iload 4) 2 24 := ⟨by decide +kernel, rfl⟩
theorem eX9_endings_24 : zD cX9_endings 24 (.iconst 0) 1 25 := ⟨by decide +kernel, rfl⟩
theorem eX9_endings_25 : zD cX9_endings 25 (.bipush 31) 2 27 := ⟨by decide +kernel, rfl⟩
theorem eX9_endings_27 : zD cX9_endings 27 (.invokestatic 113) 3 30 := ⟨by decide +kernel, rfl⟩
theorem eX9_endings_30 : zDj cX9_endings 30 (.ifCond .ne 5) 5 35 33 := ⟨by decide +kernel, rfl, by decide⟩
theorem eX9_endings_33 : zD cX9_endings 33 (.iconst (-1)) 1 34 := ⟨by decide +kernel, rfl⟩
theorem eX9_endings_34 : zD cX9_endings 34 .ireturn 1 35 := ⟨by decide +kernel, rfl⟩
theorem eX9_endings_35 : zD cX9_endings 35 (.iload 5) 2 37 := ⟨by decide +kernel, rfl⟩
theorem eX9_endings_37 : zD cX9_endings 37 (.bipush 10) 2 39 := ⟨by decide +kernel, rfl⟩
theorem eX9_endings_39 : zD cX9_endings 39 (.bipush 13) 2 41 := ⟨by decide +kernel, rfl⟩
theorem eX9_endings_41 : zD cX9_endings 41 (.invokestatic 113) 3 44 := ⟨by decide +kernel, rfl⟩
theorem eX9_endings_44 : zDj cX9_endings 44 (.ifCond .eq 36) 36 80 47 := ⟨by decide +kernel, rfl, by decide⟩
theorem eX9_endings_47 : zD cX9_endings 47 (.aload_n 0) 1 48 := ⟨by decide +kernel, rfl⟩
theorem eX9_endings_48 : zD cX9_endings 48 (.iload_n 3) 1 49 := ⟨by decide +kernel, rfl⟩
theorem eX9_endings_49 : zD cX9_endings 49 (.iload 5) 2 51 := ⟨by decide +kernel, rfl⟩
theorem eX9_endings_51 : zD cX9_endings 51 (.bipush 10) 2 53 := ⟨by decide +kernel, rfl⟩
theorem eX9_endings_53 : zD cX9_endings 53 .isub 1 54 := ⟨by decide +kernel, rfl⟩
theorem eX9_endings_54 : zD cX9_endings 54 (.iload 4) 2 56 := ⟨by decide +kernel, rfl⟩
theorem eX9_endings_56 : zD cX9_endings 56 (.invokevirtual 258) 3 59 := ⟨by decide +kernel, rfl⟩
theorem eX9_endings_59 : zDj cX9_endings 59 (.ifCond .eq 19) 19 78 62 := ⟨by decide +kernel, rfl, by decide⟩
theorem eX9_endings_62 : zD cX9_endings 62 (.aload_n 0) 1 63 := ⟨by decide +kernel, rfl⟩
theorem eX9_endings_63 : zD cX9_endings 63 (.iload_n 1) 1 64 := ⟨by decide +kernel, rfl⟩
theorem eX9_endings_64 : zD cX9_endings 64 (.iload_n 2) 1 65 := ⟨by decide +kernel, rfl⟩
theorem eX9_endings_65 : zD cX9_endings 65 (.iload 5) 2 67 := ⟨by decide +kernel, rfl⟩
theorem eX9_endings_67 : zD cX9_endings 67 (.bipush 10) 2 69 := ⟨by decide +kernel, rfl⟩
theorem eX9_endings_69 : zD cX9_endings 69 .isub 1 70 := ⟨by decide +kernel, rfl⟩
theorem eX9_endings_70 : zD cX9_endings 70 (.iload 4) 2 72 := ⟨by decide +kernel, rfl⟩
theorem eX9_endings_72 : zD cX9_endings 72 (.invokevirtual 261) 3 75 := ⟨by decide +kernel, rfl⟩
theorem eX9_endings_75 : zDj cX9_endings 75 (.goto 4) 4 79 78 := ⟨by decide +kernel, rfl, by decide⟩
theorem eX9_endings_78 : zD cX9_endings 78 (.iconst (-1)) 1 79 := ⟨by decide +kernel, rfl⟩
theorem eX9_endings_79 : zD cX9_endings 79 .ireturn 1 80 := ⟨by decide +kernel, rfl⟩
theorem eX9_endings_80 : zD cX9_endings 80 (.iload 5) 2 82 := ⟨by decide +kernel, rfl⟩
theorem eX9_endings_82 : zD cX9_endings 82 (.iconst 0) 1 83 := ⟨by decide +kernel, rfl⟩
theorem eX9_endings_83 : zD cX9_endings 83 (.iconst 1) 1 84 := ⟨by decide +kernel, rfl⟩
theorem eX9_endings_84 : zD cX9_endings 84 (.invokestatic 113) 3 87 := ⟨by decide +kernel, rfl⟩
theorem eX9_endings_87 : zDj cX9_endings 87 (.ifCond .ne 5) 5 92 90 := ⟨by decide +kernel, rfl, by decide⟩
theorem eX9_endings_90 : zD cX9_endings 90 (.iconst (-1)) 1 91 := ⟨by decide +kernel, rfl⟩
theorem eX9_endings_91 : zD cX9_endings 91 .ireturn 1 92 := ⟨by decide +kernel, rfl⟩
theorem eX9_endings_92 : zD cX9_endings 92 (.iconst 0) 1 93 := ⟨by decide +kernel, rfl⟩
theorem eX9_endings_93 : zD cX9_endings 93 (.istore 6) 2 95 := ⟨by decide +kernel, rfl⟩
theorem eX9_endings_95 : zD cX9_endings 95 (.iconst (-1)) 1 96 := ⟨by decide +kernel, rfl⟩
theorem eX9_endings_96 : zD cX9_endings 96 (.istore 7) 2 98 := ⟨by decide +kernel, rfl⟩
theorem eX9_endings_98 : zD cX9_endings 98 (.iconst (-1)) 1 99 := ⟨by decide +kernel, rfl⟩
theorem eX9_endings_99 : zD cX9_endings 99 (.istore 8) 2 101 := ⟨by decide +kernel, rfl⟩
theorem eX9_endings_101 : zD cX9_endings 101 (.iconst 0) 1 102 := ⟨by decide +kernel, rfl⟩
theorem eX9_endings_102 : zD cX9_endings 102 (.istore 9) 2 104 := ⟨by decide +kernel, rfl⟩
theorem eX9_endings_104 : zD cX9_endings 104 (.iload 9) 2 106 := ⟨by decide +kernel, rfl⟩
theorem eX9_endings_106 : zD cX9_endings 106 (.iconst 4) 1 107 := ⟨by decide +kernel, rfl⟩
theorem eX9_endings_107 : zDj cX9_endings 107 (.if_icmp .ge 60) 60 167 110 := ⟨by decide +kernel, rfl, by decide⟩
theorem eX9_endings_110 : zD cX9_endings 110 (.aload_n 0) 1 111 := ⟨by decide +kernel, rfl⟩
theorem eX9_endings_111 : zD cX9_endings 111 (.iload_n 3) 1 112 := ⟨by decide +kernel, rfl⟩
theorem eX9_endings_112 : zD cX9_endings 112 (.iload 9) 2 114 := ⟨by decide +kernel, rfl⟩
theorem eX9_endings_114 : zD cX9_endings 114 (.iload 4) 2 116 := ⟨by decide +kernel, rfl⟩
theorem eX9_endings_116 : zD cX9_endings 116 (.invokevirtual 258) 3 119 := ⟨by decide +kernel, rfl⟩
theorem eX9_endings_119 : zDj cX9_endings 119 (.ifCond .ne 6) 6 125 122 := ⟨by decide +kernel, rfl, by decide⟩
theorem eX9_endings_122 : zDj cX9_endings 122 (.goto 39) 39 161 125 := ⟨by decide +kernel, rfl, by decide⟩
theorem eX9_endings_125 : zD cX9_endings 125 (.iinc 6 1) 3 128 := ⟨by decide +kernel, rfl⟩
theorem eX9_endings_128 : zD cX9_endings 128 (.aload_n 0) 1 129 := ⟨by decide +kernel, rfl⟩
theorem eX9_endings_129 : zD cX9_endings 129 (.iload_n 1) 1 130 := ⟨by decide +kernel, rfl⟩
theorem eX9_endings_130 : zD cX9_endings 130 (.iload_n 2) 1 131 := ⟨by decide +kernel, rfl⟩
theorem eX9_endings_131 : zD cX9_endings 131 (.iload 9) 2 133 := ⟨by decide +kernel, rfl⟩
theorem eX9_endings_133 : zD cX9_endings 133 (.iload 4) 2 135 := ⟨by decide +kernel, rfl⟩
theorem eX9_endings_135 : zD cX9_endings 135 (.invokevirtual 261) 3 138 := ⟨by decide +kernel, rfl⟩
theorem eX9_endings_138 : zD cX9_endings 138 (.istore 10) 2 140 := ⟨by decide +kernel, rfl⟩
theorem eX9_endings_140 : zD cX9_endings 140 (.iload 7) 2 142 := ⟨by decide +kernel, rfl⟩
theorem eX9_endings_142 : zD cX9_endings 142 (.iconst (-1)) 1 143 := ⟨by decide +kernel, rfl⟩
theorem eX9_endings_143 : zDj cX9_endings 143 (.if_icmp .eq 10) 10 153 146 := ⟨by decide +kernel, rfl, by decide⟩
theorem eX9_endings_146 : zD cX9_endings 146 (.iload 10) 2 148 := ⟨by decide +kernel, rfl⟩
theorem eX9_endings_148 : zD cX9_endings 148 (.iload 8) 2 150 := ⟨by decide +kernel, rfl⟩
theorem eX9_endings_150 : zDj cX9_endings 150 (.if_icmp .ge 11) 11 161 153 := ⟨by decide +kernel, rfl, by decide⟩
theorem eX9_endings_153 : zD cX9_endings 153 (.iload 9) 2 155 := ⟨by decide +kernel, rfl⟩
theorem eX9_endings_155 : zD cX9_endings 155 (.istore 7) 2 157 := ⟨by decide +kernel, rfl⟩
theorem eX9_endings_157 : zD cX9_endings 157 (.iload 10) 2 159 := ⟨by decide +kernel, rfl⟩
theorem eX9_endings_159 : zD cX9_endings 159 (.istore 8) 2 161 := ⟨by decide +kernel, rfl⟩
theorem eX9_endings_161 : zD cX9_endings 161 (.iinc 9 1) 3 164 := ⟨by decide +kernel, rfl⟩
theorem eX9_endings_164 : zDj cX9_endings 164 (.goto (-60)) (-60) 104 167 := ⟨by decide +kernel, rfl, by decide⟩
theorem eX9_endings_167 : zD cX9_endings 167 (.iload 5) 2 169 := ⟨by decide +kernel, rfl⟩
theorem eX9_endings_169 : zDj cX9_endings 169 (.ifCond .ne 8) 8 177 172 := ⟨by decide +kernel, rfl, by decide⟩
theorem eX9_endings_172 : zD cX9_endings 172 (.iload 6) 2 174 := ⟨by decide +kernel, rfl⟩
theorem eX9_endings_174 : zDj cX9_endings 174 (.goto 5) 5 179 177 := ⟨by decide +kernel, rfl, by decide⟩
theorem eX9_endings_177 : zD cX9_endings 177 (.iload 7) 2 179 := ⟨by decide +kernel, rfl⟩
theorem eX9_endings_179 : zD cX9_endings 179 .ireturn 1 180 := ⟨by decide +kernel, rfl⟩
theorem eX9_made_0 : zD cX9_made 0 (.aload_n 0) 1 1 := ⟨by decide +kernel, rfl⟩
theorem eX9_made_1 : zD cX9_made 1 (.iload_n 1) 1 2 := ⟨by decide +kernel, rfl⟩
theorem eX9_made_2 : zD cX9_made 2 (.invokevirtual 164) 3 5 := ⟨by decide +kernel, rfl⟩
theorem eX9_made_5 : zDj cX9_made 5 (.ifCond .eq 27) 27 32 8 := ⟨by decide +kernel, rfl, by decide⟩
theorem eX9_made_8 : zD cX9_made 8 (.iload_n 2) 1 9 := ⟨by decide +kernel, rfl⟩
theorem eX9_made_9 : zD cX9_made 9 (.invokestatic 84) 3 12 := ⟨by decide +kernel, rfl⟩
theorem eX9_made_12 : zDj cX9_made 12 (.ifCond .eq 20) 20 32 15 := ⟨by decide +kernel, rfl, by decide⟩
theorem eX9_made_15 : zD cX9_made 15 (.iload_n 3) 1 16 := ⟨by decide +kernel, rfl⟩
theorem eX9_made_16 : zD cX9_made 16 (.invokestatic 88) 3 19 := ⟨by decide +kernel, rfl⟩
theorem eX9_made_19 : zDj cX9_made 19 (.ifCond .eq 13) 13 32 22 := ⟨by decide +kernel, rfl, by decide⟩
theorem eX9_made_22 : zD cX9_made 22 (.iload 4) 2 24 := ⟨by decide +kernel, rfl⟩
theorem eX9_made_24 : zD cX9_made 24 (.iconst 1) 1 25 := ⟨by decide +kernel, rfl⟩
theorem eX9_made_25 : zD cX9_made 25 (.iconst 5) 1 26 := ⟨by decide +kernel, rfl⟩
theorem eX9_made_26 : zD cX9_made 26 (.invokestatic 113) 3 29 := ⟨by decide +kernel, rfl⟩
theorem eX9_made_29 : zDj cX9_made 29 (.ifCond .ne 5) 5 34 32 := ⟨by decide +kernel, rfl, by decide⟩
theorem eX9_made_32 : zD cX9_made 32 (.iconst (-1)) 1 33 := ⟨by decide +kernel, rfl⟩
theorem eX9_made_33 : zD cX9_made 33 .ireturn 1 34 := ⟨by decide +kernel, rfl⟩
theorem eX9_made_34 : zD cX9_made 34 (.aload_n 0) 1 35 := ⟨by decide +kernel, rfl⟩
theorem eX9_made_35 : zD cX9_made 35 (.getfield 10) 3 38 := ⟨by decide +kernel, rfl⟩
theorem eX9_made_38 : zD cX9_made 38 (.getfield 98) 3 41 := ⟨by decide +kernel, rfl⟩
theorem eX9_made_41 : zD cX9_made 41 (.iload_n 2) 1 42 := ⟨by decide +kernel, rfl⟩
theorem eX9_made_42 : zD cX9_made 42 (.iconst 4) 1 43 := ⟨by decide +kernel, rfl⟩
theorem eX9_made_43 : zD cX9_made 43 .imul 1 44 := ⟨by decide +kernel, rfl⟩
theorem eX9_made_44 : zD cX9_made 44 (.iload_n 3) 1 45 := ⟨by decide +kernel, rfl⟩
theorem eX9_made_45 : zD cX9_made 45 .iadd 1 46 := ⟨by decide +kernel, rfl⟩
theorem eX9_made_46 : zD cX9_made 46 .aaload 1 47 := ⟨by decide +kernel, rfl⟩
theorem eX9_made_47 : zD cX9_made 47 (.invokevirtual 130) 3 50 := ⟨by decide +kernel, rfl⟩
theorem eX9_made_50 : zD cX9_made 50 (.istore 6) 2 52 := ⟨by decide +kernel, rfl⟩
theorem eX9_made_52 : zD cX9_made 52 (.iload 5) 2 54 := ⟨by decide +kernel, rfl⟩
theorem eX9_made_54 : zD cX9_made 54 (.iconst (-1)) 1 55 := ⟨by decide +kernel, rfl⟩
theorem eX9_made_55 : zD cX9_made 55 (.iload 4) 2 57 := ⟨by decide +kernel, rfl⟩
theorem eX9_made_57 : zD cX9_made 57 (.iconst 1) 1 58 := ⟨by decide +kernel, rfl⟩
theorem eX9_made_58 : zD cX9_made 58 .isub 1 59 := ⟨by decide +kernel, rfl⟩
theorem eX9_made_59 : zD cX9_made 59 (.invokestatic 113) 3 62 := ⟨by decide +kernel, rfl⟩
theorem eX9_made_62 : zDj cX9_made 62 (.ifCond .eq 19) 19 81 65 := ⟨by decide +kernel, rfl, by decide⟩
theorem eX9_made_65 : zD cX9_made 65 (.iload 6) 2 67 := ⟨by decide +kernel, rfl⟩
theorem eX9_made_67 : zD cX9_made 67 (.iconst 1) 1 68 := ⟨by decide +kernel, rfl⟩
theorem eX9_made_68 : zDj cX9_made 68 (.if_icmp .lt 13) 13 81 71 := ⟨by decide +kernel, rfl, by decide⟩
theorem eX9_made_71 : zD cX9_made 71 (.iload 6) 2 73 := ⟨by decide +kernel, rfl⟩
theorem eX9_made_73 : zD cX9_made 73 (.iload 4) 2 75 := ⟨by decide +kernel, rfl⟩
theorem eX9_made_75 : zD cX9_made 75 .iadd 1 76 := ⟨by decide +kernel, rfl⟩
theorem eX9_made_76 : zD cX9_made 76 (.bipush 32) 2 78 := ⟨by decide +kernel, rfl⟩
theorem eX9_made_78 : zDj cX9_made 78 (.if_icmp .le 5) 5 83 81 := ⟨by decide +kernel, rfl, by decide⟩
theorem eX9_made_81 : zD cX9_made 81 (.iconst (-1)) 1 82 := ⟨by decide +kernel, rfl⟩
theorem eX9_made_82 : zD cX9_made 82 .ireturn 1 83 := ⟨by decide +kernel, rfl⟩
theorem eX9_made_83 : zD cX9_made 83 (.aload_n 0) 1 84 := ⟨by decide +kernel, rfl⟩
theorem eX9_made_84 : zD cX9_made 84 (.getfield 49) 3 87 := ⟨by decide +kernel, rfl⟩
theorem eX9_made_87 : zD cX9_made 87 (.aload_n 0) 1 88 := ⟨by decide +kernel, rfl⟩
theorem eX9_made_88 : zD cX9_made 88 (.getfield 10) 3 91 := ⟨by decide +kernel, rfl⟩
theorem eX9_made_91 : zD cX9_made 91 (.iload_n 2) 1 92 := ⟨by decide +kernel, rfl⟩
theorem eX9_made_92 : zD cX9_made 92 (.iload_n 3) 1 93 := ⟨by decide +kernel, rfl⟩
theorem eX9_made_93 : zD cX9_made 93 (.iload 4) 2 95 := ⟨by decide +kernel, rfl⟩
theorem eX9_made_95 : zD cX9_made 95 (.invokevirtual 265) 3 98 := ⟨by decide +kernel, rfl⟩
theorem eX9_made_98 : zD cX9_made 98 (.aload_n 0) 1 99 := ⟨by decide +kernel, rfl⟩
theorem eX9_made_99 : zD cX9_made 99 (.getfield 49) 3 102 := ⟨by decide +kernel, rfl⟩
theorem eX9_made_102 : zD cX9_made 102 (.aload_n 0) 1 103 := ⟨by decide +kernel, rfl⟩
theorem eX9_made_103 : zD cX9_made 103 (.getfield 21) 3 106 := ⟨by decide +kernel, rfl⟩
theorem eX9_made_106 : zD cX9_made 106 (.iload_n 1) 1 107 := ⟨by decide +kernel, rfl⟩
theorem eX9_made_107 : zD cX9_made 107 .aaload 1 108 := ⟨by decide +kernel, rfl⟩
theorem eX9_made_108 : zD cX9_made 108 (.invokevirtual 268) 3 111 := ⟨by decide +kernel, rfl⟩
theorem eX9_made_111 : zD cX9_made 111 (.iload 5) 2 113 := ⟨by decide +kernel, rfl⟩
theorem eX9_made_113 : zD cX9_made 113 (.iconst (-1)) 1 114 := ⟨by decide +kernel, rfl⟩
theorem eX9_made_114 : zDj cX9_made 114 (.if_icmp .ne 13) 13 127 117 := ⟨by decide +kernel, rfl, by decide⟩
theorem eX9_made_117 : zD cX9_made 117 (.aload_n 0) 1 118 := ⟨by decide +kernel, rfl⟩
theorem eX9_made_118 : zD cX9_made 118 (.getfield 49) 3 121 := ⟨by decide +kernel, rfl⟩
theorem eX9_made_121 : zD cX9_made 121 (.getfield 271) 3 124 := ⟨by decide +kernel, rfl⟩
theorem eX9_made_124 : zDj cX9_made 124 (.goto 13) 13 137 127 := ⟨by decide +kernel, rfl, by decide⟩
theorem eX9_made_127 : zD cX9_made 127 (.aload_n 0) 1 128 := ⟨by decide +kernel, rfl⟩
theorem eX9_made_128 : zD cX9_made 128 (.getfield 49) 3 131 := ⟨by decide +kernel, rfl⟩
theorem eX9_made_131 : zD cX9_made 131 (.getfield 274) 3 134 := ⟨by decide +kernel, rfl⟩
theorem eX9_made_134 : zD cX9_made 134 (.iload 5) 2 136 := ⟨by decide +kernel, rfl⟩
theorem eX9_made_136 : zD cX9_made 136 .iaload 1 137 := ⟨by decide +kernel, rfl⟩
theorem eX9_made_137 : zD cX9_made 137 .ireturn 1 138 := ⟨by decide +kernel, rfl⟩
theorem eX9_head_0 : zD cX9_head 0 (.aload_n 0) 1 1 := ⟨by decide +kernel, rfl⟩
theorem eX9_head_1 : zD cX9_head 1 (.iload_n 1) 1 2 := ⟨by decide +kernel, rfl⟩
theorem eX9_head_2 : zD cX9_head 2 (.invokevirtual 164) 3 5 := ⟨by decide +kernel, rfl⟩
theorem eX9_head_5 : zDj cX9_head 5 (.ifCond .eq 30) 30 35 8 := ⟨by decide +kernel, rfl, by decide⟩
theorem eX9_head_8 : zD cX9_head 8 (.iload_n 2) 1 9 := ⟨by decide +kernel, rfl⟩
theorem eX9_head_9 : zD cX9_head 9 (.invokestatic 84) 3 12 := ⟨by decide +kernel, rfl⟩
theorem eX9_head_12 : zDj cX9_head 12 (.ifCond .eq 23) 23 35 15 := ⟨by decide +kernel, rfl, by decide⟩
theorem eX9_head_15 : zD cX9_head 15 (.iload_n 3) 1 16 := ⟨by decide +kernel, rfl⟩
theorem eX9_head_16 : zD cX9_head 16 (.iconst 0) 1 17 := ⟨by decide +kernel, rfl⟩
theorem eX9_head_17 : zD cX9_head 17 (.bipush 120) 2 19 := ⟨by decide +kernel, rfl⟩
theorem eX9_head_19 : zD cX9_head 19 (.invokestatic 113) 3 22 := ⟨by decide +kernel, rfl⟩
theorem eX9_head_22 : zDj cX9_head 22 (.ifCond .eq 13) 13 35 25 := ⟨by decide +kernel, rfl, by decide⟩
theorem eX9_head_25 : zD cX9_head 25 (.iload 4) 2 27 := ⟨by decide +kernel, rfl⟩
theorem eX9_head_27 : zD cX9_head 27 (.iconst 0) 1 28 := ⟨by decide +kernel, rfl⟩
theorem eX9_head_28 : zD cX9_head 28 (.iconst 1) 1 29 := ⟨by decide +kernel, rfl⟩
theorem eX9_head_29 : zD cX9_head 29 (.invokestatic 113) 3 32 := ⟨by decide +kernel, rfl⟩
theorem eX9_head_32 : zDj cX9_head 32 (.ifCond .ne 5) 5 37 35 := ⟨by decide +kernel, rfl, by decide⟩
theorem eX9_head_35 : zD cX9_head 35 (.iconst (-1)) 1 36 := ⟨by decide +kernel, rfl⟩
theorem eX9_head_36 : zD cX9_head 36 .ireturn 1 37 := ⟨by decide +kernel, rfl⟩
theorem eX9_head_37 : zD cX9_head 37 (.iconst 1) 1 38 := ⟨by decide +kernel, rfl⟩
theorem eX9_head_38 : zD cX9_head 38 (.istore 5) 2 40 := ⟨by decide +kernel, rfl⟩
theorem eX9_head_40 : zD cX9_head 40 (.iconst 0) 1 41 := ⟨by decide +kernel, rfl⟩
theorem eX9_head_41 : zD cX9_head 41 (.istore 6) 2 43 := ⟨by decide +kernel, rfl⟩
theorem eX9_head_43 : zD cX9_head 43 (.iload 6) 2 45 := ⟨by decide +kernel, rfl⟩
theorem eX9_head_45 : zD cX9_head 45 (.iconst 4) 1 46 := ⟨by decide +kernel, rfl⟩
theorem eX9_head_46 : zDj cX9_head 46 (.if_icmp .ge 53) 53 99 49 := ⟨by decide +kernel, rfl, by decide⟩
theorem eX9_head_49 : zD cX9_head 49 (.aload_n 0) 1 50 := ⟨by decide +kernel, rfl⟩
theorem eX9_head_50 : zD cX9_head 50 (.getfield 72) 3 53 := ⟨by decide +kernel, rfl⟩
theorem eX9_head_53 : zD cX9_head 53 (.iload 6) 2 55 := ⟨by decide +kernel, rfl⟩
theorem eX9_head_55 : zD cX9_head 55 .aaload 1 56 := ⟨by decide +kernel, rfl⟩
theorem eX9_head_56 : zD cX9_head 56 (.aload_n 0) 1 57 := ⟨by decide +kernel, rfl⟩
theorem eX9_head_57 : zD cX9_head 57 (.getfield 10) 3 60 := ⟨by decide +kernel, rfl⟩
theorem eX9_head_60 : zD cX9_head 60 (.getfield 98) 3 63 := ⟨by decide +kernel, rfl⟩
theorem eX9_head_63 : zD cX9_head 63 (.iload_n 2) 1 64 := ⟨by decide +kernel, rfl⟩
theorem eX9_head_64 : zD cX9_head 64 (.iconst 4) 1 65 := ⟨by decide +kernel, rfl⟩
theorem eX9_head_65 : zD cX9_head 65 .imul 1 66 := ⟨by decide +kernel, rfl⟩
theorem eX9_head_66 : zD cX9_head 66 (.iconst 4) 1 67 := ⟨by decide +kernel, rfl⟩
theorem eX9_head_67 : zD cX9_head 67 .iadd 1 68 := ⟨by decide +kernel, rfl⟩
theorem eX9_head_68 : zD cX9_head 68 (.iconst 1) 1 69 := ⟨by decide +kernel, rfl⟩
theorem eX9_head_69 : zD cX9_head 69 .isub 1 70 := ⟨by decide +kernel, rfl⟩
theorem eX9_head_70 : zD cX9_head 70 (.iload 6) 2 72 := ⟨by decide +kernel, rfl⟩
theorem eX9_head_72 : zD cX9_head 72 .isub 1 73 := ⟨by decide +kernel, rfl⟩
theorem eX9_head_73 : zD cX9_head 73 .aaload 1 74 := ⟨by decide +kernel, rfl⟩
theorem eX9_head_74 : zD cX9_head 74 (.iload_n 3) 1 75 := ⟨by decide +kernel, rfl⟩
theorem eX9_head_75 : zD cX9_head 75 (.invokevirtual 277) 3 78 := ⟨by decide +kernel, rfl⟩
theorem eX9_head_78 : zDj cX9_head 78 (.ifCond .eq 12) 12 90 81 := ⟨by decide +kernel, rfl, by decide⟩
theorem eX9_head_81 : zD cX9_head 81 (.iload 5) 2 83 := ⟨by decide +kernel, rfl⟩
theorem eX9_head_83 : zDj cX9_head 83 (.ifCond .eq 7) 7 90 86 := ⟨by decide +kernel, rfl, by decide⟩
theorem eX9_head_86 : zD cX9_head 86 (.iconst 1) 1 87 := ⟨by decide +kernel, rfl⟩
theorem eX9_head_87 : zDj cX9_head 87 (.goto 4) 4 91 90 := ⟨by decide +kernel, rfl, by decide⟩
theorem eX9_head_90 : zD cX9_head 90 (.iconst 0) 1 91 := ⟨by decide +kernel, rfl⟩
theorem eX9_head_91 : zD cX9_head 91 (.istore 5) 2 93 := ⟨by decide +kernel, rfl⟩
theorem eX9_head_93 : zD cX9_head 93 (.iinc 6 1) 3 96 := ⟨by decide +kernel, rfl⟩
theorem eX9_head_96 : zDj cX9_head 96 (.goto (-53)) (-53) 43 99 := ⟨by decide +kernel, rfl, by decide⟩
theorem eX9_head_99 : zD cX9_head 99 (.iload 4) 2 101 := ⟨by decide +kernel, rfl⟩
theorem eX9_head_101 : zDj cX9_head 101 (.ifCond .eq 8) 8 109 104 := ⟨by decide +kernel, rfl, by decide⟩
theorem eX9_head_104 : zD cX9_head 104 (.iload 5) 2 106 := ⟨by decide +kernel, rfl⟩
theorem eX9_head_106 : zDj cX9_head 106 (.ifCond .ne 24) 24 130 109 := ⟨by decide +kernel, rfl, by decide⟩
theorem eX9_head_109 : zD cX9_head 109 (.iload 4) 2 111 := ⟨by decide +kernel, rfl⟩
theorem eX9_head_111 : zD cX9_head 111 (.iconst 1) 1 112 := ⟨by decide +kernel, rfl⟩
theorem eX9_head_112 : zDj cX9_head 112 (.if_icmp .ne 7) 7 119 115 := ⟨by decide +kernel, rfl, by decide⟩
theorem eX9_head_115 : zD cX9_head 115 (.iconst (-1)) 1 116 := ⟨by decide +kernel, rfl⟩
theorem eX9_head_116 : zDj cX9_head 116 (.goto 13) 13 129 119 := ⟨by decide +kernel, rfl, by decide⟩
theorem eX9_head_119 : zD cX9_head 119 (.iload 5) 2 121 := ⟨by decide +kernel, rfl⟩
theorem eX9_head_121 : zDj cX9_head 121 (.ifCond .eq 7) 7 128 124 := ⟨by decide +kernel, rfl, by decide⟩
theorem eX9_head_124 : zD cX9_head 124 (.iconst 1) 1 125 := ⟨by decide +kernel, rfl⟩
theorem eX9_head_125 : zDj cX9_head 125 (.goto 4) 4 129 128 := ⟨by decide +kernel, rfl, by decide⟩
theorem eX9_head_128 : zD cX9_head 128 (.iconst 0) 1 129 := ⟨by decide +kernel, rfl⟩
theorem eX9_head_129 : zD cX9_head 129 .ireturn 1 130 := ⟨by decide +kernel, rfl⟩
theorem eX9_head_130 : zD cX9_head 130 (.aload_n 0) 1 131 := ⟨by decide +kernel, rfl⟩
theorem eX9_head_131 : zD cX9_head 131 (.getfield 35) 3 134 := ⟨by decide +kernel, rfl⟩
theorem eX9_head_134 : zD cX9_head 134 (.aload_n 0) 1 135 := ⟨by decide +kernel, rfl⟩
theorem eX9_head_135 : zD cX9_head 135 (.getfield 10) 3 138 := ⟨by decide +kernel, rfl⟩
theorem eX9_head_138 : zD cX9_head 138 (.getfield 134) 3 141 := ⟨by decide +kernel, rfl⟩
theorem eX9_head_141 : zD cX9_head 141 (.iconst (-1)) 1 142 := ⟨by decide +kernel, rfl⟩
theorem eX9_head_142 : zD cX9_head 142 (.invokevirtual 167) 3 145 := ⟨by decide +kernel, rfl⟩
theorem eX9_head_145 : zD cX9_head 145 (.aload_n 0) 1 146 := ⟨by decide +kernel, rfl⟩
theorem eX9_head_146 : zD cX9_head 146 (.getfield 35) 3 149 := ⟨by decide +kernel, rfl⟩
theorem eX9_head_149 : zD cX9_head 149 (.aload_n 0) 1 150 := ⟨by decide +kernel, rfl⟩
theorem eX9_head_150 : zD cX9_head 150 (.getfield 21) 3 153 := ⟨by decide +kernel, rfl⟩
theorem eX9_head_153 : zD cX9_head 153 (.iload_n 1) 1 154 := ⟨by decide +kernel, rfl⟩
theorem eX9_head_154 : zD cX9_head 154 .aaload 1 155 := ⟨by decide +kernel, rfl⟩
theorem eX9_head_155 : zD cX9_head 155 (.aload_n 0) 1 156 := ⟨by decide +kernel, rfl⟩
theorem eX9_head_156 : zD cX9_head 156 (.getfield 72) 3 159 := ⟨by decide +kernel, rfl⟩
theorem eX9_head_159 : zD cX9_head 159 (.iconst 0) 1 160 := ⟨by decide +kernel, rfl⟩
theorem eX9_head_160 : zD cX9_head 160 (.iconst 0) 1 161 := ⟨by decide +kernel, rfl⟩
theorem eX9_head_161 : zD cX9_head 161 (.invokevirtual 170) 3 164 := ⟨by decide +kernel, rfl⟩
theorem eX9_head_164 : zD cX9_head 164 (.aload_n 0) 1 165 := ⟨by decide +kernel, rfl⟩
theorem eX9_head_165 : zD cX9_head 165 (.getfield 35) 3 168 := ⟨by decide +kernel, rfl⟩
theorem eX9_head_168 : zD cX9_head 168 (.getfield 174) 3 171 := ⟨by decide +kernel, rfl⟩
theorem eX9_head_171 : zD cX9_head 171 .ireturn 1 172 := ⟨by decide +kernel, rfl⟩
theorem eX9_shape_0 : zD cX9_shape 0 (.aload_n 0) 1 1 := ⟨by decide +kernel, rfl⟩
theorem eX9_shape_1 : zD cX9_shape 1 (.getfield 10) 3 4 := ⟨by decide +kernel, rfl⟩
theorem eX9_shape_4 : zD cX9_shape 4 (.getfield 281) 3 7 := ⟨by decide +kernel, rfl⟩
theorem eX9_shape_7 : zD cX9_shape 7 (.bipush 10) 2 9 := ⟨by decide +kernel, rfl⟩
theorem eX9_shape_9 : zDj cX9_shape 9 (.if_icmp .ge 23) 23 32 12 := ⟨by decide +kernel, rfl, by decide⟩
theorem eX9_shape_12 : zD cX9_shape 12 (.iload_n 2) 1 13 := ⟨by decide +kernel, rfl⟩
theorem eX9_shape_13 : zD cX9_shape 13 (.iconst 1) 1 14 := ⟨by decide +kernel, rfl⟩
theorem eX9_shape_14 : zD cX9_shape 14 (.sipush 9999) 3 17 := ⟨by decide +kernel, rfl⟩
theorem eX9_shape_17 : zD cX9_shape 17 (.invokestatic 113) 3 20 := ⟨by decide +kernel, rfl⟩
theorem eX9_shape_20 : zDj cX9_shape 20 (.ifCond .eq 12) 12 32 23 := ⟨by decide +kernel, rfl, by decide⟩
theorem eX9_shape_23 : zD cX9_shape 23 (.iload_n 1) 1 24 := ⟨by decide +kernel, rfl⟩
theorem eX9_shape_24 : zD cX9_shape 24 (.iconst 1) 1 25 := ⟨by decide +kernel, rfl⟩
theorem eX9_shape_25 : zD cX9_shape 25 (.iload_n 2) 1 26 := ⟨by decide +kernel, rfl⟩
theorem eX9_shape_26 : zD cX9_shape 26 (.invokestatic 113) 3 29 := ⟨by decide +kernel, rfl⟩
theorem eX9_shape_29 : zDj cX9_shape 29 (.ifCond .ne 5) 5 34 32 := ⟨by decide +kernel, rfl, by decide⟩
theorem eX9_shape_32 : zD cX9_shape 32 (.iconst (-1)) 1 33 := ⟨by decide +kernel, rfl⟩
theorem eX9_shape_33 : zD cX9_shape 33 .ireturn 1 34 := ⟨by decide +kernel, rfl⟩
theorem eX9_shape_34 : zD cX9_shape 34 (.aload_n 0) 1 35 := ⟨by decide +kernel, rfl⟩
theorem eX9_shape_35 : zD cX9_shape 35 (.getfield 10) 3 38 := ⟨by decide +kernel, rfl⟩
theorem eX9_shape_38 : zD cX9_shape 38 (.getfield 284) 3 41 := ⟨by decide +kernel, rfl⟩
theorem eX9_shape_41 : zD cX9_shape 41 (.aload_n 0) 1 42 := ⟨by decide +kernel, rfl⟩
theorem eX9_shape_42 : zD cX9_shape 42 (.getfield 10) 3 45 := ⟨by decide +kernel, rfl⟩
theorem eX9_shape_45 : zD cX9_shape 45 (.getfield 281) 3 48 := ⟨by decide +kernel, rfl⟩
theorem eX9_shape_48 : zD cX9_shape 48 (.iload_n 1) 1 49 := ⟨by decide +kernel, rfl⟩
theorem eX9_shape_49 : zD cX9_shape 49 .iastore 1 50 := ⟨by decide +kernel, rfl⟩
theorem eX9_shape_50 : zD cX9_shape 50 (.aload_n 0) 1 51 := ⟨by decide +kernel, rfl⟩
theorem eX9_shape_51 : zD cX9_shape 51 (.getfield 10) 3 54 := ⟨by decide +kernel, rfl⟩
theorem eX9_shape_54 : zD cX9_shape 54 (.getfield 287) 3 57 := ⟨by decide +kernel, rfl⟩
theorem eX9_shape_57 : zD cX9_shape 57 (.aload_n 0) 1 58 := ⟨by decide +kernel, rfl⟩
theorem eX9_shape_58 : zD cX9_shape 58 (.getfield 10) 3 61 := ⟨by decide +kernel, rfl⟩
theorem eX9_shape_61 : zD cX9_shape 61 (.getfield 281) 3 64 := ⟨by decide +kernel, rfl⟩
theorem eX9_shape_64 : zD cX9_shape 64 (.iload_n 2) 1 65 := ⟨by decide +kernel, rfl⟩
theorem eX9_shape_65 : zD cX9_shape 65 .iastore 1 66 := ⟨by decide +kernel, rfl⟩
theorem eX9_shape_66 : zD cX9_shape 66 (.aload_n 0) 1 67 := ⟨by decide +kernel, rfl⟩
theorem eX9_shape_67 : zD cX9_shape 67 (.getfield 10) 3 70 := ⟨by decide +kernel, rfl⟩
theorem eX9_shape_70 : zD cX9_shape 70 .dup 1 71 := ⟨by decide +kernel, rfl⟩
theorem eX9_shape_71 : zD cX9_shape 71 (.getfield 281) 3 74 := ⟨by decide +kernel, rfl⟩
theorem eX9_shape_74 : zD cX9_shape 74 (.iconst 1) 1 75 := ⟨by decide +kernel, rfl⟩
theorem eX9_shape_75 : zD cX9_shape 75 .iadd 1 76 := ⟨by decide +kernel, rfl⟩
theorem eX9_shape_76 : zD cX9_shape 76 (.putfield 281) 3 79 := ⟨by decide +kernel, rfl⟩
theorem eX9_shape_79 : zD cX9_shape 79 (.aload_n 0) 1 80 := ⟨by decide +kernel, rfl⟩
theorem eX9_shape_80 : zD cX9_shape 80 (.getfield 10) 3 83 := ⟨by decide +kernel, rfl⟩
theorem eX9_shape_83 : zD cX9_shape 83 (.getfield 281) 3 86 := ⟨by decide +kernel, rfl⟩
theorem eX9_shape_86 : zD cX9_shape 86 .ireturn 1 87 := ⟨by decide +kernel, rfl⟩
theorem eX9_lasts_0 : zD cX9_lasts 0 (.iload_n 1) 1 1 := ⟨by decide +kernel, rfl⟩
theorem eX9_lasts_1 : zD cX9_lasts 1 (.invokestatic 84) 3 4 := ⟨by decide +kernel, rfl⟩
theorem eX9_lasts_4 : zDj cX9_lasts 4 (.ifCond .eq 14) 14 18 7 := ⟨by decide +kernel, rfl, by decide⟩
theorem eX9_lasts_7 : zD cX9_lasts 7 (.aload_n 0) 1 8 := ⟨by decide +kernel, rfl⟩
theorem eX9_lasts_8 : zD cX9_lasts 8 (.getfield 10) 3 11 := ⟨by decide +kernel, rfl⟩
theorem eX9_lasts_11 : zD cX9_lasts 11 (.getfield 281) 3 14 := ⟨by decide +kernel, rfl⟩
theorem eX9_lasts_14 : zD cX9_lasts 14 (.iconst 1) 1 15 := ⟨by decide +kernel, rfl⟩
theorem eX9_lasts_15 : zDj cX9_lasts 15 (.if_icmp .ge 5) 5 20 18 := ⟨by decide +kernel, rfl, by decide⟩
theorem eX9_lasts_18 : zD cX9_lasts 18 (.iconst (-1)) 1 19 := ⟨by decide +kernel, rfl⟩
theorem eX9_lasts_19 : zD cX9_lasts 19 .ireturn 1 20 := ⟨by decide +kernel, rfl⟩
theorem eX9_lasts_20 : zD cX9_lasts 20 (.aload_n 0) 1 21 := ⟨by decide +kernel, rfl⟩
theorem eX9_lasts_21 : zD cX9_lasts 21 (.getfield 10) 3 24 := ⟨by decide +kernel, rfl⟩
theorem eX9_lasts_24 : zD cX9_lasts 24 (.iload_n 1) 1 25 := ⟨by decide +kernel, rfl⟩
theorem eX9_lasts_25 : zD cX9_lasts 25 (.invokevirtual 109) 3 28 := ⟨by decide +kernel, rfl⟩
theorem eX9_lasts_28 : zD cX9_lasts 28 (.istore_n 3) 1 29 := ⟨by decide +kernel, rfl⟩
theorem eX9_lasts_29 : zD cX9_lasts 29 (.iconst (-1)) 1 30 := ⟨by decide +kernel, rfl⟩
theorem eX9_lasts_30 : zD cX9_lasts 30 (.istore 4) 2 32 := ⟨by decide +kernel, rfl⟩
theorem eX9_lasts_32 : zD cX9_lasts 32 (.iconst 0) 1 33 := ⟨by decide +kernel, rfl⟩
theorem eX9_lasts_33 : zD cX9_lasts 33 (.istore 5) 2 35 := ⟨by decide +kernel, rfl⟩
theorem eX9_lasts_35 : zD cX9_lasts 35 (.iload 5) 2 37 := ⟨by decide +kernel, rfl⟩
theorem eX9_lasts_37 : zD cX9_lasts 37 (.aload_n 0) 1 38 := ⟨by decide +kernel, rfl⟩
theorem eX9_lasts_38 : zD cX9_lasts 38 (.getfield 10) 3 41 := ⟨by decide +kernel, rfl⟩
theorem eX9_lasts_41 : zD cX9_lasts 41 (.getfield 281) 3 44 := ⟨by decide +kernel, rfl⟩
theorem eX9_lasts_44 : zDj cX9_lasts 44 (.if_icmp .ge 69) 69 113 47 := ⟨by decide +kernel, rfl, by decide⟩
theorem eX9_lasts_47 : zD cX9_lasts 47 (.iload_n 3) 1 48 := ⟨by decide +kernel, rfl⟩
theorem eX9_lasts_48 : zD cX9_lasts 48 (.aload_n 0) 1 49 := ⟨by decide +kernel, rfl⟩
theorem eX9_lasts_49 : zD cX9_lasts 49 (.getfield 10) 3 52 := ⟨by decide +kernel, rfl⟩
theorem eX9_lasts_52 : zD cX9_lasts 52 (.getfield 287) 3 55 := ⟨by decide +kernel, rfl⟩
theorem eX9_lasts_55 : zD cX9_lasts 55 (.iload 5) 2 57 := ⟨by decide +kernel, rfl⟩
theorem eX9_lasts_57 : zD cX9_lasts 57 .iaload 1 58 := ⟨by decide +kernel, rfl⟩
theorem eX9_lasts_58 : zD cX9_lasts 58 .imul 1 59 := ⟨by decide +kernel, rfl⟩
theorem eX9_lasts_59 : zD cX9_lasts 59 (.iconst 1) 1 60 := ⟨by decide +kernel, rfl⟩
theorem eX9_lasts_60 : zD cX9_lasts 60 (.aload_n 0) 1 61 := ⟨by decide +kernel, rfl⟩
theorem eX9_lasts_61 : zD cX9_lasts 61 (.getfield 10) 3 64 := ⟨by decide +kernel, rfl⟩
theorem eX9_lasts_64 : zD cX9_lasts 64 (.getfield 284) 3 67 := ⟨by decide +kernel, rfl⟩
theorem eX9_lasts_67 : zD cX9_lasts 67 (.iload 5) 2 69 := ⟨by decide +kernel, rfl⟩
theorem eX9_lasts_69 : zD cX9_lasts 69 .iaload 1 70 := ⟨by decide +kernel, rfl⟩
theorem eX9_lasts_70 : zD cX9_lasts 70 (.invokestatic 290) 3 73 := ⟨by decide +kernel, rfl⟩
theorem eX9_lasts_73 : zD cX9_lasts 73 .idiv 1 74 := ⟨by decide +kernel, rfl⟩
theorem eX9_lasts_74 : zD cX9_lasts 74 (.istore 6) 2 76 := ⟨by decide +kernel, rfl⟩
theorem eX9_lasts_76 : zD cX9_lasts 76 (.iload 4) 2 78 := ⟨by decide +kernel, rfl⟩
theorem eX9_lasts_78 : zD cX9_lasts 78 (.iconst (-1)) 1 79 := ⟨by decide +kernel, rfl⟩
theorem eX9_lasts_79 : zDj cX9_lasts 79 (.if_icmp .eq 24) 24 103 82 := ⟨by decide +kernel, rfl, by decide⟩
theorem eX9_lasts_82 : zD cX9_lasts 82 (.iload_n 2) 1 83 := ⟨by decide +kernel, rfl⟩
theorem eX9_lasts_83 : zDj cX9_lasts 83 (.ifCond .eq 13) 13 96 86 := ⟨by decide +kernel, rfl, by decide⟩
theorem eX9_lasts_86 : zD cX9_lasts 86 (.iload 6) 2 88 := ⟨by decide +kernel, rfl⟩
theorem eX9_lasts_88 : zD cX9_lasts 88 (.iload 4) 2 90 := ⟨by decide +kernel, rfl⟩
theorem eX9_lasts_90 : zDj cX9_lasts 90 (.if_icmp .le 17) 17 107 93 := ⟨by decide +kernel, rfl, by decide⟩
theorem eX9_lasts_93 : zDj cX9_lasts 93 (.goto 10) 10 103 96 := ⟨by decide +kernel, rfl, by decide⟩
theorem eX9_lasts_96 : zD cX9_lasts 96 (.iload 6) 2 98 := ⟨by decide +kernel, rfl⟩
theorem eX9_lasts_98 : zD cX9_lasts 98 (.iload 4) 2 100 := ⟨by decide +kernel, rfl⟩
theorem eX9_lasts_100 : zDj cX9_lasts 100 (.if_icmp .ge 7) 7 107 103 := ⟨by decide +kernel, rfl, by decide⟩
theorem eX9_lasts_103 : zD cX9_lasts 103 (.iload 6) 2 105 := ⟨by decide +kernel, rfl⟩
theorem eX9_lasts_105 : zD cX9_lasts 105 (.istore 4) 2 107 := ⟨by decide +kernel, rfl⟩
theorem eX9_lasts_107 : zD cX9_lasts 107 (.iinc 5 1) 3 110 := ⟨by decide +kernel, rfl⟩
theorem eX9_lasts_110 : zDj cX9_lasts 110 (.goto (-75)) (-75) 35 113 := ⟨by decide +kernel, rfl, by decide⟩
theorem eX9_lasts_113 : zD cX9_lasts 113 (.iload 4) 2 115 := ⟨by decide +kernel, rfl⟩
theorem eX9_lasts_115 : zD cX9_lasts 115 .ireturn 1 116 := ⟨by decide +kernel, rfl⟩
theorem eX9_page_0 : zD cX9_page 0 (.aload_n 0) 1 1 := ⟨by decide +kernel, rfl⟩
theorem eX9_page_1 : zD cX9_page 1 (.getfield 10) 3 4 := ⟨by decide +kernel, rfl⟩
theorem eX9_page_4 : zD cX9_page 4 (.getfield 296) 3 7 := ⟨by decide +kernel, rfl⟩
theorem eX9_page_7 : zD cX9_page 7 (.bipush 8) 2 9 := ⟨by decide +kernel, rfl⟩
theorem eX9_page_9 : zDj cX9_page 9 (.if_icmp .ge 23) 23 32 12 := ⟨by decide +kernel, rfl, by decide⟩
theorem eX9_page_12 : zD cX9_page 12 (.iload_n 1) 1 13 := ⟨by decide +kernel, rfl⟩
theorem eX9_page_13 : zD cX9_page 13 (.iconst 0) 1 14 := ⟨by decide +kernel, rfl⟩
theorem eX9_page_14 : zD cX9_page 14 (.bipush 99) 2 16 := ⟨by decide +kernel, rfl⟩
theorem eX9_page_16 : zD cX9_page 16 (.invokestatic 113) 3 19 := ⟨by decide +kernel, rfl⟩
theorem eX9_page_19 : zDj cX9_page 19 (.ifCond .eq 13) 13 32 22 := ⟨by decide +kernel, rfl, by decide⟩
theorem eX9_page_22 : zD cX9_page 22 (.iload_n 2) 1 23 := ⟨by decide +kernel, rfl⟩
theorem eX9_page_23 : zD cX9_page 23 (.iconst 0) 1 24 := ⟨by decide +kernel, rfl⟩
theorem eX9_page_24 : zD cX9_page 24 (.bipush 9) 2 26 := ⟨by decide +kernel, rfl⟩
theorem eX9_page_26 : zD cX9_page 26 (.invokestatic 113) 3 29 := ⟨by decide +kernel, rfl⟩
theorem eX9_page_29 : zDj cX9_page 29 (.ifCond .ne 5) 5 34 32 := ⟨by decide +kernel, rfl, by decide⟩
theorem eX9_page_32 : zD cX9_page 32 (.iconst (-1)) 1 33 := ⟨by decide +kernel, rfl⟩
theorem eX9_page_33 : zD cX9_page 33 .ireturn 1 34 := ⟨by decide +kernel, rfl⟩
theorem eX9_page_34 : zD cX9_page 34 (.iload_n 3) 1 35 := ⟨by decide +kernel, rfl⟩
theorem eX9_page_35 : zD cX9_page 35 (.iconst 0) 1 36 := ⟨by decide +kernel, rfl⟩
theorem eX9_page_36 : zD cX9_page 36 (.bipush 9) 2 38 := ⟨by decide +kernel, rfl⟩
theorem eX9_page_38 : zD cX9_page 38 (.invokestatic 113) 3 41 := ⟨by decide +kernel, rfl⟩
theorem eX9_page_41 : zDj cX9_page 41 (.ifCond .eq 14) 14 55 44 := ⟨by decide +kernel, rfl, by decide⟩
theorem eX9_page_44 : zD cX9_page 44 (.iload 4) 2 46 := ⟨by decide +kernel, rfl⟩
theorem eX9_page_46 : zD cX9_page 46 (.iconst 0) 1 47 := ⟨by decide +kernel, rfl⟩
theorem eX9_page_47 : zD cX9_page 47 (.bipush 9) 2 49 := ⟨by decide +kernel, rfl⟩
theorem eX9_page_49 : zD cX9_page 49 (.invokestatic 113) 3 52 := ⟨by decide +kernel, rfl⟩
theorem eX9_page_52 : zDj cX9_page 52 (.ifCond .ne 5) 5 57 55 := ⟨by decide +kernel, rfl, by decide⟩
theorem eX9_page_55 : zD cX9_page 55 (.iconst (-1)) 1 56 := ⟨by decide +kernel, rfl⟩
theorem eX9_page_56 : zD cX9_page 56 .ireturn 1 57 := ⟨by decide +kernel, rfl⟩
theorem eX9_page_57 : zD cX9_page 57 (.aload_n 0) 1 58 := ⟨by decide +kernel, rfl⟩
theorem eX9_page_58 : zD cX9_page 58 (.getfield 10) 3 61 := ⟨by decide +kernel, rfl⟩
theorem eX9_page_61 : zD cX9_page 61 (.getfield 296) 3 64 := ⟨by decide +kernel, rfl⟩
theorem eX9_page_64 : zD cX9_page 64 (.iconst 4) 1 65 := ⟨by decide +kernel, rfl⟩
theorem eX9_page_65 : zD cX9_page 65 .imul 1 66 := ⟨by decide +kernel, rfl⟩
theorem eX9_page_66 : zD cX9_page 66 (.istore 5) 2 68 := ⟨by decide +kernel, rfl⟩
theorem eX9_page_68 : zD cX9_page 68 (.aload_n 0) 1 69 := ⟨by decide +kernel, rfl⟩
theorem eX9_page_69 : zD cX9_page 69 (.getfield 10) 3 72 := ⟨by decide +kernel, rfl⟩
theorem eX9_page_72 : zD cX9_page 72 (.getfield 299) 3 75 := ⟨by decide +kernel, rfl⟩
theorem eX9_page_75 : zD cX9_page 75 (.iload 5) 2 77 := ⟨by decide +kernel, rfl⟩
theorem eX9_page_77 : zD cX9_page 77 (.iload_n 1) 1 78 := ⟨by decide +kernel, rfl⟩
theorem eX9_page_78 : zD cX9_page 78 .iastore 1 79 := ⟨by decide +kernel, rfl⟩
theorem eX9_page_79 : zD cX9_page 79 (.aload_n 0) 1 80 := ⟨by decide +kernel, rfl⟩
theorem eX9_page_80 : zD cX9_page 80 (.getfield 10) 3 83 := ⟨by decide +kernel, rfl⟩
theorem eX9_page_83 : zD cX9_page 83 (.getfield 299) 3 86 := ⟨by decide +kernel, rfl⟩
theorem eX9_page_86 : zD cX9_page 86 (.iload 5) 2 88 := ⟨by decide +kernel, rfl⟩
theorem eX9_page_88 : zD cX9_page 88 (.iconst 1) 1 89 := ⟨by decide +kernel, rfl⟩
theorem eX9_page_89 : zD cX9_page 89 .iadd 1 90 := ⟨by decide +kernel, rfl⟩
theorem eX9_page_90 : zD cX9_page 90 (.iload_n 2) 1 91 := ⟨by decide +kernel, rfl⟩
theorem eX9_page_91 : zD cX9_page 91 .iastore 1 92 := ⟨by decide +kernel, rfl⟩
theorem eX9_page_92 : zD cX9_page 92 (.aload_n 0) 1 93 := ⟨by decide +kernel, rfl⟩
theorem eX9_page_93 : zD cX9_page 93 (.getfield 10) 3 96 := ⟨by decide +kernel, rfl⟩
theorem eX9_page_96 : zD cX9_page 96 (.getfield 299) 3 99 := ⟨by decide +kernel, rfl⟩
theorem eX9_page_99 : zD cX9_page 99 (.iload 5) 2 101 := ⟨by decide +kernel, rfl⟩
theorem eX9_page_101 : zD cX9_page 101 (.iconst 2) 1 102 := ⟨by decide +kernel, rfl⟩
theorem eX9_page_102 : zD cX9_page 102 .iadd 1 103 := ⟨by decide +kernel, rfl⟩
theorem eX9_page_103 : zD cX9_page 103 (.iload_n 3) 1 104 := ⟨by decide +kernel, rfl⟩
theorem eX9_page_104 : zD cX9_page 104 .iastore 1 105 := ⟨by decide +kernel, rfl⟩
theorem eX9_page_105 : zD cX9_page 105 (.aload_n 0) 1 106 := ⟨by decide +kernel, rfl⟩
theorem eX9_page_106 : zD cX9_page 106 (.getfield 10) 3 109 := ⟨by decide +kernel, rfl⟩
theorem eX9_page_109 : zD cX9_page 109 (.getfield 299) 3 112 := ⟨by decide +kernel, rfl⟩
theorem eX9_page_112 : zD cX9_page 112 (.iload 5) 2 114 := ⟨by decide +kernel, rfl⟩
theorem eX9_page_114 : zD cX9_page 114 (.iconst 3) 1 115 := ⟨by decide +kernel, rfl⟩
theorem eX9_page_115 : zD cX9_page 115 .iadd 1 116 := ⟨by decide +kernel, rfl⟩
theorem eX9_page_116 : zD cX9_page 116 (.iload 4) 2 118 := ⟨by decide +kernel, rfl⟩
theorem eX9_page_118 : zD cX9_page 118 .iastore 1 119 := ⟨by decide +kernel, rfl⟩
theorem eX9_page_119 : zD cX9_page 119 (.aload_n 0) 1 120 := ⟨by decide +kernel, rfl⟩
theorem eX9_page_120 : zD cX9_page 120 (.getfield 10) 3 123 := ⟨by decide +kernel, rfl⟩
theorem eX9_page_123 : zD cX9_page 123 .dup 1 124 := ⟨by decide +kernel, rfl⟩
theorem eX9_page_124 : zD cX9_page 124 (.getfield 296) 3 127 := ⟨by decide +kernel, rfl⟩
theorem eX9_page_127 : zD cX9_page 127 (.iconst 1) 1 128 := ⟨by decide +kernel, rfl⟩
theorem eX9_page_128 : zD cX9_page 128 .iadd 1 129 := ⟨by decide +kernel, rfl⟩
theorem eX9_page_129 : zD cX9_page 129 (.putfield 296) 3 132 := ⟨by decide +kernel, rfl⟩
theorem eX9_page_132 : zD cX9_page 132 (.aload_n 0) 1 133 := ⟨by decide +kernel, rfl⟩
theorem eX9_page_133 : zD cX9_page 133 (.getfield 10) 3 136 := ⟨by decide +kernel, rfl⟩
theorem eX9_page_136 : zD cX9_page 136 (.getfield 296) 3 139 := ⟨by decide +kernel, rfl⟩
theorem eX9_page_139 : zD cX9_page 139 (.iconst 1) 1 140 := ⟨by decide +kernel, rfl⟩
theorem eX9_page_140 : zD cX9_page 140 .isub 1 141 := ⟨by decide +kernel, rfl⟩
theorem eX9_page_141 : zD cX9_page 141 .ireturn 1 142 := ⟨by decide +kernel, rfl⟩
theorem eX9_ordersOf_0 : zD cX9_ordersOf 0 (.aload_n 0) 1 1 := ⟨by decide +kernel, rfl⟩
theorem eX9_ordersOf_1 : zD cX9_ordersOf 1 (.getfield 56) 3 4 := ⟨by decide +kernel, rfl⟩
theorem eX9_ordersOf_4 : zD cX9_ordersOf 4 (.aload_n 0) 1 5 := ⟨by decide +kernel, rfl⟩
theorem eX9_ordersOf_5 : zD cX9_ordersOf 5 (.getfield 21) 3 8 := ⟨by decide +kernel, rfl⟩
theorem eX9_ordersOf_8 : zD cX9_ordersOf 8 (.iload_n 1) 1 9 := ⟨by decide +kernel, rfl⟩
theorem eX9_ordersOf_9 : zD cX9_ordersOf 9 .aaload 1 10 := ⟨by decide +kernel, rfl⟩
theorem eX9_ordersOf_10 : zD cX9_ordersOf 10 (.aload_n 0) 1 11 := ⟨by decide +kernel, rfl⟩
theorem eX9_ordersOf_11 : zD cX9_ordersOf 11 (.getfield 10) 3 14 := ⟨by decide +kernel, rfl⟩
theorem eX9_ordersOf_14 : zD cX9_ordersOf 14 (.invokevirtual 305) 3 17 := ⟨by decide +kernel, rfl⟩
theorem eX9_ordersOf_17 : zD cX9_ordersOf 17 (.aload_n 0) 1 18 := ⟨by decide +kernel, rfl⟩
theorem eX9_ordersOf_18 : zD cX9_ordersOf 18 (.getfield 56) 3 21 := ⟨by decide +kernel, rfl⟩
theorem eX9_ordersOf_21 : zD cX9_ordersOf 21 (.aload_n 0) 1 22 := ⟨by decide +kernel, rfl⟩
theorem eX9_ordersOf_22 : zD cX9_ordersOf 22 (.getfield 10) 3 25 := ⟨by decide +kernel, rfl⟩
theorem eX9_ordersOf_25 : zD cX9_ordersOf 25 (.getfield 296) 3 28 := ⟨by decide +kernel, rfl⟩
theorem eX9_ordersOf_28 : zD cX9_ordersOf 28 (.iconst (-1)) 1 29 := ⟨by decide +kernel, rfl⟩
theorem eX9_ordersOf_29 : zD cX9_ordersOf 29 (.iconst (-1)) 1 30 := ⟨by decide +kernel, rfl⟩
theorem eX9_ordersOf_30 : zD cX9_ordersOf 30 (.invokevirtual 309) 3 33 := ⟨by decide +kernel, rfl⟩
theorem eX9_ordersOf_33 : zD cX9_ordersOf 33 .ireturn 1 34 := ⟨by decide +kernel, rfl⟩
theorem eX9_orders_0 : zD cX9_orders 0 (.aload_n 0) 1 1 := ⟨by decide +kernel, rfl⟩
theorem eX9_orders_1 : zD cX9_orders 1 (.iload_n 1) 1 2 := ⟨by decide +kernel, rfl⟩
theorem eX9_orders_2 : zD cX9_orders 2 (.invokevirtual 164) 3 5 := ⟨by decide +kernel, rfl⟩
theorem eX9_orders_5 : zDj cX9_orders 5 (.ifCond .ne 5) 5 10 8 := ⟨by decide +kernel, rfl, by decide⟩
theorem eX9_orders_8 : zD cX9_orders 8 (.iconst (-1)) 1 9 := ⟨by decide +kernel, rfl⟩
theorem eX9_orders_9 : zD cX9_orders 9 .ireturn 1 10 := ⟨by decide +kernel, rfl⟩
theorem eX9_orders_10 : zD cX9_orders 10 (.aload_n 0) 1 11 := ⟨by decide +kernel, rfl⟩
theorem eX9_orders_11 : zD cX9_orders 11 (.iload_n 1) 1 12 := ⟨by decide +kernel, rfl⟩
theorem eX9_orders_12 : zD cX9_orders 12 (.invokevirtual 302) 3 15 := ⟨by decide +kernel, rfl⟩
theorem eX9_orders_15 : zD cX9_orders 15 .ireturn 1 16 := ⟨by decide +kernel, rfl⟩
theorem eX9_where_0 : zD cX9_where 0 (.aload_n 0) 1 1 := ⟨by decide +kernel, rfl⟩
theorem eX9_where_1 : zD cX9_where 1 (.iload_n 1) 1 2 := ⟨by decide +kernel, rfl⟩
theorem eX9_where_2 : zD cX9_where 2 (.invokevirtual 164) 3 5 := ⟨by decide +kernel, rfl⟩
theorem eX9_where_5 : zDj cX9_where 5 (.ifCond .eq 37) 37 42 8 := ⟨by decide +kernel, rfl, by decide⟩
theorem eX9_where_8 : zD cX9_where 8 (.iload_n 2) 1 9 := ⟨by decide +kernel, rfl⟩
theorem eX9_where_9 : zD cX9_where 9 (.iconst 0) 1 10 := ⟨by decide +kernel, rfl⟩
theorem eX9_where_10 : zD cX9_where 10 (.aload_n 0) 1 11 := ⟨by decide +kernel, rfl⟩
theorem eX9_where_11 : zD cX9_where 11 (.getfield 10) 3 14 := ⟨by decide +kernel, rfl⟩
theorem eX9_where_14 : zD cX9_where 14 (.getfield 296) 3 17 := ⟨by decide +kernel, rfl⟩
theorem eX9_where_17 : zD cX9_where 17 (.iconst 1) 1 18 := ⟨by decide +kernel, rfl⟩
theorem eX9_where_18 : zD cX9_where 18 .isub 1 19 := ⟨by decide +kernel, rfl⟩
theorem eX9_where_19 : zD cX9_where 19 (.invokestatic 113) 3 22 := ⟨by decide +kernel, rfl⟩
theorem eX9_where_22 : zDj cX9_where 22 (.ifCond .eq 20) 20 42 25 := ⟨by decide +kernel, rfl, by decide⟩
theorem eX9_where_25 : zD cX9_where 25 (.iload_n 3) 1 26 := ⟨by decide +kernel, rfl⟩
theorem eX9_where_26 : zD cX9_where 26 (.iconst 0) 1 27 := ⟨by decide +kernel, rfl⟩
theorem eX9_where_27 : zD cX9_where 27 (.aload_n 0) 1 28 := ⟨by decide +kernel, rfl⟩
theorem eX9_where_28 : zD cX9_where 28 (.getfield 10) 3 31 := ⟨by decide +kernel, rfl⟩
theorem eX9_where_31 : zD cX9_where 31 (.getfield 296) 3 34 := ⟨by decide +kernel, rfl⟩
theorem eX9_where_34 : zD cX9_where 34 (.iconst 1) 1 35 := ⟨by decide +kernel, rfl⟩
theorem eX9_where_35 : zD cX9_where 35 .isub 1 36 := ⟨by decide +kernel, rfl⟩
theorem eX9_where_36 : zD cX9_where 36 (.invokestatic 113) 3 39 := ⟨by decide +kernel, rfl⟩
theorem eX9_where_39 : zDj cX9_where 39 (.ifCond .ne 5) 5 44 42 := ⟨by decide +kernel, rfl, by decide⟩
theorem eX9_where_42 : zD cX9_where 42 (.iconst (-1)) 1 43 := ⟨by decide +kernel, rfl⟩
theorem eX9_where_43 : zD cX9_where 43 .ireturn 1 44 := ⟨by decide +kernel, rfl⟩
theorem eX9_where_44 : zD cX9_where 44 (.aload_n 0) 1 45 := ⟨by decide +kernel, rfl⟩
theorem eX9_where_45 : zD cX9_where 45 (.getfield 56) 3 48 := ⟨by decide +kernel, rfl⟩
theorem eX9_where_48 : zD cX9_where 48 (.aload_n 0) 1 49 := ⟨by decide +kernel, rfl⟩
theorem eX9_where_49 : zD cX9_where 49 (.getfield 21) 3 52 := ⟨by decide +kernel, rfl⟩
theorem eX9_where_52 : zD cX9_where 52 (.iload_n 1) 1 53 := ⟨by decide +kernel, rfl⟩
theorem eX9_where_53 : zD cX9_where 53 .aaload 1 54 := ⟨by decide +kernel, rfl⟩
theorem eX9_where_54 : zD cX9_where 54 (.aload_n 0) 1 55 := ⟨by decide +kernel, rfl⟩
theorem eX9_where_55 : zD cX9_where 55 (.getfield 10) 3 58 := ⟨by decide +kernel, rfl⟩
theorem eX9_where_58 : zD cX9_where 58 (.invokevirtual 305) 3 61 := ⟨by decide +kernel, rfl⟩
theorem eX9_where_61 : zD cX9_where 61 (.aload_n 0) 1 62 := ⟨by decide +kernel, rfl⟩
theorem eX9_where_62 : zD cX9_where 62 (.getfield 56) 3 65 := ⟨by decide +kernel, rfl⟩
theorem eX9_where_65 : zD cX9_where 65 (.aload_n 0) 1 66 := ⟨by decide +kernel, rfl⟩
theorem eX9_where_66 : zD cX9_where 66 (.getfield 10) 3 69 := ⟨by decide +kernel, rfl⟩
theorem eX9_where_69 : zD cX9_where 69 (.getfield 296) 3 72 := ⟨by decide +kernel, rfl⟩
theorem eX9_where_72 : zD cX9_where 72 (.iload_n 2) 1 73 := ⟨by decide +kernel, rfl⟩
theorem eX9_where_73 : zD cX9_where 73 (.iload_n 3) 1 74 := ⟨by decide +kernel, rfl⟩
theorem eX9_where_74 : zD cX9_where 74 (.invokevirtual 309) 3 77 := ⟨by decide +kernel, rfl⟩
theorem eX9_where_77 : zD cX9_where 77 .ireturn 1 78 := ⟨by decide +kernel, rfl⟩
theorem eX9_weight_0 : zD cX9_weight 0 (.aload_n 0) 1 1 := ⟨by decide +kernel, rfl⟩
theorem eX9_weight_1 : zD cX9_weight 1 (.iload_n 1) 1 2 := ⟨by decide +kernel, rfl⟩
theorem eX9_weight_2 : zD cX9_weight 2 (.invokevirtual 164) 3 5 := ⟨by decide +kernel, rfl⟩
theorem eX9_weight_5 : zDj cX9_weight 5 (.ifCond .eq 13) 13 18 8 := ⟨by decide +kernel, rfl, by decide⟩
theorem eX9_weight_8 : zD cX9_weight 8 (.iload_n 2) 1 9 := ⟨by decide +kernel, rfl⟩
theorem eX9_weight_9 : zD cX9_weight 9 (.iconst 0) 1 10 := ⟨by decide +kernel, rfl⟩
theorem eX9_weight_10 : zD cX9_weight 10 (.bipush 9) 2 12 := ⟨by decide +kernel, rfl⟩
theorem eX9_weight_12 : zD cX9_weight 12 (.invokestatic 113) 3 15 := ⟨by decide +kernel, rfl⟩
theorem eX9_weight_15 : zDj cX9_weight 15 (.ifCond .ne 5) 5 20 18 := ⟨by decide +kernel, rfl, by decide⟩
theorem eX9_weight_18 : zD cX9_weight 18 (.iconst 0) 1 19 := ⟨by decide +kernel, rfl⟩
theorem eX9_weight_19 : zD cX9_weight 19 .ireturn 1 20 := ⟨by decide +kernel, rfl⟩
theorem eX9_weight_20 : zD cX9_weight 20 (.aload_n 0) 1 21 := ⟨by decide +kernel, rfl⟩
theorem eX9_weight_21 : zD cX9_weight 21 (.getfield 10) 3 24 := ⟨by decide +kernel, rfl⟩
theorem eX9_weight_24 : zD cX9_weight 24 (.getfield 158) 3 27 := ⟨by decide +kernel, rfl⟩
theorem eX9_weight_27 : zD cX9_weight 27 (.iload_n 1) 1 28 := ⟨by decide +kernel, rfl⟩
theorem eX9_weight_28 : zD cX9_weight 28 (.iload_n 2) 1 29 := ⟨by decide +kernel, rfl⟩
theorem eX9_weight_29 : zD cX9_weight 29 .iastore 1 30 := ⟨by decide +kernel, rfl⟩
theorem eX9_weight_30 : zD cX9_weight 30 (.iconst 1) 1 31 := ⟨by decide +kernel, rfl⟩
theorem eX9_weight_31 : zD cX9_weight 31 .ireturn 1 32 := ⟨by decide +kernel, rfl⟩
theorem eX9_story_0 : zD cX9_story 0 (.aload_n 0) 1 1 := ⟨by decide +kernel, rfl⟩
theorem eX9_story_1 : zD cX9_story 1 (.iload_n 2) 1 2 := ⟨by decide +kernel, rfl⟩
theorem eX9_story_2 : zD cX9_story 2 (.invokevirtual 164) 3 5 := ⟨by decide +kernel, rfl⟩
theorem eX9_story_5 : zDj cX9_story 5 (.ifCond .eq 28) 28 33 8 := ⟨by decide +kernel, rfl, by decide⟩
theorem eX9_story_8 : zD cX9_story 8 (.iload_n 1) 1 9 := ⟨by decide +kernel, rfl⟩
theorem eX9_story_9 : zDj cX9_story 9 (.ifCond .lt 24) 24 33 12 := ⟨by decide +kernel, rfl, by decide⟩
theorem eX9_story_12 : zD cX9_story 12 (.iload_n 1) 1 13 := ⟨by decide +kernel, rfl⟩
theorem eX9_story_13 : zD cX9_story 13 (.iconst 1) 1 14 := ⟨by decide +kernel, rfl⟩
theorem eX9_story_14 : zD cX9_story 14 (.aload_n 0) 1 15 := ⟨by decide +kernel, rfl⟩
theorem eX9_story_15 : zD cX9_story 15 (.getfield 10) 3 18 := ⟨by decide +kernel, rfl⟩
theorem eX9_story_18 : zD cX9_story 18 (.getfield 148) 3 21 := ⟨by decide +kernel, rfl⟩
theorem eX9_story_21 : zD cX9_story 21 .ishl 1 22 := ⟨by decide +kernel, rfl⟩
theorem eX9_story_22 : zDj cX9_story 22 (.if_icmp .ge 11) 11 33 25 := ⟨by decide +kernel, rfl, by decide⟩
theorem eX9_story_25 : zD cX9_story 25 (.iload_n 1) 1 26 := ⟨by decide +kernel, rfl⟩
theorem eX9_story_26 : zD cX9_story 26 (.iload_n 2) 1 27 := ⟨by decide +kernel, rfl⟩
theorem eX9_story_27 : zD cX9_story 27 .ishr 1 28 := ⟨by decide +kernel, rfl⟩
theorem eX9_story_28 : zD cX9_story 28 (.iconst 1) 1 29 := ⟨by decide +kernel, rfl⟩
theorem eX9_story_29 : zD cX9_story 29 .iand 1 30 := ⟨by decide +kernel, rfl⟩
theorem eX9_story_30 : zDj cX9_story 30 (.ifCond .ne 5) 5 35 33 := ⟨by decide +kernel, rfl, by decide⟩
theorem eX9_story_33 : zD cX9_story 33 (.iconst (-1)) 1 34 := ⟨by decide +kernel, rfl⟩
theorem eX9_story_34 : zD cX9_story 34 .ireturn 1 35 := ⟨by decide +kernel, rfl⟩
theorem eX9_story_35 : zD cX9_story 35 (.lconst 0) 1 36 := ⟨by decide +kernel, rfl⟩
theorem eX9_story_36 : zD cX9_story 36 (.lstore_n 3) 1 37 := ⟨by decide +kernel, rfl⟩
theorem eX9_story_37 : zD cX9_story 37 (.lconst 0) 1 38 := ⟨by decide +kernel, rfl⟩
theorem eX9_story_38 : zD cX9_story 38 (.lstore 5) 2 40 := ⟨by decide +kernel, rfl⟩
theorem eX9_story_40 : zD cX9_story 40 (.iconst 0) 1 41 := ⟨by decide +kernel, rfl⟩
theorem eX9_story_41 : zD cX9_story 41 (.istore 7) 2 43 := ⟨by decide +kernel, rfl⟩
theorem eX9_story_43 : zD cX9_story 43 (.iload 7) 2 45 := ⟨by decide +kernel, rfl⟩
theorem eX9_story_45 : zD cX9_story 45 (.aload_n 0) 1 46 := ⟨by decide +kernel, rfl⟩
theorem eX9_story_46 : zD cX9_story 46 (.getfield 10) 3 49 := ⟨by decide +kernel, rfl⟩
theorem eX9_story_49 : zD cX9_story 49 (.getfield 148) 3 52 := ⟨by decide +kernel, rfl⟩
theorem eX9_story_52 : zDj cX9_story 52 (.if_icmp .ge 57) 57 109 55 := ⟨by decide +kernel, rfl, by decide⟩
theorem eX9_story_55 : zD cX9_story 55 (.iload_n 1) 1 56 := ⟨by decide +kernel, rfl⟩
theorem eX9_story_56 : zD cX9_story 56 (.iload 7) 2 58 := ⟨by decide +kernel, rfl⟩
theorem eX9_story_58 : zD cX9_story 58 .ishr 1 59 := ⟨by decide +kernel, rfl⟩
theorem eX9_story_59 : zD cX9_story 59 (.iconst 1) 1 60 := ⟨by decide +kernel, rfl⟩
theorem eX9_story_60 : zD cX9_story 60 .iand 1 61 := ⟨by decide +kernel, rfl⟩
theorem eX9_story_61 : zDj cX9_story 61 (.ifCond .ne 6) 6 67 64 := ⟨by decide +kernel, rfl, by decide⟩
theorem eX9_story_64 : zDj cX9_story 64 (.goto 39) 39 103 67 := ⟨by decide +kernel, rfl, by decide⟩
theorem eX9_story_67 : zD cX9_story 67 (.aload_n 0) 1 68 := ⟨by decide +kernel, rfl⟩
theorem eX9_story_68 : zD cX9_story 68 (.getfield 10) 3 71 := ⟨by decide +kernel, rfl⟩
theorem eX9_story_71 : zD cX9_story 71 (.getfield 158) 3 74 := ⟨by decide +kernel, rfl⟩
theorem eX9_story_74 : zD cX9_story 74 (.iload 7) 2 76 := ⟨by decide +kernel, rfl⟩
theorem eX9_story_76 : zD cX9_story 76 .iaload 1 77 := ⟨by decide +kernel, rfl⟩
theorem eX9_story_77 : zD cX9_story 77 .i2l 1 78 := ⟨by decide +kernel, rfl⟩
theorem eX9_story_78 : zD cX9_story 78 (.aload_n 0) 1 79 := ⟨by decide +kernel, rfl⟩
theorem eX9_story_79 : zD cX9_story 79 (.iload 7) 2 81 := ⟨by decide +kernel, rfl⟩
theorem eX9_story_81 : zD cX9_story 81 (.invokevirtual 302) 3 84 := ⟨by decide +kernel, rfl⟩
theorem eX9_story_84 : zD cX9_story 84 .i2l 1 85 := ⟨by decide +kernel, rfl⟩
theorem eX9_story_85 : zD cX9_story 85 .lmul 1 86 := ⟨by decide +kernel, rfl⟩
theorem eX9_story_86 : zD cX9_story 86 (.lstore 8) 2 88 := ⟨by decide +kernel, rfl⟩
theorem eX9_story_88 : zD cX9_story 88 (.lload_n 3) 1 89 := ⟨by decide +kernel, rfl⟩
theorem eX9_story_89 : zD cX9_story 89 (.lload 8) 2 91 := ⟨by decide +kernel, rfl⟩
theorem eX9_story_91 : zD cX9_story 91 .ladd 1 92 := ⟨by decide +kernel, rfl⟩
theorem eX9_story_92 : zD cX9_story 92 (.lstore_n 3) 1 93 := ⟨by decide +kernel, rfl⟩
theorem eX9_story_93 : zD cX9_story 93 (.iload 7) 2 95 := ⟨by decide +kernel, rfl⟩
theorem eX9_story_95 : zD cX9_story 95 (.iload_n 2) 1 96 := ⟨by decide +kernel, rfl⟩
theorem eX9_story_96 : zDj cX9_story 96 (.if_icmp .ne 7) 7 103 99 := ⟨by decide +kernel, rfl, by decide⟩
theorem eX9_story_99 : zD cX9_story 99 (.lload 8) 2 101 := ⟨by decide +kernel, rfl⟩
theorem eX9_story_101 : zD cX9_story 101 (.lstore 5) 2 103 := ⟨by decide +kernel, rfl⟩
theorem eX9_story_103 : zD cX9_story 103 (.iinc 7 1) 3 106 := ⟨by decide +kernel, rfl⟩
theorem eX9_story_106 : zDj cX9_story 106 (.goto (-63)) (-63) 43 109 := ⟨by decide +kernel, rfl, by decide⟩
theorem eX9_story_109 : zD cX9_story 109 (.lload_n 3) 1 110 := ⟨by decide +kernel, rfl⟩
theorem eX9_story_110 : zD cX9_story 110 (.lconst 1) 1 111 := ⟨by decide +kernel, rfl⟩
theorem eX9_story_111 : zD cX9_story 111 .lcmp 1 112 := ⟨by decide +kernel, rfl⟩
theorem eX9_story_112 : zDj cX9_story 112 (.ifCond .ge 7) 7 119 115 := ⟨by decide +kernel, rfl, by decide⟩
theorem eX9_story_115 : zD cX9_story 115 (.iconst (-1)) 1 116 := ⟨by decide +kernel, rfl⟩
theorem eX9_story_116 : zDj cX9_story 116 (.goto 12) 12 128 119 := ⟨by decide +kernel, rfl, by decide⟩
theorem eX9_story_119 : zD cX9_story 119 (.ldc2_w 312) 3 122 := ⟨by decide +kernel, rfl⟩
theorem eX9_story_122 : zD cX9_story 122 (.lload 5) 2 124 := ⟨by decide +kernel, rfl⟩
theorem eX9_story_124 : zD cX9_story 124 .lmul 1 125 := ⟨by decide +kernel, rfl⟩
theorem eX9_story_125 : zD cX9_story 125 (.lload_n 3) 1 126 := ⟨by decide +kernel, rfl⟩
theorem eX9_story_126 : zD cX9_story 126 .ldiv 1 127 := ⟨by decide +kernel, rfl⟩
theorem eX9_story_127 : zD cX9_story 127 .l2i 1 128 := ⟨by decide +kernel, rfl⟩
theorem eX9_story_128 : zD cX9_story 128 .ireturn 1 129 := ⟨by decide +kernel, rfl⟩
theorem eX9_image_0 : zD cX9_image 0 (.aload_n 0) 1 1 := ⟨by decide +kernel, rfl⟩
theorem eX9_image_1 : zD cX9_image 1 (.getfield 16) 3 4 := ⟨by decide +kernel, rfl⟩
theorem eX9_image_4 : zD cX9_image 4 (.aload_n 0) 1 5 := ⟨by decide +kernel, rfl⟩
theorem eX9_image_5 : zD cX9_image 5 (.getfield 10) 3 8 := ⟨by decide +kernel, rfl⟩
theorem eX9_image_8 : zD cX9_image 8 (.invokevirtual 314) 3 11 := ⟨by decide +kernel, rfl⟩
theorem eX9_image_11 : zD cX9_image 11 (.aload_n 0) 1 12 := ⟨by decide +kernel, rfl⟩
theorem eX9_image_12 : zD cX9_image 12 (.getfield 10) 3 15 := ⟨by decide +kernel, rfl⟩
theorem eX9_image_15 : zD cX9_image 15 (.getfield 148) 3 18 := ⟨by decide +kernel, rfl⟩
theorem eX9_image_18 : zD cX9_image 18 .ireturn 1 19 := ⟨by decide +kernel, rfl⟩
theorem eX9_back_0 : zD cX9_back 0 (.aload_n 0) 1 1 := ⟨by decide +kernel, rfl⟩
theorem eX9_back_1 : zD cX9_back 1 (.getfield 10) 3 4 := ⟨by decide +kernel, rfl⟩
theorem eX9_back_4 : zD cX9_back 4 (.aload_n 0) 1 5 := ⟨by decide +kernel, rfl⟩
theorem eX9_back_5 : zD cX9_back 5 (.getfield 16) 3 8 := ⟨by decide +kernel, rfl⟩
theorem eX9_back_8 : zD cX9_back 8 (.invokevirtual 314) 3 11 := ⟨by decide +kernel, rfl⟩
theorem eX9_back_11 : zD cX9_back 11 (.aload_n 0) 1 12 := ⟨by decide +kernel, rfl⟩
theorem eX9_back_12 : zD cX9_back 12 (.getfield 10) 3 15 := ⟨by decide +kernel, rfl⟩
theorem eX9_back_15 : zD cX9_back 15 (.getfield 148) 3 18 := ⟨by decide +kernel, rfl⟩
theorem eX9_back_18 : zD cX9_back 18 .ireturn 1 19 := ⟨by decide +kernel, rfl⟩
theorem eX9_aboutOne_0 : zD cX9_aboutOne 0 (.iload_n 1) 1 1 := ⟨by decide +kernel, rfl⟩
theorem eX9_aboutOne_1 : zD cX9_aboutOne 1 (.bipush 10) 2 3 := ⟨by decide +kernel, rfl⟩
theorem eX9_aboutOne_3 : zD cX9_aboutOne 3 (.bipush 13) 2 5 := ⟨by decide +kernel, rfl⟩
theorem eX9_aboutOne_5 : zD cX9_aboutOne 5 (.invokestatic 113) 3 8 := ⟨by decide +kernel, rfl⟩
theorem eX9_aboutOne_8 : zDj cX9_aboutOne 8 (.ifCond .eq 15) 15 23 11 := ⟨by decide +kernel, rfl, by decide⟩
theorem eX9_aboutOne_11 : zD cX9_aboutOne 11 (.aload_n 0) 1 12 := ⟨by decide +kernel, rfl⟩
theorem eX9_aboutOne_12 : zD cX9_aboutOne 12 (.getfield 10) 3 15 := ⟨by decide +kernel, rfl⟩
theorem eX9_aboutOne_15 : zD cX9_aboutOne 15 (.iload_n 1) 1 16 := ⟨by decide +kernel, rfl⟩
theorem eX9_aboutOne_16 : zD cX9_aboutOne 16 (.bipush 10) 2 18 := ⟨by decide +kernel, rfl⟩
theorem eX9_aboutOne_18 : zD cX9_aboutOne 18 .isub 1 19 := ⟨by decide +kernel, rfl⟩
theorem eX9_aboutOne_19 : zD cX9_aboutOne 19 (.invokevirtual 109) 3 22 := ⟨by decide +kernel, rfl⟩
theorem eX9_aboutOne_22 : zD cX9_aboutOne 22 .ireturn 1 23 := ⟨by decide +kernel, rfl⟩
theorem eX9_aboutOne_23 : zD cX9_aboutOne 23 (.iload_n 1) 1 24 := ⟨by decide +kernel, rfl⟩
theorem eX9_aboutOne_24 : zD cX9_aboutOne 24 (.bipush 20) 2 26 := ⟨by decide +kernel, rfl⟩
theorem eX9_aboutOne_26 : zD cX9_aboutOne 26 (.bipush 23) 2 28 := ⟨by decide +kernel, rfl⟩
theorem eX9_aboutOne_28 : zD cX9_aboutOne 28 (.invokestatic 113) 3 31 := ⟨by decide +kernel, rfl⟩
theorem eX9_aboutOne_31 : zDj cX9_aboutOne 31 (.ifCond .eq 16) 16 47 34 := ⟨by decide +kernel, rfl, by decide⟩
theorem eX9_aboutOne_34 : zD cX9_aboutOne 34 (.aload_n 0) 1 35 := ⟨by decide +kernel, rfl⟩
theorem eX9_aboutOne_35 : zD cX9_aboutOne 35 (.getfield 10) 3 38 := ⟨by decide +kernel, rfl⟩
theorem eX9_aboutOne_38 : zD cX9_aboutOne 38 (.getfield 249) 3 41 := ⟨by decide +kernel, rfl⟩
theorem eX9_aboutOne_41 : zD cX9_aboutOne 41 (.iload_n 1) 1 42 := ⟨by decide +kernel, rfl⟩
theorem eX9_aboutOne_42 : zD cX9_aboutOne 42 (.bipush 20) 2 44 := ⟨by decide +kernel, rfl⟩
theorem eX9_aboutOne_44 : zD cX9_aboutOne 44 .isub 1 45 := ⟨by decide +kernel, rfl⟩
theorem eX9_aboutOne_45 : zD cX9_aboutOne 45 .iaload 1 46 := ⟨by decide +kernel, rfl⟩
theorem eX9_aboutOne_46 : zD cX9_aboutOne 46 .ireturn 1 47 := ⟨by decide +kernel, rfl⟩
theorem eX9_aboutOne_47 : zD cX9_aboutOne 47 (.iload_n 1) 1 48 := ⟨by decide +kernel, rfl⟩
theorem eX9_aboutOne_48 : zD cX9_aboutOne 48 (.bipush 30) 2 50 := ⟨by decide +kernel, rfl⟩
theorem eX9_aboutOne_50 : zD cX9_aboutOne 50 (.bipush 35) 2 52 := ⟨by decide +kernel, rfl⟩
theorem eX9_aboutOne_52 : zD cX9_aboutOne 52 (.invokestatic 113) 3 55 := ⟨by decide +kernel, rfl⟩
theorem eX9_aboutOne_55 : zDj cX9_aboutOne 55 (.ifCond .eq 19) 19 74 58 := ⟨by decide +kernel, rfl, by decide⟩
theorem eX9_aboutOne_58 : zD cX9_aboutOne 58 (.aload_n 0) 1 59 := ⟨by decide +kernel, rfl⟩
theorem eX9_aboutOne_59 : zD cX9_aboutOne 59 (.getfield 10) 3 62 := ⟨by decide +kernel, rfl⟩
theorem eX9_aboutOne_62 : zD cX9_aboutOne 62 (.getfield 127) 3 65 := ⟨by decide +kernel, rfl⟩
theorem eX9_aboutOne_65 : zD cX9_aboutOne 65 (.iload_n 1) 1 66 := ⟨by decide +kernel, rfl⟩
theorem eX9_aboutOne_66 : zD cX9_aboutOne 66 (.bipush 30) 2 68 := ⟨by decide +kernel, rfl⟩
theorem eX9_aboutOne_68 : zD cX9_aboutOne 68 .isub 1 69 := ⟨by decide +kernel, rfl⟩
theorem eX9_aboutOne_69 : zD cX9_aboutOne 69 .aaload 1 70 := ⟨by decide +kernel, rfl⟩
theorem eX9_aboutOne_70 : zD cX9_aboutOne 70 (.invokevirtual 130) 3 73 := ⟨by decide +kernel, rfl⟩
theorem eX9_aboutOne_73 : zD cX9_aboutOne 73 .ireturn 1 74 := ⟨by decide +kernel, rfl⟩
theorem eX9_aboutOne_74 : zD cX9_aboutOne 74 (.iload_n 1) 1 75 := ⟨by decide +kernel, rfl⟩
theorem eX9_aboutOne_75 : zD cX9_aboutOne 75 (.bipush 40) 2 77 := ⟨by decide +kernel, rfl⟩
theorem eX9_aboutOne_77 : zD cX9_aboutOne 77 (.bipush 40) 2 79 := ⟨by decide +kernel, rfl⟩
theorem eX9_aboutOne_79 : zD cX9_aboutOne 79 (.aload_n 0) 1 80 := ⟨by decide +kernel, rfl⟩
theorem eX9_aboutOne_80 : zD cX9_aboutOne 80 (.getfield 10) 3 83 := ⟨by decide +kernel, rfl⟩
theorem eX9_aboutOne_83 : zD cX9_aboutOne 83 (.getfield 148) 3 86 := ⟨by decide +kernel, rfl⟩
theorem eX9_aboutOne_86 : zD cX9_aboutOne 86 .iadd 1 87 := ⟨by decide +kernel, rfl⟩
theorem eX9_aboutOne_87 : zD cX9_aboutOne 87 (.iconst 1) 1 88 := ⟨by decide +kernel, rfl⟩
theorem eX9_aboutOne_88 : zD cX9_aboutOne 88 .isub 1 89 := ⟨by decide +kernel, rfl⟩
theorem eX9_aboutOne_89 : zD cX9_aboutOne 89 (.invokestatic 113) 3 92 := ⟨by decide +kernel, rfl⟩
theorem eX9_aboutOne_92 : zDj cX9_aboutOne 92 (.ifCond .eq 16) 16 108 95 := ⟨by decide +kernel, rfl, by decide⟩
theorem eX9_aboutOne_95 : zD cX9_aboutOne 95 (.aload_n 0) 1 96 := ⟨by decide +kernel, rfl⟩
theorem eX9_aboutOne_96 : zD cX9_aboutOne 96 (.getfield 10) 3 99 := ⟨by decide +kernel, rfl⟩
theorem eX9_aboutOne_99 : zD cX9_aboutOne 99 (.getfield 158) 3 102 := ⟨by decide +kernel, rfl⟩
theorem eX9_aboutOne_102 : zD cX9_aboutOne 102 (.iload_n 1) 1 103 := ⟨by decide +kernel, rfl⟩
theorem eX9_aboutOne_103 : zD cX9_aboutOne 103 (.bipush 40) 2 105 := ⟨by decide +kernel, rfl⟩
theorem eX9_aboutOne_105 : zD cX9_aboutOne 105 .isub 1 106 := ⟨by decide +kernel, rfl⟩
theorem eX9_aboutOne_106 : zD cX9_aboutOne 106 .iaload 1 107 := ⟨by decide +kernel, rfl⟩
theorem eX9_aboutOne_107 : zD cX9_aboutOne 107 .ireturn 1 108 := ⟨by decide +kernel, rfl⟩
theorem eX9_aboutOne_108 : zD cX9_aboutOne 108 (.bipush (-2)) 2 110 := ⟨by decide +kernel, rfl⟩
theorem eX9_aboutOne_110 : zD cX9_aboutOne 110 .ireturn 1 111 := ⟨by decide +kernel, rfl⟩
theorem eX9_about_0 : zD cX9_about 0 (.iload_n 1) 1 1 := ⟨by decide +kernel, rfl⟩
theorem eX9_about_1 : decode cX9_about 1 = .ok (.tableswitch 75 0 4 #[35, 43, 51, 59, 67], 35) := by decide +kernel
theorem eX9_about_36 : zD cX9_about 36 (.aload_n 0) 1 37 := ⟨by decide +kernel, rfl⟩
theorem eX9_about_37 : zD cX9_about 37 (.getfield 10) 3 40 := ⟨by decide +kernel, rfl⟩
theorem eX9_about_40 : zD cX9_about 40 (.getfield 134) 3 43 := ⟨by decide +kernel, rfl⟩
theorem eX9_about_43 : zD cX9_about 43 .ireturn 1 44 := ⟨by decide +kernel, rfl⟩
theorem eX9_about_44 : zD cX9_about 44 (.aload_n 0) 1 45 := ⟨by decide +kernel, rfl⟩
theorem eX9_about_45 : zD cX9_about 45 (.getfield 10) 3 48 := ⟨by decide +kernel, rfl⟩
theorem eX9_about_48 : zD cX9_about 48 (.getfield 148) 3 51 := ⟨by decide +kernel, rfl⟩
theorem eX9_about_51 : zD cX9_about 51 .ireturn 1 52 := ⟨by decide +kernel, rfl⟩
theorem eX9_about_52 : zD cX9_about 52 (.aload_n 0) 1 53 := ⟨by decide +kernel, rfl⟩
theorem eX9_about_53 : zD cX9_about 53 (.getfield 10) 3 56 := ⟨by decide +kernel, rfl⟩
theorem eX9_about_56 : zD cX9_about 56 (.getfield 296) 3 59 := ⟨by decide +kernel, rfl⟩
theorem eX9_about_59 : zD cX9_about 59 .ireturn 1 60 := ⟨by decide +kernel, rfl⟩
theorem eX9_about_60 : zD cX9_about 60 (.aload_n 0) 1 61 := ⟨by decide +kernel, rfl⟩
theorem eX9_about_61 : zD cX9_about 61 (.getfield 10) 3 64 := ⟨by decide +kernel, rfl⟩
theorem eX9_about_64 : zD cX9_about 64 (.getfield 281) 3 67 := ⟨by decide +kernel, rfl⟩
theorem eX9_about_67 : zD cX9_about 67 .ireturn 1 68 := ⟨by decide +kernel, rfl⟩
theorem eX9_about_68 : zD cX9_about 68 (.aload_n 0) 1 69 := ⟨by decide +kernel, rfl⟩
theorem eX9_about_69 : zD cX9_about 69 (.getfield 28) 3 72 := ⟨by decide +kernel, rfl⟩
theorem eX9_about_72 : zD cX9_about 72 (.getfield 142) 3 75 := ⟨by decide +kernel, rfl⟩
theorem eX9_about_75 : zD cX9_about 75 .ireturn 1 76 := ⟨by decide +kernel, rfl⟩
theorem eX9_about_76 : zD cX9_about 76 (.aload_n 0) 1 77 := ⟨by decide +kernel, rfl⟩
theorem eX9_about_77 : zD cX9_about 77 (.iload_n 1) 1 78 := ⟨by decide +kernel, rfl⟩
theorem eX9_about_78 : zD cX9_about 78 (.invokevirtual 317) 3 81 := ⟨by decide +kernel, rfl⟩
theorem eX9_about_81 : zD cX9_about 81 .ireturn 1 82 := ⟨by decide +kernel, rfl⟩
theorem wX_note_45 {G : Zg} {p : Program} {l : Launch} {e : Env} {s : State} {m : MethodId} {args : Array Value} {below : List Frame} {meth : Method} {c : Code} (C : zC G p s m args meth c cX9_note 7 RX9 (some .int)) {res : Int × Zm} (x1 : Int) (x2 : Int) (x3 : Int) (x4 : Int) (x5 : Int) (n1 : zw x1 = x1) (n2 : zw x2 = x2) (n3 : zw x3 = x3) (n4 : zw x4 = x4) (n5 : zw x5 = x5) (σ : Zm) : zR G p l e (zrm 3) s m args below meth c 7 0 0 (zQm below args s G 294 ztt (some (.int (zI res.1))) res.2) 294 ztt res σ (fX_note_45 x1 x2 x3 x4 x5 σ) [(0, .ref (zad G 0)), (1, .int (zI x1)), (2, .int (zI x2)), (3, .int (zI x3)), (4, .int (zI x4)), (5, .int (zI x5))] 45 [] := by
  unfold fX_note_45
  refine zr_aloadn C 0 eX9_note_45 rfl ?_
  refine zr_getR C ff_X9_10 rfl zo_0 rfl zf_0_0 eX9_note_46 ?_
  refine zr_getR C ff_X9_98 rfl zo_1 rfl zf_1_0 eX9_note_49 ?_
  refine zr_iloadn C 1 eX9_note_52 rfl ?_
  refine zr_iconst C eX9_note_53 rfl ?_
  refine zr_imul C eX9_note_54 ?_
  refine zr_iloadn C 2 eX9_note_55 rfl ?_
  refine zr_iadd C eX9_note_56 ?_
  refine zr_aald23 C zo_2 zn_2 rfl (fun _ _ => rfl) eX9_note_57 (fun hh7 => ?_)
  refine zr_astore (lv' := [(6, .ref (zad G (zRF 2 (zw ((x1 * 4) + x2)).toNat))), (0, .ref (zad G 0)), (1, .int (zI x1)), (2, .int (zI x2)), (3, .int (zI x3)), (4, .int (zI x4)), (5, .int (zI x5))]) C eX9_note_58 (by decide) rfl ?_
  refine zr_iload C 5 eX9_note_60 rfl ?_
  refine zr_iconst C eX9_note_62 rfl ?_
  refine zr_icmp_ne C eX9_note_63 n4 w_m1 ?_ ?_
  · refine zr_aload C 0 eX9_note_77 rfl ?_
    refine zr_iloadn C 4 eX9_note_79 rfl ?_
    refine zr_iload C 5 eX9_note_80 rfl ?_
    refine zr_iload C 6 eX9_note_82 rfl ?_
    refine zr_callVv C [.int (zI x3), .int (zI x4), .int (zI x5)] zy_X3_sing zv_X3_sing lk_X9_105 zrm_3_4_2 (ze_23 zo_2 zn_2 hh7) (by decide) rfl (fun r hr => zqL_sing l G σ (zRF 2 (zw ((x1 * 4) + x2)).toNat) x3 x4 x5 (ze_23 zo_2 zn_2 hh7) n3 n4 n5 r hr) rfl rfl (Nat.le_of_ble_eq_true rfl) eX9_note_84 (fun σ8 => ?_)
    refine zr_aloadn C 1 eX9_note_87 rfl ?_
    refine zr_getR C ff_X9_10 rfl zo_0 rfl zf_0_0 eX9_note_88 ?_
    refine zr_iloadn C 2 eX9_note_91 rfl ?_
    refine zr_callVi C [.int (zI x1)] zy_X7_lengthOf zv_X7_lengthOf lk_X9_109 zrm_3_4_1 zo_1 (by decide) rfl (fun r hr => zqS_lengthOf l G σ8 1 x1 zo_1 n1 r hr) rfl rfl (Nat.le_of_ble_eq_true rfl) eX9_note_92 (fun v10 nv10 σ9 => ?_)
    exact zr_iret C eX9_note_95
  refine zr_aload C 0 eX9_note_66 rfl ?_
  refine zr_iloadn C 4 eX9_note_68 rfl ?_
  refine zr_iload C 6 eX9_note_69 rfl ?_
  refine zr_callVv C [.int (zI x3), .int (zI x5)] zy_X3_silence zv_X3_silence lk_X9_101 zrm_3_3_2 (ze_23 zo_2 zn_2 hh7) (by decide) rfl (fun r hr => zqL_silence l G σ (zRF 2 (zw ((x1 * 4) + x2)).toNat) x3 x5 (ze_23 zo_2 zn_2 hh7) n3 n5 r hr) rfl rfl (Nat.le_of_ble_eq_true rfl) eX9_note_71 (fun σ11 => ?_)
  refine zr_goto C eX9_note_74 ?_
  refine zr_aloadn C 1 eX9_note_87 rfl ?_
  refine zr_getR C ff_X9_10 rfl zo_0 rfl zf_0_0 eX9_note_88 ?_
  refine zr_iloadn C 2 eX9_note_91 rfl ?_
  refine zr_callVi C [.int (zI x1)] zy_X7_lengthOf zv_X7_lengthOf lk_X9_109 zrm_3_4_1 zo_1 (by decide) rfl (fun r hr => zqS_lengthOf l G σ11 1 x1 zo_1 n1 r hr) rfl rfl (Nat.le_of_ble_eq_true rfl) eX9_note_92 (fun v13 nv13 σ12 => ?_)
  exact zr_iret C eX9_note_95
theorem zqX_note (l : Launch) (G : Zg) (σ : Zm) (x1 : Int) (x2 : Int) (x3 : Int) (x4 : Int) (x5 : Int) (n1 : zw x1 = x1) (n2 : zw x2 = x2) (n3 : zw x3 = x3) (n4 : zw x4 = x4) (n5 : zw x5 = x5) (res : Int × Zm) (he : fX_note σ x1 x2 x3 x4 x5 = some res) : zM l yX9_note cX9_note 7 (some .int) 3 G 294 ztt σ [.ref (zad G 0), .int (zI x1), .int (zI x2), .int (zI x3), .int (zI x4), .int (zI x5)] (some (.int (zI res.1))) res.2 := by
  refine zM_of he (by decide +kernel) (Nat.le_of_ble_eq_true rfl) (lv := [(0, .ref (zad G 0)), (1, .int (zI x1)), (2, .int (zI x2)), (3, .int (zI x3)), (4, .int (zI x4)), (5, .int (zI x5))]) rfl (fun p e s m below meth c C => ?_)
  unfold fX_note
  refine zr_iloadn C 1 eX9_note_0 rfl ?_
  refine zr_callSi C [.int (zI x1)] zy_X9_isPiece zs_X9_isPiece lk_X9_84 zrm_3_1_1 (fun r hr => zqX_isPiece l G σ x1 n1 r hr) rfl rfl (Nat.le_of_ble_eq_true rfl) eX9_note_1 (fun v2 nv2 σ1 => ?_)
  refine zr_if_eq C eX9_note_4 nv2 ?_ ?_
  · refine zr_iconst C eX9_note_27 rfl ?_
    exact zr_iret C eX9_note_28
  refine zr_iloadn C 2 eX9_note_7 rfl ?_
  refine zr_callSi C [.int (zI x2)] zy_X9_isVoice zs_X9_isVoice lk_X9_88 zrm_3_1_1 (fun r hr => zqX_isVoice l G σ1 x2 n2 r hr) rfl rfl (Nat.le_of_ble_eq_true rfl) eX9_note_8 (fun v4 nv4 σ3 => ?_)
  refine zr_if_eq C eX9_note_11 nv4 ?_ ?_
  · refine zr_iconst C eX9_note_27 rfl ?_
    exact zr_iret C eX9_note_28
  refine zr_iloadn C 3 eX9_note_14 rfl ?_
  refine zr_iload C 5 eX9_note_15 rfl ?_
  refine zr_bipush (a := 8) C eX9_note_17 rfl ?_
  refine zr_bipush (a := 32) C eX9_note_19 rfl ?_
  refine zr_callSi C [.int (zI x3), .int (zI x5), .int (zI 8), .int (zI 32)] zy_X9_isNote zs_X9_isNote lk_X9_91 zrm_3_4_1 (fun r hr => zqX_isNote l G σ3 x3 x5 8 32 n3 n5 w_8 w_32 r hr) rfl rfl (Nat.le_of_ble_eq_true rfl) eX9_note_21 (fun v6 nv6 σ5 => ?_)
  refine zr_if_ne C eX9_note_24 nv6 ?_ ?_
  · refine zr_iload C 4 eX9_note_29 rfl ?_
    refine zr_iconst C eX9_note_31 rfl ?_
    refine zr_icmp_eq C eX9_note_32 n4 w_m1 ?_ ?_
    · exact wX_note_45 C x1 x2 x3 x4 x5 n1 n2 n3 n4 n5 σ5
    refine zr_iload C 4 eX9_note_35 rfl ?_
    refine zr_callSi C [.int (zI x4)] zy_X9_isPitch zs_X9_isPitch lk_X9_95 zrm_3_1_1 (fun r hr => zqX_isPitch l G σ5 x4 n4 r hr) rfl rfl (Nat.le_of_ble_eq_true rfl) eX9_note_37 (fun v15 nv15 σ14 => ?_)
    refine zr_if_ne C eX9_note_40 nv15 ?_ ?_
    · exact wX_note_45 C x1 x2 x3 x4 x5 n1 n2 n3 n4 n5 σ14
    refine zr_iconst C eX9_note_43 rfl ?_
    exact zr_iret C eX9_note_44
  refine zr_iconst C eX9_note_27 rfl ?_
  exact zr_iret C eX9_note_28
theorem zqX_at (l : Launch) (G : Zg) (σ : Zm) (x1 : Int) (x2 : Int) (x3 : Int) (n1 : zw x1 = x1) (n2 : zw x2 = x2) (n3 : zw x3 = x3) (res : Int × Zm) (he : fX_at σ x1 x2 x3 = some res) : zM l yX9_at cX9_at 5 (some .int) 2 G 294 ztt σ [.ref (zad G 0), .int (zI x1), .int (zI x2), .int (zI x3)] (some (.int (zI res.1))) res.2 := by
  refine zM_of he (by decide +kernel) (Nat.le_of_ble_eq_true rfl) (lv := [(0, .ref (zad G 0)), (1, .int (zI x1)), (2, .int (zI x2)), (3, .int (zI x3))]) rfl (fun p e s m below meth c C => ?_)
  unfold fX_at
  refine zr_iloadn C 1 eX9_at_0 rfl ?_
  refine zr_callSi C [.int (zI x1)] zy_X9_isPiece zs_X9_isPiece lk_X9_84 zrm_2_1_1 (fun r hr => zqX_isPiece l G σ x1 n1 r hr) rfl rfl (Nat.le_of_ble_eq_true rfl) eX9_at_1 (fun v2 nv2 σ1 => ?_)
  refine zr_if_eq C eX9_at_4 nv2 ?_ ?_
  · refine zr_iconst C eX9_at_24 rfl ?_
    exact zr_iret C eX9_at_25
  refine zr_iloadn C 2 eX9_at_7 rfl ?_
  refine zr_callSi C [.int (zI x2)] zy_X9_isVoice zs_X9_isVoice lk_X9_88 zrm_2_1_1 (fun r hr => zqX_isVoice l G σ1 x2 n2 r hr) rfl rfl (Nat.le_of_ble_eq_true rfl) eX9_at_8 (fun v4 nv4 σ3 => ?_)
  refine zr_if_eq C eX9_at_11 nv4 ?_ ?_
  · refine zr_iconst C eX9_at_24 rfl ?_
    exact zr_iret C eX9_at_25
  refine zr_iloadn C 3 eX9_at_14 rfl ?_
  refine zr_iconst C eX9_at_15 rfl ?_
  refine zr_bipush (a := 31) C eX9_at_16 rfl ?_
  refine zr_callSi C [.int (zI x3), .int (zI 0), .int (zI 31)] zy_X9_within zs_X9_within lk_X9_113 zrm_2_3_0 (fun r hr => zqX_within l G σ3 x3 0 31 n3 w_0 w_31 r hr) rfl rfl (Nat.le_of_ble_eq_true rfl) eX9_at_18 (fun v6 nv6 σ5 => ?_)
  refine zr_if_ne C eX9_at_21 nv6 ?_ ?_
  · refine zr_aloadn C 0 eX9_at_26 rfl ?_
    refine zr_getR C ff_X9_10 rfl zo_0 rfl zf_0_0 eX9_at_27 ?_
    refine zr_getR C ff_X9_98 rfl zo_1 rfl zf_1_0 eX9_at_30 ?_
    refine zr_iloadn C 1 eX9_at_33 rfl ?_
    refine zr_iconst C eX9_at_34 rfl ?_
    refine zr_imul C eX9_at_35 ?_
    refine zr_iloadn C 2 eX9_at_36 rfl ?_
    refine zr_iadd C eX9_at_37 ?_
    refine zr_aald23 C zo_2 zn_2 rfl (fun _ _ => rfl) eX9_at_38 (fun hh7 => ?_)
    refine zr_astore (lv' := [(4, .ref (zad G (zRF 2 (zw ((x1 * 4) + x2)).toNat))), (0, .ref (zad G 0)), (1, .int (zI x1)), (2, .int (zI x2)), (3, .int (zI x3))]) C eX9_at_39 (by decide) rfl ?_
    refine zr_aload C 0 eX9_at_41 rfl ?_
    refine zr_getR C ff_X9_117 rfl (ze_23 zo_2 zn_2 hh7) rfl ((zk_3_1 (ze_23 zo_2 zn_2 hh7)).1) eX9_at_43 ?_
    refine zr_iloadn C 4 eX9_at_46 rfl ?_
    refine zr_iald C ((zk_3_1 (ze_23 zo_2 zn_2 hh7)).2) rfl n3 eX9_at_47 (fun v8 nv8 => ?_)
    refine zr_if_ne C eX9_at_48 nv8 ?_ ?_
    · refine zr_aload C 0 eX9_at_53 rfl ?_
      refine zr_getR C ff_X9_117 rfl (ze_23 zo_2 zn_2 hh7) rfl ((zk_3_1 (ze_23 zo_2 zn_2 hh7)).1) eX9_at_55 ?_
      refine zr_iloadn C 4 eX9_at_58 rfl ?_
      refine zr_iald C ((zk_3_1 (ze_23 zo_2 zn_2 hh7)).2) rfl n3 eX9_at_59 (fun v9 nv9 => ?_)
      refine zr_iconst C eX9_at_60 rfl ?_
      refine zr_icmp_ne C eX9_at_61 nv9 w_2 ?_ ?_
      · refine zr_aload C 0 eX9_at_77 rfl ?_
        refine zr_getR C ff_X9_121 rfl (ze_23 zo_2 zn_2 hh7) rfl ((zk_3_0 (ze_23 zo_2 zn_2 hh7)).1) eX9_at_79 ?_
        refine zr_iloadn C 4 eX9_at_82 rfl ?_
        refine zr_iald C ((zk_3_0 (ze_23 zo_2 zn_2 hh7)).2) rfl n3 eX9_at_83 (fun v10 nv10 => ?_)
        exact zr_iret C eX9_at_84
      refine zr_aload C 0 eX9_at_64 rfl ?_
      refine zr_getR C ff_X9_121 rfl (ze_23 zo_2 zn_2 hh7) rfl ((zk_3_0 (ze_23 zo_2 zn_2 hh7)).1) eX9_at_66 ?_
      refine zr_iloadn C 4 eX9_at_69 rfl ?_
      refine zr_iald C ((zk_3_0 (ze_23 zo_2 zn_2 hh7)).2) rfl n3 eX9_at_70 (fun v11 nv11 => ?_)
      refine zr_bipush (a := 100) C eX9_at_71 rfl ?_
      refine zr_iadd C eX9_at_73 ?_
      refine zr_goto C eX9_at_74 ?_
      exact zr_iret C eX9_at_84
    refine zr_iconst C eX9_at_51 rfl ?_
    exact zr_iret C eX9_at_52
  refine zr_iconst C eX9_at_24 rfl ?_
  exact zr_iret C eX9_at_25
theorem wX_subject_40 {G : Zg} {p : Program} {l : Launch} {e : Env} {s : State} {m : MethodId} {args : Array Value} {below : List Frame} {meth : Method} {c : Code} (C : zC G p s m args meth c cX9_subject 6 RX9 (some .int)) {res : Int × Zm} (x1 : Int) (x2 : Int) (x3 : Int) (x4 : Int) (n1 : zw x1 = x1) (n2 : zw x2 = x2) (n3 : zw x3 = x3) (n4 : zw x4 = x4) (σ : Zm) : zR G p l e (zrm 3) s m args below meth c 6 0 0 (zQm below args s G 294 ztt (some (.int (zI res.1))) res.2) 294 ztt res σ (fX_subject_40 x1 x2 x3 x4 σ) [(0, .ref (zad G 0)), (1, .int (zI x1)), (2, .int (zI x2)), (3, .int (zI x3)), (4, .int (zI x4))] 40 [] := by
  unfold fX_subject_40
  refine zr_aloadn C 0 eX9_subject_40 rfl ?_
  refine zr_getR C ff_X9_10 rfl zo_0 rfl zf_0_0 eX9_subject_41 ?_
  refine zr_getR C ff_X9_127 rfl zo_1 rfl zf_1_1 eX9_subject_44 ?_
  refine zr_iloadn C 1 eX9_subject_47 rfl ?_
  refine zr_aald23 C zo_3 zn_3 n1 (fun _ _ => rfl) eX9_subject_48 (fun hh5 => ?_)
  refine zr_astore (lv' := [(5, .ref (zad G (zRF 3 x1.toNat))), (0, .ref (zad G 0)), (1, .int (zI x1)), (2, .int (zI x2)), (3, .int (zI x3)), (4, .int (zI x4))]) C eX9_subject_49 (by decide) rfl ?_
  refine zr_iloadn C 4 eX9_subject_51 rfl ?_
  refine zr_bipush (a := (-100)) C eX9_subject_52 rfl ?_
  refine zr_icmp_ne C eX9_subject_54 n3 w_m100 ?_ ?_
  · refine zr_aload C 0 eX9_subject_68 rfl ?_
    refine zr_iloadn C 3 eX9_subject_70 rfl ?_
    refine zr_iloadn C 4 eX9_subject_71 rfl ?_
    refine zr_iload C 5 eX9_subject_72 rfl ?_
    refine zr_callVv C [.int (zI x2), .int (zI x3), .int (zI x4)] zy_X3_sing zv_X3_sing lk_X9_105 zrm_3_4_2 (ze_23 zo_3 zn_3 hh5) (by decide) rfl (fun r hr => zqL_sing l G σ (zRF 3 x1.toNat) x2 x3 x4 (ze_23 zo_3 zn_3 hh5) n2 n3 n4 r hr) rfl rfl (Nat.le_of_ble_eq_true rfl) eX9_subject_74 (fun σ6 => ?_)
    refine zr_aload C 0 eX9_subject_77 rfl ?_
    refine zr_callVi C [] zy_X3_beats zv_X3_beats lk_X9_130 zrm_3_2_0 (ze_23 zo_3 zn_3 hh5) (by decide) rfl (fun r hr => zqL_beats l G σ6 (zRF 3 x1.toNat) (ze_23 zo_3 zn_3 hh5) r hr) rfl rfl (Nat.le_of_ble_eq_true rfl) eX9_subject_79 (fun v8 nv8 σ7 => ?_)
    exact zr_iret C eX9_subject_82
  refine zr_aload C 0 eX9_subject_57 rfl ?_
  refine zr_iloadn C 3 eX9_subject_59 rfl ?_
  refine zr_iload C 5 eX9_subject_60 rfl ?_
  refine zr_callVv C [.int (zI x2), .int (zI x4)] zy_X3_silence zv_X3_silence lk_X9_101 zrm_3_3_2 (ze_23 zo_3 zn_3 hh5) (by decide) rfl (fun r hr => zqL_silence l G σ (zRF 3 x1.toNat) x2 x4 (ze_23 zo_3 zn_3 hh5) n2 n4 r hr) rfl rfl (Nat.le_of_ble_eq_true rfl) eX9_subject_62 (fun σ9 => ?_)
  refine zr_goto C eX9_subject_65 ?_
  refine zr_aload C 0 eX9_subject_77 rfl ?_
  refine zr_callVi C [] zy_X3_beats zv_X3_beats lk_X9_130 zrm_3_2_0 (ze_23 zo_3 zn_3 hh5) (by decide) rfl (fun r hr => zqL_beats l G σ9 (zRF 3 x1.toNat) (ze_23 zo_3 zn_3 hh5) r hr) rfl rfl (Nat.le_of_ble_eq_true rfl) eX9_subject_79 (fun v11 nv11 σ10 => ?_)
  exact zr_iret C eX9_subject_82
theorem zqX_subject (l : Launch) (G : Zg) (σ : Zm) (x1 : Int) (x2 : Int) (x3 : Int) (x4 : Int) (n1 : zw x1 = x1) (n2 : zw x2 = x2) (n3 : zw x3 = x3) (n4 : zw x4 = x4) (res : Int × Zm) (he : fX_subject σ x1 x2 x3 x4 = some res) : zM l yX9_subject cX9_subject 6 (some .int) 3 G 294 ztt σ [.ref (zad G 0), .int (zI x1), .int (zI x2), .int (zI x3), .int (zI x4)] (some (.int (zI res.1))) res.2 := by
  refine zM_of he (by decide +kernel) (Nat.le_of_ble_eq_true rfl) (lv := [(0, .ref (zad G 0)), (1, .int (zI x1)), (2, .int (zI x2)), (3, .int (zI x3)), (4, .int (zI x4))]) rfl (fun p e s m below meth c C => ?_)
  unfold fX_subject
  refine zr_iloadn C 1 eX9_subject_0 rfl ?_
  refine zr_callSi C [.int (zI x1)] zy_X9_isSubject zs_X9_isSubject lk_X9_124 zrm_3_1_1 (fun r hr => zqX_isSubject l G σ x1 n1 r hr) rfl rfl (Nat.le_of_ble_eq_true rfl) eX9_subject_1 (fun v2 nv2 σ1 => ?_)
  refine zr_if_eq C eX9_subject_4 nv2 ?_ ?_
  · refine zr_iconst C eX9_subject_19 rfl ?_
    exact zr_iret C eX9_subject_20
  refine zr_iloadn C 2 eX9_subject_7 rfl ?_
  refine zr_iload C 4 eX9_subject_8 rfl ?_
  refine zr_iconst C eX9_subject_10 rfl ?_
  refine zr_bipush (a := 12) C eX9_subject_11 rfl ?_
  refine zr_callSi C [.int (zI x2), .int (zI x4), .int (zI 4), .int (zI 12)] zy_X9_isNote zs_X9_isNote lk_X9_91 zrm_3_4_1 (fun r hr => zqX_isNote l G σ1 x2 x4 4 12 n2 n4 w_4 w_12 r hr) rfl rfl (Nat.le_of_ble_eq_true rfl) eX9_subject_13 (fun v4 nv4 σ3 => ?_)
  refine zr_if_ne C eX9_subject_16 nv4 ?_ ?_
  · refine zr_iloadn C 3 eX9_subject_21 rfl ?_
    refine zr_bipush (a := (-100)) C eX9_subject_22 rfl ?_
    refine zr_icmp_eq C eX9_subject_24 n3 w_m100 ?_ ?_
    · exact wX_subject_40 C x1 x2 x3 x4 n1 n2 n3 n4 σ3
    refine zr_iloadn C 3 eX9_subject_27 rfl ?_
    refine zr_bipush (a := (-20)) C eX9_subject_28 rfl ?_
    refine zr_bipush (a := 20) C eX9_subject_30 rfl ?_
    refine zr_callSi C [.int (zI x3), .int (zI (-20)), .int (zI 20)] zy_X9_within zs_X9_within lk_X9_113 zrm_3_3_0 (fun r hr => zqX_within l G σ3 x3 (-20) 20 n3 w_m20 w_20 r hr) rfl rfl (Nat.le_of_ble_eq_true rfl) eX9_subject_32 (fun v13 nv13 σ12 => ?_)
    refine zr_if_ne C eX9_subject_35 nv13 ?_ ?_
    · exact wX_subject_40 C x1 x2 x3 x4 n1 n2 n3 n4 σ12
    refine zr_iconst C eX9_subject_38 rfl ?_
    exact zr_iret C eX9_subject_39
  refine zr_iconst C eX9_subject_19 rfl ?_
  exact zr_iret C eX9_subject_20
theorem zqX_bar (l : Launch) (G : Zg) (σ : Zm) (x1 : Int) (n1 : zw x1 = x1) (res : Int × Zm) (he : fX_bar σ x1 = some res) : zM l yX9_bar cX9_bar 2 (some .boolean) 1 G 294 ztt σ [.ref (zad G 0), .int (zI x1)] (some (.int (zI res.1))) res.2 := by
  refine zM_of he (by decide +kernel) (Nat.le_of_ble_eq_true rfl) (lv := [(0, .ref (zad G 0)), (1, .int (zI x1))]) rfl (fun p e s m below meth c C => ?_)
  unfold fX_bar
  refine zr_iloadn C 1 eX9_bar_0 rfl ?_
  refine zr_iconst C eX9_bar_1 rfl ?_
  refine zr_bipush (a := 12) C eX9_bar_2 rfl ?_
  refine zr_callSi C [.int (zI x1), .int (zI 1), .int (zI 12)] zy_X9_within zs_X9_within lk_X9_113 zrm_1_3_0 (fun r hr => zqX_within l G σ x1 1 12 n1 w_1 w_12 r hr) rfl rfl (Nat.le_of_ble_eq_true rfl) eX9_bar_4 (fun v2 nv2 σ1 => ?_)
  refine zr_if_ne C eX9_bar_7 nv2 ?_ ?_
  · refine zr_aloadn C 0 eX9_bar_12 rfl ?_
    refine zr_getR C ff_X9_10 rfl zo_0 rfl zf_0_0 eX9_bar_13 ?_
    refine zr_iloadn C 1 eX9_bar_16 rfl ?_
    refine zr_putI C ff_X9_134 rfl zo_1 eX9_bar_17 (fun σ3 => ?_)
    refine zr_iconst C eX9_bar_20 rfl ?_
    exact zr_zret C eX9_bar_21 (Or.inr rfl)
  refine zr_iconst C eX9_bar_10 rfl ?_
  exact zr_zret C eX9_bar_11 (Or.inl rfl)
theorem wX_copy_18 {G : Zg} {p : Program} {l : Launch} {e : Env} {s : State} {m : MethodId} {args : Array Value} {below : List Frame} {meth : Method} {c : Code} (C : zC G p s m args meth c cX9_copy 4 RX9 (some .boolean)) {res : Int × Zm} : ∀ (n : Nat) (x1 : Int) (x2 : Int) (x3 : Int) (n1 : zw x1 = x1) (n2 : zw x2 = x2) (n3 : zw x3 = x3) (σ : Zm), zR G p l e (zrm 2) s m args below meth c 4 0 0 (zQm below args s G 294 ztt (some (.int (zI res.1))) res.2) 294 ztt res σ (fX_copy_18 n x1 x2 x3 σ) [(0, .ref (zad G 0)), (1, .int (zI x1)), (2, .int (zI x2)), (3, .int (zI x3))] 18 []
  | 0, _, _, _, _, _, _, _ => zr_none
  | n + 1, x1, x2, x3, n1, n2, n3, σ => by
    have ih := fun (x1 : Int) (x2 : Int) (x3 : Int) (n1 : zw x1 = x1) (n2 : zw x2 = x2) (n3 : zw x3 = x3) (σ : Zm) => wX_copy_18 (l := l) (e := e) (below := below) C (res := res) n x1 x2 x3 n1 n2 n3 σ
    rw [fX_copy_18]
    refine zr_letf (fun R0 hR0 => ?_)
    have ih : ∀ (x1 : Int) (x2 : Int) (x3 : Int) (n1 : zw x1 = x1) (n2 : zw x2 = x2) (n3 : zw x3 = x3) (σ : Zm), zR G p l e (zrm 2) s m args below meth c 4 0 0 (zQm below args s G 294 ztt (some (.int (zI res.1))) res.2) 294 ztt res σ (R0 x1 x2 x3 σ) [(0, .ref (zad G 0)), (1, .int (zI x1)), (2, .int (zI x2)), (3, .int (zI x3))] 18 [] := by rw [hR0]; exact ih
    clear hR0
    refine zr_iloadn C 3 eX9_copy_18 rfl ?_
    refine zr_iconst C eX9_copy_19 rfl ?_
    refine zr_icmp_ge C eX9_copy_20 n3 w_4 ?_ ?_
    · refine zr_iconst C eX9_copy_58 rfl ?_
      exact zr_zret C eX9_copy_59 (Or.inr rfl)
    refine zr_aloadn C 0 eX9_copy_23 rfl ?_
    refine zr_getR C ff_X9_10 rfl zo_0 rfl zf_0_0 eX9_copy_24 ?_
    refine zr_getR C ff_X9_98 rfl zo_1 rfl zf_1_0 eX9_copy_27 ?_
    refine zr_iloadn C 2 eX9_copy_30 rfl ?_
    refine zr_iconst C eX9_copy_31 rfl ?_
    refine zr_imul C eX9_copy_32 ?_
    refine zr_iloadn C 3 eX9_copy_33 rfl ?_
    refine zr_iadd C eX9_copy_34 ?_
    refine zr_aald23 C zo_2 zn_2 rfl (fun _ _ => rfl) eX9_copy_35 (fun hh5 => ?_)
    refine zr_aloadn C 0 eX9_copy_36 rfl ?_
    refine zr_getR C ff_X9_10 rfl zo_0 rfl zf_0_0 eX9_copy_37 ?_
    refine zr_getR C ff_X9_98 rfl zo_1 rfl zf_1_0 eX9_copy_40 ?_
    refine zr_iloadn C 1 eX9_copy_43 rfl ?_
    refine zr_iconst C eX9_copy_44 rfl ?_
    refine zr_imul C eX9_copy_45 ?_
    refine zr_iloadn C 3 eX9_copy_46 rfl ?_
    refine zr_iadd C eX9_copy_47 ?_
    refine zr_aald23 C zo_2 zn_2 rfl (fun _ _ => rfl) eX9_copy_48 (fun hh6 => ?_)
    refine zr_callVv C [.ref (zad G (zRF 2 (zw ((x1 * 4) + x3)).toNat))] zy_X3_take zv_X3_take lk_X9_138 zrm_2_3_1 (ze_23 zo_2 zn_2 hh5) (by decide) rfl (fun r hr => zqL_take l G σ (zRF 2 (zw ((x2 * 4) + x3)).toNat) (zRF 2 (zw ((x1 * 4) + x3)).toNat) (ze_23 zo_2 zn_2 hh5) (ze_23 zo_2 zn_2 hh6) r hr) rfl rfl (Nat.le_of_ble_eq_true rfl) eX9_copy_49 (fun σ7 => ?_)
    refine zr_iinc (lv' := [(3, .int (zI (x3 + 1))), (0, .ref (zad G 0)), (1, .int (zI x1)), (2, .int (zI x2))]) C 3 eX9_copy_52 rfl (by decide) rfl ?_
    refine zr_goto C eX9_copy_55 ?_
    refine zr_lv [1, 2, 3, 0] rfl ?_
    exact zr_lve (zs_p (zs_p (zs_p (zs_pi (zI_w (x3 + 1)).symm rfl)))) (ih x1 x2 (zw (x3 + 1)) n1 n2 (zw_w (x3 + 1)) _)
theorem zqX_copy (l : Launch) (G : Zg) (σ : Zm) (x1 : Int) (x2 : Int) (n1 : zw x1 = x1) (n2 : zw x2 = x2) (res : Int × Zm) (he : fX_copy σ x1 x2 = some res) : zM l yX9_copy cX9_copy 4 (some .boolean) 2 G 294 ztt σ [.ref (zad G 0), .int (zI x1), .int (zI x2)] (some (.int (zI res.1))) res.2 := by
  refine zM_of he (by decide +kernel) (Nat.le_of_ble_eq_true rfl) (lv := [(0, .ref (zad G 0)), (1, .int (zI x1)), (2, .int (zI x2))]) rfl (fun p e s m below meth c C => ?_)
  unfold fX_copy
  refine zr_iloadn C 1 eX9_copy_0 rfl ?_
  refine zr_callSi C [.int (zI x1)] zy_X9_isPiece zs_X9_isPiece lk_X9_84 zrm_2_1_1 (fun r hr => zqX_isPiece l G σ x1 n1 r hr) rfl rfl (Nat.le_of_ble_eq_true rfl) eX9_copy_1 (fun v2 nv2 σ1 => ?_)
  refine zr_if_eq C eX9_copy_4 nv2 ?_ ?_
  · refine zr_iconst C eX9_copy_14 rfl ?_
    exact zr_zret C eX9_copy_15 (Or.inl rfl)
  refine zr_iloadn C 2 eX9_copy_7 rfl ?_
  refine zr_callSi C [.int (zI x2)] zy_X9_isPiece zs_X9_isPiece lk_X9_84 zrm_2_1_1 (fun r hr => zqX_isPiece l G σ1 x2 n2 r hr) rfl rfl (Nat.le_of_ble_eq_true rfl) eX9_copy_8 (fun v4 nv4 σ3 => ?_)
  refine zr_if_ne C eX9_copy_11 nv4 ?_ ?_
  · refine zr_iconst C eX9_copy_16 rfl ?_
    refine zr_istoren (lv' := [(3, .int (zI 0)), (0, .ref (zad G 0)), (1, .int (zI x1)), (2, .int (zI x2))]) C eX9_copy_17 (by decide) rfl ?_
    refine zr_lv [1, 2, 3, 0] rfl ?_
    refine wX_copy_18 C 5000 x1 x2 0 n1 n2 w_0 σ3
  refine zr_iconst C eX9_copy_14 rfl ?_
  exact zr_zret C eX9_copy_15 (Or.inl rfl)
theorem zqX_feed (l : Launch) (G : Zg) (σ : Zm) (x1 : Int) (x2 : Int) (x3 : Int) (x4 : Int) (x5 : Int) (n1 : zw x1 = x1) (n2 : zw x2 = x2) (n3 : zw x3 = x3) (n4 : zw x4 = x4) (n5 : zw x5 = x5) (res : Int × Zm) (he : fX_feed σ x1 x2 x3 x4 x5 = some res) : zM l yX9_feed cX9_feed 6 (some .int) 1 G 294 ztt σ [.ref (zad G 0), .int (zI x1), .int (zI x2), .int (zI x3), .int (zI x4), .int (zI x5)] (some (.int (zI res.1))) res.2 := by
  refine zM_of he (by decide +kernel) (Nat.le_of_ble_eq_true rfl) (lv := [(0, .ref (zad G 0)), (1, .int (zI x1)), (2, .int (zI x2)), (3, .int (zI x3)), (4, .int (zI x4)), (5, .int (zI x5))]) rfl (fun p e s m below meth c C => ?_)
  unfold fX_feed
  refine zr_aloadn C 0 eX9_feed_0 rfl ?_
  refine zr_getR C ff_X9_28 rfl zo_0 rfl zf_0_3 eX9_feed_1 ?_
  refine zr_getI C ff_X9_142 zo_150 eX9_feed_4 (fun v1 nv1 => ?_)
  refine zr_bipush (a := 20) C eX9_feed_7 rfl ?_
  refine zr_iadd C eX9_feed_9 ?_
  refine zr_sipush (a := 300) C eX9_feed_10 rfl ?_
  refine zr_icmp_le C eX9_feed_13 rfl w_300 ?_ ?_
  · refine zr_aloadn C 0 eX9_feed_18 rfl ?_
    refine zr_getR C ff_X9_28 rfl zo_0 rfl zf_0_3 eX9_feed_19 ?_
    refine zr_iloadn C 1 eX9_feed_22 rfl ?_
    refine zr_callVv C [.int (zI x1)] zy_X5_append zv_X5_append lk_X9_145 zrm_1_3_0 zo_150 (by decide) rfl (fun r hr => zqR_append l G σ x1 n1 r hr) rfl rfl (Nat.le_of_ble_eq_true rfl) eX9_feed_23 (fun σ2 => ?_)
    refine zr_aloadn C 0 eX9_feed_26 rfl ?_
    refine zr_getR C ff_X9_28 rfl zo_0 rfl zf_0_3 eX9_feed_27 ?_
    refine zr_iloadn C 2 eX9_feed_30 rfl ?_
    refine zr_callVv C [.int (zI x2)] zy_X5_append zv_X5_append lk_X9_145 zrm_1_3_0 zo_150 (by decide) rfl (fun r hr => zqR_append l G σ2 x2 n2 r hr) rfl rfl (Nat.le_of_ble_eq_true rfl) eX9_feed_31 (fun σ3 => ?_)
    refine zr_aloadn C 0 eX9_feed_34 rfl ?_
    refine zr_getR C ff_X9_28 rfl zo_0 rfl zf_0_3 eX9_feed_35 ?_
    refine zr_iloadn C 3 eX9_feed_38 rfl ?_
    refine zr_callVv C [.int (zI x3)] zy_X5_append zv_X5_append lk_X9_145 zrm_1_3_0 zo_150 (by decide) rfl (fun r hr => zqR_append l G σ3 x3 n3 r hr) rfl rfl (Nat.le_of_ble_eq_true rfl) eX9_feed_39 (fun σ4 => ?_)
    refine zr_aloadn C 0 eX9_feed_42 rfl ?_
    refine zr_getR C ff_X9_28 rfl zo_0 rfl zf_0_3 eX9_feed_43 ?_
    refine zr_iload C 4 eX9_feed_46 rfl ?_
    refine zr_callVv C [.int (zI x4)] zy_X5_append zv_X5_append lk_X9_145 zrm_1_3_0 zo_150 (by decide) rfl (fun r hr => zqR_append l G σ4 x4 n4 r hr) rfl rfl (Nat.le_of_ble_eq_true rfl) eX9_feed_48 (fun σ5 => ?_)
    refine zr_aloadn C 0 eX9_feed_51 rfl ?_
    refine zr_getR C ff_X9_28 rfl zo_0 rfl zf_0_3 eX9_feed_52 ?_
    refine zr_iload C 5 eX9_feed_55 rfl ?_
    refine zr_callVv C [.int (zI x5)] zy_X5_append zv_X5_append lk_X9_145 zrm_1_3_0 zo_150 (by decide) rfl (fun r hr => zqR_append l G σ5 x5 n5 r hr) rfl rfl (Nat.le_of_ble_eq_true rfl) eX9_feed_57 (fun σ6 => ?_)
    refine zr_aloadn C 0 eX9_feed_60 rfl ?_
    refine zr_getR C ff_X9_28 rfl zo_0 rfl zf_0_3 eX9_feed_61 ?_
    refine zr_getI C ff_X9_142 zo_150 eX9_feed_64 (fun v7 nv7 => ?_)
    exact zr_iret C eX9_feed_67
  refine zr_iconst C eX9_feed_16 rfl ?_
  exact zr_iret C eX9_feed_17
theorem zqX_end (l : Launch) (G : Zg) (σ : Zm) (x1 : Int) (n1 : zw x1 = x1) (res : Int × Zm) (he : fX_end σ x1 = some res) : zM l yX9_end cX9_end 2 (some .int) 0 G 294 ztt σ [.ref (zad G 0), .int (zI x1)] (some (.int (zI res.1))) res.2 := by
  refine zM_of he (by decide +kernel) (Nat.le_of_ble_eq_true rfl) (lv := [(0, .ref (zad G 0)), (1, .int (zI x1))]) rfl (fun p e s m below meth c C => ?_)
  unfold fX_end
  refine zr_iloadn C 1 eX9_end_0 rfl ?_
  refine zr_if_lt C eX9_end_1 n1 ?_ ?_
  · refine zr_iconst C eX9_end_15 rfl ?_
    exact zr_iret C eX9_end_16
  refine zr_iloadn C 1 eX9_end_4 rfl ?_
  refine zr_aloadn C 0 eX9_end_5 rfl ?_
  refine zr_getR C ff_X9_28 rfl zo_0 rfl zf_0_3 eX9_end_6 ?_
  refine zr_getI C ff_X9_142 zo_150 eX9_end_9 (fun v1 nv1 => ?_)
  refine zr_icmp_le C eX9_end_12 n1 nv1 ?_ ?_
  · refine zr_aloadn C 0 eX9_end_17 rfl ?_
    refine zr_getR C ff_X9_28 rfl zo_0 rfl zf_0_3 eX9_end_18 ?_
    refine zr_iloadn C 1 eX9_end_21 rfl ?_
    refine zr_putI C ff_X9_142 rfl zo_150 eX9_end_22 (fun σ2 => ?_)
    refine zr_iloadn C 1 eX9_end_25 rfl ?_
    exact zr_iret C eX9_end_26
  refine zr_iconst C eX9_end_15 rfl ?_
  exact zr_iret C eX9_end_16
theorem zqX_text (l : Launch) (G : Zg) (σ : Zm) (res : Int × Zm) (he : fX_text σ = some res) : zM l yX9_text cX9_text 1 (some .int) 8 G 294 ztt σ [.ref (zad G 0)] (some (.int (zI res.1))) res.2 := by
  refine zM_of he (by decide +kernel) (Nat.le_of_ble_eq_true rfl) (lv := [(0, .ref (zad G 0))]) rfl (fun p e s m below meth c C => ?_)
  unfold fX_text
  refine zr_aloadn C 0 eX9_text_0 rfl ?_
  refine zr_getR C ff_X9_10 rfl zo_0 rfl zf_0_0 eX9_text_1 ?_
  refine zr_getI C ff_X9_148 zo_1 eX9_text_4 (fun v1 nv1 => ?_)
  refine zr_bipush (a := 6) C eX9_text_7 rfl ?_
  refine zr_icmp_lt C eX9_text_9 nv1 w_6 ?_ ?_
  · refine zr_aloadn C 0 eX9_text_14 rfl ?_
    refine zr_getR C ff_X9_28 rfl zo_0 rfl zf_0_3 eX9_text_15 ?_
    refine zr_aloadn C 0 eX9_text_18 rfl ?_
    refine zr_getR C ff_X9_21 rfl zo_0 rfl zf_0_2 eX9_text_19 ?_
    refine zr_aloadn C 0 eX9_text_22 rfl ?_
    refine zr_getR C ff_X9_10 rfl zo_0 rfl zf_0_0 eX9_text_23 ?_
    refine zr_getI C ff_X9_148 zo_1 eX9_text_26 (fun v2 nv2 => ?_)
    refine zr_aald24 C zo_149 zn_149 nv2 (fun _ _ => rfl) eX9_text_29 (fun hh3 => ?_)
    refine zr_callVv C [.ref (zad G (zRF 149 v2.toNat))] zy_X5_read zv_X5_read lk_X9_151 zrm_8_3_7 zo_150 (by decide) rfl (fun r hr => zqR_read l G σ (zRF 149 v2.toNat) (ze_24 zo_149 zn_149 hh3) r hr) rfl rfl (Nat.le_of_ble_eq_true rfl) eX9_text_30 (fun σ4 => ?_)
    refine zr_aloadn C 0 eX9_text_33 rfl ?_
    refine zr_getR C ff_X9_28 rfl zo_0 rfl zf_0_3 eX9_text_34 ?_
    refine zr_iconst C eX9_text_37 rfl ?_
    refine zr_putI C ff_X9_142 rfl zo_150 eX9_text_38 (fun σ5 => ?_)
    refine zr_aloadn C 0 eX9_text_41 rfl ?_
    refine zr_iconst C eX9_text_42 rfl ?_
    refine zr_putZ C ff_X9_76 rfl zo_0 (Or.inr rfl) eX9_text_43 (fun σ6 => ?_)
    refine zr_aloadn C 0 eX9_text_46 rfl ?_
    refine zr_getR C ff_X9_28 rfl zo_0 rfl zf_0_3 eX9_text_47 ?_
    refine zr_getI C ff_X9_155 zo_150 eX9_text_50 (fun v7 nv7 => ?_)
    refine zr_if_eq C eX9_text_53 nv7 ?_ ?_
    · refine zr_aloadn C 0 eX9_text_58 rfl ?_
      refine zr_getR C ff_X9_10 rfl zo_0 rfl zf_0_0 eX9_text_59 ?_
      refine zr_getR C ff_X9_158 rfl zo_1 rfl zf_1_3 eX9_text_62 ?_
      refine zr_aloadn C 0 eX9_text_65 rfl ?_
      refine zr_getR C ff_X9_10 rfl zo_0 rfl zf_0_0 eX9_text_66 ?_
      refine zr_getI C ff_X9_148 zo_1 eX9_text_69 (fun v8 nv8 => ?_)
      refine zr_iconst C eX9_text_72 rfl ?_
      refine zr_iast C zo_5 zn_5 nv8 eX9_text_73 (fun σ9 => ?_)
      refine zr_aloadn C 0 eX9_text_74 rfl ?_
      refine zr_getR C ff_X9_10 rfl zo_0 rfl zf_0_0 eX9_text_75 ?_
      refine zr_dup C eX9_text_78 rfl ?_
      refine zr_getI C ff_X9_148 zo_1 eX9_text_79 (fun v10 nv10 => ?_)
      refine zr_iconst C eX9_text_82 rfl ?_
      refine zr_iadd C eX9_text_83 ?_
      refine zr_putI C ff_X9_148 rfl zo_1 eX9_text_84 (fun σ11 => ?_)
      refine zr_aloadn C 0 eX9_text_87 rfl ?_
      refine zr_getR C ff_X9_10 rfl zo_0 rfl zf_0_0 eX9_text_88 ?_
      refine zr_getI C ff_X9_148 zo_1 eX9_text_91 (fun v12 nv12 => ?_)
      refine zr_iconst C eX9_text_94 rfl ?_
      refine zr_isub C eX9_text_95 ?_
      exact zr_iret C eX9_text_96
    refine zr_iconst C eX9_text_56 rfl ?_
    exact zr_iret C eX9_text_57
  refine zr_iconst C eX9_text_12 rfl ?_
  exact zr_iret C eX9_text_13
theorem zqX_fault (l : Launch) (G : Zg) (σ : Zm) (x1 : Int) (n1 : zw x1 = x1) (res : Int × Zm) (he : fX_fault σ x1 = some res) : zM l yX9_fault cX9_fault 2 (some .int) 1 G 294 ztt σ [.ref (zad G 0), .int (zI x1)] (some (.int (zI res.1))) res.2 := by
  refine zM_of he (by decide +kernel) (Nat.le_of_ble_eq_true rfl) (lv := [(0, .ref (zad G 0)), (1, .int (zI x1))]) rfl (fun p e s m below meth c C => ?_)
  unfold fX_fault
  refine zr_aloadn C 0 eX9_fault_0 rfl ?_
  refine zr_getZ C ff_X9_76 zo_0 eX9_fault_1 (fun v1 nv1 => ?_)
  refine zr_if_eq C eX9_fault_4 nv1 ?_ ?_
  · refine zr_iconst C eX9_fault_16 rfl ?_
    exact zr_iret C eX9_fault_17
  refine zr_iloadn C 1 eX9_fault_7 rfl ?_
  refine zr_iconst C eX9_fault_8 rfl ?_
  refine zr_iconst C eX9_fault_9 rfl ?_
  refine zr_callSi C [.int (zI x1), .int (zI 0), .int (zI 1)] zy_X9_within zs_X9_within lk_X9_113 zrm_1_3_0 (fun r hr => zqX_within l G σ x1 0 1 n1 w_0 w_1 r hr) rfl rfl (Nat.le_of_ble_eq_true rfl) eX9_fault_10 (fun v3 nv3 σ2 => ?_)
  refine zr_if_ne C eX9_fault_13 nv3 ?_ ?_
  · refine zr_iloadn C 1 eX9_fault_18 rfl ?_
    refine zr_if_ne C eX9_fault_19 n1 ?_ ?_
    · refine zr_aloadn C 0 eX9_fault_32 rfl ?_
      refine zr_getR C ff_X9_28 rfl zo_0 rfl zf_0_3 eX9_fault_33 ?_
      refine zr_getI C ff_X9_161 zo_150 eX9_fault_36 (fun v4 nv4 => ?_)
      exact zr_iret C eX9_fault_39
    refine zr_aloadn C 0 eX9_fault_22 rfl ?_
    refine zr_getR C ff_X9_28 rfl zo_0 rfl zf_0_3 eX9_fault_23 ?_
    refine zr_getI C ff_X9_155 zo_150 eX9_fault_26 (fun v5 nv5 => ?_)
    refine zr_goto C eX9_fault_29 ?_
    exact zr_iret C eX9_fault_39
  refine zr_iconst C eX9_fault_16 rfl ?_
  exact zr_iret C eX9_fault_17
theorem zqX_isText (l : Launch) (G : Zg) (σ : Zm) (x1 : Int) (n1 : zw x1 = x1) (res : Int × Zm) (he : fX_isText σ x1 = some res) : zM l yX9_isText cX9_isText 2 (some .boolean) 1 G 294 ztt σ [.ref (zad G 0), .int (zI x1)] (some (.int (zI res.1))) res.2 := by
  refine zM_of he (by decide +kernel) (Nat.le_of_ble_eq_true rfl) (lv := [(0, .ref (zad G 0)), (1, .int (zI x1))]) rfl (fun p e s m below meth c C => ?_)
  unfold fX_isText
  refine zr_iloadn C 1 eX9_isText_0 rfl ?_
  refine zr_iconst C eX9_isText_1 rfl ?_
  refine zr_aloadn C 0 eX9_isText_2 rfl ?_
  refine zr_getR C ff_X9_10 rfl zo_0 rfl zf_0_0 eX9_isText_3 ?_
  refine zr_getI C ff_X9_148 zo_1 eX9_isText_6 (fun v1 nv1 => ?_)
  refine zr_iconst C eX9_isText_9 rfl ?_
  refine zr_isub C eX9_isText_10 ?_
  refine zr_callSi C [.int (zI x1), .int (zI 0), .int (zI (zw (v1 - 1)))] zy_X9_within zs_X9_within lk_X9_113 zrm_1_3_0 (fun r hr => zqX_within l G σ x1 0 (zw (v1 - 1)) n1 w_0 (zw_w (v1 - 1)) r hr) rfl (zs_i (zI_w (v1 - 1)).symm (zs_k (zs_k rfl))) (Nat.le_of_ble_eq_true rfl) eX9_isText_11 (fun v3 nv3 σ2 => ?_)
  exact zr_zretg C eX9_isText_14
theorem zqX_price (l : Launch) (G : Zg) (σ : Zm) (x1 : Int) (x2 : Int) (n1 : zw x1 = x1) (n2 : zw x2 = x2) (res : Int × Zm) (he : fX_price σ x1 x2 = some res) : zM l yX9_price cX9_price 3 (some .int) 5 G 294 ztt σ [.ref (zad G 0), .int (zI x1), .int (zI x2)] (some (.int (zI res.1))) res.2 := by
  refine zM_of he (by decide +kernel) (Nat.le_of_ble_eq_true rfl) (lv := [(0, .ref (zad G 0)), (1, .int (zI x1)), (2, .int (zI x2))]) rfl (fun p e s m below meth c C => ?_)
  unfold fX_price
  refine zr_aloadn C 0 eX9_price_0 rfl ?_
  refine zr_iloadn C 1 eX9_price_1 rfl ?_
  refine zr_callVi C [.int (zI x1)] zy_X9_isText zv_X9_isText lk_X9_164 zrm_5_2_1 zo_0 (by decide) rfl (fun r hr => zqX_isText l G σ x1 n1 r hr) rfl rfl (Nat.le_of_ble_eq_true rfl) eX9_price_2 (fun v2 nv2 σ1 => ?_)
  refine zr_if_eq C eX9_price_5 nv2 ?_ ?_
  · refine zr_iconst C eX9_price_15 rfl ?_
    exact zr_iret C eX9_price_16
  refine zr_iloadn C 2 eX9_price_8 rfl ?_
  refine zr_callSi C [.int (zI x2)] zy_X9_isPiece zs_X9_isPiece lk_X9_84 zrm_5_1_1 (fun r hr => zqX_isPiece l G σ1 x2 n2 r hr) rfl rfl (Nat.le_of_ble_eq_true rfl) eX9_price_9 (fun v4 nv4 σ3 => ?_)
  refine zr_if_ne C eX9_price_12 nv4 ?_ ?_
  · refine zr_aloadn C 0 eX9_price_17 rfl ?_
    refine zr_getR C ff_X9_35 rfl zo_0 rfl zf_0_4 eX9_price_18 ?_
    refine zr_aloadn C 0 eX9_price_21 rfl ?_
    refine zr_getR C ff_X9_10 rfl zo_0 rfl zf_0_0 eX9_price_22 ?_
    refine zr_getI C ff_X9_134 zo_1 eX9_price_25 (fun v5 nv5 => ?_)
    refine zr_iconst C eX9_price_28 rfl ?_
    refine zr_callVv C [.int (zI v5), .int (zI (-1))] zy_X2_begin zv_X2_begin lk_X9_167 zrm_5_3_1 zo_153 (by decide) rfl (fun r hr => zqJ_begin l G σ3 153 v5 (-1) zo_153 nv5 w_m1 r hr) rfl rfl (Nat.le_of_ble_eq_true rfl) eX9_price_29 (fun σ6 => ?_)
    refine zr_aloadn C 0 eX9_price_32 rfl ?_
    refine zr_getR C ff_X9_35 rfl zo_0 rfl zf_0_4 eX9_price_33 ?_
    refine zr_aloadn C 0 eX9_price_36 rfl ?_
    refine zr_getR C ff_X9_21 rfl zo_0 rfl zf_0_2 eX9_price_37 ?_
    refine zr_iloadn C 1 eX9_price_40 rfl ?_
    refine zr_aald24 C zo_149 zn_149 n1 (fun _ _ => rfl) eX9_price_41 (fun hh7 => ?_)
    refine zr_aloadn C 0 eX9_price_42 rfl ?_
    refine zr_getR C ff_X9_10 rfl zo_0 rfl zf_0_0 eX9_price_43 ?_
    refine zr_getR C ff_X9_98 rfl zo_1 rfl zf_1_0 eX9_price_46 ?_
    refine zr_iloadn C 2 eX9_price_49 rfl ?_
    refine zr_iconst C eX9_price_50 rfl ?_
    refine zr_imul C eX9_price_51 ?_
    refine zr_iconst C eX9_price_52 rfl ?_
    refine zr_callVv C [.ref (zad G (zRF 149 x1.toNat)), .ref (zad G 2), .int (zI (zw (x2 * 4))), .int (zI 0)] zy_X2_askPiece zv_X2_askPiece lk_X9_170 zrm_5_10_4 zo_153 (by decide) rfl (fun r hr => zqJ_askPiece l G σ6 153 (zRF 149 x1.toNat) 2 (zw (x2 * 4)) 0 zo_153 (ze_24 zo_149 zn_149 hh7) zo_2 (zw_w (x2 * 4)) w_0 r hr) rfl (zs_k (zs_i (zI_w (x2 * 4)).symm (zs_k (zs_k rfl)))) (Nat.le_of_ble_eq_true rfl) eX9_price_53 (fun σ8 => ?_)
    refine zr_aloadn C 0 eX9_price_56 rfl ?_
    refine zr_getR C ff_X9_35 rfl zo_0 rfl zf_0_4 eX9_price_57 ?_
    refine zr_getI C ff_X9_174 zo_153 eX9_price_60 (fun v9 nv9 => ?_)
    exact zr_iret C eX9_price_63
  refine zr_iconst C eX9_price_15 rfl ?_
  exact zr_iret C eX9_price_16
theorem zqX_breaks (l : Launch) (G : Zg) (σ : Zm) (x1 : Int) (x2 : Int) (x3 : Int) (x4 : Int) (n1 : zw x1 = x1) (n2 : zw x2 = x2) (n3 : zw x3 = x3) (n4 : zw x4 = x4) (res : Int × Zm) (he : fX_breaks σ x1 x2 x3 x4 = some res) : zM l yX9_breaks cX9_breaks 5 (some .int) 5 G 294 ztt σ [.ref (zad G 0), .int (zI x1), .int (zI x2), .int (zI x3), .int (zI x4)] (some (.int (zI res.1))) res.2 := by
  refine zM_of he (by decide +kernel) (Nat.le_of_ble_eq_true rfl) (lv := [(0, .ref (zad G 0)), (1, .int (zI x1)), (2, .int (zI x2)), (3, .int (zI x3)), (4, .int (zI x4))]) rfl (fun p e s m below meth c C => ?_)
  unfold fX_breaks
  refine zr_aloadn C 0 eX9_breaks_0 rfl ?_
  refine zr_iloadn C 1 eX9_breaks_1 rfl ?_
  refine zr_callVi C [.int (zI x1)] zy_X9_isText zv_X9_isText lk_X9_164 zrm_5_2_1 zo_0 (by decide) rfl (fun r hr => zqX_isText l G σ x1 n1 r hr) rfl rfl (Nat.le_of_ble_eq_true rfl) eX9_breaks_2 (fun v2 nv2 σ1 => ?_)
  refine zr_if_eq C eX9_breaks_5 nv2 ?_ ?_
  · refine zr_iconst C eX9_breaks_15 rfl ?_
    exact zr_iret C eX9_breaks_16
  refine zr_iloadn C 2 eX9_breaks_8 rfl ?_
  refine zr_callSi C [.int (zI x2)] zy_X9_isPiece zs_X9_isPiece lk_X9_84 zrm_5_1_1 (fun r hr => zqX_isPiece l G σ1 x2 n2 r hr) rfl rfl (Nat.le_of_ble_eq_true rfl) eX9_breaks_9 (fun v4 nv4 σ3 => ?_)
  refine zr_if_ne C eX9_breaks_12 nv4 ?_ ?_
  · refine zr_aloadn C 0 eX9_breaks_17 rfl ?_
    refine zr_getR C ff_X9_35 rfl zo_0 rfl zf_0_4 eX9_breaks_18 ?_
    refine zr_aloadn C 0 eX9_breaks_21 rfl ?_
    refine zr_getR C ff_X9_10 rfl zo_0 rfl zf_0_0 eX9_breaks_22 ?_
    refine zr_getI C ff_X9_134 zo_1 eX9_breaks_25 (fun v5 nv5 => ?_)
    refine zr_iloadn C 3 eX9_breaks_28 rfl ?_
    refine zr_callVv C [.int (zI v5), .int (zI x3)] zy_X2_begin zv_X2_begin lk_X9_167 zrm_5_3_1 zo_153 (by decide) rfl (fun r hr => zqJ_begin l G σ3 153 v5 x3 zo_153 nv5 n3 r hr) rfl rfl (Nat.le_of_ble_eq_true rfl) eX9_breaks_29 (fun σ6 => ?_)
    refine zr_aloadn C 0 eX9_breaks_32 rfl ?_
    refine zr_getR C ff_X9_35 rfl zo_0 rfl zf_0_4 eX9_breaks_33 ?_
    refine zr_aloadn C 0 eX9_breaks_36 rfl ?_
    refine zr_getR C ff_X9_21 rfl zo_0 rfl zf_0_2 eX9_breaks_37 ?_
    refine zr_iloadn C 1 eX9_breaks_40 rfl ?_
    refine zr_aald24 C zo_149 zn_149 n1 (fun _ _ => rfl) eX9_breaks_41 (fun hh7 => ?_)
    refine zr_aloadn C 0 eX9_breaks_42 rfl ?_
    refine zr_getR C ff_X9_10 rfl zo_0 rfl zf_0_0 eX9_breaks_43 ?_
    refine zr_getR C ff_X9_98 rfl zo_1 rfl zf_1_0 eX9_breaks_46 ?_
    refine zr_iloadn C 2 eX9_breaks_49 rfl ?_
    refine zr_iconst C eX9_breaks_50 rfl ?_
    refine zr_imul C eX9_breaks_51 ?_
    refine zr_iconst C eX9_breaks_52 rfl ?_
    refine zr_callVv C [.ref (zad G (zRF 149 x1.toNat)), .ref (zad G 2), .int (zI (zw (x2 * 4))), .int (zI 0)] zy_X2_askPiece zv_X2_askPiece lk_X9_170 zrm_5_10_4 zo_153 (by decide) rfl (fun r hr => zqJ_askPiece l G σ6 153 (zRF 149 x1.toNat) 2 (zw (x2 * 4)) 0 zo_153 (ze_24 zo_149 zn_149 hh7) zo_2 (zw_w (x2 * 4)) w_0 r hr) rfl (zs_k (zs_i (zI_w (x2 * 4)).symm (zs_k (zs_k rfl)))) (Nat.le_of_ble_eq_true rfl) eX9_breaks_53 (fun σ8 => ?_)
    refine zr_iloadn C 3 eX9_breaks_56 rfl ?_
    refine zr_iconst C eX9_breaks_57 rfl ?_
    refine zr_icmp_ne C eX9_breaks_58 n3 w_m1 ?_ ?_
    · refine zr_iloadn C 3 eX9_breaks_69 rfl ?_
      refine zr_if_lt C eX9_breaks_70 n3 ?_ ?_
      · refine zr_iconst C eX9_breaks_94 rfl ?_
        exact zr_iret C eX9_breaks_95
      refine zr_iloadn C 3 eX9_breaks_73 rfl ?_
      refine zr_aloadn C 0 eX9_breaks_74 rfl ?_
      refine zr_getR C ff_X9_35 rfl zo_0 rfl zf_0_4 eX9_breaks_75 ?_
      refine zr_getI C ff_X9_177 zo_153 eX9_breaks_78 (fun v9 nv9 => ?_)
      refine zr_icmp_ge C eX9_breaks_81 n3 nv9 ?_ ?_
      · refine zr_iconst C eX9_breaks_94 rfl ?_
        exact zr_iret C eX9_breaks_95
      refine zr_iload C 4 eX9_breaks_84 rfl ?_
      refine zr_iconst C eX9_breaks_86 rfl ?_
      refine zr_iconst C eX9_breaks_87 rfl ?_
      refine zr_callSi C [.int (zI x4), .int (zI 0), .int (zI 4)] zy_X9_within zs_X9_within lk_X9_113 zrm_5_3_0 (fun r hr => zqX_within l G σ8 x4 0 4 n4 w_0 w_4 r hr) rfl rfl (Nat.le_of_ble_eq_true rfl) eX9_breaks_88 (fun v11 nv11 σ10 => ?_)
      refine zr_if_ne C eX9_breaks_91 nv11 ?_ ?_
      · refine zr_aloadn C 0 eX9_breaks_96 rfl ?_
        refine zr_getR C ff_X9_35 rfl zo_0 rfl zf_0_4 eX9_breaks_97 ?_
        refine zr_getR C ff_X9_180 rfl zo_153 rfl zf_153_2 eX9_breaks_100 ?_
        refine zr_iload C 4 eX9_breaks_103 rfl ?_
        refine zr_iald C zo_156 zn_156 n4 eX9_breaks_105 (fun v12 nv12 => ?_)
        exact zr_iret C eX9_breaks_106
      refine zr_iconst C eX9_breaks_94 rfl ?_
      exact zr_iret C eX9_breaks_95
    refine zr_aloadn C 0 eX9_breaks_61 rfl ?_
    refine zr_getR C ff_X9_35 rfl zo_0 rfl zf_0_4 eX9_breaks_62 ?_
    refine zr_getI C ff_X9_177 zo_153 eX9_breaks_65 (fun v13 nv13 => ?_)
    exact zr_iret C eX9_breaks_68
  refine zr_iconst C eX9_breaks_15 rfl ?_
  exact zr_iret C eX9_breaks_16
theorem zqX_hasNotes (l : Launch) (G : Zg) (σ : Zm) (x1 : Int) (n1 : zw x1 = x1) (res : Int × Zm) (he : fX_hasNotes σ x1 = some res) : zM l yX9_hasNotes cX9_hasNotes 2 (some .boolean) 2 G 294 ztt σ [.ref (zad G 0), .int (zI x1)] (some (.int (zI res.1))) res.2 := by
  refine zM_of he (by decide +kernel) (Nat.le_of_ble_eq_true rfl) (lv := [(0, .ref (zad G 0)), (1, .int (zI x1))]) rfl (fun p e s m below meth c C => ?_)
  unfold fX_hasNotes
  refine zr_iloadn C 1 eX9_hasNotes_0 rfl ?_
  refine zr_callSi C [.int (zI x1)] zy_X9_isSubject zs_X9_isSubject lk_X9_124 zrm_2_1_1 (fun r hr => zqX_isSubject l G σ x1 n1 r hr) rfl rfl (Nat.le_of_ble_eq_true rfl) eX9_hasNotes_1 (fun v2 nv2 σ1 => ?_)
  refine zr_if_eq C eX9_hasNotes_4 nv2 ?_ ?_
  · refine zr_iconst C eX9_hasNotes_26 rfl ?_
    exact zr_zret C eX9_hasNotes_27 (Or.inl rfl)
  refine zr_aloadn C 0 eX9_hasNotes_7 rfl ?_
  refine zr_getR C ff_X9_10 rfl zo_0 rfl zf_0_0 eX9_hasNotes_8 ?_
  refine zr_getR C ff_X9_127 rfl zo_1 rfl zf_1_1 eX9_hasNotes_11 ?_
  refine zr_iloadn C 1 eX9_hasNotes_14 rfl ?_
  refine zr_aald23 C zo_3 zn_3 n1 (fun _ _ => rfl) eX9_hasNotes_15 (fun hh3 => ?_)
  refine zr_callVi C [] zy_X3_beats zv_X3_beats lk_X9_130 zrm_2_2_0 (ze_23 zo_3 zn_3 hh3) (by decide) rfl (fun r hr => zqL_beats l G σ1 (zRF 3 x1.toNat) (ze_23 zo_3 zn_3 hh3) r hr) rfl rfl (Nat.le_of_ble_eq_true rfl) eX9_hasNotes_16 (fun v5 nv5 σ4 => ?_)
  refine zr_if_le C eX9_hasNotes_19 nv5 ?_ ?_
  · refine zr_iconst C eX9_hasNotes_26 rfl ?_
    exact zr_zret C eX9_hasNotes_27 (Or.inl rfl)
  refine zr_iconst C eX9_hasNotes_22 rfl ?_
  refine zr_goto C eX9_hasNotes_23 ?_
  exact zr_zret C eX9_hasNotes_27 (Or.inr rfl)
theorem wX_fit_125 {G : Zg} {p : Program} {l : Launch} {e : Env} {s : State} {m : MethodId} {args : Array Value} {below : List Frame} {meth : Method} {c : Code} (C : zC G p s m args meth c cX9_fit 9 RX9 (some .int)) {res : Int × Zm} (x1 : Int) (x3 : Int) (x8 : Int) (n1 : zw x1 = x1) (n3 : zw x3 = x3) (n8 : zw x8 = x8) (σ : Zm) : zR G p l e (zrm 6) s m args below meth c 9 0 0 (zQm below args s G 294 ztt (some (.int (zI res.1))) res.2) 294 ztt res σ (fX_fit_125 x1 x3 x8 σ) [(0, .ref (zad G 0)), (1, .int (zI x1)), (3, .int (zI x3)), (8, .int (zI x8))] 125 [] := by
  unfold fX_fit_125
  refine zr_aloadn C 0 eX9_fit_125 rfl ?_
  refine zr_getR C ff_X9_42 rfl zo_0 rfl zf_0_5 eX9_fit_126 ?_
  refine zr_aloadn C 0 eX9_fit_129 rfl ?_
  refine zr_getR C ff_X9_21 rfl zo_0 rfl zf_0_2 eX9_fit_130 ?_
  refine zr_iloadn C 1 eX9_fit_133 rfl ?_
  refine zr_aald24 C zo_149 zn_149 n1 (fun _ _ => rfl) eX9_fit_134 (fun hh18 => ?_)
  refine zr_aloadn C 0 eX9_fit_135 rfl ?_
  refine zr_getR C ff_X9_10 rfl zo_0 rfl zf_0_0 eX9_fit_136 ?_
  refine zr_getR C ff_X9_127 rfl zo_1 rfl zf_1_1 eX9_fit_139 ?_
  refine zr_iloadn C 2 eX9_fit_142 rfl ?_
  refine zr_aald23 C zo_3 zn_3 n3 (fun _ _ => rfl) eX9_fit_143 (fun hh19 => ?_)
  refine zr_iload C 3 eX9_fit_144 rfl ?_
  refine zr_ldc (a := 2147483647) C eX9_fit_146 zq_X9_189 rfl ?_
  refine zr_callVi C [.ref (zad G (zRF 149 x1.toNat)), .ref (zad G (zRF 3 x3.toNat)), .int (zI x8), .int (zI 2147483647)] zy_X1_priceOf zv_X1_priceOf lk_X9_190 zrm_6_5_5 zo_157 (by decide) rfl (fun r hr => zqF_priceOf l G σ (zRF 149 x1.toNat) (zRF 3 x3.toNat) x8 2147483647 (ze_24 zo_149 zn_149 hh18) (ze_23 zo_3 zn_3 hh19) n8 w_2147483647 r hr) rfl rfl (Nat.le_of_ble_eq_true rfl) eX9_fit_148 (fun v21 nv21 σ20 => ?_)
  exact zr_iret C eX9_fit_151
theorem zqX_fit (l : Launch) (G : Zg) (σ : Zm) (x1 : Int) (x2 : Int) (x3 : Int) (x4 : Int) (x5 : Int) (x6 : Int) (x7 : Int) (n1 : zw x1 = x1) (n2 : zw x2 = x2) (n3 : zw x3 = x3) (n4 : zw x4 = x4) (n5 : zw x5 = x5) (n6 : zw x6 = x6) (n7 : zw x7 = x7) (res : Int × Zm) (he : fX_fit σ x1 x2 x3 x4 x5 x6 x7 = some res) : zM l yX9_fit cX9_fit 9 (some .int) 6 G 294 ztt σ [.ref (zad G 0), .int (zI x1), .int (zI x2), .int (zI x3), .int (zI x4), .int (zI x5), .int (zI x6), .int (zI x7)] (some (.int (zI res.1))) res.2 := by
  refine zM_of he (by decide +kernel) (Nat.le_of_ble_eq_true rfl) (lv := [(0, .ref (zad G 0)), (1, .int (zI x1)), (2, .int (zI x2)), (3, .int (zI x3)), (4, .int (zI x4)), (5, .int (zI x5)), (6, .int (zI x6)), (7, .int (zI x7))]) rfl (fun p e s m below meth c C => ?_)
  unfold fX_fit
  refine zr_aloadn C 0 eX9_fit_0 rfl ?_
  refine zr_iloadn C 1 eX9_fit_1 rfl ?_
  refine zr_callVi C [.int (zI x1)] zy_X9_isText zv_X9_isText lk_X9_164 zrm_6_2_1 zo_0 (by decide) rfl (fun r hr => zqX_isText l G σ x1 n1 r hr) rfl rfl (Nat.le_of_ble_eq_true rfl) eX9_fit_2 (fun v2 nv2 σ1 => ?_)
  refine zr_if_eq C eX9_fit_5 nv2 ?_ ?_
  · refine zr_iconst C eX9_fit_24 rfl ?_
    exact zr_iret C eX9_fit_25
  refine zr_aloadn C 0 eX9_fit_8 rfl ?_
  refine zr_iloadn C 2 eX9_fit_9 rfl ?_
  refine zr_callVi C [.int (zI x2)] zy_X9_hasNotes zv_X9_hasNotes lk_X9_183 zrm_6_2_2 zo_0 (by decide) rfl (fun r hr => zqX_hasNotes l G σ1 x2 n2 r hr) rfl rfl (Nat.le_of_ble_eq_true rfl) eX9_fit_10 (fun v4 nv4 σ3 => ?_)
  refine zr_if_eq C eX9_fit_13 nv4 ?_ ?_
  · refine zr_iconst C eX9_fit_24 rfl ?_
    exact zr_iret C eX9_fit_25
  refine zr_aloadn C 0 eX9_fit_16 rfl ?_
  refine zr_iloadn C 3 eX9_fit_17 rfl ?_
  refine zr_callVi C [.int (zI x3)] zy_X9_hasNotes zv_X9_hasNotes lk_X9_183 zrm_6_2_2 zo_0 (by decide) rfl (fun r hr => zqX_hasNotes l G σ3 x3 n3 r hr) rfl rfl (Nat.le_of_ble_eq_true rfl) eX9_fit_18 (fun v6 nv6 σ5 => ?_)
  refine zr_if_ne C eX9_fit_21 nv6 ?_ ?_
  · refine zr_iload C 4 eX9_fit_26 rfl ?_
    refine zr_bipush (a := (-12)) C eX9_fit_28 rfl ?_
    refine zr_bipush (a := 12) C eX9_fit_30 rfl ?_
    refine zr_callSi C [.int (zI x4), .int (zI (-12)), .int (zI 12)] zy_X9_within zs_X9_within lk_X9_113 zrm_6_3_0 (fun r hr => zqX_within l G σ5 x4 (-12) 12 n4 w_m12 w_12 r hr) rfl rfl (Nat.le_of_ble_eq_true rfl) eX9_fit_32 (fun v8 nv8 σ7 => ?_)
    refine zr_if_eq C eX9_fit_35 nv8 ?_ ?_
    · refine zr_iconst C eX9_fit_59 rfl ?_
      exact zr_iret C eX9_fit_60
    refine zr_iload C 5 eX9_fit_38 rfl ?_
    refine zr_iconst C eX9_fit_40 rfl ?_
    refine zr_bipush (a := 8) C eX9_fit_41 rfl ?_
    refine zr_callSi C [.int (zI x5), .int (zI 0), .int (zI 8)] zy_X9_within zs_X9_within lk_X9_113 zrm_6_3_0 (fun r hr => zqX_within l G σ7 x5 0 8 n5 w_0 w_8 r hr) rfl rfl (Nat.le_of_ble_eq_true rfl) eX9_fit_43 (fun v10 nv10 σ9 => ?_)
    refine zr_if_eq C eX9_fit_46 nv10 ?_ ?_
    · refine zr_iconst C eX9_fit_59 rfl ?_
      exact zr_iret C eX9_fit_60
    refine zr_iload C 7 eX9_fit_49 rfl ?_
    refine zr_iconst C eX9_fit_51 rfl ?_
    refine zr_iconst C eX9_fit_52 rfl ?_
    refine zr_callSi C [.int (zI x7), .int (zI 1), .int (zI 2)] zy_X9_within zs_X9_within lk_X9_113 zrm_6_3_0 (fun r hr => zqX_within l G σ9 x7 1 2 n7 w_1 w_2 r hr) rfl rfl (Nat.le_of_ble_eq_true rfl) eX9_fit_53 (fun v12 nv12 σ11 => ?_)
    refine zr_if_ne C eX9_fit_56 nv12 ?_ ?_
    · refine zr_aloadn C 0 eX9_fit_61 rfl ?_
      refine zr_getR C ff_X9_42 rfl zo_0 rfl zf_0_5 eX9_fit_62 ?_
      refine zr_aloadn C 0 eX9_fit_65 rfl ?_
      refine zr_getR C ff_X9_21 rfl zo_0 rfl zf_0_2 eX9_fit_66 ?_
      refine zr_iloadn C 1 eX9_fit_69 rfl ?_
      refine zr_aald24 C zo_149 zn_149 n1 (fun _ _ => rfl) eX9_fit_70 (fun hh13 => ?_)
      refine zr_aloadn C 0 eX9_fit_71 rfl ?_
      refine zr_getR C ff_X9_10 rfl zo_0 rfl zf_0_0 eX9_fit_72 ?_
      refine zr_getI C ff_X9_134 zo_1 eX9_fit_75 (fun v14 nv14 => ?_)
      refine zr_aloadn C 0 eX9_fit_78 rfl ?_
      refine zr_getR C ff_X9_10 rfl zo_0 rfl zf_0_0 eX9_fit_79 ?_
      refine zr_getR C ff_X9_127 rfl zo_1 rfl zf_1_1 eX9_fit_82 ?_
      refine zr_iloadn C 2 eX9_fit_85 rfl ?_
      refine zr_aald23 C zo_3 zn_3 n2 (fun _ _ => rfl) eX9_fit_86 (fun hh15 => ?_)
      refine zr_callVv C [.ref (zad G (zRF 149 x1.toNat)), .int (zI v14), .ref (zad G (zRF 3 x2.toNat))] zy_X1_begin zv_X1_begin lk_X9_186 zrm_6_4_5 zo_157 (by decide) rfl (fun r hr => zqF_begin l G σ11 (zRF 149 x1.toNat) v14 (zRF 3 x2.toNat) (ze_24 zo_149 zn_149 hh13) nv14 (ze_23 zo_3 zn_3 hh15) r hr) rfl rfl (Nat.le_of_ble_eq_true rfl) eX9_fit_87 (fun σ16 => ?_)
      refine zr_iload C 7 eX9_fit_90 rfl ?_
      refine zr_iconst C eX9_fit_92 rfl ?_
      refine zr_isub C eX9_fit_93 ?_
      refine zr_sipush (a := 450) C eX9_fit_94 rfl ?_
      refine zr_imul C eX9_fit_97 ?_
      refine zr_iload C 6 eX9_fit_98 rfl ?_
      refine zr_if_eq C eX9_fit_100 n6 ?_ ?_
      · refine zr_iconst C eX9_fit_109 rfl ?_
        refine zr_iadd C eX9_fit_110 ?_
        refine zr_iload C 5 eX9_fit_111 rfl ?_
        refine zr_bipush (a := 25) C eX9_fit_113 rfl ?_
        refine zr_imul C eX9_fit_115 ?_
        refine zr_iadd C eX9_fit_116 ?_
        refine zr_iload C 4 eX9_fit_117 rfl ?_
        refine zr_iadd C eX9_fit_119 ?_
        refine zr_bipush (a := 12) C eX9_fit_120 rfl ?_
        refine zr_iadd C eX9_fit_122 ?_
        refine zr_st (show _ = .int (zI (zw ((((((x7 - 1) * 450) + 0) + (x5 * 25)) + x4) + 12))) :: _ from congrArg (· :: _) (congrArg Value.int (zI_w ((((((x7 - 1) * 450) + 0) + (x5 * 25)) + x4) + 12)).symm)) ?_
        refine zr_letw (P := fun z => .int (zI z) :: _) (zw_w ((((((x7 - 1) * 450) + 0) + (x5 * 25)) + x4) + 12)) (fun v17 nv17 => ?_)
        refine zr_istore (lv' := [(8, .int (zI v17)), (0, .ref (zad G 0)), (1, .int (zI x1)), (2, .int (zI x2)), (3, .int (zI x3)), (4, .int (zI x4)), (5, .int (zI x5)), (6, .int (zI x6)), (7, .int (zI x7))]) C eX9_fit_123 (by decide) rfl ?_
        refine zr_lv [1, 2, 4, 0] rfl ?_
        exact wX_fit_125 C x1 x3 v17 n1 n3 nv17 σ16
      refine zr_sipush (a := 225) C eX9_fit_103 rfl ?_
      refine zr_goto C eX9_fit_106 ?_
      refine zr_iadd C eX9_fit_110 ?_
      refine zr_iload C 5 eX9_fit_111 rfl ?_
      refine zr_bipush (a := 25) C eX9_fit_113 rfl ?_
      refine zr_imul C eX9_fit_115 ?_
      refine zr_iadd C eX9_fit_116 ?_
      refine zr_iload C 4 eX9_fit_117 rfl ?_
      refine zr_iadd C eX9_fit_119 ?_
      refine zr_bipush (a := 12) C eX9_fit_120 rfl ?_
      refine zr_iadd C eX9_fit_122 ?_
      refine zr_st (show _ = .int (zI (zw ((((((x7 - 1) * 450) + 225) + (x5 * 25)) + x4) + 12))) :: _ from congrArg (· :: _) (congrArg Value.int (zI_w ((((((x7 - 1) * 450) + 225) + (x5 * 25)) + x4) + 12)).symm)) ?_
      refine zr_letw (P := fun z => .int (zI z) :: _) (zw_w ((((((x7 - 1) * 450) + 225) + (x5 * 25)) + x4) + 12)) (fun v22 nv22 => ?_)
      refine zr_istore (lv' := [(8, .int (zI v22)), (0, .ref (zad G 0)), (1, .int (zI x1)), (2, .int (zI x2)), (3, .int (zI x3)), (4, .int (zI x4)), (5, .int (zI x5)), (6, .int (zI x6)), (7, .int (zI x7))]) C eX9_fit_123 (by decide) rfl ?_
      refine zr_lv [1, 2, 4, 0] rfl ?_
      exact wX_fit_125 C x1 x3 v22 n1 n3 nv22 σ16
    refine zr_iconst C eX9_fit_59 rfl ?_
    exact zr_iret C eX9_fit_60
  refine zr_iconst C eX9_fit_24 rfl ?_
  exact zr_iret C eX9_fit_25
theorem wX_fits_78 {G : Zg} {p : Program} {l : Launch} {e : Env} {s : State} {m : MethodId} {args : Array Value} {below : List Frame} {meth : Method} {c : Code} (C : zC G p s m args meth c cX9_fits 8 RX9 (some .int)) {res : Int × Zm} (K142 : Int → Int → Zm → Zr) (hK142 : ∀ (x5 : Int) (x6 : Int) (n5 : zw x5 = x5) (n6 : zw x6 = x6) (σ : Zm), zR G p l e (zrm 6) s m args below meth c 8 0 0 (zQm below args s G 294 ztt (some (.int (zI res.1))) res.2) 294 ztt res σ (K142 x5 x6 σ) [(5, .int (zI x5)), (6, .int (zI x6))] 142 []) : ∀ (n : Nat) (x1 : Int) (x3 : Int) (x4 : Int) (x5 : Int) (x6 : Int) (x7 : Int) (n1 : zw x1 = x1) (n3 : zw x3 = x3) (n4 : zw x4 = x4) (n5 : zw x5 = x5) (n6 : zw x6 = x6) (n7 : zw x7 = x7) (σ : Zm), zR G p l e (zrm 6) s m args below meth c 8 0 0 (zQm below args s G 294 ztt (some (.int (zI res.1))) res.2) 294 ztt res σ (fX_fits_78 n x1 x3 x4 x5 x6 x7 σ K142) [(0, .ref (zad G 0)), (1, .int (zI x1)), (3, .int (zI x3)), (4, .int (zI x4)), (5, .int (zI x5)), (6, .int (zI x6)), (7, .int (zI x7))] 78 []
  | 0, _, _, _, _, _, _, _, _, _, _, _, _, _ => zr_none
  | n + 1, x1, x3, x4, x5, x6, x7, n1, n3, n4, n5, n6, n7, σ => by
    have ih := fun (x1 : Int) (x3 : Int) (x4 : Int) (x5 : Int) (x6 : Int) (x7 : Int) (n1 : zw x1 = x1) (n3 : zw x3 = x3) (n4 : zw x4 = x4) (n5 : zw x5 = x5) (n6 : zw x6 = x6) (n7 : zw x7 = x7) (σ : Zm) => wX_fits_78 (l := l) (e := e) (below := below) C K142 hK142 (res := res) n x1 x3 x4 x5 x6 x7 n1 n3 n4 n5 n6 n7 σ
    rw [fX_fits_78]
    refine zr_letf (fun R0 hR0 => ?_)
    have ih : ∀ (x1 : Int) (x3 : Int) (x4 : Int) (x5 : Int) (x6 : Int) (x7 : Int) (n1 : zw x1 = x1) (n3 : zw x3 = x3) (n4 : zw x4 = x4) (n5 : zw x5 = x5) (n6 : zw x6 = x6) (n7 : zw x7 = x7) (σ : Zm), zR G p l e (zrm 6) s m args below meth c 8 0 0 (zQm below args s G 294 ztt (some (.int (zI res.1))) res.2) 294 ztt res σ (R0 x1 x3 x4 x5 x6 x7 σ) [(0, .ref (zad G 0)), (1, .int (zI x1)), (3, .int (zI x3)), (4, .int (zI x4)), (5, .int (zI x5)), (6, .int (zI x6)), (7, .int (zI x7))] 78 [] := by rw [hR0]; exact ih
    clear hR0
    refine zr_iload C 6 eX9_fits_78 rfl ?_
    refine zr_sipush (a := 900) C eX9_fits_80 rfl ?_
    refine zr_icmp_ge C eX9_fits_83 n7 w_900 ?_ ?_
    · refine zr_lv [4, 5] rfl ?_
      exact hK142 x5 x6 n5 n6 _
    refine zr_aloadn C 0 eX9_fits_86 rfl ?_
    refine zr_getR C ff_X9_42 rfl zo_0 rfl zf_0_5 eX9_fits_87 ?_
    refine zr_aloadn C 0 eX9_fits_90 rfl ?_
    refine zr_getR C ff_X9_21 rfl zo_0 rfl zf_0_2 eX9_fits_91 ?_
    refine zr_iloadn C 1 eX9_fits_94 rfl ?_
    refine zr_aald24 C zo_149 zn_149 n1 (fun _ _ => rfl) eX9_fits_95 (fun hh13 => ?_)
    refine zr_aloadn C 0 eX9_fits_96 rfl ?_
    refine zr_getR C ff_X9_10 rfl zo_0 rfl zf_0_0 eX9_fits_97 ?_
    refine zr_getR C ff_X9_127 rfl zo_1 rfl zf_1_1 eX9_fits_100 ?_
    refine zr_iloadn C 2 eX9_fits_103 rfl ?_
    refine zr_aald23 C zo_3 zn_3 n3 (fun _ _ => rfl) eX9_fits_104 (fun hh14 => ?_)
    refine zr_iload C 6 eX9_fits_105 rfl ?_
    refine zr_iload C 3 eX9_fits_107 rfl ?_
    refine zr_callVi C [.ref (zad G (zRF 149 x1.toNat)), .ref (zad G (zRF 3 x3.toNat)), .int (zI x7), .int (zI x4)] zy_X1_priceOf zv_X1_priceOf lk_X9_190 zrm_6_5_5 zo_157 (by decide) rfl (fun r hr => zqF_priceOf l G σ (zRF 149 x1.toNat) (zRF 3 x3.toNat) x7 x4 (ze_24 zo_149 zn_149 hh13) (ze_23 zo_3 zn_3 hh14) n7 n4 r hr) rfl rfl (Nat.le_of_ble_eq_true rfl) eX9_fits_109 (fun v16 nv16 σ15 => ?_)
    refine zr_iload C 3 eX9_fits_112 rfl ?_
    refine zr_icmp_le C eX9_fits_114 nv16 n4 ?_ ?_
    · refine zr_iload C 5 eX9_fits_120 rfl ?_
      refine zr_iload C 4 eX9_fits_122 rfl ?_
      refine zr_icmp_ne C eX9_fits_124 n6 n5 ?_ ?_
      · refine zr_iinc (lv' := [(6, .int (zI (x6 + 1))), (0, .ref (zad G 0)), (1, .int (zI x1)), (3, .int (zI x3)), (4, .int (zI x4)), (5, .int (zI x5)), (7, .int (zI x7))]) C 5 eX9_fits_133 rfl (by decide) rfl ?_
        refine zr_iinc (lv' := [(7, .int (zI (x7 + 1))), (6, .int (zI (x6 + 1))), (0, .ref (zad G 0)), (1, .int (zI x1)), (3, .int (zI x3)), (4, .int (zI x4)), (5, .int (zI x5))]) C 6 eX9_fits_136 rfl (by decide) rfl ?_
        refine zr_goto C eX9_fits_139 ?_
        refine zr_lv [2, 3, 4, 5, 6, 1, 0] rfl ?_
        exact zr_lve (zs_p (zs_p (zs_p (zs_p (zs_p (zs_pi (zI_w (x6 + 1)).symm (zs_pi (zI_w (x7 + 1)).symm rfl))))))) (ih x1 x3 x4 x5 (zw (x6 + 1)) (zw (x7 + 1)) n1 n3 n4 n5 (zw_w (x6 + 1)) (zw_w (x7 + 1)) _)
      refine zr_iload C 6 eX9_fits_127 rfl ?_
      refine zr_callSi C [.int (zI x7)] zy_X9_formCode zs_X9_formCode lk_X9_195 zrm_6_4_0 (fun r hr => zqX_formCode l G σ15 x7 n7 r hr) rfl rfl (Nat.le_of_ble_eq_true rfl) eX9_fits_129 (fun v18 nv18 σ17 => ?_)
      exact zr_iret C eX9_fits_132
    refine zr_goto C eX9_fits_117 ?_
    refine zr_iinc (lv' := [(7, .int (zI (x7 + 1))), (0, .ref (zad G 0)), (1, .int (zI x1)), (3, .int (zI x3)), (4, .int (zI x4)), (5, .int (zI x5)), (6, .int (zI x6))]) C 6 eX9_fits_136 rfl (by decide) rfl ?_
    refine zr_goto C eX9_fits_139 ?_
    refine zr_lv [1, 2, 3, 4, 5, 6, 0] rfl ?_
    exact zr_lve (zs_p (zs_p (zs_p (zs_p (zs_p (zs_p (zs_pi (zI_w (x7 + 1)).symm rfl))))))) (ih x1 x3 x4 x5 x6 (zw (x7 + 1)) n1 n3 n4 n5 n6 (zw_w (x7 + 1)) _)
theorem zqX_fits (l : Launch) (G : Zg) (σ : Zm) (x1 : Int) (x2 : Int) (x3 : Int) (x4 : Int) (x5 : Int) (n1 : zw x1 = x1) (n2 : zw x2 = x2) (n3 : zw x3 = x3) (n4 : zw x4 = x4) (n5 : zw x5 = x5) (res : Int × Zm) (he : fX_fits σ x1 x2 x3 x4 x5 = some res) : zM l yX9_fits cX9_fits 8 (some .int) 6 G 294 ztt σ [.ref (zad G 0), .int (zI x1), .int (zI x2), .int (zI x3), .int (zI x4), .int (zI x5)] (some (.int (zI res.1))) res.2 := by
  refine zM_of he (by decide +kernel) (Nat.le_of_ble_eq_true rfl) (lv := [(0, .ref (zad G 0)), (1, .int (zI x1)), (2, .int (zI x2)), (3, .int (zI x3)), (4, .int (zI x4)), (5, .int (zI x5))]) rfl (fun p e s m below meth c C => ?_)
  unfold fX_fits
  refine zr_aloadn C 0 eX9_fits_0 rfl ?_
  refine zr_iloadn C 1 eX9_fits_1 rfl ?_
  refine zr_callVi C [.int (zI x1)] zy_X9_isText zv_X9_isText lk_X9_164 zrm_6_2_1 zo_0 (by decide) rfl (fun r hr => zqX_isText l G σ x1 n1 r hr) rfl rfl (Nat.le_of_ble_eq_true rfl) eX9_fits_2 (fun v2 nv2 σ1 => ?_)
  refine zr_if_eq C eX9_fits_5 nv2 ?_ ?_
  · refine zr_iconst C eX9_fits_41 rfl ?_
    exact zr_iret C eX9_fits_42
  refine zr_aloadn C 0 eX9_fits_8 rfl ?_
  refine zr_iloadn C 2 eX9_fits_9 rfl ?_
  refine zr_callVi C [.int (zI x2)] zy_X9_hasNotes zv_X9_hasNotes lk_X9_183 zrm_6_2_2 zo_0 (by decide) rfl (fun r hr => zqX_hasNotes l G σ1 x2 n2 r hr) rfl rfl (Nat.le_of_ble_eq_true rfl) eX9_fits_10 (fun v4 nv4 σ3 => ?_)
  refine zr_if_eq C eX9_fits_13 nv4 ?_ ?_
  · refine zr_iconst C eX9_fits_41 rfl ?_
    exact zr_iret C eX9_fits_42
  refine zr_aloadn C 0 eX9_fits_16 rfl ?_
  refine zr_iloadn C 3 eX9_fits_17 rfl ?_
  refine zr_callVi C [.int (zI x3)] zy_X9_hasNotes zv_X9_hasNotes lk_X9_183 zrm_6_2_2 zo_0 (by decide) rfl (fun r hr => zqX_hasNotes l G σ3 x3 n3 r hr) rfl rfl (Nat.le_of_ble_eq_true rfl) eX9_fits_18 (fun v6 nv6 σ5 => ?_)
  refine zr_if_eq C eX9_fits_21 nv6 ?_ ?_
  · refine zr_iconst C eX9_fits_41 rfl ?_
    exact zr_iret C eX9_fits_42
  refine zr_iload C 4 eX9_fits_24 rfl ?_
  refine zr_iconst C eX9_fits_26 rfl ?_
  refine zr_ldc (a := 1000000) C eX9_fits_27 zq_X9_194 rfl ?_
  refine zr_callSi C [.int (zI x4), .int (zI 0), .int (zI 1000000)] zy_X9_within zs_X9_within lk_X9_113 zrm_6_3_0 (fun r hr => zqX_within l G σ5 x4 0 1000000 n4 w_0 w_1000000 r hr) rfl rfl (Nat.le_of_ble_eq_true rfl) eX9_fits_29 (fun v8 nv8 σ7 => ?_)
  refine zr_if_eq C eX9_fits_32 nv8 ?_ ?_
  · refine zr_iconst C eX9_fits_41 rfl ?_
    exact zr_iret C eX9_fits_42
  refine zr_iload C 5 eX9_fits_35 rfl ?_
  refine zr_iconst C eX9_fits_37 rfl ?_
  refine zr_icmp_ge C eX9_fits_38 n5 w_m1 ?_ ?_
  · refine zr_aloadn C 0 eX9_fits_43 rfl ?_
    refine zr_getR C ff_X9_42 rfl zo_0 rfl zf_0_5 eX9_fits_44 ?_
    refine zr_aloadn C 0 eX9_fits_47 rfl ?_
    refine zr_getR C ff_X9_21 rfl zo_0 rfl zf_0_2 eX9_fits_48 ?_
    refine zr_iloadn C 1 eX9_fits_51 rfl ?_
    refine zr_aald24 C zo_149 zn_149 n1 (fun _ _ => rfl) eX9_fits_52 (fun hh9 => ?_)
    refine zr_aloadn C 0 eX9_fits_53 rfl ?_
    refine zr_getR C ff_X9_10 rfl zo_0 rfl zf_0_0 eX9_fits_54 ?_
    refine zr_getI C ff_X9_134 zo_1 eX9_fits_57 (fun v10 nv10 => ?_)
    refine zr_aloadn C 0 eX9_fits_60 rfl ?_
    refine zr_getR C ff_X9_10 rfl zo_0 rfl zf_0_0 eX9_fits_61 ?_
    refine zr_getR C ff_X9_127 rfl zo_1 rfl zf_1_1 eX9_fits_64 ?_
    refine zr_iloadn C 2 eX9_fits_67 rfl ?_
    refine zr_aald23 C zo_3 zn_3 n2 (fun _ _ => rfl) eX9_fits_68 (fun hh11 => ?_)
    refine zr_callVv C [.ref (zad G (zRF 149 x1.toNat)), .int (zI v10), .ref (zad G (zRF 3 x2.toNat))] zy_X1_begin zv_X1_begin lk_X9_186 zrm_6_4_5 zo_157 (by decide) rfl (fun r hr => zqF_begin l G σ7 (zRF 149 x1.toNat) v10 (zRF 3 x2.toNat) (ze_24 zo_149 zn_149 hh9) nv10 (ze_23 zo_3 zn_3 hh11) r hr) rfl rfl (Nat.le_of_ble_eq_true rfl) eX9_fits_69 (fun σ12 => ?_)
    refine zr_iconst C eX9_fits_72 rfl ?_
    refine zr_istore (lv' := [(6, .int (zI 0)), (0, .ref (zad G 0)), (1, .int (zI x1)), (2, .int (zI x2)), (3, .int (zI x3)), (4, .int (zI x4)), (5, .int (zI x5))]) C eX9_fits_73 (by decide) rfl ?_
    refine zr_iconst C eX9_fits_75 rfl ?_
    refine zr_istore (lv' := [(7, .int (zI 0)), (6, .int (zI 0)), (0, .ref (zad G 0)), (1, .int (zI x1)), (2, .int (zI x2)), (3, .int (zI x3)), (4, .int (zI x4)), (5, .int (zI x5))]) C eX9_fits_76 (by decide) rfl ?_
    refine zr_lv [2, 3, 5, 6, 7, 1, 0] rfl ?_
    refine wX_fits_78 C _ ?_ 5000 x1 x3 x4 x5 0 0 n1 n3 n4 n5 w_0 w_0 σ12
    intro y20 y21 ny20 ny21 σ19
    refine zr_iload C 0 eX9_fits_142 rfl ?_
    refine zr_iconst C eX9_fits_144 rfl ?_
    refine zr_icmp_ne C eX9_fits_145 ny20 w_m1 ?_ ?_
    · refine zr_iconst C eX9_fits_153 rfl ?_
      exact zr_iret C eX9_fits_154
    refine zr_iload C 1 eX9_fits_148 rfl ?_
    refine zr_goto C eX9_fits_150 ?_
    exact zr_iret C eX9_fits_154
  refine zr_iconst C eX9_fits_41 rfl ?_
  exact zr_iret C eX9_fits_42
theorem zqX_cheapest (l : Launch) (G : Zg) (σ : Zm) (x1 : Int) (x2 : Int) (x3 : Int) (x4 : Int) (n1 : zw x1 = x1) (n2 : zw x2 = x2) (n3 : zw x3 = x3) (n4 : zw x4 = x4) (res : Int × Zm) (he : fX_cheapest σ x1 x2 x3 x4 = some res) : zM l yX9_cheapest cX9_cheapest 5 (some .int) 7 G 294 ztt σ [.ref (zad G 0), .int (zI x1), .int (zI x2), .int (zI x3), .int (zI x4)] (some (.int (zI res.1))) res.2 := by
  refine zM_of he (by decide +kernel) (Nat.le_of_ble_eq_true rfl) (lv := [(0, .ref (zad G 0)), (1, .int (zI x1)), (2, .int (zI x2)), (3, .int (zI x3)), (4, .int (zI x4))]) rfl (fun p e s m below meth c C => ?_)
  unfold fX_cheapest
  refine zr_aloadn C 0 eX9_cheapest_0 rfl ?_
  refine zr_iloadn C 1 eX9_cheapest_1 rfl ?_
  refine zr_callVi C [.int (zI x1)] zy_X9_isText zv_X9_isText lk_X9_164 zrm_7_2_1 zo_0 (by decide) rfl (fun r hr => zqX_isText l G σ x1 n1 r hr) rfl rfl (Nat.le_of_ble_eq_true rfl) eX9_cheapest_2 (fun v2 nv2 σ1 => ?_)
  refine zr_if_eq C eX9_cheapest_5 nv2 ?_ ?_
  · refine zr_iconst C eX9_cheapest_34 rfl ?_
    exact zr_iret C eX9_cheapest_35
  refine zr_aloadn C 0 eX9_cheapest_8 rfl ?_
  refine zr_iloadn C 2 eX9_cheapest_9 rfl ?_
  refine zr_callVi C [.int (zI x2)] zy_X9_hasNotes zv_X9_hasNotes lk_X9_183 zrm_7_2_2 zo_0 (by decide) rfl (fun r hr => zqX_hasNotes l G σ1 x2 n2 r hr) rfl rfl (Nat.le_of_ble_eq_true rfl) eX9_cheapest_10 (fun v4 nv4 σ3 => ?_)
  refine zr_if_eq C eX9_cheapest_13 nv4 ?_ ?_
  · refine zr_iconst C eX9_cheapest_34 rfl ?_
    exact zr_iret C eX9_cheapest_35
  refine zr_aloadn C 0 eX9_cheapest_16 rfl ?_
  refine zr_iloadn C 3 eX9_cheapest_17 rfl ?_
  refine zr_callVi C [.int (zI x3)] zy_X9_hasNotes zv_X9_hasNotes lk_X9_183 zrm_7_2_2 zo_0 (by decide) rfl (fun r hr => zqX_hasNotes l G σ3 x3 n3 r hr) rfl rfl (Nat.le_of_ble_eq_true rfl) eX9_cheapest_18 (fun v6 nv6 σ5 => ?_)
  refine zr_if_eq C eX9_cheapest_21 nv6 ?_ ?_
  · refine zr_iconst C eX9_cheapest_34 rfl ?_
    exact zr_iret C eX9_cheapest_35
  refine zr_iload C 4 eX9_cheapest_24 rfl ?_
  refine zr_iconst C eX9_cheapest_26 rfl ?_
  refine zr_iconst C eX9_cheapest_27 rfl ?_
  refine zr_callSi C [.int (zI x4), .int (zI 0), .int (zI 1)] zy_X9_within zs_X9_within lk_X9_113 zrm_7_3_0 (fun r hr => zqX_within l G σ5 x4 0 1 n4 w_0 w_1 r hr) rfl rfl (Nat.le_of_ble_eq_true rfl) eX9_cheapest_28 (fun v8 nv8 σ7 => ?_)
  refine zr_if_ne C eX9_cheapest_31 nv8 ?_ ?_
  · refine zr_aloadn C 0 eX9_cheapest_36 rfl ?_
    refine zr_getR C ff_X9_42 rfl zo_0 rfl zf_0_5 eX9_cheapest_37 ?_
    refine zr_aloadn C 0 eX9_cheapest_40 rfl ?_
    refine zr_getR C ff_X9_21 rfl zo_0 rfl zf_0_2 eX9_cheapest_41 ?_
    refine zr_iloadn C 1 eX9_cheapest_44 rfl ?_
    refine zr_aald24 C zo_149 zn_149 n1 (fun _ _ => rfl) eX9_cheapest_45 (fun hh9 => ?_)
    refine zr_aloadn C 0 eX9_cheapest_46 rfl ?_
    refine zr_getR C ff_X9_10 rfl zo_0 rfl zf_0_0 eX9_cheapest_47 ?_
    refine zr_getI C ff_X9_134 zo_1 eX9_cheapest_50 (fun v10 nv10 => ?_)
    refine zr_aloadn C 0 eX9_cheapest_53 rfl ?_
    refine zr_getR C ff_X9_10 rfl zo_0 rfl zf_0_0 eX9_cheapest_54 ?_
    refine zr_getR C ff_X9_127 rfl zo_1 rfl zf_1_1 eX9_cheapest_57 ?_
    refine zr_iloadn C 2 eX9_cheapest_60 rfl ?_
    refine zr_aald23 C zo_3 zn_3 n2 (fun _ _ => rfl) eX9_cheapest_61 (fun hh11 => ?_)
    refine zr_callVv C [.ref (zad G (zRF 149 x1.toNat)), .int (zI v10), .ref (zad G (zRF 3 x2.toNat))] zy_X1_begin zv_X1_begin lk_X9_186 zrm_7_4_5 zo_157 (by decide) rfl (fun r hr => zqF_begin l G σ7 (zRF 149 x1.toNat) v10 (zRF 3 x2.toNat) (ze_24 zo_149 zn_149 hh9) nv10 (ze_23 zo_3 zn_3 hh11) r hr) rfl rfl (Nat.le_of_ble_eq_true rfl) eX9_cheapest_62 (fun σ12 => ?_)
    refine zr_aloadn C 0 eX9_cheapest_65 rfl ?_
    refine zr_getR C ff_X9_42 rfl zo_0 rfl zf_0_5 eX9_cheapest_66 ?_
    refine zr_aloadn C 0 eX9_cheapest_69 rfl ?_
    refine zr_getR C ff_X9_21 rfl zo_0 rfl zf_0_2 eX9_cheapest_70 ?_
    refine zr_iloadn C 1 eX9_cheapest_73 rfl ?_
    refine zr_aald24 C zo_149 zn_149 n1 (fun _ _ => rfl) eX9_cheapest_74 (fun hh13 => ?_)
    refine zr_aloadn C 0 eX9_cheapest_75 rfl ?_
    refine zr_getR C ff_X9_10 rfl zo_0 rfl zf_0_0 eX9_cheapest_76 ?_
    refine zr_getR C ff_X9_127 rfl zo_1 rfl zf_1_1 eX9_cheapest_79 ?_
    refine zr_iloadn C 3 eX9_cheapest_82 rfl ?_
    refine zr_aald23 C zo_3 zn_3 n3 (fun _ _ => rfl) eX9_cheapest_83 (fun hh14 => ?_)
    refine zr_iconst C eX9_cheapest_84 rfl ?_
    refine zr_callVv C [.ref (zad G (zRF 149 x1.toNat)), .ref (zad G (zRF 3 x3.toNat)), .int (zI (-1))] zy_X1_findCheapest zv_X1_findCheapest lk_X9_198 zrm_7_6_6 zo_157 (by decide) rfl (fun r hr => zqF_findCheapest l G σ12 (zRF 149 x1.toNat) (zRF 3 x3.toNat) (-1) (ze_24 zo_149 zn_149 hh13) (ze_23 zo_3 zn_3 hh14) w_m1 r hr) rfl rfl (Nat.le_of_ble_eq_true rfl) eX9_cheapest_85 (fun σ15 => ?_)
    refine zr_iload C 4 eX9_cheapest_88 rfl ?_
    refine zr_if_ne C eX9_cheapest_90 n4 ?_ ?_
    · refine zr_aloadn C 0 eX9_cheapest_103 rfl ?_
      refine zr_getR C ff_X9_42 rfl zo_0 rfl zf_0_5 eX9_cheapest_104 ?_
      refine zr_getI C ff_X9_205 zo_157 eX9_cheapest_107 (fun v16 nv16 => ?_)
      refine zr_callSi C [.int (zI v16)] zy_X9_formCode zs_X9_formCode lk_X9_195 zrm_7_4_0 (fun r hr => zqX_formCode l G σ15 v16 nv16 r hr) rfl rfl (Nat.le_of_ble_eq_true rfl) eX9_cheapest_110 (fun v18 nv18 σ17 => ?_)
      exact zr_iret C eX9_cheapest_113
    refine zr_aloadn C 0 eX9_cheapest_93 rfl ?_
    refine zr_getR C ff_X9_42 rfl zo_0 rfl zf_0_5 eX9_cheapest_94 ?_
    refine zr_getI C ff_X9_202 zo_157 eX9_cheapest_97 (fun v19 nv19 => ?_)
    refine zr_goto C eX9_cheapest_100 ?_
    exact zr_iret C eX9_cheapest_113
  refine zr_iconst C eX9_cheapest_34 rfl ?_
  exact zr_iret C eX9_cheapest_35
theorem zqX_three (l : Launch) (G : Zg) (σ : Zm) (x1 : Int) (x2 : Int) (x3 : Int) (x4 : Int) (x5 : Int) (n1 : zw x1 = x1) (n2 : zw x2 = x2) (n3 : zw x3 = x3) (n4 : zw x4 = x4) (n5 : zw x5 = x5) (res : Int × Zm) (he : fX_three σ x1 x2 x3 x4 x5 = some res) : zM l yX9_three cX9_three 6 (some .int) 7 G 294 ztt σ [.ref (zad G 0), .int (zI x1), .int (zI x2), .int (zI x3), .int (zI x4), .int (zI x5)] (some (.int (zI res.1))) res.2 := by
  refine zM_of he (by decide +kernel) (Nat.le_of_ble_eq_true rfl) (lv := [(0, .ref (zad G 0)), (1, .int (zI x1)), (2, .int (zI x2)), (3, .int (zI x3)), (4, .int (zI x4)), (5, .int (zI x5))]) rfl (fun p e s m below meth c C => ?_)
  unfold fX_three
  refine zr_aloadn C 0 eX9_three_0 rfl ?_
  refine zr_iloadn C 1 eX9_three_1 rfl ?_
  refine zr_callVi C [.int (zI x1)] zy_X9_isText zv_X9_isText lk_X9_164 zrm_7_2_1 zo_0 (by decide) rfl (fun r hr => zqX_isText l G σ x1 n1 r hr) rfl rfl (Nat.le_of_ble_eq_true rfl) eX9_three_2 (fun v2 nv2 σ1 => ?_)
  refine zr_if_eq C eX9_three_5 nv2 ?_ ?_
  · refine zr_iconst C eX9_three_43 rfl ?_
    exact zr_iret C eX9_three_44
  refine zr_aloadn C 0 eX9_three_8 rfl ?_
  refine zr_iloadn C 2 eX9_three_9 rfl ?_
  refine zr_callVi C [.int (zI x2)] zy_X9_hasNotes zv_X9_hasNotes lk_X9_183 zrm_7_2_2 zo_0 (by decide) rfl (fun r hr => zqX_hasNotes l G σ1 x2 n2 r hr) rfl rfl (Nat.le_of_ble_eq_true rfl) eX9_three_10 (fun v4 nv4 σ3 => ?_)
  refine zr_if_eq C eX9_three_13 nv4 ?_ ?_
  · refine zr_iconst C eX9_three_43 rfl ?_
    exact zr_iret C eX9_three_44
  refine zr_aloadn C 0 eX9_three_16 rfl ?_
  refine zr_iloadn C 3 eX9_three_17 rfl ?_
  refine zr_callVi C [.int (zI x3)] zy_X9_hasNotes zv_X9_hasNotes lk_X9_183 zrm_7_2_2 zo_0 (by decide) rfl (fun r hr => zqX_hasNotes l G σ3 x3 n3 r hr) rfl rfl (Nat.le_of_ble_eq_true rfl) eX9_three_18 (fun v6 nv6 σ5 => ?_)
  refine zr_if_eq C eX9_three_21 nv6 ?_ ?_
  · refine zr_iconst C eX9_three_43 rfl ?_
    exact zr_iret C eX9_three_44
  refine zr_aloadn C 0 eX9_three_24 rfl ?_
  refine zr_iload C 4 eX9_three_25 rfl ?_
  refine zr_callVi C [.int (zI x4)] zy_X9_hasNotes zv_X9_hasNotes lk_X9_183 zrm_7_2_2 zo_0 (by decide) rfl (fun r hr => zqX_hasNotes l G σ5 x4 n4 r hr) rfl rfl (Nat.le_of_ble_eq_true rfl) eX9_three_27 (fun v8 nv8 σ7 => ?_)
  refine zr_if_eq C eX9_three_30 nv8 ?_ ?_
  · refine zr_iconst C eX9_three_43 rfl ?_
    exact zr_iret C eX9_three_44
  refine zr_iload C 5 eX9_three_33 rfl ?_
  refine zr_iconst C eX9_three_35 rfl ?_
  refine zr_iconst C eX9_three_36 rfl ?_
  refine zr_callSi C [.int (zI x5), .int (zI 0), .int (zI 2)] zy_X9_within zs_X9_within lk_X9_113 zrm_7_3_0 (fun r hr => zqX_within l G σ7 x5 0 2 n5 w_0 w_2 r hr) rfl rfl (Nat.le_of_ble_eq_true rfl) eX9_three_37 (fun v10 nv10 σ9 => ?_)
  refine zr_if_ne C eX9_three_40 nv10 ?_ ?_
  · refine zr_iloadn C 2 eX9_three_45 rfl ?_
    refine zr_iloadn C 3 eX9_three_46 rfl ?_
    refine zr_icmp_eq C eX9_three_47 n2 n3 ?_ ?_
    · refine zr_iconst C eX9_three_62 rfl ?_
      exact zr_iret C eX9_three_63
    refine zr_iloadn C 2 eX9_three_50 rfl ?_
    refine zr_iload C 4 eX9_three_51 rfl ?_
    refine zr_icmp_eq C eX9_three_53 n2 n4 ?_ ?_
    · refine zr_iconst C eX9_three_62 rfl ?_
      exact zr_iret C eX9_three_63
    refine zr_iloadn C 3 eX9_three_56 rfl ?_
    refine zr_iload C 4 eX9_three_57 rfl ?_
    refine zr_icmp_ne C eX9_three_59 n3 n4 ?_ ?_
    · refine zr_aloadn C 0 eX9_three_64 rfl ?_
      refine zr_getR C ff_X9_42 rfl zo_0 rfl zf_0_5 eX9_three_65 ?_
      refine zr_aloadn C 0 eX9_three_68 rfl ?_
      refine zr_getR C ff_X9_21 rfl zo_0 rfl zf_0_2 eX9_three_69 ?_
      refine zr_iloadn C 1 eX9_three_72 rfl ?_
      refine zr_aald24 C zo_149 zn_149 n1 (fun _ _ => rfl) eX9_three_73 (fun hh11 => ?_)
      refine zr_aloadn C 0 eX9_three_74 rfl ?_
      refine zr_getR C ff_X9_10 rfl zo_0 rfl zf_0_0 eX9_three_75 ?_
      refine zr_getI C ff_X9_134 zo_1 eX9_three_78 (fun v12 nv12 => ?_)
      refine zr_aloadn C 0 eX9_three_81 rfl ?_
      refine zr_getR C ff_X9_10 rfl zo_0 rfl zf_0_0 eX9_three_82 ?_
      refine zr_getR C ff_X9_127 rfl zo_1 rfl zf_1_1 eX9_three_85 ?_
      refine zr_iloadn C 2 eX9_three_88 rfl ?_
      refine zr_aald23 C zo_3 zn_3 n2 (fun _ _ => rfl) eX9_three_89 (fun hh13 => ?_)
      refine zr_callVv C [.ref (zad G (zRF 149 x1.toNat)), .int (zI v12), .ref (zad G (zRF 3 x2.toNat))] zy_X1_begin zv_X1_begin lk_X9_186 zrm_7_4_5 zo_157 (by decide) rfl (fun r hr => zqF_begin l G σ9 (zRF 149 x1.toNat) v12 (zRF 3 x2.toNat) (ze_24 zo_149 zn_149 hh11) nv12 (ze_23 zo_3 zn_3 hh13) r hr) rfl rfl (Nat.le_of_ble_eq_true rfl) eX9_three_90 (fun σ14 => ?_)
      refine zr_aloadn C 0 eX9_three_93 rfl ?_
      refine zr_getR C ff_X9_42 rfl zo_0 rfl zf_0_5 eX9_three_94 ?_
      refine zr_aloadn C 0 eX9_three_97 rfl ?_
      refine zr_getR C ff_X9_21 rfl zo_0 rfl zf_0_2 eX9_three_98 ?_
      refine zr_iloadn C 1 eX9_three_101 rfl ?_
      refine zr_aald24 C zo_149 zn_149 n1 (fun _ _ => rfl) eX9_three_102 (fun hh15 => ?_)
      refine zr_aloadn C 0 eX9_three_103 rfl ?_
      refine zr_getR C ff_X9_10 rfl zo_0 rfl zf_0_0 eX9_three_104 ?_
      refine zr_getR C ff_X9_127 rfl zo_1 rfl zf_1_1 eX9_three_107 ?_
      refine zr_iloadn C 3 eX9_three_110 rfl ?_
      refine zr_aald23 C zo_3 zn_3 n3 (fun _ _ => rfl) eX9_three_111 (fun hh16 => ?_)
      refine zr_aloadn C 0 eX9_three_112 rfl ?_
      refine zr_getR C ff_X9_10 rfl zo_0 rfl zf_0_0 eX9_three_113 ?_
      refine zr_getR C ff_X9_127 rfl zo_1 rfl zf_1_1 eX9_three_116 ?_
      refine zr_iload C 4 eX9_three_119 rfl ?_
      refine zr_aald23 C zo_3 zn_3 n4 (fun _ _ => rfl) eX9_three_121 (fun hh17 => ?_)
      refine zr_callVv C [.ref (zad G (zRF 149 x1.toNat)), .ref (zad G (zRF 3 x3.toNat)), .ref (zad G (zRF 3 x4.toNat))] zy_X1_findThree zv_X1_findThree lk_X9_208 zrm_7_7_6 zo_157 (by decide) rfl (fun r hr => zqF_findThree l G σ14 (zRF 149 x1.toNat) (zRF 3 x3.toNat) (zRF 3 x4.toNat) (ze_24 zo_149 zn_149 hh15) (ze_23 zo_3 zn_3 hh16) (ze_23 zo_3 zn_3 hh17) r hr) rfl rfl (Nat.le_of_ble_eq_true rfl) eX9_three_122 (fun σ18 => ?_)
      refine zr_iload C 5 eX9_three_125 rfl ?_
      refine zr_if_ne C eX9_three_127 n5 ?_ ?_
      · refine zr_iload C 5 eX9_three_138 rfl ?_
        refine zr_iconst C eX9_three_140 rfl ?_
        refine zr_icmp_ne C eX9_three_141 n5 w_1 ?_ ?_
        · refine zr_aloadn C 0 eX9_three_154 rfl ?_
          refine zr_getR C ff_X9_42 rfl zo_0 rfl zf_0_5 eX9_three_155 ?_
          refine zr_getI C ff_X9_212 zo_157 eX9_three_158 (fun v19 nv19 => ?_)
          refine zr_callSi C [.int (zI v19)] zy_X9_formCode zs_X9_formCode lk_X9_195 zrm_7_4_0 (fun r hr => zqX_formCode l G σ18 v19 nv19 r hr) rfl rfl (Nat.le_of_ble_eq_true rfl) eX9_three_161 (fun v21 nv21 σ20 => ?_)
          exact zr_iret C eX9_three_164
        refine zr_aloadn C 0 eX9_three_144 rfl ?_
        refine zr_getR C ff_X9_42 rfl zo_0 rfl zf_0_5 eX9_three_145 ?_
        refine zr_getI C ff_X9_205 zo_157 eX9_three_148 (fun v22 nv22 => ?_)
        refine zr_goto C eX9_three_151 ?_
        refine zr_callSi C [.int (zI v22)] zy_X9_formCode zs_X9_formCode lk_X9_195 zrm_7_4_0 (fun r hr => zqX_formCode l G σ18 v22 nv22 r hr) rfl rfl (Nat.le_of_ble_eq_true rfl) eX9_three_161 (fun v24 nv24 σ23 => ?_)
        exact zr_iret C eX9_three_164
      refine zr_aloadn C 0 eX9_three_130 rfl ?_
      refine zr_getR C ff_X9_42 rfl zo_0 rfl zf_0_5 eX9_three_131 ?_
      refine zr_getI C ff_X9_202 zo_157 eX9_three_134 (fun v25 nv25 => ?_)
      exact zr_iret C eX9_three_137
    refine zr_iconst C eX9_three_62 rfl ?_
    exact zr_iret C eX9_three_63
  refine zr_iconst C eX9_three_43 rfl ?_
  exact zr_iret C eX9_three_44
theorem wX_chance_97 {G : Zg} {p : Program} {l : Launch} {e : Env} {s : State} {m : MethodId} {args : Array Value} {below : List Frame} {meth : Method} {c : Code} (C : zC G p s m args meth c cX9_chance 9 RX9 (some .int)) {res : Int × Zm} : ∀ (n : Nat) (x1 : Int) (x3 : Int) (x4 : Int) (x5 : Int) (x6 : Int) (x7 : Int) (x8 : Int) (n1 : zw x1 = x1) (n3 : zw x3 = x3) (n4 : zw x4 = x4) (n5 : zw x5 = x5) (n6 : zw x6 = x6) (n7 : zw x7 = x7) (n8 : zw x8 = x8) (σ : Zm), zR G p l e (zrm 7) s m args below meth c 9 0 0 (zQm below args s G 294 ztt (some (.int (zI res.1))) res.2) 294 ztt res σ (fX_chance_97 n x1 x3 x4 x5 x6 x7 x8 σ) [(0, .ref (zad G 0)), (1, .int (zI x1)), (3, .int (zI x3)), (4, .int (zI x4)), (5, .int (zI x5)), (6, .int (zI x6)), (7, .int (zI x7)), (8, .int (zI x8))] 97 []
  | 0, _, _, _, _, _, _, _, _, _, _, _, _, _, _, _ => zr_none
  | n + 1, x1, x3, x4, x5, x6, x7, x8, n1, n3, n4, n5, n6, n7, n8, σ => by
    have ih := fun (x1 : Int) (x3 : Int) (x4 : Int) (x5 : Int) (x6 : Int) (x7 : Int) (x8 : Int) (n1 : zw x1 = x1) (n3 : zw x3 = x3) (n4 : zw x4 = x4) (n5 : zw x5 = x5) (n6 : zw x6 = x6) (n7 : zw x7 = x7) (n8 : zw x8 = x8) (σ : Zm) => wX_chance_97 (l := l) (e := e) (below := below) C (res := res) n x1 x3 x4 x5 x6 x7 x8 n1 n3 n4 n5 n6 n7 n8 σ
    rw [fX_chance_97]
    refine zr_letf (fun R0 hR0 => ?_)
    have ih : ∀ (x1 : Int) (x3 : Int) (x4 : Int) (x5 : Int) (x6 : Int) (x7 : Int) (x8 : Int) (n1 : zw x1 = x1) (n3 : zw x3 = x3) (n4 : zw x4 = x4) (n5 : zw x5 = x5) (n6 : zw x6 = x6) (n7 : zw x7 = x7) (n8 : zw x8 = x8) (σ : Zm), zR G p l e (zrm 7) s m args below meth c 9 0 0 (zQm below args s G 294 ztt (some (.int (zI res.1))) res.2) 294 ztt res σ (R0 x1 x3 x4 x5 x6 x7 x8 σ) [(0, .ref (zad G 0)), (1, .int (zI x1)), (3, .int (zI x3)), (4, .int (zI x4)), (5, .int (zI x5)), (6, .int (zI x6)), (7, .int (zI x7)), (8, .int (zI x8))] 97 [] := by rw [hR0]; exact ih
    clear hR0
    refine zr_iload C 7 eX9_chance_97 rfl ?_
    refine zr_iload C 4 eX9_chance_99 rfl ?_
    refine zr_icmp_ge C eX9_chance_101 n8 n5 ?_ ?_
    · refine zr_iload C 6 eX9_chance_172 rfl ?_
      exact zr_iret C eX9_chance_174
    refine zr_aloadn C 0 eX9_chance_104 rfl ?_
    refine zr_getR C ff_X9_42 rfl zo_0 rfl zf_0_5 eX9_chance_105 ?_
    refine zr_aloadn C 0 eX9_chance_108 rfl ?_
    refine zr_getR C ff_X9_10 rfl zo_0 rfl zf_0_0 eX9_chance_109 ?_
    refine zr_getR C ff_X9_127 rfl zo_1 rfl zf_1_1 eX9_chance_112 ?_
    refine zr_iloadn C 2 eX9_chance_115 rfl ?_
    refine zr_aald23 C zo_3 zn_3 n3 (fun _ _ => rfl) eX9_chance_116 (fun hh17 => ?_)
    refine zr_iload C 5 eX9_chance_117 rfl ?_
    refine zr_sipush (a := 1000) C eX9_chance_119 rfl ?_
    refine zr_iload C 7 eX9_chance_122 rfl ?_
    refine zr_imul C eX9_chance_124 ?_
    refine zr_iadd C eX9_chance_125 ?_
    refine zr_callVv C [.ref (zad G (zRF 3 x3.toNat)), .int (zI (zw (x6 + (1000 * x8))))] zy_X1_shuffle zv_X1_shuffle lk_X9_215 zrm_7_8_2 zo_157 (by decide) rfl (fun r hr => zqF_shuffle l G σ (zRF 3 x3.toNat) (zw (x6 + (1000 * x8))) (ze_23 zo_3 zn_3 hh17) (zw_w (x6 + (1000 * x8))) r hr) rfl (zs_i (zI_w (x6 + (1000 * x8))).symm (zs_k rfl)) (Nat.le_of_ble_eq_true rfl) eX9_chance_126 (fun σ18 => ?_)
    refine zr_aloadn C 0 eX9_chance_129 rfl ?_
    refine zr_getR C ff_X9_42 rfl zo_0 rfl zf_0_5 eX9_chance_130 ?_
    refine zr_aloadn C 0 eX9_chance_133 rfl ?_
    refine zr_getR C ff_X9_21 rfl zo_0 rfl zf_0_2 eX9_chance_134 ?_
    refine zr_iloadn C 1 eX9_chance_137 rfl ?_
    refine zr_aald24 C zo_149 zn_149 n1 (fun _ _ => rfl) eX9_chance_138 (fun hh19 => ?_)
    refine zr_aloadn C 0 eX9_chance_139 rfl ?_
    refine zr_getR C ff_X9_42 rfl zo_0 rfl zf_0_5 eX9_chance_140 ?_
    refine zr_getR C ff_X9_219 rfl zo_157 rfl zf_157_4 eX9_chance_143 ?_
    refine zr_iload C 3 eX9_chance_146 rfl ?_
    refine zr_callVv C [.ref (zad G (zRF 149 x1.toNat)), .ref (zad G 171), .int (zI x4)] zy_X1_findCheapest zv_X1_findCheapest lk_X9_198 zrm_7_6_6 zo_157 (by decide) rfl (fun r hr => zqF_findCheapest l G σ18 (zRF 149 x1.toNat) 171 x4 (ze_24 zo_149 zn_149 hh19) zo_171 n4 r hr) rfl rfl (Nat.le_of_ble_eq_true rfl) eX9_chance_148 (fun σ20 => ?_)
    refine zr_aloadn C 0 eX9_chance_151 rfl ?_
    refine zr_getR C ff_X9_42 rfl zo_0 rfl zf_0_5 eX9_chance_152 ?_
    refine zr_getI C ff_X9_202 zo_157 eX9_chance_155 (fun v21 nv21 => ?_)
    refine zr_iload C 3 eX9_chance_158 rfl ?_
    refine zr_icmp_gt C eX9_chance_160 nv21 n4 ?_ ?_
    · refine zr_iinc (lv' := [(8, .int (zI (x8 + 1))), (0, .ref (zad G 0)), (1, .int (zI x1)), (3, .int (zI x3)), (4, .int (zI x4)), (5, .int (zI x5)), (6, .int (zI x6)), (7, .int (zI x7))]) C 7 eX9_chance_166 rfl (by decide) rfl ?_
      refine zr_goto C eX9_chance_169 ?_
      refine zr_lv [1, 2, 3, 4, 5, 6, 7, 0] rfl ?_
      exact zr_lve (zs_p (zs_p (zs_p (zs_p (zs_p (zs_p (zs_p (zs_pi (zI_w (x8 + 1)).symm rfl)))))))) (ih x1 x3 x4 x5 x6 x7 (zw (x8 + 1)) n1 n3 n4 n5 n6 n7 (zw_w (x8 + 1)) _)
    refine zr_iinc (lv' := [(7, .int (zI (x7 + 1))), (0, .ref (zad G 0)), (1, .int (zI x1)), (3, .int (zI x3)), (4, .int (zI x4)), (5, .int (zI x5)), (6, .int (zI x6)), (8, .int (zI x8))]) C 6 eX9_chance_163 rfl (by decide) rfl ?_
    refine zr_iinc (lv' := [(8, .int (zI (x8 + 1))), (7, .int (zI (x7 + 1))), (0, .ref (zad G 0)), (1, .int (zI x1)), (3, .int (zI x3)), (4, .int (zI x4)), (5, .int (zI x5)), (6, .int (zI x6))]) C 7 eX9_chance_166 rfl (by decide) rfl ?_
    refine zr_goto C eX9_chance_169 ?_
    refine zr_lv [2, 3, 4, 5, 6, 7, 1, 0] rfl ?_
    exact zr_lve (zs_p (zs_p (zs_p (zs_p (zs_p (zs_p (zs_pi (zI_w (x7 + 1)).symm (zs_pi (zI_w (x8 + 1)).symm rfl)))))))) (ih x1 x3 x4 x5 x6 (zw (x7 + 1)) (zw (x8 + 1)) n1 n3 n4 n5 n6 (zw_w (x7 + 1)) (zw_w (x8 + 1)) _)
theorem zqX_chance (l : Launch) (G : Zg) (σ : Zm) (x1 : Int) (x2 : Int) (x3 : Int) (x4 : Int) (x5 : Int) (x6 : Int) (n1 : zw x1 = x1) (n2 : zw x2 = x2) (n3 : zw x3 = x3) (n4 : zw x4 = x4) (n5 : zw x5 = x5) (n6 : zw x6 = x6) (res : Int × Zm) (he : fX_chance σ x1 x2 x3 x4 x5 x6 = some res) : zM l yX9_chance cX9_chance 9 (some .int) 7 G 294 ztt σ [.ref (zad G 0), .int (zI x1), .int (zI x2), .int (zI x3), .int (zI x4), .int (zI x5), .int (zI x6)] (some (.int (zI res.1))) res.2 := by
  refine zM_of he (by decide +kernel) (Nat.le_of_ble_eq_true rfl) (lv := [(0, .ref (zad G 0)), (1, .int (zI x1)), (2, .int (zI x2)), (3, .int (zI x3)), (4, .int (zI x4)), (5, .int (zI x5)), (6, .int (zI x6))]) rfl (fun p e s m below meth c C => ?_)
  unfold fX_chance
  refine zr_aloadn C 0 eX9_chance_0 rfl ?_
  refine zr_iloadn C 1 eX9_chance_1 rfl ?_
  refine zr_callVi C [.int (zI x1)] zy_X9_isText zv_X9_isText lk_X9_164 zrm_7_2_1 zo_0 (by decide) rfl (fun r hr => zqX_isText l G σ x1 n1 r hr) rfl rfl (Nat.le_of_ble_eq_true rfl) eX9_chance_2 (fun v2 nv2 σ1 => ?_)
  refine zr_if_eq C eX9_chance_5 nv2 ?_ ?_
  · refine zr_iconst C eX9_chance_35 rfl ?_
    exact zr_iret C eX9_chance_36
  refine zr_aloadn C 0 eX9_chance_8 rfl ?_
  refine zr_iloadn C 2 eX9_chance_9 rfl ?_
  refine zr_callVi C [.int (zI x2)] zy_X9_hasNotes zv_X9_hasNotes lk_X9_183 zrm_7_2_2 zo_0 (by decide) rfl (fun r hr => zqX_hasNotes l G σ1 x2 n2 r hr) rfl rfl (Nat.le_of_ble_eq_true rfl) eX9_chance_10 (fun v4 nv4 σ3 => ?_)
  refine zr_if_eq C eX9_chance_13 nv4 ?_ ?_
  · refine zr_iconst C eX9_chance_35 rfl ?_
    exact zr_iret C eX9_chance_36
  refine zr_aloadn C 0 eX9_chance_16 rfl ?_
  refine zr_iloadn C 3 eX9_chance_17 rfl ?_
  refine zr_callVi C [.int (zI x3)] zy_X9_hasNotes zv_X9_hasNotes lk_X9_183 zrm_7_2_2 zo_0 (by decide) rfl (fun r hr => zqX_hasNotes l G σ3 x3 n3 r hr) rfl rfl (Nat.le_of_ble_eq_true rfl) eX9_chance_18 (fun v6 nv6 σ5 => ?_)
  refine zr_if_eq C eX9_chance_21 nv6 ?_ ?_
  · refine zr_iconst C eX9_chance_35 rfl ?_
    exact zr_iret C eX9_chance_36
  refine zr_iload C 4 eX9_chance_24 rfl ?_
  refine zr_iconst C eX9_chance_26 rfl ?_
  refine zr_ldc (a := 1000000) C eX9_chance_27 zq_X9_194 rfl ?_
  refine zr_callSi C [.int (zI x4), .int (zI 0), .int (zI 1000000)] zy_X9_within zs_X9_within lk_X9_113 zrm_7_3_0 (fun r hr => zqX_within l G σ5 x4 0 1000000 n4 w_0 w_1000000 r hr) rfl rfl (Nat.le_of_ble_eq_true rfl) eX9_chance_29 (fun v8 nv8 σ7 => ?_)
  refine zr_if_ne C eX9_chance_32 nv8 ?_ ?_
  · refine zr_iload C 5 eX9_chance_37 rfl ?_
    refine zr_iconst C eX9_chance_39 rfl ?_
    refine zr_bipush (a := 40) C eX9_chance_40 rfl ?_
    refine zr_callSi C [.int (zI x5), .int (zI 1), .int (zI 40)] zy_X9_within zs_X9_within lk_X9_113 zrm_7_3_0 (fun r hr => zqX_within l G σ7 x5 1 40 n5 w_1 w_40 r hr) rfl rfl (Nat.le_of_ble_eq_true rfl) eX9_chance_42 (fun v10 nv10 σ9 => ?_)
    refine zr_if_eq C eX9_chance_45 nv10 ?_ ?_
    · refine zr_iconst C eX9_chance_60 rfl ?_
      exact zr_iret C eX9_chance_61
    refine zr_iload C 6 eX9_chance_48 rfl ?_
    refine zr_iconst C eX9_chance_50 rfl ?_
    refine zr_sipush (a := 9999) C eX9_chance_51 rfl ?_
    refine zr_callSi C [.int (zI x6), .int (zI 0), .int (zI 9999)] zy_X9_within zs_X9_within lk_X9_113 zrm_7_3_0 (fun r hr => zqX_within l G σ9 x6 0 9999 n6 w_0 w_9999 r hr) rfl rfl (Nat.le_of_ble_eq_true rfl) eX9_chance_54 (fun v12 nv12 σ11 => ?_)
    refine zr_if_ne C eX9_chance_57 nv12 ?_ ?_
    · refine zr_aloadn C 0 eX9_chance_62 rfl ?_
      refine zr_getR C ff_X9_42 rfl zo_0 rfl zf_0_5 eX9_chance_63 ?_
      refine zr_aloadn C 0 eX9_chance_66 rfl ?_
      refine zr_getR C ff_X9_21 rfl zo_0 rfl zf_0_2 eX9_chance_67 ?_
      refine zr_iloadn C 1 eX9_chance_70 rfl ?_
      refine zr_aald24 C zo_149 zn_149 n1 (fun _ _ => rfl) eX9_chance_71 (fun hh13 => ?_)
      refine zr_aloadn C 0 eX9_chance_72 rfl ?_
      refine zr_getR C ff_X9_10 rfl zo_0 rfl zf_0_0 eX9_chance_73 ?_
      refine zr_getI C ff_X9_134 zo_1 eX9_chance_76 (fun v14 nv14 => ?_)
      refine zr_aloadn C 0 eX9_chance_79 rfl ?_
      refine zr_getR C ff_X9_10 rfl zo_0 rfl zf_0_0 eX9_chance_80 ?_
      refine zr_getR C ff_X9_127 rfl zo_1 rfl zf_1_1 eX9_chance_83 ?_
      refine zr_iloadn C 2 eX9_chance_86 rfl ?_
      refine zr_aald23 C zo_3 zn_3 n2 (fun _ _ => rfl) eX9_chance_87 (fun hh15 => ?_)
      refine zr_callVv C [.ref (zad G (zRF 149 x1.toNat)), .int (zI v14), .ref (zad G (zRF 3 x2.toNat))] zy_X1_begin zv_X1_begin lk_X9_186 zrm_7_4_5 zo_157 (by decide) rfl (fun r hr => zqF_begin l G σ11 (zRF 149 x1.toNat) v14 (zRF 3 x2.toNat) (ze_24 zo_149 zn_149 hh13) nv14 (ze_23 zo_3 zn_3 hh15) r hr) rfl rfl (Nat.le_of_ble_eq_true rfl) eX9_chance_88 (fun σ16 => ?_)
      refine zr_iconst C eX9_chance_91 rfl ?_
      refine zr_istore (lv' := [(7, .int (zI 0)), (0, .ref (zad G 0)), (1, .int (zI x1)), (2, .int (zI x2)), (3, .int (zI x3)), (4, .int (zI x4)), (5, .int (zI x5)), (6, .int (zI x6))]) C eX9_chance_92 (by decide) rfl ?_
      refine zr_iconst C eX9_chance_94 rfl ?_
      refine zr_istore (lv' := [(8, .int (zI 0)), (7, .int (zI 0)), (0, .ref (zad G 0)), (1, .int (zI x1)), (2, .int (zI x2)), (3, .int (zI x3)), (4, .int (zI x4)), (5, .int (zI x5)), (6, .int (zI x6))]) C eX9_chance_95 (by decide) rfl ?_
      refine zr_lv [2, 3, 5, 6, 7, 8, 1, 0] rfl ?_
      refine wX_chance_97 C 5000 x1 x3 x4 x5 x6 0 0 n1 n3 n4 n5 n6 w_0 w_0 σ16
    refine zr_iconst C eX9_chance_60 rfl ?_
    exact zr_iret C eX9_chance_61
  refine zr_iconst C eX9_chance_35 rfl ?_
  exact zr_iret C eX9_chance_36
theorem wX_learn_7 {G : Zg} {p : Program} {l : Launch} {e : Env} {s : State} {m : MethodId} {args : Array Value} {below : List Frame} {meth : Method} {c : Code} (C : zC G p s m args meth c cX9_learn 5 RX9 none) {res : Int × Zm} : ∀ (n : Nat) (o1 : Nat) (x2 : Int) (x3 : Int) (x4 : Int) (h1 : zin 294 o1 8) (n2 : zw x2 = x2) (n3 : zw x3 = x3) (n4 : zw x4 = x4) (σ : Zm), zR G p l e (zrm 3) s m args below meth c 5 0 0 (zQm below args s G 294 ztt none res.2) 294 ztt res σ (fX_learn_7 n o1 x2 x3 x4 σ) [(0, .ref (zad G 0)), (1, .ref (zad G o1)), (2, .int (zI x2)), (3, .int (zI x3)), (4, .int (zI x4))] 7 []
  | 0, _, _, _, _, _, _, _, _, _ => zr_none
  | n + 1, o1, x2, x3, x4, h1, n2, n3, n4, σ => by
    have ih := fun (o1 : Nat) (x2 : Int) (x3 : Int) (x4 : Int) (h1 : zin 294 o1 8) (n2 : zw x2 = x2) (n3 : zw x3 = x3) (n4 : zw x4 = x4) (σ : Zm) => wX_learn_7 (l := l) (e := e) (below := below) C (res := res) n o1 x2 x3 x4 h1 n2 n3 n4 σ
    rw [fX_learn_7]
    refine zr_letf (fun R0 hR0 => ?_)
    have ih : ∀ (o1 : Nat) (x2 : Int) (x3 : Int) (x4 : Int) (h1 : zin 294 o1 8) (n2 : zw x2 = x2) (n3 : zw x3 = x3) (n4 : zw x4 = x4) (σ : Zm), zR G p l e (zrm 3) s m args below meth c 5 0 0 (zQm below args s G 294 ztt none res.2) 294 ztt res σ (R0 o1 x2 x3 x4 σ) [(0, .ref (zad G 0)), (1, .ref (zad G o1)), (2, .int (zI x2)), (3, .int (zI x3)), (4, .int (zI x4))] 7 [] := by rw [hR0]; exact ih
    clear hR0
    refine zr_iload C 4 eX9_learn_7 rfl ?_
    refine zr_bipush (a := 16) C eX9_learn_9 rfl ?_
    refine zr_icmp_ge C eX9_learn_11 n4 w_16 ?_ ?_
    · exact zr_vret C eX9_learn_46
    refine zr_iloadn C 2 eX9_learn_14 rfl ?_
    refine zr_iload C 4 eX9_learn_15 rfl ?_
    refine zr_iconst C eX9_learn_17 rfl ?_
    refine zr_idivc C eX9_learn_18 n4 w_4 (by decide) ?_
    refine zr_ishr C eX9_learn_19 ?_
    refine zr_iconst C eX9_learn_20 rfl ?_
    refine zr_iand C eX9_learn_21 ?_
    refine zr_if_eq C eX9_learn_22 (zw_n _) ?_ ?_
    · refine zr_iinc (lv' := [(4, .int (zI (x4 + 1))), (0, .ref (zad G 0)), (1, .ref (zad G o1)), (2, .int (zI x2)), (3, .int (zI x3))]) C 4 eX9_learn_40 rfl (by decide) rfl ?_
      refine zr_goto C eX9_learn_43 ?_
      refine zr_lv [1, 2, 3, 4, 0] rfl ?_
      exact zr_lve (zs_p (zs_p (zs_p (zs_p (zs_pi (zI_w (x4 + 1)).symm rfl))))) (ih o1 x2 x3 (zw (x4 + 1)) h1 n2 n3 (zw_w (x4 + 1)) _)
    refine zr_aloadn C 1 eX9_learn_25 rfl ?_
    refine zr_aloadn C 0 eX9_learn_26 rfl ?_
    refine zr_getR C ff_X9_10 rfl zo_0 rfl zf_0_0 eX9_learn_27 ?_
    refine zr_getR C ff_X9_98 rfl zo_1 rfl zf_1_0 eX9_learn_30 ?_
    refine zr_iload C 4 eX9_learn_33 rfl ?_
    refine zr_aald23 C zo_2 zn_2 n4 (fun _ _ => rfl) eX9_learn_35 (fun hh2 => ?_)
    refine zr_iloadn C 3 eX9_learn_36 rfl ?_
    refine zr_callVv C [.ref (zad G (zRF 2 x4.toNat)), .int (zI x3)] zy_X8_add zv_X8_add lk_X9_326 zrm_3_7_2 h1 (by decide) rfl (fun r hr => zqT_add l G σ o1 (zRF 2 x4.toNat) x3 h1 (ze_23 zo_2 zn_2 hh2) n3 r hr) rfl rfl (Nat.le_of_ble_eq_true rfl) eX9_learn_37 (fun σ3 => ?_)
    refine zr_iinc (lv' := [(4, .int (zI (x4 + 1))), (0, .ref (zad G 0)), (1, .ref (zad G o1)), (2, .int (zI x2)), (3, .int (zI x3))]) C 4 eX9_learn_40 rfl (by decide) rfl ?_
    refine zr_goto C eX9_learn_43 ?_
    refine zr_lv [1, 2, 3, 4, 0] rfl ?_
    exact zr_lve (zs_p (zs_p (zs_p (zs_p (zs_pi (zI_w (x4 + 1)).symm rfl))))) (ih o1 x2 x3 (zw (x4 + 1)) h1 n2 n3 (zw_w (x4 + 1)) _)
theorem zqX_learn (l : Launch) (G : Zg) (σ : Zm) (o1 : Nat) (x2 : Int) (x3 : Int) (h1 : zin 294 o1 8) (n2 : zw x2 = x2) (n3 : zw x3 = x3) (res : Int × Zm) (he : fX_learn σ o1 x2 x3 = some res) : zM l yX9_learn cX9_learn 5 none 3 G 294 ztt σ [.ref (zad G 0), .ref (zad G o1), .int (zI x2), .int (zI x3)] none res.2 := by
  refine zM_of he (by decide +kernel) (Nat.le_of_ble_eq_true rfl) (lv := [(0, .ref (zad G 0)), (1, .ref (zad G o1)), (2, .int (zI x2)), (3, .int (zI x3))]) rfl (fun p e s m below meth c C => ?_)
  unfold fX_learn
  refine zr_aloadn C 1 eX9_learn_0 rfl ?_
  refine zr_callVv C [] zy_X8_clear zv_X8_clear lk_X9_323 zrm_3_1_1 h1 (by decide) rfl (fun r hr => zqT_clear l G σ o1 h1 r hr) rfl rfl (Nat.le_of_ble_eq_true rfl) eX9_learn_1 (fun σ1 => ?_)
  refine zr_iconst C eX9_learn_4 rfl ?_
  refine zr_istore (lv' := [(4, .int (zI 0)), (0, .ref (zad G 0)), (1, .ref (zad G o1)), (2, .int (zI x2)), (3, .int (zI x3))]) C eX9_learn_5 (by decide) rfl ?_
  refine zr_lv [1, 2, 3, 4, 0] rfl ?_
  refine wX_learn_7 C 5000 o1 x2 x3 0 h1 n2 n3 w_0 σ1
theorem zqX_seen (l : Launch) (G : Zg) (σ : Zm) (x1 : Int) (x2 : Int) (n1 : zw x1 = x1) (n2 : zw x2 = x2) (res : Int × Zm) (he : fX_seen σ x1 x2 = some res) : zM l yX9_seen cX9_seen 3 (some .int) 4 G 294 ztt σ [.ref (zad G 0), .int (zI x1), .int (zI x2)] (some (.int (zI res.1))) res.2 := by
  refine zM_of he (by decide +kernel) (Nat.le_of_ble_eq_true rfl) (lv := [(0, .ref (zad G 0)), (1, .int (zI x1)), (2, .int (zI x2))]) rfl (fun p e s m below meth c C => ?_)
  unfold fX_seen
  refine zr_iloadn C 1 eX9_seen_0 rfl ?_
  refine zr_callSi C [.int (zI x1)] zy_X9_isSet zs_X9_isSet lk_X9_223 zrm_4_1_1 (fun r hr => zqX_isSet l G σ x1 n1 r hr) rfl rfl (Nat.le_of_ble_eq_true rfl) eX9_seen_1 (fun v2 nv2 σ1 => ?_)
  refine zr_if_eq C eX9_seen_4 nv2 ?_ ?_
  · refine zr_iconst C eX9_seen_18 rfl ?_
    exact zr_iret C eX9_seen_19
  refine zr_iloadn C 2 eX9_seen_7 rfl ?_
  refine zr_bipush (a := (-12)) C eX9_seen_8 rfl ?_
  refine zr_bipush (a := 12) C eX9_seen_10 rfl ?_
  refine zr_callSi C [.int (zI x2), .int (zI (-12)), .int (zI 12)] zy_X9_within zs_X9_within lk_X9_113 zrm_4_3_0 (fun r hr => zqX_within l G σ1 x2 (-12) 12 n2 w_m12 w_12 r hr) rfl rfl (Nat.le_of_ble_eq_true rfl) eX9_seen_12 (fun v4 nv4 σ3 => ?_)
  refine zr_if_ne C eX9_seen_15 nv4 ?_ ?_
  · refine zr_aloadn C 0 eX9_seen_20 rfl ?_
    refine zr_aloadn C 0 eX9_seen_21 rfl ?_
    refine zr_getR C ff_X9_63 rfl zo_0 rfl zf_0_8 eX9_seen_22 ?_
    refine zr_iloadn C 1 eX9_seen_25 rfl ?_
    refine zr_bipush (a := 101) C eX9_seen_26 rfl ?_
    refine zr_callVv C [.ref (zad G 218), .int (zI x1), .int (zI 101)] zy_X9_learn zv_X9_learn lk_X9_226 zrm_4_5_3 zo_0 (by decide) rfl (fun r hr => zqX_learn l G σ3 218 x1 101 zo_218 n1 w_101 r hr) rfl rfl (Nat.le_of_ble_eq_true rfl) eX9_seen_28 (fun σ5 => ?_)
    refine zr_aloadn C 0 eX9_seen_31 rfl ?_
    refine zr_getR C ff_X9_63 rfl zo_0 rfl zf_0_8 eX9_seen_32 ?_
    refine zr_getR C ff_X9_230 rfl zo_218 rfl zf_218_0 eX9_seen_35 ?_
    refine zr_iloadn C 2 eX9_seen_38 rfl ?_
    refine zr_bipush (a := 12) C eX9_seen_39 rfl ?_
    refine zr_iadd C eX9_seen_41 ?_
    refine zr_iald C zo_219 zn_219 rfl eX9_seen_42 (fun v6 nv6 => ?_)
    exact zr_iret C eX9_seen_43
  refine zr_iconst C eX9_seen_18 rfl ?_
  exact zr_iret C eX9_seen_19
theorem zqX_strange (l : Launch) (G : Zg) (σ : Zm) (x1 : Int) (x2 : Int) (n1 : zw x1 = x1) (n2 : zw x2 = x2) (res : Int × Zm) (he : fX_strange σ x1 x2 = some res) : zM l yX9_strange cX9_strange 3 (some .int) 4 G 294 ztt σ [.ref (zad G 0), .int (zI x1), .int (zI x2)] (some (.int (zI res.1))) res.2 := by
  refine zM_of he (by decide +kernel) (Nat.le_of_ble_eq_true rfl) (lv := [(0, .ref (zad G 0)), (1, .int (zI x1)), (2, .int (zI x2))]) rfl (fun p e s m below meth c C => ?_)
  unfold fX_strange
  refine zr_iloadn C 1 eX9_strange_0 rfl ?_
  refine zr_callSi C [.int (zI x1)] zy_X9_isSet zs_X9_isSet lk_X9_223 zrm_4_1_1 (fun r hr => zqX_isSet l G σ x1 n1 r hr) rfl rfl (Nat.le_of_ble_eq_true rfl) eX9_strange_1 (fun v2 nv2 σ1 => ?_)
  refine zr_if_eq C eX9_strange_4 nv2 ?_ ?_
  · refine zr_iconst C eX9_strange_14 rfl ?_
    exact zr_iret C eX9_strange_15
  refine zr_iloadn C 2 eX9_strange_7 rfl ?_
  refine zr_callSi C [.int (zI x2)] zy_X9_isPiece zs_X9_isPiece lk_X9_84 zrm_4_1_1 (fun r hr => zqX_isPiece l G σ1 x2 n2 r hr) rfl rfl (Nat.le_of_ble_eq_true rfl) eX9_strange_8 (fun v4 nv4 σ3 => ?_)
  refine zr_if_ne C eX9_strange_11 nv4 ?_ ?_
  · refine zr_aloadn C 0 eX9_strange_16 rfl ?_
    refine zr_aloadn C 0 eX9_strange_17 rfl ?_
    refine zr_getR C ff_X9_67 rfl zo_0 rfl zf_0_9 eX9_strange_18 ?_
    refine zr_iloadn C 1 eX9_strange_21 rfl ?_
    refine zr_iconst C eX9_strange_22 rfl ?_
    refine zr_iloadn C 2 eX9_strange_23 rfl ?_
    refine zr_ishl C eX9_strange_24 ?_
    refine zr_iconst C eX9_strange_25 rfl ?_
    refine zr_ixor C eX9_strange_26 ?_
    refine zr_iand C eX9_strange_27 ?_
    refine zr_bipush (a := 101) C eX9_strange_28 rfl ?_
    refine zr_callVv C [.ref (zad G 221), .int (zI (zand x1 (zxor (zshl 1 x2) (-1)))), .int (zI 101)] zy_X9_learn zv_X9_learn lk_X9_226 zrm_4_5_3 zo_0 (by decide) rfl (fun r hr => zqX_learn l G σ3 221 (zand x1 (zxor (zshl 1 x2) (-1))) 101 zo_221 (zw_n _) w_101 r hr) rfl rfl (Nat.le_of_ble_eq_true rfl) eX9_strange_30 (fun σ5 => ?_)
    refine zr_aloadn C 0 eX9_strange_33 rfl ?_
    refine zr_aloadn C 0 eX9_strange_34 rfl ?_
    refine zr_getR C ff_X9_63 rfl zo_0 rfl zf_0_8 eX9_strange_35 ?_
    refine zr_iconst C eX9_strange_38 rfl ?_
    refine zr_iloadn C 2 eX9_strange_39 rfl ?_
    refine zr_ishl C eX9_strange_40 ?_
    refine zr_bipush (a := 101) C eX9_strange_41 rfl ?_
    refine zr_callVv C [.ref (zad G 218), .int (zI (zshl 1 x2)), .int (zI 101)] zy_X9_learn zv_X9_learn lk_X9_226 zrm_4_5_3 zo_0 (by decide) rfl (fun r hr => zqX_learn l G σ5 218 (zshl 1 x2) 101 zo_218 (zw_n _) w_101 r hr) rfl rfl (Nat.le_of_ble_eq_true rfl) eX9_strange_43 (fun σ6 => ?_)
    refine zr_aloadn C 0 eX9_strange_46 rfl ?_
    refine zr_getR C ff_X9_63 rfl zo_0 rfl zf_0_8 eX9_strange_47 ?_
    refine zr_aloadn C 0 eX9_strange_50 rfl ?_
    refine zr_getR C ff_X9_67 rfl zo_0 rfl zf_0_9 eX9_strange_51 ?_
    refine zr_callVi C [.ref (zad G 221)] zy_X8_strangeBy zv_X8_strangeBy lk_X9_233 zrm_4_5_1 zo_218 (by decide) rfl (fun r hr => zqT_strangeBy l G σ6 218 221 zo_218 zo_221 r hr) rfl rfl (Nat.le_of_ble_eq_true rfl) eX9_strange_54 (fun v8 nv8 σ7 => ?_)
    exact zr_iret C eX9_strange_57
  refine zr_iconst C eX9_strange_14 rfl ?_
  exact zr_iret C eX9_strange_15
theorem zqX_follows (l : Launch) (G : Zg) (σ : Zm) (x1 : Int) (x2 : Int) (x3 : Int) (x4 : Int) (n1 : zw x1 = x1) (n2 : zw x2 = x2) (n3 : zw x3 = x3) (n4 : zw x4 = x4) (res : Int × Zm) (he : fX_follows σ x1 x2 x3 x4 = some res) : zM l yX9_follows cX9_follows 9 (some .int) 4 G 294 ztt σ [.ref (zad G 0), .int (zI x1), .int (zI x2), .int (zI x3), .int (zI x4)] (some (.int (zI res.1))) res.2 := by
  refine zM_of he (by decide +kernel) (Nat.le_of_ble_eq_true rfl) (lv := [(0, .ref (zad G 0)), (1, .int (zI x1)), (2, .int (zI x2)), (3, .int (zI x3)), (4, .int (zI x4))]) rfl (fun p e s m below meth c C => ?_)
  unfold fX_follows
  refine zr_iloadn C 1 eX9_follows_0 rfl ?_
  refine zr_callSi C [.int (zI x1)] zy_X9_isSet zs_X9_isSet lk_X9_223 zrm_4_1_1 (fun r hr => zqX_isSet l G σ x1 n1 r hr) rfl rfl (Nat.le_of_ble_eq_true rfl) eX9_follows_1 (fun v2 nv2 σ1 => ?_)
  refine zr_if_eq C eX9_follows_4 nv2 ?_ ?_
  · refine zr_iconst C eX9_follows_29 rfl ?_
    exact zr_iret C eX9_follows_30
  refine zr_iloadn C 2 eX9_follows_7 rfl ?_
  refine zr_callSi C [.int (zI x2)] zy_X9_isPiece zs_X9_isPiece lk_X9_84 zrm_4_1_1 (fun r hr => zqX_isPiece l G σ1 x2 n2 r hr) rfl rfl (Nat.le_of_ble_eq_true rfl) eX9_follows_8 (fun v4 nv4 σ3 => ?_)
  refine zr_if_eq C eX9_follows_11 nv4 ?_ ?_
  · refine zr_iconst C eX9_follows_29 rfl ?_
    exact zr_iret C eX9_follows_30
  refine zr_iloadn C 3 eX9_follows_14 rfl ?_
  refine zr_callSi C [.int (zI x3)] zy_X9_isVoice zs_X9_isVoice lk_X9_88 zrm_4_1_1 (fun r hr => zqX_isVoice l G σ3 x3 n3 r hr) rfl rfl (Nat.le_of_ble_eq_true rfl) eX9_follows_15 (fun v6 nv6 σ5 => ?_)
  refine zr_if_eq C eX9_follows_18 nv6 ?_ ?_
  · refine zr_iconst C eX9_follows_29 rfl ?_
    exact zr_iret C eX9_follows_30
  refine zr_iload C 4 eX9_follows_21 rfl ?_
  refine zr_callSi C [.int (zI x4)] zy_X9_isPitch zs_X9_isPitch lk_X9_95 zrm_4_1_1 (fun r hr => zqX_isPitch l G σ5 x4 n4 r hr) rfl rfl (Nat.le_of_ble_eq_true rfl) eX9_follows_23 (fun v8 nv8 σ7 => ?_)
  refine zr_if_ne C eX9_follows_26 nv8 ?_ ?_
  · refine zr_aloadn C 0 eX9_follows_31 rfl ?_
    refine zr_getR C ff_X9_10 rfl zo_0 rfl zf_0_0 eX9_follows_32 ?_
    refine zr_getR C ff_X9_98 rfl zo_1 rfl zf_1_0 eX9_follows_35 ?_
    refine zr_iloadn C 2 eX9_follows_38 rfl ?_
    refine zr_iconst C eX9_follows_39 rfl ?_
    refine zr_imul C eX9_follows_40 ?_
    refine zr_iloadn C 3 eX9_follows_41 rfl ?_
    refine zr_iadd C eX9_follows_42 ?_
    refine zr_aald23 C zo_2 zn_2 rfl (fun _ _ => rfl) eX9_follows_43 (fun hh9 => ?_)
    refine zr_astore (lv' := [(5, .ref (zad G (zRF 2 (zw ((x2 * 4) + x3)).toNat))), (0, .ref (zad G 0)), (1, .int (zI x1)), (2, .int (zI x2)), (3, .int (zI x3)), (4, .int (zI x4))]) C eX9_follows_44 (by decide) rfl ?_
    refine zr_aload C 0 eX9_follows_46 rfl ?_
    refine zr_bipush (a := 32) C eX9_follows_48 rfl ?_
    refine zr_callVi C [.int (zI 32)] zy_X3_noteAhead zv_X3_noteAhead lk_X9_237 zrm_4_3_1 (ze_23 zo_2 zn_2 hh9) (by decide) rfl (fun r hr => zqL_noteAhead l G σ7 (zRF 2 (zw ((x2 * 4) + x3)).toNat) 32 (ze_23 zo_2 zn_2 hh9) w_32 r hr) rfl rfl (Nat.le_of_ble_eq_true rfl) eX9_follows_50 (fun v11 nv11 σ10 => ?_)
    refine zr_istore (lv' := [(6, .int (zI v11)), (5, .ref (zad G (zRF 2 (zw ((x2 * 4) + x3)).toNat))), (0, .ref (zad G 0)), (1, .int (zI x1)), (2, .int (zI x2)), (3, .int (zI x3)), (4, .int (zI x4))]) C eX9_follows_53 (by decide) rfl ?_
    refine zr_aload C 1 eX9_follows_55 rfl ?_
    refine zr_iload C 0 eX9_follows_57 rfl ?_
    refine zr_callVi C [.int (zI v11)] zy_X3_noteAhead zv_X3_noteAhead lk_X9_237 zrm_4_3_1 (ze_23 zo_2 zn_2 hh9) (by decide) rfl (fun r hr => zqL_noteAhead l G σ10 (zRF 2 (zw ((x2 * 4) + x3)).toNat) v11 (ze_23 zo_2 zn_2 hh9) nv11 r hr) rfl rfl (Nat.le_of_ble_eq_true rfl) eX9_follows_59 (fun v13 nv13 σ12 => ?_)
    refine zr_istore (lv' := [(7, .int (zI v13)), (6, .int (zI v11)), (5, .ref (zad G (zRF 2 (zw ((x2 * 4) + x3)).toNat))), (0, .ref (zad G 0)), (1, .int (zI x1)), (2, .int (zI x2)), (3, .int (zI x3)), (4, .int (zI x4))]) C eX9_follows_62 (by decide) rfl ?_
    refine zr_iload C 1 eX9_follows_64 rfl ?_
    refine zr_if_lt C eX9_follows_66 nv11 ?_ ?_
    · refine zr_iconst C eX9_follows_74 rfl ?_
      exact zr_iret C eX9_follows_75
    refine zr_iload C 0 eX9_follows_69 rfl ?_
    refine zr_if_ge C eX9_follows_71 nv13 ?_ ?_
    · refine zr_aloadn C 3 eX9_follows_76 rfl ?_
      refine zr_aloadn C 3 eX9_follows_77 rfl ?_
      refine zr_getR C ff_X9_63 rfl zo_0 rfl zf_0_8 eX9_follows_78 ?_
      refine zr_iloadn C 4 eX9_follows_81 rfl ?_
      refine zr_aload C 2 eX9_follows_82 rfl ?_
      refine zr_getR C ff_X9_121 rfl (ze_23 zo_2 zn_2 hh9) rfl ((zk_3_0 (ze_23 zo_2 zn_2 hh9)).1) eX9_follows_84 ?_
      refine zr_iload C 1 eX9_follows_87 rfl ?_
      refine zr_iald C ((zk_3_0 (ze_23 zo_2 zn_2 hh9)).2) rfl nv11 eX9_follows_89 (fun v14 nv14 => ?_)
      refine zr_aload C 2 eX9_follows_90 rfl ?_
      refine zr_getR C ff_X9_121 rfl (ze_23 zo_2 zn_2 hh9) rfl ((zk_3_0 (ze_23 zo_2 zn_2 hh9)).1) eX9_follows_92 ?_
      refine zr_iload C 0 eX9_follows_95 rfl ?_
      refine zr_iald C ((zk_3_0 (ze_23 zo_2 zn_2 hh9)).2) rfl nv13 eX9_follows_97 (fun v15 nv15 => ?_)
      refine zr_isub C eX9_follows_98 ?_
      refine zr_callSi C [.int (zI (zw (v14 - v15)))] zy_X9_boundedStep zs_X9_boundedStep lk_X9_240 zrm_4_1_1 (fun r hr => zqX_boundedStep l G σ12 (zw (v14 - v15)) (zw_w (v14 - v15)) r hr) rfl (zs_i (zI_w (v14 - v15)).symm rfl) (Nat.le_of_ble_eq_true rfl) eX9_follows_99 (fun v17 nv17 σ16 => ?_)
      refine zr_callVv C [.ref (zad G 218), .int (zI x1), .int (zI v17)] zy_X9_learn zv_X9_learn lk_X9_226 zrm_4_5_3 zo_0 (by decide) rfl (fun r hr => zqX_learn l G σ16 218 x1 v17 zo_218 n1 nv17 r hr) rfl rfl (Nat.le_of_ble_eq_true rfl) eX9_follows_102 (fun σ18 => ?_)
      refine zr_aloadn C 3 eX9_follows_105 rfl ?_
      refine zr_getR C ff_X9_63 rfl zo_0 rfl zf_0_8 eX9_follows_106 ?_
      refine zr_getI C ff_X9_243 zo_218 eX9_follows_109 (fun v19 nv19 => ?_)
      refine zr_iconst C eX9_follows_112 rfl ?_
      refine zr_icmp_ge C eX9_follows_113 nv19 w_1 ?_ ?_
      · refine zr_iload C 7 eX9_follows_118 rfl ?_
        refine zr_aload C 2 eX9_follows_120 rfl ?_
        refine zr_getR C ff_X9_121 rfl (ze_23 zo_2 zn_2 hh9) rfl ((zk_3_0 (ze_23 zo_2 zn_2 hh9)).1) eX9_follows_122 ?_
        refine zr_iload C 1 eX9_follows_125 rfl ?_
        refine zr_iald C ((zk_3_0 (ze_23 zo_2 zn_2 hh9)).2) rfl nv11 eX9_follows_127 (fun v20 nv20 => ?_)
        refine zr_isub C eX9_follows_128 ?_
        refine zr_callSi C [.int (zI (zw (x4 - v20)))] zy_X9_boundedStep zs_X9_boundedStep lk_X9_240 zrm_4_1_1 (fun r hr => zqX_boundedStep l G σ18 (zw (x4 - v20)) (zw_w (x4 - v20)) r hr) rfl (zs_i (zI_w (x4 - v20)).symm rfl) (Nat.le_of_ble_eq_true rfl) eX9_follows_129 (fun v22 nv22 σ21 => ?_)
        refine zr_istore (lv' := [(8, .int (zI v22)), (7, .int (zI v13)), (6, .int (zI v11)), (5, .ref (zad G (zRF 2 (zw ((x2 * 4) + x3)).toNat))), (0, .ref (zad G 0)), (1, .int (zI x1)), (2, .int (zI x2)), (3, .int (zI x3)), (4, .int (zI x4))]) C eX9_follows_132 (by decide) rfl ?_
        refine zr_sipush (a := 1000) C eX9_follows_134 rfl ?_
        refine zr_aloadn C 4 eX9_follows_137 rfl ?_
        refine zr_getR C ff_X9_63 rfl zo_0 rfl zf_0_8 eX9_follows_138 ?_
        refine zr_getR C ff_X9_246 rfl zo_218 rfl zf_218_1 eX9_follows_141 ?_
        refine zr_iload C 0 eX9_follows_144 rfl ?_
        refine zr_bipush (a := 12) C eX9_follows_146 rfl ?_
        refine zr_iadd C eX9_follows_148 ?_
        refine zr_iald C zo_220 zn_220 rfl eX9_follows_149 (fun v23 nv23 => ?_)
        refine zr_imul C eX9_follows_150 ?_
        refine zr_aloadn C 4 eX9_follows_151 rfl ?_
        refine zr_getR C ff_X9_63 rfl zo_0 rfl zf_0_8 eX9_follows_152 ?_
        refine zr_getI C ff_X9_243 zo_218 eX9_follows_155 (fun v24 nv24 => ?_)
        refine zr_idiv C eX9_follows_158 rfl nv24 ?_
        exact zr_iret C eX9_follows_159
      refine zr_iconst C eX9_follows_116 rfl ?_
      exact zr_iret C eX9_follows_117
    refine zr_iconst C eX9_follows_74 rfl ?_
    exact zr_iret C eX9_follows_75
  refine zr_iconst C eX9_follows_29 rfl ?_
  exact zr_iret C eX9_follows_30
theorem wX_never_71 {G : Zg} {p : Program} {l : Launch} {e : Env} {s : State} {m : MethodId} {args : Array Value} {below : List Frame} {meth : Method} {c : Code} (C : zC G p s m args meth c cX9_never 8 RX9 (some .int)) {res : Int × Zm} : ∀ (n : Nat) (o4 : Nat) (x5 : Int) (x6 : Int) (x7 : Int) (h4 : zin 294 o4 3) (n5 : zw x5 = x5) (n6 : zw x6 = x6) (n7 : zw x7 = x7) (σ : Zm), zR G p l e (zrm 4) s m args below meth c 8 0 0 (zQm below args s G 294 ztt (some (.int (zI res.1))) res.2) 294 ztt res σ (fX_never_71 n o4 x5 x6 x7 σ) [(0, .ref (zad G 0)), (4, .ref (zad G o4)), (5, .int (zI x5)), (6, .int (zI x6)), (7, .int (zI x7))] 71 []
  | 0, _, _, _, _, _, _, _, _, _ => zr_none
  | n + 1, o4, x5, x6, x7, h4, n5, n6, n7, σ => by
    have ih := fun (o4 : Nat) (x5 : Int) (x6 : Int) (x7 : Int) (h4 : zin 294 o4 3) (n5 : zw x5 = x5) (n6 : zw x6 = x6) (n7 : zw x7 = x7) (σ : Zm) => wX_never_71 (l := l) (e := e) (below := below) C (res := res) n o4 x5 x6 x7 h4 n5 n6 n7 σ
    rw [fX_never_71]
    refine zr_letf (fun R0 hR0 => ?_)
    have ih : ∀ (o4 : Nat) (x5 : Int) (x6 : Int) (x7 : Int) (h4 : zin 294 o4 3) (n5 : zw x5 = x5) (n6 : zw x6 = x6) (n7 : zw x7 = x7) (σ : Zm), zR G p l e (zrm 4) s m args below meth c 8 0 0 (zQm below args s G 294 ztt (some (.int (zI res.1))) res.2) 294 ztt res σ (R0 o4 x5 x6 x7 σ) [(0, .ref (zad G 0)), (4, .ref (zad G o4)), (5, .int (zI x5)), (6, .int (zI x6)), (7, .int (zI x7))] 71 [] := by rw [hR0]; exact ih
    clear hR0
    refine zr_iload C 4 eX9_never_71 rfl ?_
    refine zr_bipush (a := 60) C eX9_never_73 rfl ?_
    refine zr_icmp_gt C eX9_never_75 n7 w_60 ?_ ?_
    · refine zr_iload C 3 eX9_never_115 rfl ?_
      exact zr_iret C eX9_never_117
    refine zr_aloadn C 0 eX9_never_78 rfl ?_
    refine zr_getR C ff_X9_63 rfl zo_0 rfl zf_0_8 eX9_never_79 ?_
    refine zr_getR C ff_X9_230 rfl zo_218 rfl zf_218_0 eX9_never_82 ?_
    refine zr_iload C 4 eX9_never_85 rfl ?_
    refine zr_aload C 1 eX9_never_87 rfl ?_
    refine zr_getR C ff_X9_121 rfl h4 rfl ((zk_3_0 h4).1) eX9_never_89 ?_
    refine zr_iload C 2 eX9_never_92 rfl ?_
    refine zr_iald C ((zk_3_0 h4).2) rfl n5 eX9_never_94 (fun v11 nv11 => ?_)
    refine zr_isub C eX9_never_95 ?_
    refine zr_callSi C [.int (zI (zw (x7 - v11)))] zy_X9_boundedStep zs_X9_boundedStep lk_X9_240 zrm_4_1_1 (fun r hr => zqX_boundedStep l G σ (zw (x7 - v11)) (zw_w (x7 - v11)) r hr) rfl (zs_i (zI_w (x7 - v11)).symm rfl) (Nat.le_of_ble_eq_true rfl) eX9_never_96 (fun v13 nv13 σ12 => ?_)
    refine zr_bipush (a := 12) C eX9_never_99 rfl ?_
    refine zr_iadd C eX9_never_101 ?_
    refine zr_iald C zo_219 zn_219 rfl eX9_never_102 (fun v14 nv14 => ?_)
    refine zr_if_ne C eX9_never_103 nv14 ?_ ?_
    · refine zr_iinc (lv' := [(7, .int (zI (x7 + 1))), (0, .ref (zad G 0)), (4, .ref (zad G o4)), (5, .int (zI x5)), (6, .int (zI x6))]) C 4 eX9_never_109 rfl (by decide) rfl ?_
      refine zr_goto C eX9_never_112 ?_
      refine zr_lv [1, 2, 3, 4, 0] rfl ?_
      exact zr_lve (zs_p (zs_p (zs_p (zs_p (zs_pi (zI_w (x7 + 1)).symm rfl))))) (ih o4 x5 x6 (zw (x7 + 1)) h4 n5 n6 (zw_w (x7 + 1)) _)
    refine zr_iinc (lv' := [(6, .int (zI (x6 + 1))), (0, .ref (zad G 0)), (4, .ref (zad G o4)), (5, .int (zI x5)), (7, .int (zI x7))]) C 3 eX9_never_106 rfl (by decide) rfl ?_
    refine zr_iinc (lv' := [(7, .int (zI (x7 + 1))), (6, .int (zI (x6 + 1))), (0, .ref (zad G 0)), (4, .ref (zad G o4)), (5, .int (zI x5))]) C 4 eX9_never_109 rfl (by decide) rfl ?_
    refine zr_goto C eX9_never_112 ?_
    refine zr_lv [2, 3, 4, 1, 0] rfl ?_
    exact zr_lve (zs_p (zs_p (zs_p (zs_pi (zI_w (x6 + 1)).symm (zs_pi (zI_w (x7 + 1)).symm rfl))))) (ih o4 x5 (zw (x6 + 1)) (zw (x7 + 1)) h4 n5 (zw_w (x6 + 1)) (zw_w (x7 + 1)) _)
theorem zqX_never (l : Launch) (G : Zg) (σ : Zm) (x1 : Int) (x2 : Int) (x3 : Int) (n1 : zw x1 = x1) (n2 : zw x2 = x2) (n3 : zw x3 = x3) (res : Int × Zm) (he : fX_never σ x1 x2 x3 = some res) : zM l yX9_never cX9_never 8 (some .int) 4 G 294 ztt σ [.ref (zad G 0), .int (zI x1), .int (zI x2), .int (zI x3)] (some (.int (zI res.1))) res.2 := by
  refine zM_of he (by decide +kernel) (Nat.le_of_ble_eq_true rfl) (lv := [(0, .ref (zad G 0)), (1, .int (zI x1)), (2, .int (zI x2)), (3, .int (zI x3))]) rfl (fun p e s m below meth c C => ?_)
  unfold fX_never
  refine zr_iloadn C 1 eX9_never_0 rfl ?_
  refine zr_callSi C [.int (zI x1)] zy_X9_isSet zs_X9_isSet lk_X9_223 zrm_4_1_1 (fun r hr => zqX_isSet l G σ x1 n1 r hr) rfl rfl (Nat.le_of_ble_eq_true rfl) eX9_never_1 (fun v2 nv2 σ1 => ?_)
  refine zr_if_eq C eX9_never_4 nv2 ?_ ?_
  · refine zr_iconst C eX9_never_21 rfl ?_
    exact zr_iret C eX9_never_22
  refine zr_iloadn C 2 eX9_never_7 rfl ?_
  refine zr_callSi C [.int (zI x2)] zy_X9_isPiece zs_X9_isPiece lk_X9_84 zrm_4_1_1 (fun r hr => zqX_isPiece l G σ1 x2 n2 r hr) rfl rfl (Nat.le_of_ble_eq_true rfl) eX9_never_8 (fun v4 nv4 σ3 => ?_)
  refine zr_if_eq C eX9_never_11 nv4 ?_ ?_
  · refine zr_iconst C eX9_never_21 rfl ?_
    exact zr_iret C eX9_never_22
  refine zr_iloadn C 3 eX9_never_14 rfl ?_
  refine zr_callSi C [.int (zI x3)] zy_X9_isVoice zs_X9_isVoice lk_X9_88 zrm_4_1_1 (fun r hr => zqX_isVoice l G σ3 x3 n3 r hr) rfl rfl (Nat.le_of_ble_eq_true rfl) eX9_never_15 (fun v6 nv6 σ5 => ?_)
  refine zr_if_ne C eX9_never_18 nv6 ?_ ?_
  · refine zr_aloadn C 0 eX9_never_23 rfl ?_
    refine zr_getR C ff_X9_10 rfl zo_0 rfl zf_0_0 eX9_never_24 ?_
    refine zr_getR C ff_X9_98 rfl zo_1 rfl zf_1_0 eX9_never_27 ?_
    refine zr_iloadn C 2 eX9_never_30 rfl ?_
    refine zr_iconst C eX9_never_31 rfl ?_
    refine zr_imul C eX9_never_32 ?_
    refine zr_iloadn C 3 eX9_never_33 rfl ?_
    refine zr_iadd C eX9_never_34 ?_
    refine zr_aald23 C zo_2 zn_2 rfl (fun _ _ => rfl) eX9_never_35 (fun hh7 => ?_)
    refine zr_astore (lv' := [(4, .ref (zad G (zRF 2 (zw ((x2 * 4) + x3)).toNat))), (0, .ref (zad G 0)), (1, .int (zI x1)), (2, .int (zI x2)), (3, .int (zI x3))]) C eX9_never_36 (by decide) rfl ?_
    refine zr_aload C 0 eX9_never_38 rfl ?_
    refine zr_bipush (a := 32) C eX9_never_40 rfl ?_
    refine zr_callVi C [.int (zI 32)] zy_X3_noteAhead zv_X3_noteAhead lk_X9_237 zrm_4_3_1 (ze_23 zo_2 zn_2 hh7) (by decide) rfl (fun r hr => zqL_noteAhead l G σ5 (zRF 2 (zw ((x2 * 4) + x3)).toNat) 32 (ze_23 zo_2 zn_2 hh7) w_32 r hr) rfl rfl (Nat.le_of_ble_eq_true rfl) eX9_never_42 (fun v9 nv9 σ8 => ?_)
    refine zr_istore (lv' := [(5, .int (zI v9)), (4, .ref (zad G (zRF 2 (zw ((x2 * 4) + x3)).toNat))), (0, .ref (zad G 0)), (1, .int (zI x1)), (2, .int (zI x2)), (3, .int (zI x3))]) C eX9_never_45 (by decide) rfl ?_
    refine zr_iload C 0 eX9_never_47 rfl ?_
    refine zr_if_ge C eX9_never_49 nv9 ?_ ?_
    · refine zr_aloadn C 2 eX9_never_54 rfl ?_
      refine zr_aloadn C 2 eX9_never_55 rfl ?_
      refine zr_getR C ff_X9_63 rfl zo_0 rfl zf_0_8 eX9_never_56 ?_
      refine zr_iloadn C 3 eX9_never_59 rfl ?_
      refine zr_bipush (a := 101) C eX9_never_60 rfl ?_
      refine zr_callVv C [.ref (zad G 218), .int (zI x1), .int (zI 101)] zy_X9_learn zv_X9_learn lk_X9_226 zrm_4_5_3 zo_0 (by decide) rfl (fun r hr => zqX_learn l G σ8 218 x1 101 zo_218 n1 w_101 r hr) rfl rfl (Nat.le_of_ble_eq_true rfl) eX9_never_62 (fun σ10 => ?_)
      refine zr_iconst C eX9_never_65 rfl ?_
      refine zr_istore (lv' := [(6, .int (zI 0)), (5, .int (zI v9)), (4, .ref (zad G (zRF 2 (zw ((x2 * 4) + x3)).toNat))), (0, .ref (zad G 0)), (1, .int (zI x1)), (2, .int (zI x2)), (3, .int (zI x3))]) C eX9_never_66 (by decide) rfl ?_
      refine zr_iconst C eX9_never_68 rfl ?_
      refine zr_istore (lv' := [(7, .int (zI 0)), (6, .int (zI 0)), (5, .int (zI v9)), (4, .ref (zad G (zRF 2 (zw ((x2 * 4) + x3)).toNat))), (0, .ref (zad G 0)), (1, .int (zI x1)), (2, .int (zI x2)), (3, .int (zI x3))]) C eX9_never_69 (by decide) rfl ?_
      refine zr_lv [4, 3, 2, 1, 0] rfl ?_
      refine wX_never_71 C 5000 (zRF 2 (zw ((x2 * 4) + x3)).toNat) v9 0 0 ((ze_23 zo_2 zn_2 hh7)) nv9 w_0 w_0 σ10
    refine zr_iconst C eX9_never_52 rfl ?_
    exact zr_iret C eX9_never_53
  refine zr_iconst C eX9_never_21 rfl ?_
  exact zr_iret C eX9_never_22
theorem zqX_hand (l : Launch) (G : Zg) (σ : Zm) (x1 : Int) (x2 : Int) (n1 : zw x1 = x1) (n2 : zw x2 = x2) (res : Int × Zm) (he : fX_hand σ x1 x2 = some res) : zM l yX9_hand cX9_hand 3 (some .boolean) 2 G 294 ztt σ [.ref (zad G 0), .int (zI x1), .int (zI x2)] (some (.int (zI res.1))) res.2 := by
  refine zM_of he (by decide +kernel) (Nat.le_of_ble_eq_true rfl) (lv := [(0, .ref (zad G 0)), (1, .int (zI x1)), (2, .int (zI x2))]) rfl (fun p e s m below meth c C => ?_)
  unfold fX_hand
  refine zr_iloadn C 1 eX9_hand_0 rfl ?_
  refine zr_callSi C [.int (zI x1)] zy_X9_isPiece zs_X9_isPiece lk_X9_84 zrm_2_1_1 (fun r hr => zqX_isPiece l G σ x1 n1 r hr) rfl rfl (Nat.le_of_ble_eq_true rfl) eX9_hand_1 (fun v2 nv2 σ1 => ?_)
  refine zr_if_eq C eX9_hand_4 nv2 ?_ ?_
  · refine zr_iconst C eX9_hand_16 rfl ?_
    exact zr_zret C eX9_hand_17 (Or.inl rfl)
  refine zr_iloadn C 2 eX9_hand_7 rfl ?_
  refine zr_iconst C eX9_hand_8 rfl ?_
  refine zr_iconst C eX9_hand_9 rfl ?_
  refine zr_callSi C [.int (zI x2), .int (zI (-1)), .int (zI 3)] zy_X9_within zs_X9_within lk_X9_113 zrm_2_3_0 (fun r hr => zqX_within l G σ1 x2 (-1) 3 n2 w_m1 w_3 r hr) rfl rfl (Nat.le_of_ble_eq_true rfl) eX9_hand_10 (fun v4 nv4 σ3 => ?_)
  refine zr_if_ne C eX9_hand_13 nv4 ?_ ?_
  · refine zr_aloadn C 0 eX9_hand_18 rfl ?_
    refine zr_getR C ff_X9_10 rfl zo_0 rfl zf_0_0 eX9_hand_19 ?_
    refine zr_getR C ff_X9_249 rfl zo_1 rfl zf_1_2 eX9_hand_22 ?_
    refine zr_iloadn C 1 eX9_hand_25 rfl ?_
    refine zr_iloadn C 2 eX9_hand_26 rfl ?_
    refine zr_iast C zo_4 zn_4 n1 eX9_hand_27 (fun σ5 => ?_)
    refine zr_iconst C eX9_hand_28 rfl ?_
    exact zr_zret C eX9_hand_29 (Or.inr rfl)
  refine zr_iconst C eX9_hand_16 rfl ?_
  exact zr_zret C eX9_hand_17 (Or.inl rfl)
theorem zqX_apart (l : Launch) (G : Zg) (σ : Zm) (x1 : Int) (x2 : Int) (n1 : zw x1 = x1) (n2 : zw x2 = x2) (res : Int × Zm) (he : fX_apart σ x1 x2 = some res) : zM l yX9_apart cX9_apart 3 (some .int) 4 G 294 ztt σ [.ref (zad G 0), .int (zI x1), .int (zI x2)] (some (.int (zI res.1))) res.2 := by
  refine zM_of he (by decide +kernel) (Nat.le_of_ble_eq_true rfl) (lv := [(0, .ref (zad G 0)), (1, .int (zI x1)), (2, .int (zI x2))]) rfl (fun p e s m below meth c C => ?_)
  unfold fX_apart
  refine zr_iloadn C 1 eX9_apart_0 rfl ?_
  refine zr_callSi C [.int (zI x1)] zy_X9_isSet zs_X9_isSet lk_X9_223 zrm_4_1_1 (fun r hr => zqX_isSet l G σ x1 n1 r hr) rfl rfl (Nat.le_of_ble_eq_true rfl) eX9_apart_1 (fun v2 nv2 σ1 => ?_)
  refine zr_if_eq C eX9_apart_4 nv2 ?_ ?_
  · refine zr_iconst C eX9_apart_14 rfl ?_
    exact zr_iret C eX9_apart_15
  refine zr_iloadn C 2 eX9_apart_7 rfl ?_
  refine zr_callSi C [.int (zI x2)] zy_X9_isSet zs_X9_isSet lk_X9_223 zrm_4_1_1 (fun r hr => zqX_isSet l G σ1 x2 n2 r hr) rfl rfl (Nat.le_of_ble_eq_true rfl) eX9_apart_8 (fun v4 nv4 σ3 => ?_)
  refine zr_if_ne C eX9_apart_11 nv4 ?_ ?_
  · refine zr_aloadn C 0 eX9_apart_16 rfl ?_
    refine zr_aloadn C 0 eX9_apart_17 rfl ?_
    refine zr_getR C ff_X9_63 rfl zo_0 rfl zf_0_8 eX9_apart_18 ?_
    refine zr_iloadn C 1 eX9_apart_21 rfl ?_
    refine zr_bipush (a := 101) C eX9_apart_22 rfl ?_
    refine zr_callVv C [.ref (zad G 218), .int (zI x1), .int (zI 101)] zy_X9_learn zv_X9_learn lk_X9_226 zrm_4_5_3 zo_0 (by decide) rfl (fun r hr => zqX_learn l G σ3 218 x1 101 zo_218 n1 w_101 r hr) rfl rfl (Nat.le_of_ble_eq_true rfl) eX9_apart_24 (fun σ5 => ?_)
    refine zr_aloadn C 0 eX9_apart_27 rfl ?_
    refine zr_aloadn C 0 eX9_apart_28 rfl ?_
    refine zr_getR C ff_X9_67 rfl zo_0 rfl zf_0_9 eX9_apart_29 ?_
    refine zr_iloadn C 2 eX9_apart_32 rfl ?_
    refine zr_bipush (a := 101) C eX9_apart_33 rfl ?_
    refine zr_callVv C [.ref (zad G 221), .int (zI x2), .int (zI 101)] zy_X9_learn zv_X9_learn lk_X9_226 zrm_4_5_3 zo_0 (by decide) rfl (fun r hr => zqX_learn l G σ5 221 x2 101 zo_221 n2 w_101 r hr) rfl rfl (Nat.le_of_ble_eq_true rfl) eX9_apart_35 (fun σ6 => ?_)
    refine zr_aloadn C 0 eX9_apart_38 rfl ?_
    refine zr_getR C ff_X9_63 rfl zo_0 rfl zf_0_8 eX9_apart_39 ?_
    refine zr_aloadn C 0 eX9_apart_42 rfl ?_
    refine zr_getR C ff_X9_67 rfl zo_0 rfl zf_0_9 eX9_apart_43 ?_
    refine zr_callVi C [.ref (zad G 221)] zy_X8_distanceTo zv_X8_distanceTo lk_X9_252 zrm_4_4_1 zo_218 (by decide) rfl (fun r hr => zqT_distanceTo l G σ6 218 221 zo_218 zo_221 r hr) rfl rfl (Nat.le_of_ble_eq_true rfl) eX9_apart_46 (fun v8 nv8 σ7 => ?_)
    exact zr_iret C eX9_apart_49
  refine zr_iconst C eX9_apart_14 rfl ?_
  exact zr_iret C eX9_apart_15
theorem wX_whose_39 {G : Zg} {p : Program} {l : Launch} {e : Env} {s : State} {m : MethodId} {args : Array Value} {below : List Frame} {meth : Method} {c : Code} (C : zC G p s m args meth c cX9_whose 7 RX9 (some .int)) {res : Int × Zm} : ∀ (n : Nat) (x1 : Int) (x2 : Int) (x3 : Int) (x4 : Int) (x5 : Int) (n1 : zw x1 = x1) (n2 : zw x2 = x2) (n3 : zw x3 = x3) (n4 : zw x4 = x4) (n5 : zw x5 = x5) (σ : Zm), zR G p l e (zrm 4) s m args below meth c 7 0 0 (zQm below args s G 294 ztt (some (.int (zI res.1))) res.2) 294 ztt res σ (fX_whose_39 n x1 x2 x3 x4 x5 σ) [(0, .ref (zad G 0)), (1, .int (zI x1)), (2, .int (zI x2)), (3, .int (zI x3)), (4, .int (zI x4)), (5, .int (zI x5))] 39 []
  | 0, _, _, _, _, _, _, _, _, _, _, _ => zr_none
  | n + 1, x1, x2, x3, x4, x5, n1, n2, n3, n4, n5, σ => by
    have ih := fun (x1 : Int) (x2 : Int) (x3 : Int) (x4 : Int) (x5 : Int) (n1 : zw x1 = x1) (n2 : zw x2 = x2) (n3 : zw x3 = x3) (n4 : zw x4 = x4) (n5 : zw x5 = x5) (σ : Zm) => wX_whose_39 (l := l) (e := e) (below := below) C (res := res) n x1 x2 x3 x4 x5 n1 n2 n3 n4 n5 σ
    rw [fX_whose_39]
    refine zr_letf (fun R0 hR0 => ?_)
    have ih : ∀ (x1 : Int) (x2 : Int) (x3 : Int) (x4 : Int) (x5 : Int) (n1 : zw x1 = x1) (n2 : zw x2 = x2) (n3 : zw x3 = x3) (n4 : zw x4 = x4) (n5 : zw x5 = x5) (σ : Zm), zR G p l e (zrm 4) s m args below meth c 7 0 0 (zQm below args s G 294 ztt (some (.int (zI res.1))) res.2) 294 ztt res σ (R0 x1 x2 x3 x4 x5 σ) [(0, .ref (zad G 0)), (1, .int (zI x1)), (2, .int (zI x2)), (3, .int (zI x3)), (4, .int (zI x4)), (5, .int (zI x5))] 39 [] := by rw [hR0]; exact ih
    clear hR0
    refine zr_iload C 5 eX9_whose_39 rfl ?_
    refine zr_iconst C eX9_whose_41 rfl ?_
    refine zr_icmp_ge C eX9_whose_42 n5 w_4 ?_ ?_
    · refine zr_iloadn C 2 eX9_whose_114 rfl ?_
      refine zr_if_ne C eX9_whose_115 n2 ?_ ?_
      · refine zr_iload C 4 eX9_whose_122 rfl ?_
        exact zr_iret C eX9_whose_124
      refine zr_iloadn C 3 eX9_whose_118 rfl ?_
      refine zr_goto C eX9_whose_119 ?_
      exact zr_iret C eX9_whose_124
    refine zr_aloadn C 0 eX9_whose_45 rfl ?_
    refine zr_aloadn C 0 eX9_whose_46 rfl ?_
    refine zr_getR C ff_X9_67 rfl zo_0 rfl zf_0_9 eX9_whose_47 ?_
    refine zr_aloadn C 0 eX9_whose_50 rfl ?_
    refine zr_getR C ff_X9_10 rfl zo_0 rfl zf_0_0 eX9_whose_51 ?_
    refine zr_iload C 5 eX9_whose_54 rfl ?_
    refine zr_callVi C [.int (zI x5)] zy_X7_piecesOf zv_X7_piecesOf lk_X9_255 zrm_4_4_0 zo_1 (by decide) rfl (fun r hr => zqS_piecesOf l G σ 1 x5 zo_1 n5 r hr) rfl rfl (Nat.le_of_ble_eq_true rfl) eX9_whose_56 (fun v7 nv7 σ6 => ?_)
    refine zr_iconst C eX9_whose_59 rfl ?_
    refine zr_iloadn C 1 eX9_whose_60 rfl ?_
    refine zr_ishl C eX9_whose_61 ?_
    refine zr_iconst C eX9_whose_62 rfl ?_
    refine zr_ixor C eX9_whose_63 ?_
    refine zr_iand C eX9_whose_64 ?_
    refine zr_bipush (a := 101) C eX9_whose_65 rfl ?_
    refine zr_callVv C [.ref (zad G 221), .int (zI (zand v7 (zxor (zshl 1 x1) (-1)))), .int (zI 101)] zy_X9_learn zv_X9_learn lk_X9_226 zrm_4_5_3 zo_0 (by decide) rfl (fun r hr => zqX_learn l G σ6 221 (zand v7 (zxor (zshl 1 x1) (-1))) 101 zo_221 (zw_n _) w_101 r hr) rfl rfl (Nat.le_of_ble_eq_true rfl) eX9_whose_67 (fun σ8 => ?_)
    refine zr_aloadn C 0 eX9_whose_70 rfl ?_
    refine zr_getR C ff_X9_63 rfl zo_0 rfl zf_0_8 eX9_whose_71 ?_
    refine zr_aloadn C 0 eX9_whose_74 rfl ?_
    refine zr_getR C ff_X9_67 rfl zo_0 rfl zf_0_9 eX9_whose_75 ?_
    refine zr_callVi C [.ref (zad G 221)] zy_X8_distanceTo zv_X8_distanceTo lk_X9_252 zrm_4_4_1 zo_218 (by decide) rfl (fun r hr => zqT_distanceTo l G σ8 218 221 zo_218 zo_221 r hr) rfl rfl (Nat.le_of_ble_eq_true rfl) eX9_whose_78 (fun v10 nv10 σ9 => ?_)
    refine zr_istore (lv' := [(6, .int (zI v10)), (0, .ref (zad G 0)), (1, .int (zI x1)), (2, .int (zI x2)), (3, .int (zI x3)), (4, .int (zI x4)), (5, .int (zI x5))]) C eX9_whose_81 (by decide) rfl ?_
    refine zr_iload C 0 eX9_whose_83 rfl ?_
    refine zr_iconst C eX9_whose_85 rfl ?_
    refine zr_icmp_eq C eX9_whose_86 nv10 w_m1 ?_ ?_
    · refine zr_iinc (lv' := [(5, .int (zI (x5 + 1))), (6, .int (zI v10)), (0, .ref (zad G 0)), (1, .int (zI x1)), (2, .int (zI x2)), (3, .int (zI x3)), (4, .int (zI x4))]) C 6 eX9_whose_108 rfl (by decide) rfl ?_
      refine zr_goto C eX9_whose_111 ?_
      refine zr_lv [2, 3, 4, 5, 6, 0] rfl ?_
      exact zr_lve (zs_p (zs_p (zs_p (zs_p (zs_p (zs_pi (zI_w (x5 + 1)).symm rfl)))))) (ih x1 x2 x3 x4 (zw (x5 + 1)) n1 n2 n3 n4 (zw_w (x5 + 1)) _)
    refine zr_iloadn C 4 eX9_whose_89 rfl ?_
    refine zr_iconst C eX9_whose_90 rfl ?_
    refine zr_icmp_eq C eX9_whose_91 n3 w_m1 ?_ ?_
    · refine zr_iload C 6 eX9_whose_101 rfl ?_
      refine zr_istoren (lv' := [(3, .int (zI x5)), (6, .int (zI v10)), (0, .ref (zad G 0)), (1, .int (zI x1)), (2, .int (zI x2)), (4, .int (zI x4)), (5, .int (zI x5))]) C eX9_whose_103 (by decide) rfl ?_
      refine zr_iload C 1 eX9_whose_104 rfl ?_
      refine zr_istore (lv' := [(4, .int (zI v10)), (3, .int (zI x5)), (6, .int (zI v10)), (0, .ref (zad G 0)), (1, .int (zI x1)), (2, .int (zI x2)), (5, .int (zI x5))]) C eX9_whose_106 (by decide) rfl ?_
      refine zr_iinc (lv' := [(5, .int (zI (x5 + 1))), (4, .int (zI v10)), (3, .int (zI x5)), (6, .int (zI v10)), (0, .ref (zad G 0)), (1, .int (zI x1)), (2, .int (zI x2))]) C 6 eX9_whose_108 rfl (by decide) rfl ?_
      refine zr_goto C eX9_whose_111 ?_
      refine zr_lv [4, 5, 6, 2, 1, 0] rfl ?_
      exact zr_lve (zs_p (zs_p (zs_p (zs_p (zs_p (zs_pi (zI_w (x5 + 1)).symm rfl)))))) (ih x1 x2 x5 v10 (zw (x5 + 1)) n1 n2 n5 nv10 (zw_w (x5 + 1)) _)
    refine zr_iload C 0 eX9_whose_94 rfl ?_
    refine zr_iload C 5 eX9_whose_96 rfl ?_
    refine zr_icmp_ge C eX9_whose_98 nv10 n4 ?_ ?_
    · refine zr_iinc (lv' := [(5, .int (zI (x5 + 1))), (6, .int (zI v10)), (0, .ref (zad G 0)), (1, .int (zI x1)), (2, .int (zI x2)), (3, .int (zI x3)), (4, .int (zI x4))]) C 6 eX9_whose_108 rfl (by decide) rfl ?_
      refine zr_goto C eX9_whose_111 ?_
      refine zr_lv [2, 3, 4, 5, 6, 0] rfl ?_
      exact zr_lve (zs_p (zs_p (zs_p (zs_p (zs_p (zs_pi (zI_w (x5 + 1)).symm rfl)))))) (ih x1 x2 x3 x4 (zw (x5 + 1)) n1 n2 n3 n4 (zw_w (x5 + 1)) _)
    refine zr_iload C 6 eX9_whose_101 rfl ?_
    refine zr_istoren (lv' := [(3, .int (zI x5)), (6, .int (zI v10)), (0, .ref (zad G 0)), (1, .int (zI x1)), (2, .int (zI x2)), (4, .int (zI x4)), (5, .int (zI x5))]) C eX9_whose_103 (by decide) rfl ?_
    refine zr_iload C 1 eX9_whose_104 rfl ?_
    refine zr_istore (lv' := [(4, .int (zI v10)), (3, .int (zI x5)), (6, .int (zI v10)), (0, .ref (zad G 0)), (1, .int (zI x1)), (2, .int (zI x2)), (5, .int (zI x5))]) C eX9_whose_106 (by decide) rfl ?_
    refine zr_iinc (lv' := [(5, .int (zI (x5 + 1))), (4, .int (zI v10)), (3, .int (zI x5)), (6, .int (zI v10)), (0, .ref (zad G 0)), (1, .int (zI x1)), (2, .int (zI x2))]) C 6 eX9_whose_108 rfl (by decide) rfl ?_
    refine zr_goto C eX9_whose_111 ?_
    refine zr_lv [4, 5, 6, 2, 1, 0] rfl ?_
    exact zr_lve (zs_p (zs_p (zs_p (zs_p (zs_p (zs_pi (zI_w (x5 + 1)).symm rfl)))))) (ih x1 x2 x5 v10 (zw (x5 + 1)) n1 n2 n5 nv10 (zw_w (x5 + 1)) _)
theorem zqX_whose (l : Launch) (G : Zg) (σ : Zm) (x1 : Int) (x2 : Int) (n1 : zw x1 = x1) (n2 : zw x2 = x2) (res : Int × Zm) (he : fX_whose σ x1 x2 = some res) : zM l yX9_whose cX9_whose 7 (some .int) 4 G 294 ztt σ [.ref (zad G 0), .int (zI x1), .int (zI x2)] (some (.int (zI res.1))) res.2 := by
  refine zM_of he (by decide +kernel) (Nat.le_of_ble_eq_true rfl) (lv := [(0, .ref (zad G 0)), (1, .int (zI x1)), (2, .int (zI x2))]) rfl (fun p e s m below meth c C => ?_)
  unfold fX_whose
  refine zr_iloadn C 1 eX9_whose_0 rfl ?_
  refine zr_callSi C [.int (zI x1)] zy_X9_isPiece zs_X9_isPiece lk_X9_84 zrm_4_1_1 (fun r hr => zqX_isPiece l G σ x1 n1 r hr) rfl rfl (Nat.le_of_ble_eq_true rfl) eX9_whose_1 (fun v2 nv2 σ1 => ?_)
  refine zr_if_eq C eX9_whose_4 nv2 ?_ ?_
  · refine zr_iconst C eX9_whose_16 rfl ?_
    exact zr_iret C eX9_whose_17
  refine zr_iloadn C 2 eX9_whose_7 rfl ?_
  refine zr_iconst C eX9_whose_8 rfl ?_
  refine zr_iconst C eX9_whose_9 rfl ?_
  refine zr_callSi C [.int (zI x2), .int (zI 0), .int (zI 1)] zy_X9_within zs_X9_within lk_X9_113 zrm_4_3_0 (fun r hr => zqX_within l G σ1 x2 0 1 n2 w_0 w_1 r hr) rfl rfl (Nat.le_of_ble_eq_true rfl) eX9_whose_10 (fun v4 nv4 σ3 => ?_)
  refine zr_if_ne C eX9_whose_13 nv4 ?_ ?_
  · refine zr_aloadn C 0 eX9_whose_18 rfl ?_
    refine zr_aloadn C 0 eX9_whose_19 rfl ?_
    refine zr_getR C ff_X9_63 rfl zo_0 rfl zf_0_8 eX9_whose_20 ?_
    refine zr_iconst C eX9_whose_23 rfl ?_
    refine zr_iloadn C 1 eX9_whose_24 rfl ?_
    refine zr_ishl C eX9_whose_25 ?_
    refine zr_bipush (a := 101) C eX9_whose_26 rfl ?_
    refine zr_callVv C [.ref (zad G 218), .int (zI (zshl 1 x1)), .int (zI 101)] zy_X9_learn zv_X9_learn lk_X9_226 zrm_4_5_3 zo_0 (by decide) rfl (fun r hr => zqX_learn l G σ3 218 (zshl 1 x1) 101 zo_218 (zw_n _) w_101 r hr) rfl rfl (Nat.le_of_ble_eq_true rfl) eX9_whose_28 (fun σ5 => ?_)
    refine zr_iconst C eX9_whose_31 rfl ?_
    refine zr_istoren (lv' := [(3, .int (zI (-1))), (0, .ref (zad G 0)), (1, .int (zI x1)), (2, .int (zI x2))]) C eX9_whose_32 (by decide) rfl ?_
    refine zr_iconst C eX9_whose_33 rfl ?_
    refine zr_istore (lv' := [(4, .int (zI (-1))), (3, .int (zI (-1))), (0, .ref (zad G 0)), (1, .int (zI x1)), (2, .int (zI x2))]) C eX9_whose_34 (by decide) rfl ?_
    refine zr_iconst C eX9_whose_36 rfl ?_
    refine zr_istore (lv' := [(5, .int (zI 0)), (4, .int (zI (-1))), (3, .int (zI (-1))), (0, .ref (zad G 0)), (1, .int (zI x1)), (2, .int (zI x2))]) C eX9_whose_37 (by decide) rfl ?_
    refine zr_lv [3, 4, 5, 2, 1, 0] rfl ?_
    refine wX_whose_39 C 5000 x1 x2 (-1) (-1) 0 n1 n2 w_m1 w_m1 w_0 σ5
  refine zr_iconst C eX9_whose_16 rfl ?_
  exact zr_iret C eX9_whose_17
theorem wX_isEnding_10 {G : Zg} {p : Program} {l : Launch} {e : Env} {s : State} {m : MethodId} {args : Array Value} {below : List Frame} {meth : Method} {c : Code} (C : zC G p s m args meth c cX9_isEnding 5 RX9 (some .boolean)) {res : Int × Zm} : ∀ (n : Nat) (x1 : Int) (x2 : Int) (x3 : Int) (x4 : Int) (n1 : zw x1 = x1) (n2 : zw x2 = x2) (n3 : zw x3 = x3) (n4 : zw x4 = x4) (σ : Zm), zR G p l e (zrm 1) s m args below meth c 5 0 0 (zQm below args s G 294 ztt (some (.int (zI res.1))) res.2) 294 ztt res σ (fX_isEnding_10 n x1 x2 x3 x4 σ) [(0, .ref (zad G 0)), (1, .int (zI x1)), (2, .int (zI x2)), (3, .int (zI x3)), (4, .int (zI x4))] 10 []
  | 0, _, _, _, _, _, _, _, _, _ => zr_none
  | n + 1, x1, x2, x3, x4, n1, n2, n3, n4, σ => by
    have ih := fun (x1 : Int) (x2 : Int) (x3 : Int) (x4 : Int) (n1 : zw x1 = x1) (n2 : zw x2 = x2) (n3 : zw x3 = x3) (n4 : zw x4 = x4) (σ : Zm) => wX_isEnding_10 (l := l) (e := e) (below := below) C (res := res) n x1 x2 x3 x4 n1 n2 n3 n4 σ
    rw [fX_isEnding_10]
    refine zr_letf (fun R0 hR0 => ?_)
    have ih : ∀ (x1 : Int) (x2 : Int) (x3 : Int) (x4 : Int) (n1 : zw x1 = x1) (n2 : zw x2 = x2) (n3 : zw x3 = x3) (n4 : zw x4 = x4) (σ : Zm), zR G p l e (zrm 1) s m args below meth c 5 0 0 (zQm below args s G 294 ztt (some (.int (zI res.1))) res.2) 294 ztt res σ (R0 x1 x2 x3 x4 σ) [(0, .ref (zad G 0)), (1, .int (zI x1)), (2, .int (zI x2)), (3, .int (zI x3)), (4, .int (zI x4))] 10 [] := by rw [hR0]; exact ih
    clear hR0
    refine zr_iload C 4 eX9_isEnding_10 rfl ?_
    refine zr_iconst C eX9_isEnding_12 rfl ?_
    refine zr_icmp_ge C eX9_isEnding_13 n4 w_4 ?_ ?_
    · refine zr_iconst C eX9_isEnding_59 rfl ?_
      exact zr_zret C eX9_isEnding_60 (Or.inr rfl)
    refine zr_aloadn C 0 eX9_isEnding_16 rfl ?_
    refine zr_getR C ff_X9_10 rfl zo_0 rfl zf_0_0 eX9_isEnding_17 ?_
    refine zr_getR C ff_X9_98 rfl zo_1 rfl zf_1_0 eX9_isEnding_20 ?_
    refine zr_iloadn C 1 eX9_isEnding_23 rfl ?_
    refine zr_iconst C eX9_isEnding_24 rfl ?_
    refine zr_imul C eX9_isEnding_25 ?_
    refine zr_iload C 4 eX9_isEnding_26 rfl ?_
    refine zr_iadd C eX9_isEnding_28 ?_
    refine zr_aald23 C zo_2 zn_2 rfl (fun _ _ => rfl) eX9_isEnding_29 (fun hh1 => ?_)
    refine zr_aloadn C 0 eX9_isEnding_30 rfl ?_
    refine zr_getR C ff_X9_10 rfl zo_0 rfl zf_0_0 eX9_isEnding_31 ?_
    refine zr_getR C ff_X9_98 rfl zo_1 rfl zf_1_0 eX9_isEnding_34 ?_
    refine zr_iloadn C 2 eX9_isEnding_37 rfl ?_
    refine zr_iconst C eX9_isEnding_38 rfl ?_
    refine zr_imul C eX9_isEnding_39 ?_
    refine zr_iload C 4 eX9_isEnding_40 rfl ?_
    refine zr_iadd C eX9_isEnding_42 ?_
    refine zr_aald23 C zo_2 zn_2 rfl (fun _ _ => rfl) eX9_isEnding_43 (fun hh2 => ?_)
    refine zr_iloadn C 3 eX9_isEnding_44 rfl ?_
    refine zr_callVi C [.ref (zad G (zRF 2 (zw ((x2 * 4) + x4)).toNat)), .int (zI x3)] zy_X3_isLike zv_X3_isLike lk_X9_329 zrm_1_4_0 (ze_23 zo_2 zn_2 hh1) (by decide) rfl (fun r hr => zqL_isLike l G σ (zRF 2 (zw ((x1 * 4) + x4)).toNat) (zRF 2 (zw ((x2 * 4) + x4)).toNat) x3 (ze_23 zo_2 zn_2 hh1) (ze_23 zo_2 zn_2 hh2) n3 r hr) rfl rfl (Nat.le_of_ble_eq_true rfl) eX9_isEnding_45 (fun v4 nv4 σ3 => ?_)
    refine zr_if_ne C eX9_isEnding_48 nv4 ?_ ?_
    · refine zr_iinc (lv' := [(4, .int (zI (x4 + 1))), (0, .ref (zad G 0)), (1, .int (zI x1)), (2, .int (zI x2)), (3, .int (zI x3))]) C 4 eX9_isEnding_53 rfl (by decide) rfl ?_
      refine zr_goto C eX9_isEnding_56 ?_
      refine zr_lv [1, 2, 3, 4, 0] rfl ?_
      exact zr_lve (zs_p (zs_p (zs_p (zs_p (zs_pi (zI_w (x4 + 1)).symm rfl))))) (ih x1 x2 x3 (zw (x4 + 1)) n1 n2 n3 (zw_w (x4 + 1)) _)
    refine zr_iconst C eX9_isEnding_51 rfl ?_
    exact zr_zret C eX9_isEnding_52 (Or.inl rfl)
theorem zqX_isEnding (l : Launch) (G : Zg) (σ : Zm) (x1 : Int) (x2 : Int) (x3 : Int) (n1 : zw x1 = x1) (n2 : zw x2 = x2) (n3 : zw x3 = x3) (res : Int × Zm) (he : fX_isEnding σ x1 x2 x3 = some res) : zM l yX9_isEnding cX9_isEnding 5 (some .boolean) 1 G 294 ztt σ [.ref (zad G 0), .int (zI x1), .int (zI x2), .int (zI x3)] (some (.int (zI res.1))) res.2 := by
  refine zM_of he (by decide +kernel) (Nat.le_of_ble_eq_true rfl) (lv := [(0, .ref (zad G 0)), (1, .int (zI x1)), (2, .int (zI x2)), (3, .int (zI x3))]) rfl (fun p e s m below meth c C => ?_)
  unfold fX_isEnding
  refine zr_iloadn C 1 eX9_isEnding_0 rfl ?_
  refine zr_iloadn C 2 eX9_isEnding_1 rfl ?_
  refine zr_icmp_ne C eX9_isEnding_2 n1 n2 ?_ ?_
  · refine zr_iconst C eX9_isEnding_7 rfl ?_
    refine zr_istore (lv' := [(4, .int (zI 0)), (0, .ref (zad G 0)), (1, .int (zI x1)), (2, .int (zI x2)), (3, .int (zI x3))]) C eX9_isEnding_8 (by decide) rfl ?_
    refine zr_lv [1, 2, 3, 4, 0] rfl ?_
    refine wX_isEnding_10 C 5000 x1 x2 x3 0 n1 n2 n3 w_0 σ
  refine zr_iconst C eX9_isEnding_5 rfl ?_
  exact zr_zret C eX9_isEnding_6 (Or.inl rfl)
theorem zqX_worth (l : Launch) (G : Zg) (σ : Zm) (x1 : Int) (x2 : Int) (x3 : Int) (x4 : Int) (n1 : zw x1 = x1) (n2 : zw x2 = x2) (n3 : zw x3 = x3) (n4 : zw x4 = x4) (res : Int × Zm) (he : fX_worth σ x1 x2 x3 x4 = some res) : zM l yX9_worth cX9_worth 5 (some .int) 5 G 294 ztt σ [.ref (zad G 0), .int (zI x1), .int (zI x2), .int (zI x3), .int (zI x4)] (some (.int (zI res.1))) res.2 := by
  refine zM_of he (by decide +kernel) (Nat.le_of_ble_eq_true rfl) (lv := [(0, .ref (zad G 0)), (1, .int (zI x1)), (2, .int (zI x2)), (3, .int (zI x3)), (4, .int (zI x4))]) rfl (fun p e s m below meth c C => ?_)
  unfold fX_worth
  refine zr_aloadn C 0 eX9_worth_0 rfl ?_
  refine zr_getR C ff_X9_35 rfl zo_0 rfl zf_0_4 eX9_worth_1 ?_
  refine zr_aloadn C 0 eX9_worth_4 rfl ?_
  refine zr_getR C ff_X9_10 rfl zo_0 rfl zf_0_0 eX9_worth_5 ?_
  refine zr_getI C ff_X9_134 zo_1 eX9_worth_8 (fun v1 nv1 => ?_)
  refine zr_iconst C eX9_worth_11 rfl ?_
  refine zr_callVv C [.int (zI v1), .int (zI (-1))] zy_X2_begin zv_X2_begin lk_X9_167 zrm_5_3_1 zo_153 (by decide) rfl (fun r hr => zqJ_begin l G σ 153 v1 (-1) zo_153 nv1 w_m1 r hr) rfl rfl (Nat.le_of_ble_eq_true rfl) eX9_worth_12 (fun σ2 => ?_)
  refine zr_aloadn C 0 eX9_worth_15 rfl ?_
  refine zr_getR C ff_X9_35 rfl zo_0 rfl zf_0_4 eX9_worth_16 ?_
  refine zr_aloadn C 0 eX9_worth_19 rfl ?_
  refine zr_getR C ff_X9_21 rfl zo_0 rfl zf_0_2 eX9_worth_20 ?_
  refine zr_iloadn C 1 eX9_worth_23 rfl ?_
  refine zr_aald24 C zo_149 zn_149 n1 (fun _ _ => rfl) eX9_worth_24 (fun hh3 => ?_)
  refine zr_aloadn C 0 eX9_worth_25 rfl ?_
  refine zr_getR C ff_X9_10 rfl zo_0 rfl zf_0_0 eX9_worth_26 ?_
  refine zr_getR C ff_X9_98 rfl zo_1 rfl zf_1_0 eX9_worth_29 ?_
  refine zr_iloadn C 3 eX9_worth_32 rfl ?_
  refine zr_iconst C eX9_worth_33 rfl ?_
  refine zr_imul C eX9_worth_34 ?_
  refine zr_iload C 4 eX9_worth_35 rfl ?_
  refine zr_callVv C [.ref (zad G (zRF 149 x1.toNat)), .ref (zad G 2), .int (zI (zw (x3 * 4))), .int (zI x4)] zy_X2_askPiece zv_X2_askPiece lk_X9_170 zrm_5_10_4 zo_153 (by decide) rfl (fun r hr => zqJ_askPiece l G σ2 153 (zRF 149 x1.toNat) 2 (zw (x3 * 4)) x4 zo_153 (ze_24 zo_149 zn_149 hh3) zo_2 (zw_w (x3 * 4)) n4 r hr) rfl (zs_k (zs_i (zI_w (x3 * 4)).symm (zs_k (zs_k rfl)))) (Nat.le_of_ble_eq_true rfl) eX9_worth_37 (fun σ4 => ?_)
  refine zr_aloadn C 0 eX9_worth_40 rfl ?_
  refine zr_aloadn C 0 eX9_worth_41 rfl ?_
  refine zr_getR C ff_X9_67 rfl zo_0 rfl zf_0_9 eX9_worth_42 ?_
  refine zr_iloadn C 2 eX9_worth_45 rfl ?_
  refine zr_iconst C eX9_worth_46 rfl ?_
  refine zr_iloadn C 3 eX9_worth_47 rfl ?_
  refine zr_ishl C eX9_worth_48 ?_
  refine zr_iconst C eX9_worth_49 rfl ?_
  refine zr_ixor C eX9_worth_50 ?_
  refine zr_iand C eX9_worth_51 ?_
  refine zr_bipush (a := 101) C eX9_worth_52 rfl ?_
  refine zr_callVv C [.ref (zad G 221), .int (zI (zand x2 (zxor (zshl 1 x3) (-1)))), .int (zI 101)] zy_X9_learn zv_X9_learn lk_X9_226 zrm_5_5_3 zo_0 (by decide) rfl (fun r hr => zqX_learn l G σ4 221 (zand x2 (zxor (zshl 1 x3) (-1))) 101 zo_221 (zw_n _) w_101 r hr) rfl rfl (Nat.le_of_ble_eq_true rfl) eX9_worth_54 (fun σ5 => ?_)
  refine zr_aloadn C 0 eX9_worth_57 rfl ?_
  refine zr_aloadn C 0 eX9_worth_58 rfl ?_
  refine zr_getR C ff_X9_63 rfl zo_0 rfl zf_0_8 eX9_worth_59 ?_
  refine zr_iconst C eX9_worth_62 rfl ?_
  refine zr_iloadn C 3 eX9_worth_63 rfl ?_
  refine zr_ishl C eX9_worth_64 ?_
  refine zr_bipush (a := 101) C eX9_worth_65 rfl ?_
  refine zr_callVv C [.ref (zad G 218), .int (zI (zshl 1 x3)), .int (zI 101)] zy_X9_learn zv_X9_learn lk_X9_226 zrm_5_5_3 zo_0 (by decide) rfl (fun r hr => zqX_learn l G σ5 218 (zshl 1 x3) 101 zo_218 (zw_n _) w_101 r hr) rfl rfl (Nat.le_of_ble_eq_true rfl) eX9_worth_67 (fun σ6 => ?_)
  refine zr_aloadn C 0 eX9_worth_70 rfl ?_
  refine zr_getR C ff_X9_35 rfl zo_0 rfl zf_0_4 eX9_worth_71 ?_
  refine zr_getI C ff_X9_174 zo_153 eX9_worth_74 (fun v7 nv7 => ?_)
  refine zr_iconst C eX9_worth_77 rfl ?_
  refine zr_aloadn C 0 eX9_worth_78 rfl ?_
  refine zr_getR C ff_X9_63 rfl zo_0 rfl zf_0_8 eX9_worth_79 ?_
  refine zr_aloadn C 0 eX9_worth_82 rfl ?_
  refine zr_getR C ff_X9_67 rfl zo_0 rfl zf_0_9 eX9_worth_83 ?_
  refine zr_callVi C [.ref (zad G 221)] zy_X8_strangeBy zv_X8_strangeBy lk_X9_233 zrm_5_5_1 zo_218 (by decide) rfl (fun r hr => zqT_strangeBy l G σ6 218 221 zo_218 zo_221 r hr) rfl rfl (Nat.le_of_ble_eq_true rfl) eX9_worth_86 (fun v9 nv9 σ8 => ?_)
  refine zr_mmax C lk_X9_290 zy_mmax zrm_5_2_0 (Nat.le_of_ble_eq_true rfl) w_0 nv9 eX9_worth_89 (fun v10 nv10 => ?_)
  refine zr_iadd C eX9_worth_92 ?_
  exact zr_iret C eX9_worth_93
theorem wX_endings_104 {G : Zg} {p : Program} {l : Launch} {e : Env} {s : State} {m : MethodId} {args : Array Value} {below : List Frame} {meth : Method} {c : Code} (C : zC G p s m args meth c cX9_endings 11 RX9 (some .int)) {res : Int × Zm} : ∀ (n : Nat) (x1 : Int) (x2 : Int) (x3 : Int) (x4 : Int) (x5 : Int) (x6 : Int) (x7 : Int) (x8 : Int) (x9 : Int) (n1 : zw x1 = x1) (n2 : zw x2 = x2) (n3 : zw x3 = x3) (n4 : zw x4 = x4) (n5 : zw x5 = x5) (n6 : zw x6 = x6) (n7 : zw x7 = x7) (n8 : zw x8 = x8) (n9 : zw x9 = x9) (σ : Zm), zR G p l e (zrm 6) s m args below meth c 11 0 0 (zQm below args s G 294 ztt (some (.int (zI res.1))) res.2) 294 ztt res σ (fX_endings_104 n x1 x2 x3 x4 x5 x6 x7 x8 x9 σ) [(0, .ref (zad G 0)), (1, .int (zI x1)), (2, .int (zI x2)), (3, .int (zI x3)), (4, .int (zI x4)), (5, .int (zI x5)), (6, .int (zI x6)), (7, .int (zI x7)), (8, .int (zI x8)), (9, .int (zI x9))] 104 []
  | 0, _, _, _, _, _, _, _, _, _, _, _, _, _, _, _, _, _, _, _ => zr_none
  | n + 1, x1, x2, x3, x4, x5, x6, x7, x8, x9, n1, n2, n3, n4, n5, n6, n7, n8, n9, σ => by
    have ih := fun (x1 : Int) (x2 : Int) (x3 : Int) (x4 : Int) (x5 : Int) (x6 : Int) (x7 : Int) (x8 : Int) (x9 : Int) (n1 : zw x1 = x1) (n2 : zw x2 = x2) (n3 : zw x3 = x3) (n4 : zw x4 = x4) (n5 : zw x5 = x5) (n6 : zw x6 = x6) (n7 : zw x7 = x7) (n8 : zw x8 = x8) (n9 : zw x9 = x9) (σ : Zm) => wX_endings_104 (l := l) (e := e) (below := below) C (res := res) n x1 x2 x3 x4 x5 x6 x7 x8 x9 n1 n2 n3 n4 n5 n6 n7 n8 n9 σ
    rw [fX_endings_104]
    refine zr_letf (fun R0 hR0 => ?_)
    have ih : ∀ (x1 : Int) (x2 : Int) (x3 : Int) (x4 : Int) (x5 : Int) (x6 : Int) (x7 : Int) (x8 : Int) (x9 : Int) (n1 : zw x1 = x1) (n2 : zw x2 = x2) (n3 : zw x3 = x3) (n4 : zw x4 = x4) (n5 : zw x5 = x5) (n6 : zw x6 = x6) (n7 : zw x7 = x7) (n8 : zw x8 = x8) (n9 : zw x9 = x9) (σ : Zm), zR G p l e (zrm 6) s m args below meth c 11 0 0 (zQm below args s G 294 ztt (some (.int (zI res.1))) res.2) 294 ztt res σ (R0 x1 x2 x3 x4 x5 x6 x7 x8 x9 σ) [(0, .ref (zad G 0)), (1, .int (zI x1)), (2, .int (zI x2)), (3, .int (zI x3)), (4, .int (zI x4)), (5, .int (zI x5)), (6, .int (zI x6)), (7, .int (zI x7)), (8, .int (zI x8)), (9, .int (zI x9))] 104 [] := by rw [hR0]; exact ih
    clear hR0
    refine zr_iload C 9 eX9_endings_104 rfl ?_
    refine zr_iconst C eX9_endings_106 rfl ?_
    refine zr_icmp_ge C eX9_endings_107 n9 w_4 ?_ ?_
    · refine zr_iload C 5 eX9_endings_167 rfl ?_
      refine zr_if_ne C eX9_endings_169 n5 ?_ ?_
      · refine zr_iload C 7 eX9_endings_177 rfl ?_
        exact zr_iret C eX9_endings_179
      refine zr_iload C 6 eX9_endings_172 rfl ?_
      refine zr_goto C eX9_endings_174 ?_
      exact zr_iret C eX9_endings_179
    refine zr_aloadn C 0 eX9_endings_110 rfl ?_
    refine zr_iloadn C 3 eX9_endings_111 rfl ?_
    refine zr_iload C 9 eX9_endings_112 rfl ?_
    refine zr_iload C 4 eX9_endings_114 rfl ?_
    refine zr_callVi C [.int (zI x3), .int (zI x9), .int (zI x4)] zy_X9_isEnding zv_X9_isEnding lk_X9_258 zrm_6_5_1 zo_0 (by decide) rfl (fun r hr => zqX_isEnding l G σ x3 x9 x4 n3 n9 n4 r hr) rfl rfl (Nat.le_of_ble_eq_true rfl) eX9_endings_116 (fun v14 nv14 σ13 => ?_)
    refine zr_if_ne C eX9_endings_119 nv14 ?_ ?_
    · refine zr_iinc (lv' := [(6, .int (zI (x6 + 1))), (0, .ref (zad G 0)), (1, .int (zI x1)), (2, .int (zI x2)), (3, .int (zI x3)), (4, .int (zI x4)), (5, .int (zI x5)), (7, .int (zI x7)), (8, .int (zI x8)), (9, .int (zI x9))]) C 6 eX9_endings_125 rfl (by decide) rfl ?_
      refine zr_aloadn C 1 eX9_endings_128 rfl ?_
      refine zr_iloadn C 2 eX9_endings_129 rfl ?_
      refine zr_iloadn C 3 eX9_endings_130 rfl ?_
      refine zr_iload C 9 eX9_endings_131 rfl ?_
      refine zr_iload C 5 eX9_endings_133 rfl ?_
      refine zr_callVi C [.int (zI x1), .int (zI x2), .int (zI x9), .int (zI x4)] zy_X9_worth zv_X9_worth lk_X9_261 zrm_6_5_5 zo_0 (by decide) rfl (fun r hr => zqX_worth l G σ13 x1 x2 x9 x4 n1 n2 n9 n4 r hr) rfl rfl (Nat.le_of_ble_eq_true rfl) eX9_endings_135 (fun v16 nv16 σ15 => ?_)
      refine zr_istore (lv' := [(10, .int (zI v16)), (6, .int (zI (x6 + 1))), (0, .ref (zad G 0)), (1, .int (zI x1)), (2, .int (zI x2)), (3, .int (zI x3)), (4, .int (zI x4)), (5, .int (zI x5)), (7, .int (zI x7)), (8, .int (zI x8)), (9, .int (zI x9))]) C eX9_endings_138 (by decide) rfl ?_
      refine zr_iload C 8 eX9_endings_140 rfl ?_
      refine zr_iconst C eX9_endings_142 rfl ?_
      refine zr_icmp_eq C eX9_endings_143 n7 w_m1 ?_ ?_
      · refine zr_iload C 10 eX9_endings_153 rfl ?_
        refine zr_istore (lv' := [(7, .int (zI x9)), (10, .int (zI v16)), (6, .int (zI (x6 + 1))), (0, .ref (zad G 0)), (1, .int (zI x1)), (2, .int (zI x2)), (3, .int (zI x3)), (4, .int (zI x4)), (5, .int (zI x5)), (8, .int (zI x8)), (9, .int (zI x9))]) C eX9_endings_155 (by decide) rfl ?_
        refine zr_iload C 1 eX9_endings_157 rfl ?_
        refine zr_istore (lv' := [(8, .int (zI v16)), (7, .int (zI x9)), (10, .int (zI v16)), (6, .int (zI (x6 + 1))), (0, .ref (zad G 0)), (1, .int (zI x1)), (2, .int (zI x2)), (3, .int (zI x3)), (4, .int (zI x4)), (5, .int (zI x5)), (9, .int (zI x9))]) C eX9_endings_159 (by decide) rfl ?_
        refine zr_iinc (lv' := [(9, .int (zI (x9 + 1))), (8, .int (zI v16)), (7, .int (zI x9)), (10, .int (zI v16)), (6, .int (zI (x6 + 1))), (0, .ref (zad G 0)), (1, .int (zI x1)), (2, .int (zI x2)), (3, .int (zI x3)), (4, .int (zI x4)), (5, .int (zI x5))]) C 10 eX9_endings_161 rfl (by decide) rfl ?_
        refine zr_goto C eX9_endings_164 ?_
        refine zr_lv [5, 6, 7, 8, 9, 10, 4, 2, 1, 0] rfl ?_
        exact zr_lve (zs_p (zs_p (zs_p (zs_p (zs_p (zs_p (zs_pi (zI_w (x6 + 1)).symm (zs_p (zs_p (zs_pi (zI_w (x9 + 1)).symm rfl)))))))))) (ih x1 x2 x3 x4 x5 (zw (x6 + 1)) x9 v16 (zw (x9 + 1)) n1 n2 n3 n4 n5 (zw_w (x6 + 1)) n9 nv16 (zw_w (x9 + 1)) _)
      refine zr_iload C 0 eX9_endings_146 rfl ?_
      refine zr_iload C 9 eX9_endings_148 rfl ?_
      refine zr_icmp_ge C eX9_endings_150 nv16 n8 ?_ ?_
      · refine zr_iinc (lv' := [(9, .int (zI (x9 + 1))), (10, .int (zI v16)), (6, .int (zI (x6 + 1))), (0, .ref (zad G 0)), (1, .int (zI x1)), (2, .int (zI x2)), (3, .int (zI x3)), (4, .int (zI x4)), (5, .int (zI x5)), (7, .int (zI x7)), (8, .int (zI x8))]) C 10 eX9_endings_161 rfl (by decide) rfl ?_
        refine zr_goto C eX9_endings_164 ?_
        refine zr_lv [3, 4, 5, 6, 7, 8, 2, 9, 10, 0] rfl ?_
        exact zr_lve (zs_p (zs_p (zs_p (zs_p (zs_p (zs_p (zs_pi (zI_w (x6 + 1)).symm (zs_p (zs_p (zs_pi (zI_w (x9 + 1)).symm rfl)))))))))) (ih x1 x2 x3 x4 x5 (zw (x6 + 1)) x7 x8 (zw (x9 + 1)) n1 n2 n3 n4 n5 (zw_w (x6 + 1)) n7 n8 (zw_w (x9 + 1)) _)
      refine zr_iload C 10 eX9_endings_153 rfl ?_
      refine zr_istore (lv' := [(7, .int (zI x9)), (10, .int (zI v16)), (6, .int (zI (x6 + 1))), (0, .ref (zad G 0)), (1, .int (zI x1)), (2, .int (zI x2)), (3, .int (zI x3)), (4, .int (zI x4)), (5, .int (zI x5)), (8, .int (zI x8)), (9, .int (zI x9))]) C eX9_endings_155 (by decide) rfl ?_
      refine zr_iload C 1 eX9_endings_157 rfl ?_
      refine zr_istore (lv' := [(8, .int (zI v16)), (7, .int (zI x9)), (10, .int (zI v16)), (6, .int (zI (x6 + 1))), (0, .ref (zad G 0)), (1, .int (zI x1)), (2, .int (zI x2)), (3, .int (zI x3)), (4, .int (zI x4)), (5, .int (zI x5)), (9, .int (zI x9))]) C eX9_endings_159 (by decide) rfl ?_
      refine zr_iinc (lv' := [(9, .int (zI (x9 + 1))), (8, .int (zI v16)), (7, .int (zI x9)), (10, .int (zI v16)), (6, .int (zI (x6 + 1))), (0, .ref (zad G 0)), (1, .int (zI x1)), (2, .int (zI x2)), (3, .int (zI x3)), (4, .int (zI x4)), (5, .int (zI x5))]) C 10 eX9_endings_161 rfl (by decide) rfl ?_
      refine zr_goto C eX9_endings_164 ?_
      refine zr_lv [5, 6, 7, 8, 9, 10, 4, 2, 1, 0] rfl ?_
      exact zr_lve (zs_p (zs_p (zs_p (zs_p (zs_p (zs_p (zs_pi (zI_w (x6 + 1)).symm (zs_p (zs_p (zs_pi (zI_w (x9 + 1)).symm rfl)))))))))) (ih x1 x2 x3 x4 x5 (zw (x6 + 1)) x9 v16 (zw (x9 + 1)) n1 n2 n3 n4 n5 (zw_w (x6 + 1)) n9 nv16 (zw_w (x9 + 1)) _)
    refine zr_goto C eX9_endings_122 ?_
    refine zr_iinc (lv' := [(9, .int (zI (x9 + 1))), (0, .ref (zad G 0)), (1, .int (zI x1)), (2, .int (zI x2)), (3, .int (zI x3)), (4, .int (zI x4)), (5, .int (zI x5)), (6, .int (zI x6)), (7, .int (zI x7)), (8, .int (zI x8))]) C 9 eX9_endings_161 rfl (by decide) rfl ?_
    refine zr_goto C eX9_endings_164 ?_
    refine zr_lv [1, 2, 3, 4, 5, 6, 7, 8, 9, 0] rfl ?_
    exact zr_lve (zs_p (zs_p (zs_p (zs_p (zs_p (zs_p (zs_p (zs_p (zs_p (zs_pi (zI_w (x9 + 1)).symm rfl)))))))))) (ih x1 x2 x3 x4 x5 x6 x7 x8 (zw (x9 + 1)) n1 n2 n3 n4 n5 n6 n7 n8 (zw_w (x9 + 1)) _)
theorem zqX_endings (l : Launch) (G : Zg) (σ : Zm) (x1 : Int) (x2 : Int) (x3 : Int) (x4 : Int) (x5 : Int) (n1 : zw x1 = x1) (n2 : zw x2 = x2) (n3 : zw x3 = x3) (n4 : zw x4 = x4) (n5 : zw x5 = x5) (res : Int × Zm) (he : fX_endings σ x1 x2 x3 x4 x5 = some res) : zM l yX9_endings cX9_endings 11 (some .int) 6 G 294 ztt σ [.ref (zad G 0), .int (zI x1), .int (zI x2), .int (zI x3), .int (zI x4), .int (zI x5)] (some (.int (zI res.1))) res.2 := by
  refine zM_of he (by decide +kernel) (Nat.le_of_ble_eq_true rfl) (lv := [(0, .ref (zad G 0)), (1, .int (zI x1)), (2, .int (zI x2)), (3, .int (zI x3)), (4, .int (zI x4)), (5, .int (zI x5))]) rfl (fun p e s m below meth c C => ?_)
  unfold fX_endings
  refine zr_aloadn C 0 eX9_endings_0 rfl ?_
  refine zr_iloadn C 1 eX9_endings_1 rfl ?_
  refine zr_callVi C [.int (zI x1)] zy_X9_isText zv_X9_isText lk_X9_164 zrm_6_2_1 zo_0 (by decide) rfl (fun r hr => zqX_isText l G σ x1 n1 r hr) rfl rfl (Nat.le_of_ble_eq_true rfl) eX9_endings_2 (fun v2 nv2 σ1 => ?_)
  refine zr_if_eq C eX9_endings_5 nv2 ?_ ?_
  · refine zr_iconst C eX9_endings_33 rfl ?_
    exact zr_iret C eX9_endings_34
  refine zr_iloadn C 2 eX9_endings_8 rfl ?_
  refine zr_callSi C [.int (zI x2)] zy_X9_isSet zs_X9_isSet lk_X9_223 zrm_6_1_1 (fun r hr => zqX_isSet l G σ1 x2 n2 r hr) rfl rfl (Nat.le_of_ble_eq_true rfl) eX9_endings_9 (fun v4 nv4 σ3 => ?_)
  refine zr_if_eq C eX9_endings_12 nv4 ?_ ?_
  · refine zr_iconst C eX9_endings_33 rfl ?_
    exact zr_iret C eX9_endings_34
  refine zr_iloadn C 3 eX9_endings_15 rfl ?_
  refine zr_callSi C [.int (zI x3)] zy_X9_isPiece zs_X9_isPiece lk_X9_84 zrm_6_1_1 (fun r hr => zqX_isPiece l G σ3 x3 n3 r hr) rfl rfl (Nat.le_of_ble_eq_true rfl) eX9_endings_16 (fun v6 nv6 σ5 => ?_)
  refine zr_if_eq C eX9_endings_19 nv6 ?_ ?_
  · refine zr_iconst C eX9_endings_33 rfl ?_
    exact zr_iret C eX9_endings_34
  refine zr_iload C 4 eX9_endings_22 rfl ?_
  refine zr_iconst C eX9_endings_24 rfl ?_
  refine zr_bipush (a := 31) C eX9_endings_25 rfl ?_
  refine zr_callSi C [.int (zI x4), .int (zI 0), .int (zI 31)] zy_X9_within zs_X9_within lk_X9_113 zrm_6_3_0 (fun r hr => zqX_within l G σ5 x4 0 31 n4 w_0 w_31 r hr) rfl rfl (Nat.le_of_ble_eq_true rfl) eX9_endings_27 (fun v8 nv8 σ7 => ?_)
  refine zr_if_ne C eX9_endings_30 nv8 ?_ ?_
  · refine zr_iload C 5 eX9_endings_35 rfl ?_
    refine zr_bipush (a := 10) C eX9_endings_37 rfl ?_
    refine zr_bipush (a := 13) C eX9_endings_39 rfl ?_
    refine zr_callSi C [.int (zI x5), .int (zI 10), .int (zI 13)] zy_X9_within zs_X9_within lk_X9_113 zrm_6_3_0 (fun r hr => zqX_within l G σ7 x5 10 13 n5 w_10 w_13 r hr) rfl rfl (Nat.le_of_ble_eq_true rfl) eX9_endings_41 (fun v10 nv10 σ9 => ?_)
    refine zr_if_eq C eX9_endings_44 nv10 ?_ ?_
    · refine zr_iload C 5 eX9_endings_80 rfl ?_
      refine zr_iconst C eX9_endings_82 rfl ?_
      refine zr_iconst C eX9_endings_83 rfl ?_
      refine zr_callSi C [.int (zI x5), .int (zI 0), .int (zI 1)] zy_X9_within zs_X9_within lk_X9_113 zrm_6_3_0 (fun r hr => zqX_within l G σ9 x5 0 1 n5 w_0 w_1 r hr) rfl rfl (Nat.le_of_ble_eq_true rfl) eX9_endings_84 (fun v12 nv12 σ11 => ?_)
      refine zr_if_ne C eX9_endings_87 nv12 ?_ ?_
      · refine zr_iconst C eX9_endings_92 rfl ?_
        refine zr_istore (lv' := [(6, .int (zI 0)), (0, .ref (zad G 0)), (1, .int (zI x1)), (2, .int (zI x2)), (3, .int (zI x3)), (4, .int (zI x4)), (5, .int (zI x5))]) C eX9_endings_93 (by decide) rfl ?_
        refine zr_iconst C eX9_endings_95 rfl ?_
        refine zr_istore (lv' := [(7, .int (zI (-1))), (6, .int (zI 0)), (0, .ref (zad G 0)), (1, .int (zI x1)), (2, .int (zI x2)), (3, .int (zI x3)), (4, .int (zI x4)), (5, .int (zI x5))]) C eX9_endings_96 (by decide) rfl ?_
        refine zr_iconst C eX9_endings_98 rfl ?_
        refine zr_istore (lv' := [(8, .int (zI (-1))), (7, .int (zI (-1))), (6, .int (zI 0)), (0, .ref (zad G 0)), (1, .int (zI x1)), (2, .int (zI x2)), (3, .int (zI x3)), (4, .int (zI x4)), (5, .int (zI x5))]) C eX9_endings_99 (by decide) rfl ?_
        refine zr_iconst C eX9_endings_101 rfl ?_
        refine zr_istore (lv' := [(9, .int (zI 0)), (8, .int (zI (-1))), (7, .int (zI (-1))), (6, .int (zI 0)), (0, .ref (zad G 0)), (1, .int (zI x1)), (2, .int (zI x2)), (3, .int (zI x3)), (4, .int (zI x4)), (5, .int (zI x5))]) C eX9_endings_102 (by decide) rfl ?_
        refine zr_lv [4, 5, 6, 7, 8, 9, 3, 2, 1, 0] rfl ?_
        refine wX_endings_104 C 5000 x1 x2 x3 x4 x5 0 (-1) (-1) 0 n1 n2 n3 n4 n5 w_0 w_m1 w_m1 w_0 σ11
      refine zr_iconst C eX9_endings_90 rfl ?_
      exact zr_iret C eX9_endings_91
    refine zr_aloadn C 0 eX9_endings_47 rfl ?_
    refine zr_iloadn C 3 eX9_endings_48 rfl ?_
    refine zr_iload C 5 eX9_endings_49 rfl ?_
    refine zr_bipush (a := 10) C eX9_endings_51 rfl ?_
    refine zr_isub C eX9_endings_53 ?_
    refine zr_iload C 4 eX9_endings_54 rfl ?_
    refine zr_callVi C [.int (zI x3), .int (zI (zw (x5 - 10))), .int (zI x4)] zy_X9_isEnding zv_X9_isEnding lk_X9_258 zrm_6_5_1 zo_0 (by decide) rfl (fun r hr => zqX_isEnding l G σ9 x3 (zw (x5 - 10)) x4 n3 (zw_w (x5 - 10)) n4 r hr) rfl (zs_k (zs_i (zI_w (x5 - 10)).symm (zs_k rfl))) (Nat.le_of_ble_eq_true rfl) eX9_endings_56 (fun v18 nv18 σ17 => ?_)
    refine zr_if_eq C eX9_endings_59 nv18 ?_ ?_
    · refine zr_iconst C eX9_endings_78 rfl ?_
      exact zr_iret C eX9_endings_79
    refine zr_aloadn C 0 eX9_endings_62 rfl ?_
    refine zr_iloadn C 1 eX9_endings_63 rfl ?_
    refine zr_iloadn C 2 eX9_endings_64 rfl ?_
    refine zr_iload C 5 eX9_endings_65 rfl ?_
    refine zr_bipush (a := 10) C eX9_endings_67 rfl ?_
    refine zr_isub C eX9_endings_69 ?_
    refine zr_iload C 4 eX9_endings_70 rfl ?_
    refine zr_callVi C [.int (zI x1), .int (zI x2), .int (zI (zw (x5 - 10))), .int (zI x4)] zy_X9_worth zv_X9_worth lk_X9_261 zrm_6_5_5 zo_0 (by decide) rfl (fun r hr => zqX_worth l G σ17 x1 x2 (zw (x5 - 10)) x4 n1 n2 (zw_w (x5 - 10)) n4 r hr) rfl (zs_k (zs_i (zI_w (x5 - 10)).symm (zs_k (zs_k rfl)))) (Nat.le_of_ble_eq_true rfl) eX9_endings_72 (fun v20 nv20 σ19 => ?_)
    refine zr_goto C eX9_endings_75 ?_
    exact zr_iret C eX9_endings_79
  refine zr_iconst C eX9_endings_33 rfl ?_
  exact zr_iret C eX9_endings_34
theorem zqX_made (l : Launch) (G : Zg) (σ : Zm) (x1 : Int) (x2 : Int) (x3 : Int) (x4 : Int) (x5 : Int) (n1 : zw x1 = x1) (n2 : zw x2 = x2) (n3 : zw x3 = x3) (n4 : zw x4 = x4) (n5 : zw x5 = x5) (res : Int × Zm) (he : fX_made σ x1 x2 x3 x4 x5 = some res) : zM l yX9_made cX9_made 7 (some .int) 7 G 294 ztt σ [.ref (zad G 0), .int (zI x1), .int (zI x2), .int (zI x3), .int (zI x4), .int (zI x5)] (some (.int (zI res.1))) res.2 := by
  refine zM_of he (by decide +kernel) (Nat.le_of_ble_eq_true rfl) (lv := [(0, .ref (zad G 0)), (1, .int (zI x1)), (2, .int (zI x2)), (3, .int (zI x3)), (4, .int (zI x4)), (5, .int (zI x5))]) rfl (fun p e s m below meth c C => ?_)
  unfold fX_made
  refine zr_aloadn C 0 eX9_made_0 rfl ?_
  refine zr_iloadn C 1 eX9_made_1 rfl ?_
  refine zr_callVi C [.int (zI x1)] zy_X9_isText zv_X9_isText lk_X9_164 zrm_7_2_1 zo_0 (by decide) rfl (fun r hr => zqX_isText l G σ x1 n1 r hr) rfl rfl (Nat.le_of_ble_eq_true rfl) eX9_made_2 (fun v2 nv2 σ1 => ?_)
  refine zr_if_eq C eX9_made_5 nv2 ?_ ?_
  · refine zr_iconst C eX9_made_32 rfl ?_
    exact zr_iret C eX9_made_33
  refine zr_iloadn C 2 eX9_made_8 rfl ?_
  refine zr_callSi C [.int (zI x2)] zy_X9_isPiece zs_X9_isPiece lk_X9_84 zrm_7_1_1 (fun r hr => zqX_isPiece l G σ1 x2 n2 r hr) rfl rfl (Nat.le_of_ble_eq_true rfl) eX9_made_9 (fun v4 nv4 σ3 => ?_)
  refine zr_if_eq C eX9_made_12 nv4 ?_ ?_
  · refine zr_iconst C eX9_made_32 rfl ?_
    exact zr_iret C eX9_made_33
  refine zr_iloadn C 3 eX9_made_15 rfl ?_
  refine zr_callSi C [.int (zI x3)] zy_X9_isVoice zs_X9_isVoice lk_X9_88 zrm_7_1_1 (fun r hr => zqX_isVoice l G σ3 x3 n3 r hr) rfl rfl (Nat.le_of_ble_eq_true rfl) eX9_made_16 (fun v6 nv6 σ5 => ?_)
  refine zr_if_eq C eX9_made_19 nv6 ?_ ?_
  · refine zr_iconst C eX9_made_32 rfl ?_
    exact zr_iret C eX9_made_33
  refine zr_iload C 4 eX9_made_22 rfl ?_
  refine zr_iconst C eX9_made_24 rfl ?_
  refine zr_iconst C eX9_made_25 rfl ?_
  refine zr_callSi C [.int (zI x4), .int (zI 1), .int (zI 5)] zy_X9_within zs_X9_within lk_X9_113 zrm_7_3_0 (fun r hr => zqX_within l G σ5 x4 1 5 n4 w_1 w_5 r hr) rfl rfl (Nat.le_of_ble_eq_true rfl) eX9_made_26 (fun v8 nv8 σ7 => ?_)
  refine zr_if_ne C eX9_made_29 nv8 ?_ ?_
  · refine zr_aloadn C 0 eX9_made_34 rfl ?_
    refine zr_getR C ff_X9_10 rfl zo_0 rfl zf_0_0 eX9_made_35 ?_
    refine zr_getR C ff_X9_98 rfl zo_1 rfl zf_1_0 eX9_made_38 ?_
    refine zr_iloadn C 2 eX9_made_41 rfl ?_
    refine zr_iconst C eX9_made_42 rfl ?_
    refine zr_imul C eX9_made_43 ?_
    refine zr_iloadn C 3 eX9_made_44 rfl ?_
    refine zr_iadd C eX9_made_45 ?_
    refine zr_aald23 C zo_2 zn_2 rfl (fun _ _ => rfl) eX9_made_46 (fun hh9 => ?_)
    refine zr_callVi C [] zy_X3_beats zv_X3_beats lk_X9_130 zrm_7_2_0 (ze_23 zo_2 zn_2 hh9) (by decide) rfl (fun r hr => zqL_beats l G σ7 (zRF 2 (zw ((x2 * 4) + x3)).toNat) (ze_23 zo_2 zn_2 hh9) r hr) rfl rfl (Nat.le_of_ble_eq_true rfl) eX9_made_47 (fun v11 nv11 σ10 => ?_)
    refine zr_istore (lv' := [(6, .int (zI v11)), (0, .ref (zad G 0)), (1, .int (zI x1)), (2, .int (zI x2)), (3, .int (zI x3)), (4, .int (zI x4)), (5, .int (zI x5))]) C eX9_made_50 (by decide) rfl ?_
    refine zr_iload C 6 eX9_made_52 rfl ?_
    refine zr_iconst C eX9_made_54 rfl ?_
    refine zr_iload C 5 eX9_made_55 rfl ?_
    refine zr_iconst C eX9_made_57 rfl ?_
    refine zr_isub C eX9_made_58 ?_
    refine zr_callSi C [.int (zI x5), .int (zI (-1)), .int (zI (zw (x4 - 1)))] zy_X9_within zs_X9_within lk_X9_113 zrm_7_3_0 (fun r hr => zqX_within l G σ10 x5 (-1) (zw (x4 - 1)) n5 w_m1 (zw_w (x4 - 1)) r hr) rfl (zs_i (zI_w (x4 - 1)).symm (zs_k (zs_k rfl))) (Nat.le_of_ble_eq_true rfl) eX9_made_59 (fun v13 nv13 σ12 => ?_)
    refine zr_if_eq C eX9_made_62 nv13 ?_ ?_
    · refine zr_iconst C eX9_made_81 rfl ?_
      exact zr_iret C eX9_made_82
    refine zr_iload C 0 eX9_made_65 rfl ?_
    refine zr_iconst C eX9_made_67 rfl ?_
    refine zr_icmp_lt C eX9_made_68 nv11 w_1 ?_ ?_
    · refine zr_iconst C eX9_made_81 rfl ?_
      exact zr_iret C eX9_made_82
    refine zr_iload C 0 eX9_made_71 rfl ?_
    refine zr_iload C 5 eX9_made_73 rfl ?_
    refine zr_iadd C eX9_made_75 ?_
    refine zr_bipush (a := 32) C eX9_made_76 rfl ?_
    refine zr_icmp_le C eX9_made_78 rfl w_32 ?_ ?_
    · refine zr_aloadn C 1 eX9_made_83 rfl ?_
      refine zr_getR C ff_X9_49 rfl zo_0 rfl zf_0_6 eX9_made_84 ?_
      refine zr_aloadn C 1 eX9_made_87 rfl ?_
      refine zr_getR C ff_X9_10 rfl zo_0 rfl zf_0_0 eX9_made_88 ?_
      refine zr_iloadn C 3 eX9_made_91 rfl ?_
      refine zr_iloadn C 4 eX9_made_92 rfl ?_
      refine zr_iload C 5 eX9_made_93 rfl ?_
      refine zr_callVv C [.ref (zad G 1), .int (zI x2), .int (zI x3), .int (zI x4)] zy_X4_begin zv_X4_begin lk_X9_265 zrm_7_6_2 zo_177 (by decide) rfl (fun r hr => zqK_begin l G σ12 1 x2 x3 x4 zo_1 n2 n3 n4 r hr) rfl rfl (Nat.le_of_ble_eq_true rfl) eX9_made_95 (fun σ14 => ?_)
      refine zr_aloadn C 1 eX9_made_98 rfl ?_
      refine zr_getR C ff_X9_49 rfl zo_0 rfl zf_0_6 eX9_made_99 ?_
      refine zr_aloadn C 1 eX9_made_102 rfl ?_
      refine zr_getR C ff_X9_21 rfl zo_0 rfl zf_0_2 eX9_made_103 ?_
      refine zr_iloadn C 2 eX9_made_106 rfl ?_
      refine zr_aald24 C zo_149 zn_149 n1 (fun _ _ => rfl) eX9_made_107 (fun hh15 => ?_)
      refine zr_callVv C [.ref (zad G (zRF 149 x1.toNat))] zy_X4_solve zv_X4_solve lk_X9_268 zrm_7_6_6 zo_177 (by decide) rfl (fun r hr => zqK_solve l G σ14 (zRF 149 x1.toNat) (ze_24 zo_149 zn_149 hh15) r hr) rfl rfl (Nat.le_of_ble_eq_true rfl) eX9_made_108 (fun σ16 => ?_)
      refine zr_iload C 6 eX9_made_111 rfl ?_
      refine zr_iconst C eX9_made_113 rfl ?_
      refine zr_icmp_ne C eX9_made_114 n5 w_m1 ?_ ?_
      · refine zr_aloadn C 1 eX9_made_127 rfl ?_
        refine zr_getR C ff_X9_49 rfl zo_0 rfl zf_0_6 eX9_made_128 ?_
        refine zr_getR C ff_X9_274 rfl zo_177 rfl zf_177_4 eX9_made_131 ?_
        refine zr_iload C 6 eX9_made_134 rfl ?_
        refine zr_iald C zo_197 zn_197 n5 eX9_made_136 (fun v17 nv17 => ?_)
        exact zr_iret C eX9_made_137
      refine zr_aloadn C 1 eX9_made_117 rfl ?_
      refine zr_getR C ff_X9_49 rfl zo_0 rfl zf_0_6 eX9_made_118 ?_
      refine zr_getI C ff_X9_271 zo_177 eX9_made_121 (fun v18 nv18 => ?_)
      refine zr_goto C eX9_made_124 ?_
      exact zr_iret C eX9_made_137
    refine zr_iconst C eX9_made_81 rfl ?_
    exact zr_iret C eX9_made_82
  refine zr_iconst C eX9_made_32 rfl ?_
  exact zr_iret C eX9_made_33
theorem wX_head_43 {G : Zg} {p : Program} {l : Launch} {e : Env} {s : State} {m : MethodId} {args : Array Value} {below : List Frame} {meth : Method} {c : Code} (C : zC G p s m args meth c cX9_head 7 RX9 (some .int)) {res : Int × Zm} (K99 : Int → Int → Int → Zm → Zr) (hK99 : ∀ (x1 : Int) (x4 : Int) (x5 : Int) (n1 : zw x1 = x1) (n4 : zw x4 = x4) (n5 : zw x5 = x5) (σ : Zm), zR G p l e (zrm 5) s m args below meth c 7 0 0 (zQm below args s G 294 ztt (some (.int (zI res.1))) res.2) 294 ztt res σ (K99 x1 x4 x5 σ) [(0, .ref (zad G 0)), (1, .int (zI x1)), (4, .int (zI x4)), (5, .int (zI x5))] 99 []) : ∀ (n : Nat) (x1 : Int) (x2 : Int) (x3 : Int) (x4 : Int) (x5 : Int) (x6 : Int) (n1 : zw x1 = x1) (n2 : zw x2 = x2) (n3 : zw x3 = x3) (n4 : zw x4 = x4) (n5 : zw x5 = x5) (n6 : zw x6 = x6) (σ : Zm), zR G p l e (zrm 5) s m args below meth c 7 0 0 (zQm below args s G 294 ztt (some (.int (zI res.1))) res.2) 294 ztt res σ (fX_head_43 n x1 x2 x3 x4 x5 x6 σ K99) [(0, .ref (zad G 0)), (1, .int (zI x1)), (2, .int (zI x2)), (3, .int (zI x3)), (4, .int (zI x4)), (5, .int (zI x5)), (6, .int (zI x6))] 43 []
  | 0, _, _, _, _, _, _, _, _, _, _, _, _, _ => zr_none
  | n + 1, x1, x2, x3, x4, x5, x6, n1, n2, n3, n4, n5, n6, σ => by
    have ih := fun (x1 : Int) (x2 : Int) (x3 : Int) (x4 : Int) (x5 : Int) (x6 : Int) (n1 : zw x1 = x1) (n2 : zw x2 = x2) (n3 : zw x3 = x3) (n4 : zw x4 = x4) (n5 : zw x5 = x5) (n6 : zw x6 = x6) (σ : Zm) => wX_head_43 (l := l) (e := e) (below := below) C K99 hK99 (res := res) n x1 x2 x3 x4 x5 x6 n1 n2 n3 n4 n5 n6 σ
    rw [fX_head_43]
    refine zr_letf (fun R0 hR0 => ?_)
    have ih : ∀ (x1 : Int) (x2 : Int) (x3 : Int) (x4 : Int) (x5 : Int) (x6 : Int) (n1 : zw x1 = x1) (n2 : zw x2 = x2) (n3 : zw x3 = x3) (n4 : zw x4 = x4) (n5 : zw x5 = x5) (n6 : zw x6 = x6) (σ : Zm), zR G p l e (zrm 5) s m args below meth c 7 0 0 (zQm below args s G 294 ztt (some (.int (zI res.1))) res.2) 294 ztt res σ (R0 x1 x2 x3 x4 x5 x6 σ) [(0, .ref (zad G 0)), (1, .int (zI x1)), (2, .int (zI x2)), (3, .int (zI x3)), (4, .int (zI x4)), (5, .int (zI x5)), (6, .int (zI x6))] 43 [] := by rw [hR0]; exact ih
    clear hR0
    refine zr_iload C 6 eX9_head_43 rfl ?_
    refine zr_iconst C eX9_head_45 rfl ?_
    refine zr_icmp_ge C eX9_head_46 n6 w_4 ?_ ?_
    · refine zr_lv [0, 1, 4, 5] rfl ?_
      exact hK99 x1 x4 x5 n1 n4 n5 _
    refine zr_aloadn C 0 eX9_head_49 rfl ?_
    refine zr_getR C ff_X9_72 rfl zo_0 rfl zf_0_10 eX9_head_50 ?_
    refine zr_iload C 6 eX9_head_53 rfl ?_
    refine zr_aald23 C zo_224 zn_224 n6 (fun _ _ => rfl) eX9_head_55 (fun hh9 => ?_)
    refine zr_aloadn C 0 eX9_head_56 rfl ?_
    refine zr_getR C ff_X9_10 rfl zo_0 rfl zf_0_0 eX9_head_57 ?_
    refine zr_getR C ff_X9_98 rfl zo_1 rfl zf_1_0 eX9_head_60 ?_
    refine zr_iloadn C 2 eX9_head_63 rfl ?_
    refine zr_iconst C eX9_head_64 rfl ?_
    refine zr_imul C eX9_head_65 ?_
    refine zr_iconst C eX9_head_66 rfl ?_
    refine zr_iadd C eX9_head_67 ?_
    refine zr_iconst C eX9_head_68 rfl ?_
    refine zr_isub C eX9_head_69 ?_
    refine zr_iload C 6 eX9_head_70 rfl ?_
    refine zr_isub C eX9_head_72 ?_
    refine zr_aald23 C zo_2 zn_2 rfl (fun _ _ => rfl) eX9_head_73 (fun hh10 => ?_)
    refine zr_iloadn C 3 eX9_head_74 rfl ?_
    refine zr_callVi C [.ref (zad G (zRF 2 (zw ((((x2 * 4) + 4) - 1) - x6)).toNat)), .int (zI x3)] zy_X3_takeOverturned zv_X3_takeOverturned lk_X9_277 zrm_5_5_2 (ze_23 zo_224 zn_224 hh9) (by decide) rfl (fun r hr => zqL_takeOverturned l G σ (zRF 224 x6.toNat) (zRF 2 (zw ((((x2 * 4) + 4) - 1) - x6)).toNat) x3 (ze_23 zo_224 zn_224 hh9) (ze_23 zo_2 zn_2 hh10) n3 r hr) rfl rfl (Nat.le_of_ble_eq_true rfl) eX9_head_75 (fun v12 nv12 σ11 => ?_)
    refine zr_if_eq C eX9_head_78 nv12 ?_ ?_
    · refine zr_iconst C eX9_head_90 rfl ?_
      refine zr_istore (lv' := [(5, .int (zI 0)), (0, .ref (zad G 0)), (1, .int (zI x1)), (2, .int (zI x2)), (3, .int (zI x3)), (4, .int (zI x4)), (6, .int (zI x6))]) C eX9_head_91 (by decide) rfl ?_
      refine zr_iinc (lv' := [(6, .int (zI (x6 + 1))), (5, .int (zI 0)), (0, .ref (zad G 0)), (1, .int (zI x1)), (2, .int (zI x2)), (3, .int (zI x3)), (4, .int (zI x4))]) C 6 eX9_head_93 rfl (by decide) rfl ?_
      refine zr_goto C eX9_head_96 ?_
      refine zr_lv [2, 3, 4, 5, 6, 1, 0] rfl ?_
      exact zr_lve (zs_p (zs_p (zs_p (zs_p (zs_p (zs_p (zs_pi (zI_w (x6 + 1)).symm rfl))))))) (ih x1 x2 x3 x4 0 (zw (x6 + 1)) n1 n2 n3 n4 w_0 (zw_w (x6 + 1)) _)
    refine zr_iload C 5 eX9_head_81 rfl ?_
    refine zr_if_eq C eX9_head_83 n5 ?_ ?_
    · refine zr_iconst C eX9_head_90 rfl ?_
      refine zr_istore (lv' := [(5, .int (zI 0)), (0, .ref (zad G 0)), (1, .int (zI x1)), (2, .int (zI x2)), (3, .int (zI x3)), (4, .int (zI x4)), (6, .int (zI x6))]) C eX9_head_91 (by decide) rfl ?_
      refine zr_iinc (lv' := [(6, .int (zI (x6 + 1))), (5, .int (zI 0)), (0, .ref (zad G 0)), (1, .int (zI x1)), (2, .int (zI x2)), (3, .int (zI x3)), (4, .int (zI x4))]) C 6 eX9_head_93 rfl (by decide) rfl ?_
      refine zr_goto C eX9_head_96 ?_
      refine zr_lv [2, 3, 4, 5, 6, 1, 0] rfl ?_
      exact zr_lve (zs_p (zs_p (zs_p (zs_p (zs_p (zs_p (zs_pi (zI_w (x6 + 1)).symm rfl))))))) (ih x1 x2 x3 x4 0 (zw (x6 + 1)) n1 n2 n3 n4 w_0 (zw_w (x6 + 1)) _)
    refine zr_iconst C eX9_head_86 rfl ?_
    refine zr_goto C eX9_head_87 ?_
    refine zr_istore (lv' := [(5, .int (zI 1)), (0, .ref (zad G 0)), (1, .int (zI x1)), (2, .int (zI x2)), (3, .int (zI x3)), (4, .int (zI x4)), (6, .int (zI x6))]) C eX9_head_91 (by decide) rfl ?_
    refine zr_iinc (lv' := [(6, .int (zI (x6 + 1))), (5, .int (zI 1)), (0, .ref (zad G 0)), (1, .int (zI x1)), (2, .int (zI x2)), (3, .int (zI x3)), (4, .int (zI x4))]) C 6 eX9_head_93 rfl (by decide) rfl ?_
    refine zr_goto C eX9_head_96 ?_
    refine zr_lv [2, 3, 4, 5, 6, 1, 0] rfl ?_
    exact zr_lve (zs_p (zs_p (zs_p (zs_p (zs_p (zs_p (zs_pi (zI_w (x6 + 1)).symm rfl))))))) (ih x1 x2 x3 x4 1 (zw (x6 + 1)) n1 n2 n3 n4 w_1 (zw_w (x6 + 1)) _)
theorem wX_head_109 {G : Zg} {p : Program} {l : Launch} {e : Env} {s : State} {m : MethodId} {args : Array Value} {below : List Frame} {meth : Method} {c : Code} (C : zC G p s m args meth c cX9_head 7 RX9 (some .int)) {res : Int × Zm} (x4 : Int) (x5 : Int) (n4 : zw x4 = x4) (n5 : zw x5 = x5) (σ : Zm) : zR G p l e (zrm 5) s m args below meth c 7 0 0 (zQm below args s G 294 ztt (some (.int (zI res.1))) res.2) 294 ztt res σ (fX_head_109 x4 x5 σ) [(4, .int (zI x4)), (5, .int (zI x5))] 109 [] := by
  unfold fX_head_109
  refine zr_iload C 0 eX9_head_109 rfl ?_
  refine zr_iconst C eX9_head_111 rfl ?_
  refine zr_icmp_ne C eX9_head_112 n4 w_1 ?_ ?_
  · refine zr_iload C 1 eX9_head_119 rfl ?_
    refine zr_if_eq C eX9_head_121 n5 ?_ ?_
    · refine zr_iconst C eX9_head_128 rfl ?_
      exact zr_iret C eX9_head_129
    refine zr_iconst C eX9_head_124 rfl ?_
    refine zr_goto C eX9_head_125 ?_
    exact zr_iret C eX9_head_129
  refine zr_iconst C eX9_head_115 rfl ?_
  refine zr_goto C eX9_head_116 ?_
  exact zr_iret C eX9_head_129
theorem zqX_head (l : Launch) (G : Zg) (σ : Zm) (x1 : Int) (x2 : Int) (x3 : Int) (x4 : Int) (n1 : zw x1 = x1) (n2 : zw x2 = x2) (n3 : zw x3 = x3) (n4 : zw x4 = x4) (res : Int × Zm) (he : fX_head σ x1 x2 x3 x4 = some res) : zM l yX9_head cX9_head 7 (some .int) 5 G 294 ztt σ [.ref (zad G 0), .int (zI x1), .int (zI x2), .int (zI x3), .int (zI x4)] (some (.int (zI res.1))) res.2 := by
  refine zM_of he (by decide +kernel) (Nat.le_of_ble_eq_true rfl) (lv := [(0, .ref (zad G 0)), (1, .int (zI x1)), (2, .int (zI x2)), (3, .int (zI x3)), (4, .int (zI x4))]) rfl (fun p e s m below meth c C => ?_)
  unfold fX_head
  refine zr_aloadn C 0 eX9_head_0 rfl ?_
  refine zr_iloadn C 1 eX9_head_1 rfl ?_
  refine zr_callVi C [.int (zI x1)] zy_X9_isText zv_X9_isText lk_X9_164 zrm_5_2_1 zo_0 (by decide) rfl (fun r hr => zqX_isText l G σ x1 n1 r hr) rfl rfl (Nat.le_of_ble_eq_true rfl) eX9_head_2 (fun v2 nv2 σ1 => ?_)
  refine zr_if_eq C eX9_head_5 nv2 ?_ ?_
  · refine zr_iconst C eX9_head_35 rfl ?_
    exact zr_iret C eX9_head_36
  refine zr_iloadn C 2 eX9_head_8 rfl ?_
  refine zr_callSi C [.int (zI x2)] zy_X9_isPiece zs_X9_isPiece lk_X9_84 zrm_5_1_1 (fun r hr => zqX_isPiece l G σ1 x2 n2 r hr) rfl rfl (Nat.le_of_ble_eq_true rfl) eX9_head_9 (fun v4 nv4 σ3 => ?_)
  refine zr_if_eq C eX9_head_12 nv4 ?_ ?_
  · refine zr_iconst C eX9_head_35 rfl ?_
    exact zr_iret C eX9_head_36
  refine zr_iloadn C 3 eX9_head_15 rfl ?_
  refine zr_iconst C eX9_head_16 rfl ?_
  refine zr_bipush (a := 120) C eX9_head_17 rfl ?_
  refine zr_callSi C [.int (zI x3), .int (zI 0), .int (zI 120)] zy_X9_within zs_X9_within lk_X9_113 zrm_5_3_0 (fun r hr => zqX_within l G σ3 x3 0 120 n3 w_0 w_120 r hr) rfl rfl (Nat.le_of_ble_eq_true rfl) eX9_head_19 (fun v6 nv6 σ5 => ?_)
  refine zr_if_eq C eX9_head_22 nv6 ?_ ?_
  · refine zr_iconst C eX9_head_35 rfl ?_
    exact zr_iret C eX9_head_36
  refine zr_iload C 4 eX9_head_25 rfl ?_
  refine zr_iconst C eX9_head_27 rfl ?_
  refine zr_iconst C eX9_head_28 rfl ?_
  refine zr_callSi C [.int (zI x4), .int (zI 0), .int (zI 1)] zy_X9_within zs_X9_within lk_X9_113 zrm_5_3_0 (fun r hr => zqX_within l G σ5 x4 0 1 n4 w_0 w_1 r hr) rfl rfl (Nat.le_of_ble_eq_true rfl) eX9_head_29 (fun v8 nv8 σ7 => ?_)
  refine zr_if_ne C eX9_head_32 nv8 ?_ ?_
  · refine zr_iconst C eX9_head_37 rfl ?_
    refine zr_istore (lv' := [(5, .int (zI 1)), (0, .ref (zad G 0)), (1, .int (zI x1)), (2, .int (zI x2)), (3, .int (zI x3)), (4, .int (zI x4))]) C eX9_head_38 (by decide) rfl ?_
    refine zr_iconst C eX9_head_40 rfl ?_
    refine zr_istore (lv' := [(6, .int (zI 0)), (5, .int (zI 1)), (0, .ref (zad G 0)), (1, .int (zI x1)), (2, .int (zI x2)), (3, .int (zI x3)), (4, .int (zI x4))]) C eX9_head_41 (by decide) rfl ?_
    refine zr_lv [2, 3, 4, 5, 6, 1, 0] rfl ?_
    refine wX_head_43 C _ ?_ 5000 x1 x2 x3 x4 1 0 n1 n2 n3 n4 w_1 w_0 σ7
    intro y14 y15 y16 ny14 ny15 ny16 σ13
    refine zr_iload C 2 eX9_head_99 rfl ?_
    refine zr_if_eq C eX9_head_101 ny15 ?_ ?_
    · refine zr_lv [2, 3] rfl ?_
      exact wX_head_109 C y15 y16 ny15 ny16 σ13
    refine zr_iload C 3 eX9_head_104 rfl ?_
    refine zr_if_ne C eX9_head_106 ny16 ?_ ?_
    · refine zr_aloadn C 0 eX9_head_130 rfl ?_
      refine zr_getR C ff_X9_35 rfl zo_0 rfl zf_0_4 eX9_head_131 ?_
      refine zr_aloadn C 0 eX9_head_134 rfl ?_
      refine zr_getR C ff_X9_10 rfl zo_0 rfl zf_0_0 eX9_head_135 ?_
      refine zr_getI C ff_X9_134 zo_1 eX9_head_138 (fun v17 nv17 => ?_)
      refine zr_iconst C eX9_head_141 rfl ?_
      refine zr_callVv C [.int (zI v17), .int (zI (-1))] zy_X2_begin zv_X2_begin lk_X9_167 zrm_5_3_1 zo_153 (by decide) rfl (fun r hr => zqJ_begin l G σ13 153 v17 (-1) zo_153 nv17 w_m1 r hr) rfl rfl (Nat.le_of_ble_eq_true rfl) eX9_head_142 (fun σ18 => ?_)
      refine zr_aloadn C 0 eX9_head_145 rfl ?_
      refine zr_getR C ff_X9_35 rfl zo_0 rfl zf_0_4 eX9_head_146 ?_
      refine zr_aloadn C 0 eX9_head_149 rfl ?_
      refine zr_getR C ff_X9_21 rfl zo_0 rfl zf_0_2 eX9_head_150 ?_
      refine zr_iloadn C 1 eX9_head_153 rfl ?_
      refine zr_aald24 C zo_149 zn_149 ny14 (fun _ _ => rfl) eX9_head_154 (fun hh19 => ?_)
      refine zr_aloadn C 0 eX9_head_155 rfl ?_
      refine zr_getR C ff_X9_72 rfl zo_0 rfl zf_0_10 eX9_head_156 ?_
      refine zr_iconst C eX9_head_159 rfl ?_
      refine zr_iconst C eX9_head_160 rfl ?_
      refine zr_callVv C [.ref (zad G (zRF 149 y14.toNat)), .ref (zad G 224), .int (zI 0), .int (zI 0)] zy_X2_askPiece zv_X2_askPiece lk_X9_170 zrm_5_10_4 zo_153 (by decide) rfl (fun r hr => zqJ_askPiece l G σ18 153 (zRF 149 y14.toNat) 224 0 0 zo_153 (ze_24 zo_149 zn_149 hh19) zo_224 w_0 w_0 r hr) rfl rfl (Nat.le_of_ble_eq_true rfl) eX9_head_161 (fun σ20 => ?_)
      refine zr_aloadn C 0 eX9_head_164 rfl ?_
      refine zr_getR C ff_X9_35 rfl zo_0 rfl zf_0_4 eX9_head_165 ?_
      refine zr_getI C ff_X9_174 zo_153 eX9_head_168 (fun v21 nv21 => ?_)
      exact zr_iret C eX9_head_171
    refine zr_lv [2, 3] rfl ?_
    exact wX_head_109 C y15 y16 ny15 ny16 σ13
  refine zr_iconst C eX9_head_35 rfl ?_
  exact zr_iret C eX9_head_36
theorem zqX_shape (l : Launch) (G : Zg) (σ : Zm) (x1 : Int) (x2 : Int) (n1 : zw x1 = x1) (n2 : zw x2 = x2) (res : Int × Zm) (he : fX_shape σ x1 x2 = some res) : zM l yX9_shape cX9_shape 3 (some .int) 1 G 294 ztt σ [.ref (zad G 0), .int (zI x1), .int (zI x2)] (some (.int (zI res.1))) res.2 := by
  refine zM_of he (by decide +kernel) (Nat.le_of_ble_eq_true rfl) (lv := [(0, .ref (zad G 0)), (1, .int (zI x1)), (2, .int (zI x2))]) rfl (fun p e s m below meth c C => ?_)
  unfold fX_shape
  refine zr_aloadn C 0 eX9_shape_0 rfl ?_
  refine zr_getR C ff_X9_10 rfl zo_0 rfl zf_0_0 eX9_shape_1 ?_
  refine zr_getI C ff_X9_281 zo_1 eX9_shape_4 (fun v1 nv1 => ?_)
  refine zr_bipush (a := 10) C eX9_shape_7 rfl ?_
  refine zr_icmp_ge C eX9_shape_9 nv1 w_10 ?_ ?_
  · refine zr_iconst C eX9_shape_32 rfl ?_
    exact zr_iret C eX9_shape_33
  refine zr_iloadn C 2 eX9_shape_12 rfl ?_
  refine zr_iconst C eX9_shape_13 rfl ?_
  refine zr_sipush (a := 9999) C eX9_shape_14 rfl ?_
  refine zr_callSi C [.int (zI x2), .int (zI 1), .int (zI 9999)] zy_X9_within zs_X9_within lk_X9_113 zrm_1_3_0 (fun r hr => zqX_within l G σ x2 1 9999 n2 w_1 w_9999 r hr) rfl rfl (Nat.le_of_ble_eq_true rfl) eX9_shape_17 (fun v3 nv3 σ2 => ?_)
  refine zr_if_eq C eX9_shape_20 nv3 ?_ ?_
  · refine zr_iconst C eX9_shape_32 rfl ?_
    exact zr_iret C eX9_shape_33
  refine zr_iloadn C 1 eX9_shape_23 rfl ?_
  refine zr_iconst C eX9_shape_24 rfl ?_
  refine zr_iloadn C 2 eX9_shape_25 rfl ?_
  refine zr_callSi C [.int (zI x1), .int (zI 1), .int (zI x2)] zy_X9_within zs_X9_within lk_X9_113 zrm_1_3_0 (fun r hr => zqX_within l G σ2 x1 1 x2 n1 w_1 n2 r hr) rfl rfl (Nat.le_of_ble_eq_true rfl) eX9_shape_26 (fun v5 nv5 σ4 => ?_)
  refine zr_if_ne C eX9_shape_29 nv5 ?_ ?_
  · refine zr_aloadn C 0 eX9_shape_34 rfl ?_
    refine zr_getR C ff_X9_10 rfl zo_0 rfl zf_0_0 eX9_shape_35 ?_
    refine zr_getR C ff_X9_284 rfl zo_1 rfl zf_1_4 eX9_shape_38 ?_
    refine zr_aloadn C 0 eX9_shape_41 rfl ?_
    refine zr_getR C ff_X9_10 rfl zo_0 rfl zf_0_0 eX9_shape_42 ?_
    refine zr_getI C ff_X9_281 zo_1 eX9_shape_45 (fun v6 nv6 => ?_)
    refine zr_iloadn C 1 eX9_shape_48 rfl ?_
    refine zr_iast C zo_6 zn_6 nv6 eX9_shape_49 (fun σ7 => ?_)
    refine zr_aloadn C 0 eX9_shape_50 rfl ?_
    refine zr_getR C ff_X9_10 rfl zo_0 rfl zf_0_0 eX9_shape_51 ?_
    refine zr_getR C ff_X9_287 rfl zo_1 rfl zf_1_5 eX9_shape_54 ?_
    refine zr_aloadn C 0 eX9_shape_57 rfl ?_
    refine zr_getR C ff_X9_10 rfl zo_0 rfl zf_0_0 eX9_shape_58 ?_
    refine zr_getI C ff_X9_281 zo_1 eX9_shape_61 (fun v8 nv8 => ?_)
    refine zr_iloadn C 2 eX9_shape_64 rfl ?_
    refine zr_iast C zo_7 zn_7 nv8 eX9_shape_65 (fun σ9 => ?_)
    refine zr_aloadn C 0 eX9_shape_66 rfl ?_
    refine zr_getR C ff_X9_10 rfl zo_0 rfl zf_0_0 eX9_shape_67 ?_
    refine zr_dup C eX9_shape_70 rfl ?_
    refine zr_getI C ff_X9_281 zo_1 eX9_shape_71 (fun v10 nv10 => ?_)
    refine zr_iconst C eX9_shape_74 rfl ?_
    refine zr_iadd C eX9_shape_75 ?_
    refine zr_putI C ff_X9_281 rfl zo_1 eX9_shape_76 (fun σ11 => ?_)
    refine zr_aloadn C 0 eX9_shape_79 rfl ?_
    refine zr_getR C ff_X9_10 rfl zo_0 rfl zf_0_0 eX9_shape_80 ?_
    refine zr_getI C ff_X9_281 zo_1 eX9_shape_83 (fun v12 nv12 => ?_)
    exact zr_iret C eX9_shape_86
  refine zr_iconst C eX9_shape_32 rfl ?_
  exact zr_iret C eX9_shape_33
theorem wX_lasts_35 {G : Zg} {p : Program} {l : Launch} {e : Env} {s : State} {m : MethodId} {args : Array Value} {below : List Frame} {meth : Method} {c : Code} (C : zC G p s m args meth c cX9_lasts 7 RX9 (some .int)) {res : Int × Zm} : ∀ (n : Nat) (x2 : Int) (x3 : Int) (x4 : Int) (x5 : Int) (n2 : zw x2 = x2) (n3 : zw x3 = x3) (n4 : zw x4 = x4) (n5 : zw x5 = x5) (σ : Zm), zR G p l e (zrm 2) s m args below meth c 7 0 0 (zQm below args s G 294 ztt (some (.int (zI res.1))) res.2) 294 ztt res σ (fX_lasts_35 n x2 x3 x4 x5 σ) [(0, .ref (zad G 0)), (2, .int (zI x2)), (3, .int (zI x3)), (4, .int (zI x4)), (5, .int (zI x5))] 35 []
  | 0, _, _, _, _, _, _, _, _, _ => zr_none
  | n + 1, x2, x3, x4, x5, n2, n3, n4, n5, σ => by
    have ih := fun (x2 : Int) (x3 : Int) (x4 : Int) (x5 : Int) (n2 : zw x2 = x2) (n3 : zw x3 = x3) (n4 : zw x4 = x4) (n5 : zw x5 = x5) (σ : Zm) => wX_lasts_35 (l := l) (e := e) (below := below) C (res := res) n x2 x3 x4 x5 n2 n3 n4 n5 σ
    rw [fX_lasts_35]
    refine zr_letf (fun R0 hR0 => ?_)
    have ih : ∀ (x2 : Int) (x3 : Int) (x4 : Int) (x5 : Int) (n2 : zw x2 = x2) (n3 : zw x3 = x3) (n4 : zw x4 = x4) (n5 : zw x5 = x5) (σ : Zm), zR G p l e (zrm 2) s m args below meth c 7 0 0 (zQm below args s G 294 ztt (some (.int (zI res.1))) res.2) 294 ztt res σ (R0 x2 x3 x4 x5 σ) [(0, .ref (zad G 0)), (2, .int (zI x2)), (3, .int (zI x3)), (4, .int (zI x4)), (5, .int (zI x5))] 35 [] := by rw [hR0]; exact ih
    clear hR0
    refine zr_iload C 4 eX9_lasts_35 rfl ?_
    refine zr_aloadn C 0 eX9_lasts_37 rfl ?_
    refine zr_getR C ff_X9_10 rfl zo_0 rfl zf_0_0 eX9_lasts_38 ?_
    refine zr_getI C ff_X9_281 zo_1 eX9_lasts_41 (fun v6 nv6 => ?_)
    refine zr_icmp_ge C eX9_lasts_44 n5 nv6 ?_ ?_
    · refine zr_iload C 3 eX9_lasts_113 rfl ?_
      exact zr_iret C eX9_lasts_115
    refine zr_iloadn C 2 eX9_lasts_47 rfl ?_
    refine zr_aloadn C 0 eX9_lasts_48 rfl ?_
    refine zr_getR C ff_X9_10 rfl zo_0 rfl zf_0_0 eX9_lasts_49 ?_
    refine zr_getR C ff_X9_287 rfl zo_1 rfl zf_1_5 eX9_lasts_52 ?_
    refine zr_iload C 4 eX9_lasts_55 rfl ?_
    refine zr_iald C zo_7 zn_7 n5 eX9_lasts_57 (fun v7 nv7 => ?_)
    refine zr_imul C eX9_lasts_58 ?_
    refine zr_iconst C eX9_lasts_59 rfl ?_
    refine zr_aloadn C 0 eX9_lasts_60 rfl ?_
    refine zr_getR C ff_X9_10 rfl zo_0 rfl zf_0_0 eX9_lasts_61 ?_
    refine zr_getR C ff_X9_284 rfl zo_1 rfl zf_1_4 eX9_lasts_64 ?_
    refine zr_iload C 4 eX9_lasts_67 rfl ?_
    refine zr_iald C zo_6 zn_6 n5 eX9_lasts_69 (fun v8 nv8 => ?_)
    refine zr_mmax C lk_X9_290 zy_mmax zrm_2_2_0 (Nat.le_of_ble_eq_true rfl) w_1 nv8 eX9_lasts_70 (fun v9 nv9 => ?_)
    refine zr_idiv C eX9_lasts_73 rfl nv9 ?_
    refine zr_st (show _ = .int (zI (zw (Int.tdiv (zw (x3 * v7)) v9))) :: _ from congrArg (· :: _) (congrArg Value.int (zI_w (Int.tdiv (zw (x3 * v7)) v9)).symm)) ?_
    refine zr_letw (P := fun z => .int (zI z) :: _) (zw_w (Int.tdiv (zw (x3 * v7)) v9)) (fun v10 nv10 => ?_)
    refine zr_istore (lv' := [(6, .int (zI v10)), (0, .ref (zad G 0)), (2, .int (zI x2)), (3, .int (zI x3)), (4, .int (zI x4)), (5, .int (zI x5))]) C eX9_lasts_74 (by decide) rfl ?_
    refine zr_iload C 4 eX9_lasts_76 rfl ?_
    refine zr_iconst C eX9_lasts_78 rfl ?_
    refine zr_icmp_eq C eX9_lasts_79 n4 w_m1 ?_ ?_
    · refine zr_iload C 0 eX9_lasts_103 rfl ?_
      refine zr_istore (lv' := [(4, .int (zI v10)), (6, .int (zI v10)), (0, .ref (zad G 0)), (2, .int (zI x2)), (3, .int (zI x3)), (5, .int (zI x5))]) C eX9_lasts_105 (by decide) rfl ?_
      refine zr_iinc (lv' := [(5, .int (zI (x5 + 1))), (4, .int (zI v10)), (6, .int (zI v10)), (0, .ref (zad G 0)), (2, .int (zI x2)), (3, .int (zI x3))]) C 5 eX9_lasts_107 rfl (by decide) rfl ?_
      refine zr_goto C eX9_lasts_110 ?_
      refine zr_lv [3, 4, 5, 1, 0] rfl ?_
      exact zr_lve (zs_p (zs_p (zs_p (zs_p (zs_pi (zI_w (x5 + 1)).symm rfl))))) (ih x2 x3 v10 (zw (x5 + 1)) n2 n3 nv10 (zw_w (x5 + 1)) _)
    refine zr_iloadn C 2 eX9_lasts_82 rfl ?_
    refine zr_if_eq C eX9_lasts_83 n2 ?_ ?_
    · refine zr_iload C 0 eX9_lasts_96 rfl ?_
      refine zr_iload C 4 eX9_lasts_98 rfl ?_
      refine zr_icmp_ge C eX9_lasts_100 nv10 n4 ?_ ?_
      · refine zr_iinc (lv' := [(5, .int (zI (x5 + 1))), (6, .int (zI v10)), (0, .ref (zad G 0)), (2, .int (zI x2)), (3, .int (zI x3)), (4, .int (zI x4))]) C 5 eX9_lasts_107 rfl (by decide) rfl ?_
        refine zr_goto C eX9_lasts_110 ?_
        refine zr_lv [2, 3, 4, 5, 0] rfl ?_
        exact zr_lve (zs_p (zs_p (zs_p (zs_p (zs_pi (zI_w (x5 + 1)).symm rfl))))) (ih x2 x3 x4 (zw (x5 + 1)) n2 n3 n4 (zw_w (x5 + 1)) _)
      refine zr_iload C 0 eX9_lasts_103 rfl ?_
      refine zr_istore (lv' := [(4, .int (zI v10)), (6, .int (zI v10)), (0, .ref (zad G 0)), (2, .int (zI x2)), (3, .int (zI x3)), (5, .int (zI x5))]) C eX9_lasts_105 (by decide) rfl ?_
      refine zr_iinc (lv' := [(5, .int (zI (x5 + 1))), (4, .int (zI v10)), (6, .int (zI v10)), (0, .ref (zad G 0)), (2, .int (zI x2)), (3, .int (zI x3))]) C 5 eX9_lasts_107 rfl (by decide) rfl ?_
      refine zr_goto C eX9_lasts_110 ?_
      refine zr_lv [3, 4, 5, 1, 0] rfl ?_
      exact zr_lve (zs_p (zs_p (zs_p (zs_p (zs_pi (zI_w (x5 + 1)).symm rfl))))) (ih x2 x3 v10 (zw (x5 + 1)) n2 n3 nv10 (zw_w (x5 + 1)) _)
    refine zr_iload C 0 eX9_lasts_86 rfl ?_
    refine zr_iload C 4 eX9_lasts_88 rfl ?_
    refine zr_icmp_le C eX9_lasts_90 nv10 n4 ?_ ?_
    · refine zr_iinc (lv' := [(5, .int (zI (x5 + 1))), (6, .int (zI v10)), (0, .ref (zad G 0)), (2, .int (zI x2)), (3, .int (zI x3)), (4, .int (zI x4))]) C 5 eX9_lasts_107 rfl (by decide) rfl ?_
      refine zr_goto C eX9_lasts_110 ?_
      refine zr_lv [2, 3, 4, 5, 0] rfl ?_
      exact zr_lve (zs_p (zs_p (zs_p (zs_p (zs_pi (zI_w (x5 + 1)).symm rfl))))) (ih x2 x3 x4 (zw (x5 + 1)) n2 n3 n4 (zw_w (x5 + 1)) _)
    refine zr_goto C eX9_lasts_93 ?_
    refine zr_iload C 0 eX9_lasts_103 rfl ?_
    refine zr_istore (lv' := [(4, .int (zI v10)), (6, .int (zI v10)), (0, .ref (zad G 0)), (2, .int (zI x2)), (3, .int (zI x3)), (5, .int (zI x5))]) C eX9_lasts_105 (by decide) rfl ?_
    refine zr_iinc (lv' := [(5, .int (zI (x5 + 1))), (4, .int (zI v10)), (6, .int (zI v10)), (0, .ref (zad G 0)), (2, .int (zI x2)), (3, .int (zI x3))]) C 5 eX9_lasts_107 rfl (by decide) rfl ?_
    refine zr_goto C eX9_lasts_110 ?_
    refine zr_lv [3, 4, 5, 1, 0] rfl ?_
    exact zr_lve (zs_p (zs_p (zs_p (zs_p (zs_pi (zI_w (x5 + 1)).symm rfl))))) (ih x2 x3 v10 (zw (x5 + 1)) n2 n3 nv10 (zw_w (x5 + 1)) _)
theorem zqX_lasts (l : Launch) (G : Zg) (σ : Zm) (x1 : Int) (x2 : Int) (n1 : zw x1 = x1) (n2 : zw x2 = x2) (res : Int × Zm) (he : fX_lasts σ x1 x2 = some res) : zM l yX9_lasts cX9_lasts 7 (some .int) 2 G 294 ztt σ [.ref (zad G 0), .int (zI x1), .int (zI x2)] (some (.int (zI res.1))) res.2 := by
  refine zM_of he (by decide +kernel) (Nat.le_of_ble_eq_true rfl) (lv := [(0, .ref (zad G 0)), (1, .int (zI x1)), (2, .int (zI x2))]) rfl (fun p e s m below meth c C => ?_)
  unfold fX_lasts
  refine zr_iloadn C 1 eX9_lasts_0 rfl ?_
  refine zr_callSi C [.int (zI x1)] zy_X9_isPiece zs_X9_isPiece lk_X9_84 zrm_2_1_1 (fun r hr => zqX_isPiece l G σ x1 n1 r hr) rfl rfl (Nat.le_of_ble_eq_true rfl) eX9_lasts_1 (fun v2 nv2 σ1 => ?_)
  refine zr_if_eq C eX9_lasts_4 nv2 ?_ ?_
  · refine zr_iconst C eX9_lasts_18 rfl ?_
    exact zr_iret C eX9_lasts_19
  refine zr_aloadn C 0 eX9_lasts_7 rfl ?_
  refine zr_getR C ff_X9_10 rfl zo_0 rfl zf_0_0 eX9_lasts_8 ?_
  refine zr_getI C ff_X9_281 zo_1 eX9_lasts_11 (fun v3 nv3 => ?_)
  refine zr_iconst C eX9_lasts_14 rfl ?_
  refine zr_icmp_ge C eX9_lasts_15 nv3 w_1 ?_ ?_
  · refine zr_aloadn C 0 eX9_lasts_20 rfl ?_
    refine zr_getR C ff_X9_10 rfl zo_0 rfl zf_0_0 eX9_lasts_21 ?_
    refine zr_iloadn C 1 eX9_lasts_24 rfl ?_
    refine zr_callVi C [.int (zI x1)] zy_X7_lengthOf zv_X7_lengthOf lk_X9_109 zrm_2_4_1 zo_1 (by decide) rfl (fun r hr => zqS_lengthOf l G σ1 1 x1 zo_1 n1 r hr) rfl rfl (Nat.le_of_ble_eq_true rfl) eX9_lasts_25 (fun v5 nv5 σ4 => ?_)
    refine zr_istoren (lv' := [(3, .int (zI v5)), (0, .ref (zad G 0)), (1, .int (zI x1)), (2, .int (zI x2))]) C eX9_lasts_28 (by decide) rfl ?_
    refine zr_iconst C eX9_lasts_29 rfl ?_
    refine zr_istore (lv' := [(4, .int (zI (-1))), (3, .int (zI v5)), (0, .ref (zad G 0)), (1, .int (zI x1)), (2, .int (zI x2))]) C eX9_lasts_30 (by decide) rfl ?_
    refine zr_iconst C eX9_lasts_32 rfl ?_
    refine zr_istore (lv' := [(5, .int (zI 0)), (4, .int (zI (-1))), (3, .int (zI v5)), (0, .ref (zad G 0)), (1, .int (zI x1)), (2, .int (zI x2))]) C eX9_lasts_33 (by decide) rfl ?_
    refine zr_lv [3, 5, 2, 1, 0] rfl ?_
    refine wX_lasts_35 C 5000 x2 v5 (-1) 0 n2 nv5 w_m1 w_0 σ4
  refine zr_iconst C eX9_lasts_18 rfl ?_
  exact zr_iret C eX9_lasts_19
theorem zqX_page (l : Launch) (G : Zg) (σ : Zm) (x1 : Int) (x2 : Int) (x3 : Int) (x4 : Int) (n1 : zw x1 = x1) (n2 : zw x2 = x2) (n3 : zw x3 = x3) (n4 : zw x4 = x4) (res : Int × Zm) (he : fX_page σ x1 x2 x3 x4 = some res) : zM l yX9_page cX9_page 6 (some .int) 1 G 294 ztt σ [.ref (zad G 0), .int (zI x1), .int (zI x2), .int (zI x3), .int (zI x4)] (some (.int (zI res.1))) res.2 := by
  refine zM_of he (by decide +kernel) (Nat.le_of_ble_eq_true rfl) (lv := [(0, .ref (zad G 0)), (1, .int (zI x1)), (2, .int (zI x2)), (3, .int (zI x3)), (4, .int (zI x4))]) rfl (fun p e s m below meth c C => ?_)
  unfold fX_page
  refine zr_aloadn C 0 eX9_page_0 rfl ?_
  refine zr_getR C ff_X9_10 rfl zo_0 rfl zf_0_0 eX9_page_1 ?_
  refine zr_getI C ff_X9_296 zo_1 eX9_page_4 (fun v1 nv1 => ?_)
  refine zr_bipush (a := 8) C eX9_page_7 rfl ?_
  refine zr_icmp_ge C eX9_page_9 nv1 w_8 ?_ ?_
  · refine zr_iconst C eX9_page_32 rfl ?_
    exact zr_iret C eX9_page_33
  refine zr_iloadn C 1 eX9_page_12 rfl ?_
  refine zr_iconst C eX9_page_13 rfl ?_
  refine zr_bipush (a := 99) C eX9_page_14 rfl ?_
  refine zr_callSi C [.int (zI x1), .int (zI 0), .int (zI 99)] zy_X9_within zs_X9_within lk_X9_113 zrm_1_3_0 (fun r hr => zqX_within l G σ x1 0 99 n1 w_0 w_99 r hr) rfl rfl (Nat.le_of_ble_eq_true rfl) eX9_page_16 (fun v3 nv3 σ2 => ?_)
  refine zr_if_eq C eX9_page_19 nv3 ?_ ?_
  · refine zr_iconst C eX9_page_32 rfl ?_
    exact zr_iret C eX9_page_33
  refine zr_iloadn C 2 eX9_page_22 rfl ?_
  refine zr_iconst C eX9_page_23 rfl ?_
  refine zr_bipush (a := 9) C eX9_page_24 rfl ?_
  refine zr_callSi C [.int (zI x2), .int (zI 0), .int (zI 9)] zy_X9_within zs_X9_within lk_X9_113 zrm_1_3_0 (fun r hr => zqX_within l G σ2 x2 0 9 n2 w_0 w_9 r hr) rfl rfl (Nat.le_of_ble_eq_true rfl) eX9_page_26 (fun v5 nv5 σ4 => ?_)
  refine zr_if_ne C eX9_page_29 nv5 ?_ ?_
  · refine zr_iloadn C 3 eX9_page_34 rfl ?_
    refine zr_iconst C eX9_page_35 rfl ?_
    refine zr_bipush (a := 9) C eX9_page_36 rfl ?_
    refine zr_callSi C [.int (zI x3), .int (zI 0), .int (zI 9)] zy_X9_within zs_X9_within lk_X9_113 zrm_1_3_0 (fun r hr => zqX_within l G σ4 x3 0 9 n3 w_0 w_9 r hr) rfl rfl (Nat.le_of_ble_eq_true rfl) eX9_page_38 (fun v7 nv7 σ6 => ?_)
    refine zr_if_eq C eX9_page_41 nv7 ?_ ?_
    · refine zr_iconst C eX9_page_55 rfl ?_
      exact zr_iret C eX9_page_56
    refine zr_iload C 4 eX9_page_44 rfl ?_
    refine zr_iconst C eX9_page_46 rfl ?_
    refine zr_bipush (a := 9) C eX9_page_47 rfl ?_
    refine zr_callSi C [.int (zI x4), .int (zI 0), .int (zI 9)] zy_X9_within zs_X9_within lk_X9_113 zrm_1_3_0 (fun r hr => zqX_within l G σ6 x4 0 9 n4 w_0 w_9 r hr) rfl rfl (Nat.le_of_ble_eq_true rfl) eX9_page_49 (fun v9 nv9 σ8 => ?_)
    refine zr_if_ne C eX9_page_52 nv9 ?_ ?_
    · refine zr_aloadn C 0 eX9_page_57 rfl ?_
      refine zr_getR C ff_X9_10 rfl zo_0 rfl zf_0_0 eX9_page_58 ?_
      refine zr_getI C ff_X9_296 zo_1 eX9_page_61 (fun v10 nv10 => ?_)
      refine zr_iconst C eX9_page_64 rfl ?_
      refine zr_imul C eX9_page_65 ?_
      refine zr_st (show _ = .int (zI (zw (v10 * 4))) :: _ from congrArg (· :: _) (congrArg Value.int (zI_w (v10 * 4)).symm)) ?_
      refine zr_letw (P := fun z => .int (zI z) :: _) (zw_w (v10 * 4)) (fun v11 nv11 => ?_)
      refine zr_istore (lv' := [(5, .int (zI v11)), (0, .ref (zad G 0)), (1, .int (zI x1)), (2, .int (zI x2)), (3, .int (zI x3)), (4, .int (zI x4))]) C eX9_page_66 (by decide) rfl ?_
      refine zr_aloadn C 1 eX9_page_68 rfl ?_
      refine zr_getR C ff_X9_10 rfl zo_0 rfl zf_0_0 eX9_page_69 ?_
      refine zr_getR C ff_X9_299 rfl zo_1 rfl zf_1_6 eX9_page_72 ?_
      refine zr_iload C 0 eX9_page_75 rfl ?_
      refine zr_iloadn C 2 eX9_page_77 rfl ?_
      refine zr_iast C zo_8 zn_8 nv11 eX9_page_78 (fun σ12 => ?_)
      refine zr_aloadn C 1 eX9_page_79 rfl ?_
      refine zr_getR C ff_X9_10 rfl zo_0 rfl zf_0_0 eX9_page_80 ?_
      refine zr_getR C ff_X9_299 rfl zo_1 rfl zf_1_6 eX9_page_83 ?_
      refine zr_iload C 0 eX9_page_86 rfl ?_
      refine zr_iconst C eX9_page_88 rfl ?_
      refine zr_iadd C eX9_page_89 ?_
      refine zr_iloadn C 3 eX9_page_90 rfl ?_
      refine zr_iast C zo_8 zn_8 rfl eX9_page_91 (fun σ13 => ?_)
      refine zr_aloadn C 1 eX9_page_92 rfl ?_
      refine zr_getR C ff_X9_10 rfl zo_0 rfl zf_0_0 eX9_page_93 ?_
      refine zr_getR C ff_X9_299 rfl zo_1 rfl zf_1_6 eX9_page_96 ?_
      refine zr_iload C 0 eX9_page_99 rfl ?_
      refine zr_iconst C eX9_page_101 rfl ?_
      refine zr_iadd C eX9_page_102 ?_
      refine zr_iloadn C 4 eX9_page_103 rfl ?_
      refine zr_iast C zo_8 zn_8 rfl eX9_page_104 (fun σ14 => ?_)
      refine zr_aloadn C 1 eX9_page_105 rfl ?_
      refine zr_getR C ff_X9_10 rfl zo_0 rfl zf_0_0 eX9_page_106 ?_
      refine zr_getR C ff_X9_299 rfl zo_1 rfl zf_1_6 eX9_page_109 ?_
      refine zr_iload C 0 eX9_page_112 rfl ?_
      refine zr_iconst C eX9_page_114 rfl ?_
      refine zr_iadd C eX9_page_115 ?_
      refine zr_iload C 5 eX9_page_116 rfl ?_
      refine zr_iast C zo_8 zn_8 rfl eX9_page_118 (fun σ15 => ?_)
      refine zr_aloadn C 1 eX9_page_119 rfl ?_
      refine zr_getR C ff_X9_10 rfl zo_0 rfl zf_0_0 eX9_page_120 ?_
      refine zr_dup C eX9_page_123 rfl ?_
      refine zr_getI C ff_X9_296 zo_1 eX9_page_124 (fun v16 nv16 => ?_)
      refine zr_iconst C eX9_page_127 rfl ?_
      refine zr_iadd C eX9_page_128 ?_
      refine zr_putI C ff_X9_296 rfl zo_1 eX9_page_129 (fun σ17 => ?_)
      refine zr_aloadn C 1 eX9_page_132 rfl ?_
      refine zr_getR C ff_X9_10 rfl zo_0 rfl zf_0_0 eX9_page_133 ?_
      refine zr_getI C ff_X9_296 zo_1 eX9_page_136 (fun v18 nv18 => ?_)
      refine zr_iconst C eX9_page_139 rfl ?_
      refine zr_isub C eX9_page_140 ?_
      exact zr_iret C eX9_page_141
    refine zr_iconst C eX9_page_55 rfl ?_
    exact zr_iret C eX9_page_56
  refine zr_iconst C eX9_page_32 rfl ?_
  exact zr_iret C eX9_page_33
theorem zqX_ordersOf (l : Launch) (G : Zg) (σ : Zm) (x1 : Int) (n1 : zw x1 = x1) (res : Int × Zm) (he : fX_ordersOf σ x1 = some res) : zM l yX9_ordersOf cX9_ordersOf 2 (some .int) 4 G 294 ztt σ [.ref (zad G 0), .int (zI x1)] (some (.int (zI res.1))) res.2 := by
  refine zM_of he (by decide +kernel) (Nat.le_of_ble_eq_true rfl) (lv := [(0, .ref (zad G 0)), (1, .int (zI x1))]) rfl (fun p e s m below meth c C => ?_)
  unfold fX_ordersOf
  refine zr_aloadn C 0 eX9_ordersOf_0 rfl ?_
  refine zr_getR C ff_X9_56 rfl zo_0 rfl zf_0_7 eX9_ordersOf_1 ?_
  refine zr_aloadn C 0 eX9_ordersOf_4 rfl ?_
  refine zr_getR C ff_X9_21 rfl zo_0 rfl zf_0_2 eX9_ordersOf_5 ?_
  refine zr_iloadn C 1 eX9_ordersOf_8 rfl ?_
  refine zr_aald24 C zo_149 zn_149 n1 (fun _ _ => rfl) eX9_ordersOf_9 (fun hh1 => ?_)
  refine zr_aloadn C 0 eX9_ordersOf_10 rfl ?_
  refine zr_getR C ff_X9_10 rfl zo_0 rfl zf_0_0 eX9_ordersOf_11 ?_
  refine zr_callVv C [.ref (zad G (zRF 149 x1.toNat)), .ref (zad G 1)] zy_X0_link zv_X0_link lk_X9_305 zrm_4_5_3 zo_210 (by decide) rfl (fun r hr => zqB_link l G σ (zRF 149 x1.toNat) 1 (ze_24 zo_149 zn_149 hh1) zo_1 r hr) rfl rfl (Nat.le_of_ble_eq_true rfl) eX9_ordersOf_14 (fun σ2 => ?_)
  refine zr_aloadn C 0 eX9_ordersOf_17 rfl ?_
  refine zr_getR C ff_X9_56 rfl zo_0 rfl zf_0_7 eX9_ordersOf_18 ?_
  refine zr_aloadn C 0 eX9_ordersOf_21 rfl ?_
  refine zr_getR C ff_X9_10 rfl zo_0 rfl zf_0_0 eX9_ordersOf_22 ?_
  refine zr_getI C ff_X9_296 zo_1 eX9_ordersOf_25 (fun v3 nv3 => ?_)
  refine zr_iconst C eX9_ordersOf_28 rfl ?_
  refine zr_iconst C eX9_ordersOf_29 rfl ?_
  refine zr_callVi C [.int (zI v3), .int (zI (-1)), .int (zI (-1))] zy_X0_count zv_X0_count lk_X9_309 zrm_4_10_1 zo_210 (by decide) rfl (fun r hr => zqB_count l G σ2 v3 (-1) (-1) nv3 w_m1 w_m1 r hr) rfl rfl (Nat.le_of_ble_eq_true rfl) eX9_ordersOf_30 (fun v5 nv5 σ4 => ?_)
  exact zr_iret C eX9_ordersOf_33
theorem zqX_orders (l : Launch) (G : Zg) (σ : Zm) (x1 : Int) (n1 : zw x1 = x1) (res : Int × Zm) (he : fX_orders σ x1 = some res) : zM l yX9_orders cX9_orders 2 (some .int) 5 G 294 ztt σ [.ref (zad G 0), .int (zI x1)] (some (.int (zI res.1))) res.2 := by
  refine zM_of he (by decide +kernel) (Nat.le_of_ble_eq_true rfl) (lv := [(0, .ref (zad G 0)), (1, .int (zI x1))]) rfl (fun p e s m below meth c C => ?_)
  unfold fX_orders
  refine zr_aloadn C 0 eX9_orders_0 rfl ?_
  refine zr_iloadn C 1 eX9_orders_1 rfl ?_
  refine zr_callVi C [.int (zI x1)] zy_X9_isText zv_X9_isText lk_X9_164 zrm_5_2_1 zo_0 (by decide) rfl (fun r hr => zqX_isText l G σ x1 n1 r hr) rfl rfl (Nat.le_of_ble_eq_true rfl) eX9_orders_2 (fun v2 nv2 σ1 => ?_)
  refine zr_if_ne C eX9_orders_5 nv2 ?_ ?_
  · refine zr_aloadn C 0 eX9_orders_10 rfl ?_
    refine zr_iloadn C 1 eX9_orders_11 rfl ?_
    refine zr_callVi C [.int (zI x1)] zy_X9_ordersOf zv_X9_ordersOf lk_X9_302 zrm_5_2_4 zo_0 (by decide) rfl (fun r hr => zqX_ordersOf l G σ1 x1 n1 r hr) rfl rfl (Nat.le_of_ble_eq_true rfl) eX9_orders_12 (fun v4 nv4 σ3 => ?_)
    exact zr_iret C eX9_orders_15
  refine zr_iconst C eX9_orders_8 rfl ?_
  exact zr_iret C eX9_orders_9
theorem zqX_where (l : Launch) (G : Zg) (σ : Zm) (x1 : Int) (x2 : Int) (x3 : Int) (n1 : zw x1 = x1) (n2 : zw x2 = x2) (n3 : zw x3 = x3) (res : Int × Zm) (he : fX_where σ x1 x2 x3 = some res) : zM l yX9_where cX9_where 4 (some .int) 4 G 294 ztt σ [.ref (zad G 0), .int (zI x1), .int (zI x2), .int (zI x3)] (some (.int (zI res.1))) res.2 := by
  refine zM_of he (by decide +kernel) (Nat.le_of_ble_eq_true rfl) (lv := [(0, .ref (zad G 0)), (1, .int (zI x1)), (2, .int (zI x2)), (3, .int (zI x3))]) rfl (fun p e s m below meth c C => ?_)
  unfold fX_where
  refine zr_aloadn C 0 eX9_where_0 rfl ?_
  refine zr_iloadn C 1 eX9_where_1 rfl ?_
  refine zr_callVi C [.int (zI x1)] zy_X9_isText zv_X9_isText lk_X9_164 zrm_4_2_1 zo_0 (by decide) rfl (fun r hr => zqX_isText l G σ x1 n1 r hr) rfl rfl (Nat.le_of_ble_eq_true rfl) eX9_where_2 (fun v2 nv2 σ1 => ?_)
  refine zr_if_eq C eX9_where_5 nv2 ?_ ?_
  · refine zr_iconst C eX9_where_42 rfl ?_
    exact zr_iret C eX9_where_43
  refine zr_iloadn C 2 eX9_where_8 rfl ?_
  refine zr_iconst C eX9_where_9 rfl ?_
  refine zr_aloadn C 0 eX9_where_10 rfl ?_
  refine zr_getR C ff_X9_10 rfl zo_0 rfl zf_0_0 eX9_where_11 ?_
  refine zr_getI C ff_X9_296 zo_1 eX9_where_14 (fun v3 nv3 => ?_)
  refine zr_iconst C eX9_where_17 rfl ?_
  refine zr_isub C eX9_where_18 ?_
  refine zr_callSi C [.int (zI x2), .int (zI 0), .int (zI (zw (v3 - 1)))] zy_X9_within zs_X9_within lk_X9_113 zrm_4_3_0 (fun r hr => zqX_within l G σ1 x2 0 (zw (v3 - 1)) n2 w_0 (zw_w (v3 - 1)) r hr) rfl (zs_i (zI_w (v3 - 1)).symm (zs_k (zs_k rfl))) (Nat.le_of_ble_eq_true rfl) eX9_where_19 (fun v5 nv5 σ4 => ?_)
  refine zr_if_eq C eX9_where_22 nv5 ?_ ?_
  · refine zr_iconst C eX9_where_42 rfl ?_
    exact zr_iret C eX9_where_43
  refine zr_iloadn C 3 eX9_where_25 rfl ?_
  refine zr_iconst C eX9_where_26 rfl ?_
  refine zr_aloadn C 0 eX9_where_27 rfl ?_
  refine zr_getR C ff_X9_10 rfl zo_0 rfl zf_0_0 eX9_where_28 ?_
  refine zr_getI C ff_X9_296 zo_1 eX9_where_31 (fun v6 nv6 => ?_)
  refine zr_iconst C eX9_where_34 rfl ?_
  refine zr_isub C eX9_where_35 ?_
  refine zr_callSi C [.int (zI x3), .int (zI 0), .int (zI (zw (v6 - 1)))] zy_X9_within zs_X9_within lk_X9_113 zrm_4_3_0 (fun r hr => zqX_within l G σ4 x3 0 (zw (v6 - 1)) n3 w_0 (zw_w (v6 - 1)) r hr) rfl (zs_i (zI_w (v6 - 1)).symm (zs_k (zs_k rfl))) (Nat.le_of_ble_eq_true rfl) eX9_where_36 (fun v8 nv8 σ7 => ?_)
  refine zr_if_ne C eX9_where_39 nv8 ?_ ?_
  · refine zr_aloadn C 0 eX9_where_44 rfl ?_
    refine zr_getR C ff_X9_56 rfl zo_0 rfl zf_0_7 eX9_where_45 ?_
    refine zr_aloadn C 0 eX9_where_48 rfl ?_
    refine zr_getR C ff_X9_21 rfl zo_0 rfl zf_0_2 eX9_where_49 ?_
    refine zr_iloadn C 1 eX9_where_52 rfl ?_
    refine zr_aald24 C zo_149 zn_149 n1 (fun _ _ => rfl) eX9_where_53 (fun hh9 => ?_)
    refine zr_aloadn C 0 eX9_where_54 rfl ?_
    refine zr_getR C ff_X9_10 rfl zo_0 rfl zf_0_0 eX9_where_55 ?_
    refine zr_callVv C [.ref (zad G (zRF 149 x1.toNat)), .ref (zad G 1)] zy_X0_link zv_X0_link lk_X9_305 zrm_4_5_3 zo_210 (by decide) rfl (fun r hr => zqB_link l G σ7 (zRF 149 x1.toNat) 1 (ze_24 zo_149 zn_149 hh9) zo_1 r hr) rfl rfl (Nat.le_of_ble_eq_true rfl) eX9_where_58 (fun σ10 => ?_)
    refine zr_aloadn C 0 eX9_where_61 rfl ?_
    refine zr_getR C ff_X9_56 rfl zo_0 rfl zf_0_7 eX9_where_62 ?_
    refine zr_aloadn C 0 eX9_where_65 rfl ?_
    refine zr_getR C ff_X9_10 rfl zo_0 rfl zf_0_0 eX9_where_66 ?_
    refine zr_getI C ff_X9_296 zo_1 eX9_where_69 (fun v11 nv11 => ?_)
    refine zr_iloadn C 2 eX9_where_72 rfl ?_
    refine zr_iloadn C 3 eX9_where_73 rfl ?_
    refine zr_callVi C [.int (zI v11), .int (zI x2), .int (zI x3)] zy_X0_count zv_X0_count lk_X9_309 zrm_4_10_1 zo_210 (by decide) rfl (fun r hr => zqB_count l G σ10 v11 x2 x3 nv11 n2 n3 r hr) rfl rfl (Nat.le_of_ble_eq_true rfl) eX9_where_74 (fun v13 nv13 σ12 => ?_)
    exact zr_iret C eX9_where_77
  refine zr_iconst C eX9_where_42 rfl ?_
  exact zr_iret C eX9_where_43
theorem zqX_weight (l : Launch) (G : Zg) (σ : Zm) (x1 : Int) (x2 : Int) (n1 : zw x1 = x1) (n2 : zw x2 = x2) (res : Int × Zm) (he : fX_weight σ x1 x2 = some res) : zM l yX9_weight cX9_weight 3 (some .boolean) 2 G 294 ztt σ [.ref (zad G 0), .int (zI x1), .int (zI x2)] (some (.int (zI res.1))) res.2 := by
  refine zM_of he (by decide +kernel) (Nat.le_of_ble_eq_true rfl) (lv := [(0, .ref (zad G 0)), (1, .int (zI x1)), (2, .int (zI x2))]) rfl (fun p e s m below meth c C => ?_)
  unfold fX_weight
  refine zr_aloadn C 0 eX9_weight_0 rfl ?_
  refine zr_iloadn C 1 eX9_weight_1 rfl ?_
  refine zr_callVi C [.int (zI x1)] zy_X9_isText zv_X9_isText lk_X9_164 zrm_2_2_1 zo_0 (by decide) rfl (fun r hr => zqX_isText l G σ x1 n1 r hr) rfl rfl (Nat.le_of_ble_eq_true rfl) eX9_weight_2 (fun v2 nv2 σ1 => ?_)
  refine zr_if_eq C eX9_weight_5 nv2 ?_ ?_
  · refine zr_iconst C eX9_weight_18 rfl ?_
    exact zr_zret C eX9_weight_19 (Or.inl rfl)
  refine zr_iloadn C 2 eX9_weight_8 rfl ?_
  refine zr_iconst C eX9_weight_9 rfl ?_
  refine zr_bipush (a := 9) C eX9_weight_10 rfl ?_
  refine zr_callSi C [.int (zI x2), .int (zI 0), .int (zI 9)] zy_X9_within zs_X9_within lk_X9_113 zrm_2_3_0 (fun r hr => zqX_within l G σ1 x2 0 9 n2 w_0 w_9 r hr) rfl rfl (Nat.le_of_ble_eq_true rfl) eX9_weight_12 (fun v4 nv4 σ3 => ?_)
  refine zr_if_ne C eX9_weight_15 nv4 ?_ ?_
  · refine zr_aloadn C 0 eX9_weight_20 rfl ?_
    refine zr_getR C ff_X9_10 rfl zo_0 rfl zf_0_0 eX9_weight_21 ?_
    refine zr_getR C ff_X9_158 rfl zo_1 rfl zf_1_3 eX9_weight_24 ?_
    refine zr_iloadn C 1 eX9_weight_27 rfl ?_
    refine zr_iloadn C 2 eX9_weight_28 rfl ?_
    refine zr_iast C zo_5 zn_5 n1 eX9_weight_29 (fun σ5 => ?_)
    refine zr_iconst C eX9_weight_30 rfl ?_
    exact zr_zret C eX9_weight_31 (Or.inr rfl)
  refine zr_iconst C eX9_weight_18 rfl ?_
  exact zr_zret C eX9_weight_19 (Or.inl rfl)
theorem wX_story_43 {G : Zg} {p : Program} {l : Launch} {e : Env} {s : State} {m : MethodId} {args : Array Value} {below : List Frame} {meth : Method} {c : Code} (C : zC G p s m args meth c cX9_story 10 RX9 (some .int)) {res : Int × Zm} (K109 : Int → Int → Zm → Zr) (hK109 : ∀ (x3 : Int) (x5 : Int) (n3 : zx x3 = x3) (n5 : zx x5 = x5) (σ : Zm), zR G p l e (zrm 5) s m args below meth c 10 0 0 (zQm below args s G 294 ztt (some (.int (zI res.1))) res.2) 294 ztt res σ (K109 x3 x5 σ) [(3, .long (zJ x3)), (5, .long (zJ x5))] 109 []) : ∀ (n : Nat) (x1 : Int) (x2 : Int) (x3 : Int) (x5 : Int) (x7 : Int) (n1 : zw x1 = x1) (n2 : zw x2 = x2) (n3 : zx x3 = x3) (n5 : zx x5 = x5) (n7 : zw x7 = x7) (σ : Zm), zR G p l e (zrm 5) s m args below meth c 10 0 0 (zQm below args s G 294 ztt (some (.int (zI res.1))) res.2) 294 ztt res σ (fX_story_43 n x1 x2 x3 x5 x7 σ K109) [(0, .ref (zad G 0)), (1, .int (zI x1)), (2, .int (zI x2)), (3, .long (zJ x3)), (5, .long (zJ x5)), (7, .int (zI x7))] 43 []
  | 0, _, _, _, _, _, _, _, _, _, _, _ => zr_none
  | n + 1, x1, x2, x3, x5, x7, n1, n2, n3, n5, n7, σ => by
    have ih := fun (x1 : Int) (x2 : Int) (x3 : Int) (x5 : Int) (x7 : Int) (n1 : zw x1 = x1) (n2 : zw x2 = x2) (n3 : zx x3 = x3) (n5 : zx x5 = x5) (n7 : zw x7 = x7) (σ : Zm) => wX_story_43 (l := l) (e := e) (below := below) C K109 hK109 (res := res) n x1 x2 x3 x5 x7 n1 n2 n3 n5 n7 σ
    rw [fX_story_43]
    refine zr_letf (fun R0 hR0 => ?_)
    have ih : ∀ (x1 : Int) (x2 : Int) (x3 : Int) (x5 : Int) (x7 : Int) (n1 : zw x1 = x1) (n2 : zw x2 = x2) (n3 : zx x3 = x3) (n5 : zx x5 = x5) (n7 : zw x7 = x7) (σ : Zm), zR G p l e (zrm 5) s m args below meth c 10 0 0 (zQm below args s G 294 ztt (some (.int (zI res.1))) res.2) 294 ztt res σ (R0 x1 x2 x3 x5 x7 σ) [(0, .ref (zad G 0)), (1, .int (zI x1)), (2, .int (zI x2)), (3, .long (zJ x3)), (5, .long (zJ x5)), (7, .int (zI x7))] 43 [] := by rw [hR0]; exact ih
    clear hR0
    refine zr_iload C 5 eX9_story_43 rfl ?_
    refine zr_aloadn C 0 eX9_story_45 rfl ?_
    refine zr_getR C ff_X9_10 rfl zo_0 rfl zf_0_0 eX9_story_46 ?_
    refine zr_getI C ff_X9_148 zo_1 eX9_story_49 (fun v4 nv4 => ?_)
    refine zr_icmp_ge C eX9_story_52 n7 nv4 ?_ ?_
    · refine zr_lv [3, 4] rfl ?_
      exact hK109 x3 x5 n3 n5 _
    refine zr_iloadn C 1 eX9_story_55 rfl ?_
    refine zr_iload C 5 eX9_story_56 rfl ?_
    refine zr_ishr C eX9_story_58 ?_
    refine zr_iconst C eX9_story_59 rfl ?_
    refine zr_iand C eX9_story_60 ?_
    refine zr_if_ne C eX9_story_61 (zw_n _) ?_ ?_
    · refine zr_aloadn C 0 eX9_story_67 rfl ?_
      refine zr_getR C ff_X9_10 rfl zo_0 rfl zf_0_0 eX9_story_68 ?_
      refine zr_getR C ff_X9_158 rfl zo_1 rfl zf_1_3 eX9_story_71 ?_
      refine zr_iload C 5 eX9_story_74 rfl ?_
      refine zr_iald C zo_5 zn_5 n7 eX9_story_76 (fun v5 nv5 => ?_)
      refine zr_i2l C eX9_story_77 nv5 ?_
      refine zr_aloadn C 0 eX9_story_78 rfl ?_
      refine zr_iload C 5 eX9_story_79 rfl ?_
      refine zr_callVi C [.int (zI x7)] zy_X9_ordersOf zv_X9_ordersOf lk_X9_302 zrm_5_2_4 zo_0 (by decide) rfl (fun r hr => zqX_ordersOf l G σ x7 n7 r hr) rfl rfl (Nat.le_of_ble_eq_true rfl) eX9_story_81 (fun v7 nv7 σ6 => ?_)
      refine zr_i2l C eX9_story_84 nv7 ?_
      refine zr_lmul C eX9_story_85 ?_
      refine zr_st (show _ = .long (zJ (zx (v5 * v7))) :: _ from congrArg (· :: _) (congrArg Value.long (zJ_x (v5 * v7)).symm)) ?_
      refine zr_letx (P := fun z => .long (zJ z) :: _) (zx_x (v5 * v7)) (fun v8 nv8 => ?_)
      refine zr_lstore (lv' := [(8, .long (zJ v8)), (0, .ref (zad G 0)), (1, .int (zI x1)), (2, .int (zI x2)), (3, .long (zJ x3)), (5, .long (zJ x5)), (7, .int (zI x7))]) C eX9_story_86 (by decide) rfl ?_
      refine zr_lloadn C 4 eX9_story_88 rfl ?_
      refine zr_lload C 0 eX9_story_89 rfl ?_
      refine zr_ladd C eX9_story_91 ?_
      refine zr_st (show _ = .long (zJ (zx (x3 + v8))) :: _ from congrArg (· :: _) (congrArg Value.long (zJ_x (x3 + v8)).symm)) ?_
      refine zr_letx (P := fun z => .long (zJ z) :: _) (zx_x (x3 + v8)) (fun v9 nv9 => ?_)
      refine zr_lstoren (lv' := [(3, .long (zJ v9)), (8, .long (zJ v8)), (0, .ref (zad G 0)), (1, .int (zI x1)), (2, .int (zI x2)), (5, .long (zJ x5)), (7, .int (zI x7))]) C eX9_story_92 (by decide) rfl ?_
      refine zr_iload C 6 eX9_story_93 rfl ?_
      refine zr_iloadn C 4 eX9_story_95 rfl ?_
      refine zr_icmp_ne C eX9_story_96 n7 n2 ?_ ?_
      · refine zr_iinc (lv' := [(7, .int (zI (x7 + 1))), (3, .long (zJ v9)), (8, .long (zJ v8)), (0, .ref (zad G 0)), (1, .int (zI x1)), (2, .int (zI x2)), (5, .long (zJ x5))]) C 6 eX9_story_103 rfl (by decide) rfl ?_
        refine zr_goto C eX9_story_106 ?_
        refine zr_lv [3, 4, 5, 1, 6, 0] rfl ?_
        exact zr_lve (zs_p (zs_p (zs_p (zs_p (zs_p (zs_pi (zI_w (x7 + 1)).symm rfl)))))) (ih x1 x2 v9 x5 (zw (x7 + 1)) n1 n2 nv9 n5 (zw_w (x7 + 1)) _)
      refine zr_lload C 1 eX9_story_99 rfl ?_
      refine zr_lstore (lv' := [(5, .long (zJ v8)), (3, .long (zJ v9)), (8, .long (zJ v8)), (0, .ref (zad G 0)), (1, .int (zI x1)), (2, .int (zI x2)), (7, .int (zI x7))]) C eX9_story_101 (by decide) rfl ?_
      refine zr_iinc (lv' := [(7, .int (zI (x7 + 1))), (5, .long (zJ v8)), (3, .long (zJ v9)), (8, .long (zJ v8)), (0, .ref (zad G 0)), (1, .int (zI x1)), (2, .int (zI x2))]) C 6 eX9_story_103 rfl (by decide) rfl ?_
      refine zr_goto C eX9_story_106 ?_
      refine zr_lv [4, 5, 6, 2, 1, 0] rfl ?_
      exact zr_lve (zs_p (zs_p (zs_p (zs_p (zs_p (zs_pi (zI_w (x7 + 1)).symm rfl)))))) (ih x1 x2 v9 v8 (zw (x7 + 1)) n1 n2 nv9 nv8 (zw_w (x7 + 1)) _)
    refine zr_goto C eX9_story_64 ?_
    refine zr_iinc (lv' := [(7, .int (zI (x7 + 1))), (0, .ref (zad G 0)), (1, .int (zI x1)), (2, .int (zI x2)), (3, .long (zJ x3)), (5, .long (zJ x5))]) C 5 eX9_story_103 rfl (by decide) rfl ?_
    refine zr_goto C eX9_story_106 ?_
    refine zr_lv [1, 2, 3, 4, 5, 0] rfl ?_
    exact zr_lve (zs_p (zs_p (zs_p (zs_p (zs_p (zs_pi (zI_w (x7 + 1)).symm rfl)))))) (ih x1 x2 x3 x5 (zw (x7 + 1)) n1 n2 n3 n5 (zw_w (x7 + 1)) _)
theorem zqX_story (l : Launch) (G : Zg) (σ : Zm) (x1 : Int) (x2 : Int) (n1 : zw x1 = x1) (n2 : zw x2 = x2) (res : Int × Zm) (he : fX_story σ x1 x2 = some res) : zM l yX9_story cX9_story 10 (some .int) 5 G 294 ztt σ [.ref (zad G 0), .int (zI x1), .int (zI x2)] (some (.int (zI res.1))) res.2 := by
  refine zM_of he (by decide +kernel) (Nat.le_of_ble_eq_true rfl) (lv := [(0, .ref (zad G 0)), (1, .int (zI x1)), (2, .int (zI x2))]) rfl (fun p e s m below meth c C => ?_)
  unfold fX_story
  refine zr_aloadn C 0 eX9_story_0 rfl ?_
  refine zr_iloadn C 2 eX9_story_1 rfl ?_
  refine zr_callVi C [.int (zI x2)] zy_X9_isText zv_X9_isText lk_X9_164 zrm_5_2_1 zo_0 (by decide) rfl (fun r hr => zqX_isText l G σ x2 n2 r hr) rfl rfl (Nat.le_of_ble_eq_true rfl) eX9_story_2 (fun v2 nv2 σ1 => ?_)
  refine zr_if_eq C eX9_story_5 nv2 ?_ ?_
  · refine zr_iconst C eX9_story_33 rfl ?_
    exact zr_iret C eX9_story_34
  refine zr_iloadn C 1 eX9_story_8 rfl ?_
  refine zr_if_lt C eX9_story_9 n1 ?_ ?_
  · refine zr_iconst C eX9_story_33 rfl ?_
    exact zr_iret C eX9_story_34
  refine zr_iloadn C 1 eX9_story_12 rfl ?_
  refine zr_iconst C eX9_story_13 rfl ?_
  refine zr_aloadn C 0 eX9_story_14 rfl ?_
  refine zr_getR C ff_X9_10 rfl zo_0 rfl zf_0_0 eX9_story_15 ?_
  refine zr_getI C ff_X9_148 zo_1 eX9_story_18 (fun v3 nv3 => ?_)
  refine zr_ishl C eX9_story_21 ?_
  refine zr_icmp_ge C eX9_story_22 n1 (zw_n _) ?_ ?_
  · refine zr_iconst C eX9_story_33 rfl ?_
    exact zr_iret C eX9_story_34
  refine zr_iloadn C 1 eX9_story_25 rfl ?_
  refine zr_iloadn C 2 eX9_story_26 rfl ?_
  refine zr_ishr C eX9_story_27 ?_
  refine zr_iconst C eX9_story_28 rfl ?_
  refine zr_iand C eX9_story_29 ?_
  refine zr_if_ne C eX9_story_30 (zw_n _) ?_ ?_
  · refine zr_lconst (a := 0) C eX9_story_35 rfl ?_
    refine zr_lstoren (lv' := [(3, .long (zJ 0)), (0, .ref (zad G 0)), (1, .int (zI x1)), (2, .int (zI x2))]) C eX9_story_36 (by decide) rfl ?_
    refine zr_lconst (a := 0) C eX9_story_37 rfl ?_
    refine zr_lstore (lv' := [(5, .long (zJ 0)), (3, .long (zJ 0)), (0, .ref (zad G 0)), (1, .int (zI x1)), (2, .int (zI x2))]) C eX9_story_38 (by decide) rfl ?_
    refine zr_iconst C eX9_story_40 rfl ?_
    refine zr_istore (lv' := [(7, .int (zI 0)), (5, .long (zJ 0)), (3, .long (zJ 0)), (0, .ref (zad G 0)), (1, .int (zI x1)), (2, .int (zI x2))]) C eX9_story_41 (by decide) rfl ?_
    refine zr_lv [3, 4, 5, 2, 1, 0] rfl ?_
    refine wX_story_43 C _ ?_ 5000 x1 x2 0 0 0 n1 n2 wx_0 wx_0 w_0 σ1
    intro y11 y12 ny11 ny12 σ10
    refine zr_lloadn C 0 eX9_story_109 rfl ?_
    refine zr_lconst (a := 1) C eX9_story_110 rfl ?_
    refine zr_lcmp C eX9_story_111 ?_
    refine zr_if_ge C eX9_story_112 (zlc_n _ _) ?_ ?_
    · refine zr_ldc2 (a := 1000) C eX9_story_119 zq_X9_312 rfl ?_
      refine zr_lload C 1 eX9_story_122 rfl ?_
      refine zr_lmul C eX9_story_124 ?_
      refine zr_lloadn C 0 eX9_story_125 rfl ?_
      refine zr_ldiv C eX9_story_126 rfl ny11 ?_
      refine zr_l2i C eX9_story_127 ?_
      exact zr_iret C eX9_story_128
    refine zr_iconst C eX9_story_115 rfl ?_
    refine zr_goto C eX9_story_116 ?_
    exact zr_iret C eX9_story_128
  refine zr_iconst C eX9_story_33 rfl ?_
  exact zr_iret C eX9_story_34
theorem zqX_image (l : Launch) (G : Zg) (σ : Zm) (res : Int × Zm) (he : fX_image σ = some res) : zM l yX9_image cX9_image 1 (some .int) 3 G 294 ztt σ [.ref (zad G 0)] (some (.int (zI res.1))) res.2 := by
  refine zM_of he (by decide +kernel) (Nat.le_of_ble_eq_true rfl) (lv := [(0, .ref (zad G 0))]) rfl (fun p e s m below meth c C => ?_)
  unfold fX_image
  refine zr_aloadn C 0 eX9_image_0 rfl ?_
  refine zr_getR C ff_X9_16 rfl zo_0 rfl zf_0_1 eX9_image_1 ?_
  refine zr_aloadn C 0 eX9_image_4 rfl ?_
  refine zr_getR C ff_X9_10 rfl zo_0 rfl zf_0_0 eX9_image_5 ?_
  refine zr_callVv C [.ref (zad G 1)] zy_X7_take zv_X7_take lk_X9_314 zrm_3_3_2 zo_75 (by decide) rfl (fun r hr => zqS_take l G σ 75 1 zo_75 zo_1 r hr) rfl rfl (Nat.le_of_ble_eq_true rfl) eX9_image_8 (fun σ1 => ?_)
  refine zr_aloadn C 0 eX9_image_11 rfl ?_
  refine zr_getR C ff_X9_10 rfl zo_0 rfl zf_0_0 eX9_image_12 ?_
  refine zr_getI C ff_X9_148 zo_1 eX9_image_15 (fun v2 nv2 => ?_)
  exact zr_iret C eX9_image_18
theorem zqX_back (l : Launch) (G : Zg) (σ : Zm) (res : Int × Zm) (he : fX_back σ = some res) : zM l yX9_back cX9_back 1 (some .int) 3 G 294 ztt σ [.ref (zad G 0)] (some (.int (zI res.1))) res.2 := by
  refine zM_of he (by decide +kernel) (Nat.le_of_ble_eq_true rfl) (lv := [(0, .ref (zad G 0))]) rfl (fun p e s m below meth c C => ?_)
  unfold fX_back
  refine zr_aloadn C 0 eX9_back_0 rfl ?_
  refine zr_getR C ff_X9_10 rfl zo_0 rfl zf_0_0 eX9_back_1 ?_
  refine zr_aloadn C 0 eX9_back_4 rfl ?_
  refine zr_getR C ff_X9_16 rfl zo_0 rfl zf_0_1 eX9_back_5 ?_
  refine zr_callVv C [.ref (zad G 75)] zy_X7_take zv_X7_take lk_X9_314 zrm_3_3_2 zo_1 (by decide) rfl (fun r hr => zqS_take l G σ 1 75 zo_1 zo_75 r hr) rfl rfl (Nat.le_of_ble_eq_true rfl) eX9_back_8 (fun σ1 => ?_)
  refine zr_aloadn C 0 eX9_back_11 rfl ?_
  refine zr_getR C ff_X9_10 rfl zo_0 rfl zf_0_0 eX9_back_12 ?_
  refine zr_getI C ff_X9_148 zo_1 eX9_back_15 (fun v2 nv2 => ?_)
  exact zr_iret C eX9_back_18
theorem zqX_aboutOne (l : Launch) (G : Zg) (σ : Zm) (x1 : Int) (n1 : zw x1 = x1) (res : Int × Zm) (he : fX_aboutOne σ x1 = some res) : zM l yX9_aboutOne cX9_aboutOne 2 (some .int) 2 G 294 ztt σ [.ref (zad G 0), .int (zI x1)] (some (.int (zI res.1))) res.2 := by
  refine zM_of he (by decide +kernel) (Nat.le_of_ble_eq_true rfl) (lv := [(0, .ref (zad G 0)), (1, .int (zI x1))]) rfl (fun p e s m below meth c C => ?_)
  unfold fX_aboutOne
  refine zr_iloadn C 1 eX9_aboutOne_0 rfl ?_
  refine zr_bipush (a := 10) C eX9_aboutOne_1 rfl ?_
  refine zr_bipush (a := 13) C eX9_aboutOne_3 rfl ?_
  refine zr_callSi C [.int (zI x1), .int (zI 10), .int (zI 13)] zy_X9_within zs_X9_within lk_X9_113 zrm_2_3_0 (fun r hr => zqX_within l G σ x1 10 13 n1 w_10 w_13 r hr) rfl rfl (Nat.le_of_ble_eq_true rfl) eX9_aboutOne_5 (fun v2 nv2 σ1 => ?_)
  refine zr_if_eq C eX9_aboutOne_8 nv2 ?_ ?_
  · refine zr_iloadn C 1 eX9_aboutOne_23 rfl ?_
    refine zr_bipush (a := 20) C eX9_aboutOne_24 rfl ?_
    refine zr_bipush (a := 23) C eX9_aboutOne_26 rfl ?_
    refine zr_callSi C [.int (zI x1), .int (zI 20), .int (zI 23)] zy_X9_within zs_X9_within lk_X9_113 zrm_2_3_0 (fun r hr => zqX_within l G σ1 x1 20 23 n1 w_20 w_23 r hr) rfl rfl (Nat.le_of_ble_eq_true rfl) eX9_aboutOne_28 (fun v4 nv4 σ3 => ?_)
    refine zr_if_eq C eX9_aboutOne_31 nv4 ?_ ?_
    · refine zr_iloadn C 1 eX9_aboutOne_47 rfl ?_
      refine zr_bipush (a := 30) C eX9_aboutOne_48 rfl ?_
      refine zr_bipush (a := 35) C eX9_aboutOne_50 rfl ?_
      refine zr_callSi C [.int (zI x1), .int (zI 30), .int (zI 35)] zy_X9_within zs_X9_within lk_X9_113 zrm_2_3_0 (fun r hr => zqX_within l G σ3 x1 30 35 n1 w_30 w_35 r hr) rfl rfl (Nat.le_of_ble_eq_true rfl) eX9_aboutOne_52 (fun v6 nv6 σ5 => ?_)
      refine zr_if_eq C eX9_aboutOne_55 nv6 ?_ ?_
      · refine zr_iloadn C 1 eX9_aboutOne_74 rfl ?_
        refine zr_bipush (a := 40) C eX9_aboutOne_75 rfl ?_
        refine zr_bipush (a := 40) C eX9_aboutOne_77 rfl ?_
        refine zr_aloadn C 0 eX9_aboutOne_79 rfl ?_
        refine zr_getR C ff_X9_10 rfl zo_0 rfl zf_0_0 eX9_aboutOne_80 ?_
        refine zr_getI C ff_X9_148 zo_1 eX9_aboutOne_83 (fun v7 nv7 => ?_)
        refine zr_iadd C eX9_aboutOne_86 ?_
        refine zr_iconst C eX9_aboutOne_87 rfl ?_
        refine zr_isub C eX9_aboutOne_88 ?_
        refine zr_callSi C [.int (zI x1), .int (zI 40), .int (zI (zw ((40 + v7) - 1)))] zy_X9_within zs_X9_within lk_X9_113 zrm_2_3_0 (fun r hr => zqX_within l G σ5 x1 40 (zw ((40 + v7) - 1)) n1 w_40 (zw_w ((40 + v7) - 1)) r hr) rfl (zs_i (zI_w ((40 + v7) - 1)).symm (zs_k (zs_k rfl))) (Nat.le_of_ble_eq_true rfl) eX9_aboutOne_89 (fun v9 nv9 σ8 => ?_)
        refine zr_if_eq C eX9_aboutOne_92 nv9 ?_ ?_
        · refine zr_bipush (a := (-2)) C eX9_aboutOne_108 rfl ?_
          exact zr_iret C eX9_aboutOne_110
        refine zr_aloadn C 0 eX9_aboutOne_95 rfl ?_
        refine zr_getR C ff_X9_10 rfl zo_0 rfl zf_0_0 eX9_aboutOne_96 ?_
        refine zr_getR C ff_X9_158 rfl zo_1 rfl zf_1_3 eX9_aboutOne_99 ?_
        refine zr_iloadn C 1 eX9_aboutOne_102 rfl ?_
        refine zr_bipush (a := 40) C eX9_aboutOne_103 rfl ?_
        refine zr_isub C eX9_aboutOne_105 ?_
        refine zr_iald C zo_5 zn_5 rfl eX9_aboutOne_106 (fun v10 nv10 => ?_)
        exact zr_iret C eX9_aboutOne_107
      refine zr_aloadn C 0 eX9_aboutOne_58 rfl ?_
      refine zr_getR C ff_X9_10 rfl zo_0 rfl zf_0_0 eX9_aboutOne_59 ?_
      refine zr_getR C ff_X9_127 rfl zo_1 rfl zf_1_1 eX9_aboutOne_62 ?_
      refine zr_iloadn C 1 eX9_aboutOne_65 rfl ?_
      refine zr_bipush (a := 30) C eX9_aboutOne_66 rfl ?_
      refine zr_isub C eX9_aboutOne_68 ?_
      refine zr_aald23 C zo_3 zn_3 rfl (fun _ _ => rfl) eX9_aboutOne_69 (fun hh11 => ?_)
      refine zr_callVi C [] zy_X3_beats zv_X3_beats lk_X9_130 zrm_2_2_0 (ze_23 zo_3 zn_3 hh11) (by decide) rfl (fun r hr => zqL_beats l G σ5 (zRF 3 (zw (x1 - 30)).toNat) (ze_23 zo_3 zn_3 hh11) r hr) rfl rfl (Nat.le_of_ble_eq_true rfl) eX9_aboutOne_70 (fun v13 nv13 σ12 => ?_)
      exact zr_iret C eX9_aboutOne_73
    refine zr_aloadn C 0 eX9_aboutOne_34 rfl ?_
    refine zr_getR C ff_X9_10 rfl zo_0 rfl zf_0_0 eX9_aboutOne_35 ?_
    refine zr_getR C ff_X9_249 rfl zo_1 rfl zf_1_2 eX9_aboutOne_38 ?_
    refine zr_iloadn C 1 eX9_aboutOne_41 rfl ?_
    refine zr_bipush (a := 20) C eX9_aboutOne_42 rfl ?_
    refine zr_isub C eX9_aboutOne_44 ?_
    refine zr_iald C zo_4 zn_4 rfl eX9_aboutOne_45 (fun v14 nv14 => ?_)
    exact zr_iret C eX9_aboutOne_46
  refine zr_aloadn C 0 eX9_aboutOne_11 rfl ?_
  refine zr_getR C ff_X9_10 rfl zo_0 rfl zf_0_0 eX9_aboutOne_12 ?_
  refine zr_iloadn C 1 eX9_aboutOne_15 rfl ?_
  refine zr_bipush (a := 10) C eX9_aboutOne_16 rfl ?_
  refine zr_isub C eX9_aboutOne_18 ?_
  refine zr_callVi C [.int (zI (zw (x1 - 10)))] zy_X7_lengthOf zv_X7_lengthOf lk_X9_109 zrm_2_4_1 zo_1 (by decide) rfl (fun r hr => zqS_lengthOf l G σ1 1 (zw (x1 - 10)) zo_1 (zw_w (x1 - 10)) r hr) rfl (zs_i (zI_w (x1 - 10)).symm rfl) (Nat.le_of_ble_eq_true rfl) eX9_aboutOne_19 (fun v16 nv16 σ15 => ?_)
  exact zr_iret C eX9_aboutOne_22
theorem zqX_about (l : Launch) (G : Zg) (σ : Zm) (x1 : Int) (n1 : zw x1 = x1) (res : Int × Zm) (he : fX_about σ x1 = some res) : zM l yX9_about cX9_about 2 (some .int) 3 G 294 ztt σ [.ref (zad G 0), .int (zI x1)] (some (.int (zI res.1))) res.2 := by
  refine zM_of he (by decide +kernel) (Nat.le_of_ble_eq_true rfl) (lv := [(0, .ref (zad G 0)), (1, .int (zI x1))]) rfl (fun p e s m below meth c C => ?_)
  unfold fX_about
  refine zr_iloadn C 1 eX9_about_0 rfl ?_
  refine zr_if (fun hh1 => ?_) (fun hh1 => ?_)
  · refine zr_tbl C eX9_about_1 0 n1 hh1 (by decide) (by decide) rfl rfl ?_
    refine zr_aloadn C 0 eX9_about_36 rfl ?_
    refine zr_getR C ff_X9_10 rfl zo_0 rfl zf_0_0 eX9_about_37 ?_
    refine zr_getI C ff_X9_134 zo_1 eX9_about_40 (fun v2 nv2 => ?_)
    exact zr_iret C eX9_about_43
  refine zr_if (fun hh3 => ?_) (fun hh3 => ?_)
  · refine zr_tbl C eX9_about_1 1 n1 hh3 (by decide) (by decide) rfl rfl ?_
    refine zr_aloadn C 0 eX9_about_44 rfl ?_
    refine zr_getR C ff_X9_10 rfl zo_0 rfl zf_0_0 eX9_about_45 ?_
    refine zr_getI C ff_X9_148 zo_1 eX9_about_48 (fun v4 nv4 => ?_)
    exact zr_iret C eX9_about_51
  refine zr_if (fun hh5 => ?_) (fun hh5 => ?_)
  · refine zr_tbl C eX9_about_1 2 n1 hh5 (by decide) (by decide) rfl rfl ?_
    refine zr_aloadn C 0 eX9_about_52 rfl ?_
    refine zr_getR C ff_X9_10 rfl zo_0 rfl zf_0_0 eX9_about_53 ?_
    refine zr_getI C ff_X9_296 zo_1 eX9_about_56 (fun v6 nv6 => ?_)
    exact zr_iret C eX9_about_59
  refine zr_if (fun hh7 => ?_) (fun hh7 => ?_)
  · refine zr_tbl C eX9_about_1 3 n1 hh7 (by decide) (by decide) rfl rfl ?_
    refine zr_aloadn C 0 eX9_about_60 rfl ?_
    refine zr_getR C ff_X9_10 rfl zo_0 rfl zf_0_0 eX9_about_61 ?_
    refine zr_getI C ff_X9_281 zo_1 eX9_about_64 (fun v8 nv8 => ?_)
    exact zr_iret C eX9_about_67
  refine zr_if (fun hh9 => ?_) (fun hh9 => ?_)
  · refine zr_tbl C eX9_about_1 4 n1 hh9 (by decide) (by decide) rfl rfl ?_
    refine zr_aloadn C 0 eX9_about_68 rfl ?_
    refine zr_getR C ff_X9_28 rfl zo_0 rfl zf_0_3 eX9_about_69 ?_
    refine zr_getI C ff_X9_142 zo_150 eX9_about_72 (fun v10 nv10 => ?_)
    exact zr_iret C eX9_about_75
  refine zr_tblD C eX9_about_1 [0, 1, 2, 3, 4] n1 (by intro v hv; rcases (show v = 0 ∨ v = 1 ∨ v = 2 ∨ v = 3 ∨ v = 4 by simpa using hv) with rfl | rfl | rfl | rfl | rfl <;> assumption) (by decide +kernel) rfl ?_
  refine zr_aloadn C 0 eX9_about_76 rfl ?_
  refine zr_iloadn C 1 eX9_about_77 rfl ?_
  refine zr_callVi C [.int (zI x1)] zy_X9_aboutOne zv_X9_aboutOne lk_X9_317 zrm_3_2_2 zo_0 (by decide) rfl (fun r hr => zqX_aboutOne l G σ x1 n1 r hr) rfl rfl (Nat.le_of_ble_eq_true rfl) eX9_about_78 (fun v12 nv12 σ11 => ?_)
  exact zr_iret C eX9_about_81
