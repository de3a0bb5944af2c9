theorem w_3 : zw 3 = 3 := by decide +kernel
theorem lk_X9_113 : zL RX9 113 yX9_within := Or.inl (by decide +kernel)
theorem zy_X9_within : zY yX9_within cX9_within 3 (some .boolean) 3 := by unfold zY; decide +kernel
theorem zs_X9_within : Cond.static yX9_within ∈ ztb := by decide +kernel
theorem w_60 : zw 60 = 60 := by decide +kernel
theorem w_5 : zw 5 = 5 := by decide +kernel
theorem w_15 : zw 15 = 15 := by decide +kernel
theorem w_m12 : zw (-12) = (-12) := by decide +kernel
theorem w_12 : zw 12 = 12 := by decide +kernel
theorem lk_X9_320 : Cond.methodLink RX9 320 Lib.Math.min.name ∈ ztb := by decide +kernel
theorem zy_mmin : Cond.static Lib.Math.min.name ∈ ztb ∧ Cond.initialized "java/lang/Math" ∈ ztb ∧ Cond.code Lib.Math.min.name Lib.Math.min.code 2 (some .int) ∈ ztb := by decide +kernel
theorem zrm_1_2_0 : zRm (zrm 1) 0 0 2 0 := by unfold zRm; decide
theorem lk_X9_290 : Cond.methodLink RX9 290 Lib.Math.max.name ∈ ztb := by decide +kernel
theorem zy_mmax : Cond.static Lib.Math.max.name ∈ ztb ∧ Cond.initialized "java/lang/Math" ∈ ztb ∧ Cond.code Lib.Math.max.name Lib.Math.max.code 2 (some .int) ∈ ztb := by decide +kernel
theorem w_25 : zw 25 = 25 := by decide +kernel
theorem w_9 : zw 9 = 9 := by decide +kernel
theorem w_225 : zw 225 = 225 := by decide +kernel
theorem w_2 : zw 2 = 2 := by decide +kernel
theorem w_10000 : zw 10000 = 10000 := by decide +kernel
theorem w_450 : zw 450 = 450 := by decide +kernel
theorem w_5000 : zw 5000 = 5000 := by decide +kernel
theorem w_100 : zw 100 = 100 := by decide +kernel
theorem w_11 : zw 11 = 11 := by decide +kernel
theorem w_4 : zw 4 = 4 := by decide +kernel
theorem w_44 : zw 44 = 44 := by decide +kernel
theorem zq_J6_265 : Cond.constant RJ6 265 (1431655765) ∈ ztb := by decide +kernel
theorem w_1431655765 : zw 1431655765 = 1431655765 := by decide +kernel
theorem zq_J6_266 : Cond.constant RJ6 266 (858993459) ∈ ztb := by decide +kernel
theorem w_858993459 : zw 858993459 = 858993459 := by decide +kernel
theorem zq_J6_267 : Cond.constant RJ6 267 (252645135) ∈ ztb := by decide +kernel
theorem w_252645135 : zw 252645135 = 252645135 := by decide +kernel
theorem w_8 : zw 8 = 8 := by decide +kernel
theorem w_16 : zw 16 = 16 := by decide +kernel
theorem w_63 : zw 63 = 63 := by decide +kernel
theorem eX9_within_0 : zD cX9_within 0 (.iload_n 0) 1 1 := ⟨by decide +kernel, rfl⟩
theorem eX9_within_1 : zD cX9_within 1 (.iload_n 1) 1 2 := ⟨by decide +kernel, rfl⟩
theorem eX9_within_2 : zDj cX9_within 2 (.if_icmp .lt 12) 12 14 5 := ⟨by decide +kernel, rfl, by decide⟩
theorem eX9_within_5 : zD cX9_within 5 (.iload_n 0) 1 6 := ⟨by decide +kernel, rfl⟩
theorem eX9_within_6 : zD cX9_within 6 (.iload_n 2) 1 7 := ⟨by decide +kernel, rfl⟩
theorem eX9_within_7 : zDj cX9_within 7 (.if_icmp .gt 7) 7 14 10 := ⟨by decide +kernel, rfl, by decide⟩
theorem eX9_within_10 : zD cX9_within 10 (.iconst 1) 1 11 := ⟨by decide +kernel, rfl⟩
theorem eX9_within_11 : zDj cX9_within 11 (.goto 4) 4 15 14 := ⟨by decide +kernel, rfl, by decide⟩
theorem eX9_within_14 : zD cX9_within 14 (.iconst 0) 1 15 := ⟨by decide +kernel, rfl⟩
theorem eX9_within_15 : zD cX9_within 15 .ireturn 1 16 := ⟨by decide +kernel, rfl⟩
theorem eX9_isPiece_0 : zD cX9_isPiece 0 (.iload_n 0) 1 1 := ⟨by decide +kernel, rfl⟩
theorem eX9_isPiece_1 : zD cX9_isPiece 1 (.iconst 0) 1 2 := ⟨by decide +kernel, rfl⟩
theorem eX9_isPiece_2 : zD cX9_isPiece 2 (.iconst 3) 1 3 := ⟨by decide +kernel, rfl⟩
theorem eX9_isPiece_3 : zD cX9_isPiece 3 (.invokestatic 113) 3 6 := ⟨by decide +kernel, rfl⟩
theorem eX9_isPiece_6 : zD cX9_isPiece 6 .ireturn 1 7 := ⟨by decide +kernel, rfl⟩
theorem eX9_isVoice_0 : zD cX9_isVoice 0 (.iload_n 0) 1 1 := ⟨by decide +kernel, rfl⟩
theorem eX9_isVoice_1 : zD cX9_isVoice 1 (.iconst 0) 1 2 := ⟨by decide +kernel, rfl⟩
theorem eX9_isVoice_2 : zD cX9_isVoice 2 (.iconst 3) 1 3 := ⟨by decide +kernel, rfl⟩
theorem eX9_isVoice_3 : zD cX9_isVoice 3 (.invokestatic 113) 3 6 := ⟨by decide +kernel, rfl⟩
theorem eX9_isVoice_6 : zD cX9_isVoice 6 .ireturn 1 7 := ⟨by decide +kernel, rfl⟩
theorem eX9_isPitch_0 : zD cX9_isPitch 0 (.iload_n 0) 1 1 := ⟨by decide +kernel, rfl⟩
theorem eX9_isPitch_1 : zD cX9_isPitch 1 (.iconst 0) 1 2 := ⟨by decide +kernel, rfl⟩
theorem eX9_isPitch_2 : zD cX9_isPitch 2 (.bipush 60) 2 4 := ⟨by decide +kernel, rfl⟩
theorem eX9_isPitch_4 : zD cX9_isPitch 4 (.invokestatic 113) 3 7 := ⟨by decide +kernel, rfl⟩
theorem eX9_isPitch_7 : zD cX9_isPitch 7 .ireturn 1 8 := ⟨by decide +kernel, rfl⟩
theorem eX9_isSubject_0 : zD cX9_isSubject 0 (.iload_n 0) 1 1 := ⟨by decide +kernel, rfl⟩
theorem eX9_isSubject_1 : zD cX9_isSubject 1 (.iconst 0) 1 2 := ⟨by decide +kernel, rfl⟩
theorem eX9_isSubject_2 : zD cX9_isSubject 2 (.iconst 5) 1 3 := ⟨by decide +kernel, rfl⟩
theorem eX9_isSubject_3 : zD cX9_isSubject 3 (.invokestatic 113) 3 6 := ⟨by decide +kernel, rfl⟩
theorem eX9_isSubject_6 : zD cX9_isSubject 6 .ireturn 1 7 := ⟨by decide +kernel, rfl⟩
theorem eX9_isSet_0 : zD cX9_isSet 0 (.iload_n 0) 1 1 := ⟨by decide +kernel, rfl⟩
theorem eX9_isSet_1 : zD cX9_isSet 1 (.iconst 0) 1 2 := ⟨by decide +kernel, rfl⟩
theorem eX9_isSet_2 : zD cX9_isSet 2 (.bipush 15) 2 4 := ⟨by decide +kernel, rfl⟩
theorem eX9_isSet_4 : zD cX9_isSet 4 (.invokestatic 113) 3 7 := ⟨by decide +kernel, rfl⟩
theorem eX9_isSet_7 : zD cX9_isSet 7 .ireturn 1 8 := ⟨by decide +kernel, rfl⟩
theorem eX9_isNote_0 : zD cX9_isNote 0 (.iload_n 1) 1 1 := ⟨by decide +kernel, rfl⟩
theorem eX9_isNote_1 : zD cX9_isNote 1 (.iconst 1) 1 2 := ⟨by decide +kernel, rfl⟩
theorem eX9_isNote_2 : zD cX9_isNote 2 (.iload_n 2) 1 3 := ⟨by decide +kernel, rfl⟩
theorem eX9_isNote_3 : zD cX9_isNote 3 (.invokestatic 113) 3 6 := ⟨by decide +kernel, rfl⟩
theorem eX9_isNote_6 : zDj cX9_isNote 6 (.ifCond .eq 18) 18 24 9 := ⟨by decide +kernel, rfl, by decide⟩
theorem eX9_isNote_9 : zD cX9_isNote 9 (.iload_n 0) 1 10 := ⟨by decide +kernel, rfl⟩
theorem eX9_isNote_10 : zD cX9_isNote 10 (.iconst 0) 1 11 := ⟨by decide +kernel, rfl⟩
theorem eX9_isNote_11 : zD cX9_isNote 11 (.iload_n 3) 1 12 := ⟨by decide +kernel, rfl⟩
theorem eX9_isNote_12 : zD cX9_isNote 12 (.iload_n 1) 1 13 := ⟨by decide +kernel, rfl⟩
theorem eX9_isNote_13 : zD cX9_isNote 13 .isub 1 14 := ⟨by decide +kernel, rfl⟩
theorem eX9_isNote_14 : zD cX9_isNote 14 (.invokestatic 113) 3 17 := ⟨by decide +kernel, rfl⟩
theorem eX9_isNote_17 : zDj cX9_isNote 17 (.ifCond .eq 7) 7 24 20 := ⟨by decide +kernel, rfl, by decide⟩
theorem eX9_isNote_20 : zD cX9_isNote 20 (.iconst 1) 1 21 := ⟨by decide +kernel, rfl⟩
theorem eX9_isNote_21 : zDj cX9_isNote 21 (.goto 4) 4 25 24 := ⟨by decide +kernel, rfl, by decide⟩
theorem eX9_isNote_24 : zD cX9_isNote 24 (.iconst 0) 1 25 := ⟨by decide +kernel, rfl⟩
theorem eX9_isNote_25 : zD cX9_isNote 25 .ireturn 1 26 := ⟨by decide +kernel, rfl⟩
theorem eX9_boundedStep_0 : zD cX9_boundedStep 0 (.bipush (-12)) 2 2 := ⟨by decide +kernel, rfl⟩
theorem eX9_boundedStep_2 : zD cX9_boundedStep 2 (.bipush 12) 2 4 := ⟨by decide +kernel, rfl⟩
theorem eX9_boundedStep_4 : zD cX9_boundedStep 4 (.iload_n 0) 1 5 := ⟨by decide +kernel, rfl⟩
theorem eX9_boundedStep_5 : zD cX9_boundedStep 5 (.invokestatic 320) 3 8 := ⟨by decide +kernel, rfl⟩
theorem eX9_boundedStep_8 : zD cX9_boundedStep 8 (.invokestatic 290) 3 11 := ⟨by decide +kernel, rfl⟩
theorem eX9_boundedStep_11 : zD cX9_boundedStep 11 .ireturn 1 12 := ⟨by decide +kernel, rfl⟩
theorem eX9_formCode_0 : zD cX9_formCode 0 (.iload_n 0) 1 1 := ⟨by decide +kernel, rfl⟩
theorem eX9_formCode_1 : zD cX9_formCode 1 (.bipush 25) 2 3 := ⟨by decide +kernel, rfl⟩
theorem eX9_formCode_3 : zD cX9_formCode 3 .irem 1 4 := ⟨by decide +kernel, rfl⟩
theorem eX9_formCode_4 : zD cX9_formCode 4 (.istore_n 1) 1 5 := ⟨by decide +kernel, rfl⟩
theorem eX9_formCode_5 : zD cX9_formCode 5 (.iload_n 0) 1 6 := ⟨by decide +kernel, rfl⟩
theorem eX9_formCode_6 : zD cX9_formCode 6 (.bipush 25) 2 8 := ⟨by decide +kernel, rfl⟩
theorem eX9_formCode_8 : zD cX9_formCode 8 .idiv 1 9 := ⟨by decide +kernel, rfl⟩
theorem eX9_formCode_9 : zD cX9_formCode 9 (.bipush 9) 2 11 := ⟨by decide +kernel, rfl⟩
theorem eX9_formCode_11 : zD cX9_formCode 11 .irem 1 12 := ⟨by decide +kernel, rfl⟩
theorem eX9_formCode_12 : zD cX9_formCode 12 (.istore_n 2) 1 13 := ⟨by decide +kernel, rfl⟩
theorem eX9_formCode_13 : zD cX9_formCode 13 (.iload_n 0) 1 14 := ⟨by decide +kernel, rfl⟩
theorem eX9_formCode_14 : zD cX9_formCode 14 (.sipush 225) 3 17 := ⟨by decide +kernel, rfl⟩
theorem eX9_formCode_17 : zD cX9_formCode 17 .idiv 1 18 := ⟨by decide +kernel, rfl⟩
theorem eX9_formCode_18 : zD cX9_formCode 18 (.iconst 2) 1 19 := ⟨by decide +kernel, rfl⟩
theorem eX9_formCode_19 : zD cX9_formCode 19 .irem 1 20 := ⟨by decide +kernel, rfl⟩
theorem eX9_formCode_20 : zD cX9_formCode 20 (.istore_n 3) 1 21 := ⟨by decide +kernel, rfl⟩
theorem eX9_formCode_21 : zD cX9_formCode 21 (.sipush 10000) 3 24 := ⟨by decide +kernel, rfl⟩
theorem eX9_formCode_24 : zD cX9_formCode 24 (.iload_n 0) 1 25 := ⟨by decide +kernel, rfl⟩
theorem eX9_formCode_25 : zD cX9_formCode 25 (.sipush 450) 3 28 := ⟨by decide +kernel, rfl⟩
theorem eX9_formCode_28 : zD cX9_formCode 28 .idiv 1 29 := ⟨by decide +kernel, rfl⟩
theorem eX9_formCode_29 : zD cX9_formCode 29 .imul 1 30 := ⟨by decide +kernel, rfl⟩
theorem eX9_formCode_30 : zD cX9_formCode 30 (.sipush 5000) 3 33 := ⟨by decide +kernel, rfl⟩
theorem eX9_formCode_33 : zD cX9_formCode 33 (.iload_n 3) 1 34 := ⟨by decide +kernel, rfl⟩
theorem eX9_formCode_34 : zD cX9_formCode 34 .imul 1 35 := ⟨by decide +kernel, rfl⟩
theorem eX9_formCode_35 : zD cX9_formCode 35 .iadd 1 36 := ⟨by decide +kernel, rfl⟩
theorem eX9_formCode_36 : zD cX9_formCode 36 (.bipush 100) 2 38 := ⟨by decide +kernel, rfl⟩
theorem eX9_formCode_38 : zD cX9_formCode 38 (.iload_n 2) 1 39 := ⟨by decide +kernel, rfl⟩
theorem eX9_formCode_39 : zD cX9_formCode 39 .imul 1 40 := ⟨by decide +kernel, rfl⟩
theorem eX9_formCode_40 : zD cX9_formCode 40 .iadd 1 41 := ⟨by decide +kernel, rfl⟩
theorem eX9_formCode_41 : zD cX9_formCode 41 (.iload_n 1) 1 42 := ⟨by decide +kernel, rfl⟩
theorem eX9_formCode_42 : zD cX9_formCode 42 .iadd 1 43 := ⟨by decide +kernel, rfl⟩
theorem eX9_formCode_43 : zD cX9_formCode 43 .ireturn 1 44 := ⟨by decide +kernel, rfl⟩
theorem eX9_formOfThree_0 : zD cX9_formOfThree 0 (.iload_n 0) 1 1 := ⟨by decide +kernel, rfl⟩
theorem eX9_formOfThree_1 : zD cX9_formOfThree 1 (.bipush 11) 2 3 := ⟨by decide +kernel, rfl⟩
theorem eX9_formOfThree_3 : zD cX9_formOfThree 3 .irem 1 4 := ⟨by decide +kernel, rfl⟩
theorem eX9_formOfThree_4 : zD cX9_formOfThree 4 (.iconst 5) 1 5 := ⟨by decide +kernel, rfl⟩
theorem eX9_formOfThree_5 : zD cX9_formOfThree 5 .isub 1 6 := ⟨by decide +kernel, rfl⟩
theorem eX9_formOfThree_6 : zD cX9_formOfThree 6 (.istore_n 1) 1 7 := ⟨by decide +kernel, rfl⟩
theorem eX9_formOfThree_7 : zD cX9_formOfThree 7 (.iload_n 0) 1 8 := ⟨by decide +kernel, rfl⟩
theorem eX9_formOfThree_8 : zD cX9_formOfThree 8 (.bipush 11) 2 10 := ⟨by decide +kernel, rfl⟩
theorem eX9_formOfThree_10 : zD cX9_formOfThree 10 .idiv 1 11 := ⟨by decide +kernel, rfl⟩
theorem eX9_formOfThree_11 : zD cX9_formOfThree 11 (.iconst 4) 1 12 := ⟨by decide +kernel, rfl⟩
theorem eX9_formOfThree_12 : zD cX9_formOfThree 12 .irem 1 13 := ⟨by decide +kernel, rfl⟩
theorem eX9_formOfThree_13 : zD cX9_formOfThree 13 (.istore_n 2) 1 14 := ⟨by decide +kernel, rfl⟩
theorem eX9_formOfThree_14 : zD cX9_formOfThree 14 (.iload_n 0) 1 15 := ⟨by decide +kernel, rfl⟩
theorem eX9_formOfThree_15 : zD cX9_formOfThree 15 (.bipush 44) 2 17 := ⟨by decide +kernel, rfl⟩
theorem eX9_formOfThree_17 : zD cX9_formOfThree 17 .idiv 1 18 := ⟨by decide +kernel, rfl⟩
theorem eX9_formOfThree_18 : zD cX9_formOfThree 18 (.istore_n 3) 1 19 := ⟨by decide +kernel, rfl⟩
theorem eX9_formOfThree_19 : zD cX9_formOfThree 19 (.iload_n 3) 1 20 := ⟨by decide +kernel, rfl⟩
theorem eX9_formOfThree_20 : zD cX9_formOfThree 20 (.sipush 225) 3 23 := ⟨by decide +kernel, rfl⟩
theorem eX9_formOfThree_23 : zD cX9_formOfThree 23 .imul 1 24 := ⟨by decide +kernel, rfl⟩
theorem eX9_formOfThree_24 : zD cX9_formOfThree 24 (.iload_n 2) 1 25 := ⟨by decide +kernel, rfl⟩
theorem eX9_formOfThree_25 : zD cX9_formOfThree 25 (.bipush 25) 2 27 := ⟨by decide +kernel, rfl⟩
theorem eX9_formOfThree_27 : zD cX9_formOfThree 27 .imul 1 28 := ⟨by decide +kernel, rfl⟩
theorem eX9_formOfThree_28 : zD cX9_formOfThree 28 .iadd 1 29 := ⟨by decide +kernel, rfl⟩
theorem eX9_formOfThree_29 : zD cX9_formOfThree 29 (.iload_n 1) 1 30 := ⟨by decide +kernel, rfl⟩
theorem eX9_formOfThree_30 : zD cX9_formOfThree 30 .iadd 1 31 := ⟨by decide +kernel, rfl⟩
theorem eX9_formOfThree_31 : zD cX9_formOfThree 31 (.bipush 12) 2 33 := ⟨by decide +kernel, rfl⟩
theorem eX9_formOfThree_33 : zD cX9_formOfThree 33 .iadd 1 34 := ⟨by decide +kernel, rfl⟩
theorem eX9_formOfThree_34 : zD cX9_formOfThree 34 .ireturn 1 35 := ⟨by decide +kernel, rfl⟩
theorem eJ6_bitCount_0f7a4_0 : zD cJ6_bitCount_0f7a4 0 (.iload_n 0) 1 1 := ⟨by decide +kernel, rfl⟩
theorem eJ6_bitCount_0f7a4_1 : zD cJ6_bitCount_0f7a4 1 (.iload_n 0) 1 2 := ⟨by decide +kernel, rfl⟩
theorem eJ6_bitCount_0f7a4_2 : zD cJ6_bitCount_0f7a4 2 (.iconst 1) 1 3 := ⟨by decide +kernel, rfl⟩
theorem eJ6_bitCount_0f7a4_3 : zD cJ6_bitCount_0f7a4 3 .iushr 1 4 := ⟨by decide +kernel, rfl⟩
theorem eJ6_bitCount_0f7a4_4 : zD cJ6_bitCount_0f7a4 4 (.ldc_w 265) 3 7 := ⟨by decide +kernel, rfl⟩
theorem eJ6_bitCount_0f7a4_7 : zD cJ6_bitCount_0f7a4 7 .iand 1 8 := ⟨by decide +kernel, rfl⟩
theorem eJ6_bitCount_0f7a4_8 : zD cJ6_bitCount_0f7a4 8 .isub 1 9 := ⟨by decide +kernel, rfl⟩
theorem eJ6_bitCount_0f7a4_9 : zD cJ6_bitCount_0f7a4 9 (.istore_n 0) 1 10 := ⟨by decide +kernel, rfl⟩
theorem eJ6_bitCount_0f7a4_10 : zD cJ6_bitCount_0f7a4 10 (.iload_n 0) 1 11 := ⟨by decide +kernel, rfl⟩
theorem eJ6_bitCount_0f7a4_11 : zD cJ6_bitCount_0f7a4 11 (.ldc_w 266) 3 14 := ⟨by decide +kernel, rfl⟩
theorem eJ6_bitCount_0f7a4_14 : zD cJ6_bitCount_0f7a4 14 .iand 1 15 := ⟨by decide +kernel, rfl⟩
theorem eJ6_bitCount_0f7a4_15 : zD cJ6_bitCount_0f7a4 15 (.iload_n 0) 1 16 := ⟨by decide +kernel, rfl⟩
theorem eJ6_bitCount_0f7a4_16 : zD cJ6_bitCount_0f7a4 16 (.iconst 2) 1 17 := ⟨by decide +kernel, rfl⟩
theorem eJ6_bitCount_0f7a4_17 : zD cJ6_bitCount_0f7a4 17 .iushr 1 18 := ⟨by decide +kernel, rfl⟩
theorem eJ6_bitCount_0f7a4_18 : zD cJ6_bitCount_0f7a4 18 (.ldc_w 266) 3 21 := ⟨by decide +kernel, rfl⟩
theorem eJ6_bitCount_0f7a4_21 : zD cJ6_bitCount_0f7a4 21 .iand 1 22 := ⟨by decide +kernel, rfl⟩
theorem eJ6_bitCount_0f7a4_22 : zD cJ6_bitCount_0f7a4 22 .iadd 1 23 := ⟨by decide +kernel, rfl⟩
theorem eJ6_bitCount_0f7a4_23 : zD cJ6_bitCount_0f7a4 23 (.istore_n 0) 1 24 := ⟨by decide +kernel, rfl⟩
theorem eJ6_bitCount_0f7a4_24 : zD cJ6_bitCount_0f7a4 24 (.iload_n 0) 1 25 := ⟨by decide +kernel, rfl⟩
theorem eJ6_bitCount_0f7a4_25 : zD cJ6_bitCount_0f7a4 25 (.iload_n 0) 1 26 := ⟨by decide +kernel, rfl⟩
theorem eJ6_bitCount_0f7a4_26 : zD cJ6_bitCount_0f7a4 26 (.iconst 4) 1 27 := ⟨by decide +kernel, rfl⟩
theorem eJ6_bitCount_0f7a4_27 : zD cJ6_bitCount_0f7a4 27 .iushr 1 28 := ⟨by decide +kernel, rfl⟩
theorem eJ6_bitCount_0f7a4_28 : zD cJ6_bitCount_0f7a4 28 .iadd 1 29 := ⟨by decide +kernel, rfl⟩
theorem eJ6_bitCount_0f7a4_29 : zD cJ6_bitCount_0f7a4 29 (.ldc_w 267) 3 32 := ⟨by decide +kernel, rfl⟩
theorem eJ6_bitCount_0f7a4_32 : zD cJ6_bitCount_0f7a4 32 .iand 1 33 := ⟨by decide +kernel, rfl⟩
theorem eJ6_bitCount_0f7a4_33 : zD cJ6_bitCount_0f7a4 33 (.istore_n 0) 1 34 := ⟨by decide +kernel, rfl⟩
theorem eJ6_bitCount_0f7a4_34 : zD cJ6_bitCount_0f7a4 34 (.iload_n 0) 1 35 := ⟨by decide +kernel, rfl⟩
theorem eJ6_bitCount_0f7a4_35 : zD cJ6_bitCount_0f7a4 35 (.iload_n 0) 1 36 := ⟨by decide +kernel, rfl⟩
theorem eJ6_bitCount_0f7a4_36 : zD cJ6_bitCount_0f7a4 36 (.bipush 8) 2 38 := ⟨by decide +kernel, rfl⟩
theorem eJ6_bitCount_0f7a4_38 : zD cJ6_bitCount_0f7a4 38 .iushr 1 39 := ⟨by decide +kernel, rfl⟩
theorem eJ6_bitCount_0f7a4_39 : zD cJ6_bitCount_0f7a4 39 .iadd 1 40 := ⟨by decide +kernel, rfl⟩
theorem eJ6_bitCount_0f7a4_40 : zD cJ6_bitCount_0f7a4 40 (.istore_n 0) 1 41 := ⟨by decide +kernel, rfl⟩
theorem eJ6_bitCount_0f7a4_41 : zD cJ6_bitCount_0f7a4 41 (.iload_n 0) 1 42 := ⟨by decide +kernel, rfl⟩
theorem eJ6_bitCount_0f7a4_42 : zD cJ6_bitCount_0f7a4 42 (.iload_n 0) 1 43 := ⟨by decide +kernel, rfl⟩
theorem eJ6_bitCount_0f7a4_43 : zD cJ6_bitCount_0f7a4 43 (.bipush 16) 2 45 := ⟨by decide +kernel, rfl⟩
theorem eJ6_bitCount_0f7a4_45 : zD cJ6_bitCount_0f7a4 45 .iushr 1 46 := ⟨by decide +kernel, rfl⟩
theorem eJ6_bitCount_0f7a4_46 : zD cJ6_bitCount_0f7a4 46 .iadd 1 47 := ⟨by decide +kernel, rfl⟩
theorem eJ6_bitCount_0f7a4_47 : zD cJ6_bitCount_0f7a4 47 (.istore_n 0) 1 48 := ⟨by decide +kernel, rfl⟩
theorem eJ6_bitCount_0f7a4_48 : zD cJ6_bitCount_0f7a4 48 (.iload_n 0) 1 49 := ⟨by decide +kernel, rfl⟩
theorem eJ6_bitCount_0f7a4_49 : zD cJ6_bitCount_0f7a4 49 (.bipush 63) 2 51 := ⟨by decide +kernel, rfl⟩
theorem eJ6_bitCount_0f7a4_51 : zD cJ6_bitCount_0f7a4 51 .iand 1 52 := ⟨by decide +kernel, rfl⟩
theorem eJ6_bitCount_0f7a4_52 : zD cJ6_bitCount_0f7a4 52 .ireturn 1 53 := ⟨by decide +kernel, rfl⟩
theorem eJ9_floorMod_7cf53_0 : zD cJ9_floorMod_7cf53 0 (.iload_n 0) 1 1 := ⟨by decide +kernel, rfl⟩
theorem eJ9_floorMod_7cf53_1 : zD cJ9_floorMod_7cf53 1 (.iload_n 1) 1 2 := ⟨by decide +kernel, rfl⟩
theorem eJ9_floorMod_7cf53_2 : zD cJ9_floorMod_7cf53 2 .irem 1 3 := ⟨by decide +kernel, rfl⟩
theorem eJ9_floorMod_7cf53_3 : zD cJ9_floorMod_7cf53 3 (.istore_n 2) 1 4 := ⟨by decide +kernel, rfl⟩
theorem eJ9_floorMod_7cf53_4 : zD cJ9_floorMod_7cf53 4 (.iload_n 0) 1 5 := ⟨by decide +kernel, rfl⟩
theorem eJ9_floorMod_7cf53_5 : zD cJ9_floorMod_7cf53 5 (.iload_n 1) 1 6 := ⟨by decide +kernel, rfl⟩
theorem eJ9_floorMod_7cf53_6 : zD cJ9_floorMod_7cf53 6 .ixor 1 7 := ⟨by decide +kernel, rfl⟩
theorem eJ9_floorMod_7cf53_7 : zDj cJ9_floorMod_7cf53 7 (.ifCond .ge 11) 11 18 10 := ⟨by decide +kernel, rfl, by decide⟩
theorem eJ9_floorMod_7cf53_10 : zD cJ9_floorMod_7cf53 10 (.iload_n 2) 1 11 := ⟨by decide +kernel, rfl⟩
theorem eJ9_floorMod_7cf53_11 : zDj cJ9_floorMod_7cf53 11 (.ifCond .eq 7) 7 18 14 := ⟨by decide +kernel, rfl, by decide⟩
theorem eJ9_floorMod_7cf53_14 : zD cJ9_floorMod_7cf53 14 (.iload_n 2) 1 15 := ⟨by decide +kernel, rfl⟩
theorem eJ9_floorMod_7cf53_15 : zD cJ9_floorMod_7cf53 15 (.iload_n 1) 1 16 := ⟨by decide +kernel, rfl⟩
theorem eJ9_floorMod_7cf53_16 : zD cJ9_floorMod_7cf53 16 .iadd 1 17 := ⟨by decide +kernel, rfl⟩
theorem eJ9_floorMod_7cf53_17 : zD cJ9_floorMod_7cf53 17 .ireturn 1 18 := ⟨by decide +kernel, rfl⟩
theorem eJ9_floorMod_7cf53_18 : zD cJ9_floorMod_7cf53 18 (.iload_n 2) 1 19 := ⟨by decide +kernel, rfl⟩
theorem eJ9_floorMod_7cf53_19 : zD cJ9_floorMod_7cf53 19 .ireturn 1 20 := ⟨by decide +kernel, rfl⟩
theorem eJ7_fill_53178_0 : zD cJ7_fill_53178 0 (.iconst 0) 1 1 := ⟨by decide +kernel, rfl⟩
theorem eJ7_fill_53178_1 : zD cJ7_fill_53178 1 (.istore_n 2) 1 2 := ⟨by decide +kernel, rfl⟩
theorem eJ7_fill_53178_2 : zD cJ7_fill_53178 2 (.aload_n 0) 1 3 := ⟨by decide +kernel, rfl⟩
theorem eJ7_fill_53178_3 : zD cJ7_fill_53178 3 .arraylength 1 4 := ⟨by decide +kernel, rfl⟩
theorem eJ7_fill_53178_4 : zD cJ7_fill_53178 4 (.istore_n 3) 1 5 := ⟨by decide +kernel, rfl⟩
theorem eJ7_fill_53178_5 : zD cJ7_fill_53178 5 (.iload_n 2) 1 6 := ⟨by decide +kernel, rfl⟩
theorem eJ7_fill_53178_6 : zD cJ7_fill_53178 6 (.iload_n 3) 1 7 := ⟨by decide +kernel, rfl⟩
theorem eJ7_fill_53178_7 : zDj cJ7_fill_53178 7 (.if_icmp .ge 13) 13 20 10 := ⟨by decide +kernel, rfl, by decide⟩
theorem eJ7_fill_53178_10 : zD cJ7_fill_53178 10 (.aload_n 0) 1 11 := ⟨by decide +kernel, rfl⟩
theorem eJ7_fill_53178_11 : zD cJ7_fill_53178 11 (.iload_n 2) 1 12 := ⟨by decide +kernel, rfl⟩
theorem eJ7_fill_53178_12 : zD cJ7_fill_53178 12 (.iload_n 1) 1 13 := ⟨by decide +kernel, rfl⟩
theorem eJ7_fill_53178_13 : zD cJ7_fill_53178 13 .iastore 1 14 := ⟨by decide +kernel, rfl⟩
theorem eJ7_fill_53178_14 : zD cJ7_fill_53178 14 (.iinc 2 1) 3 17 := ⟨by decide +kernel, rfl⟩
theorem eJ7_fill_53178_17 : zDj cJ7_fill_53178 17 (.goto (-12)) (-12) 5 20 := ⟨by decide +kernel, rfl, by decide⟩
theorem eJ7_fill_53178_20 : zD cJ7_fill_53178 20 .return_ 1 21 := ⟨by decide +kernel, rfl⟩
theorem zqX_within (l : Launch) (G : Zg) (σ : Zm) (x0 : Int) (x1 : Int) (x2 : Int) (n0 : zw x0 = x0) (n1 : zw x1 = x1) (n2 : zw x2 = x2) (res : Int × Zm) (he : fX_within σ x0 x1 x2 = some res) : zM l yX9_within cX9_within 3 (some .boolean) 0 G 294 ztt σ [.int (zI x0), .int (zI x1), .int (zI x2)] (some (.int (zI res.1))) res.2 := by
  refine zM_of he (by decide +kernel) (Nat.le_of_ble_eq_true rfl) (lv := [(0, .int (zI x0)), (1, .int (zI x1)), (2, .int (zI x2))]) rfl (fun p e s m below meth c C => ?_)
  unfold fX_within
  refine zr_iloadn C 0 eX9_within_0 rfl ?_
  refine zr_iloadn C 1 eX9_within_1 rfl ?_
  refine zr_icmp_lt C eX9_within_2 n0 n1 ?_ ?_
  · refine zr_iconst C eX9_within_14 rfl ?_
    exact zr_zret C eX9_within_15 (Or.inl rfl)
  refine zr_iloadn C 0 eX9_within_5 rfl ?_
  refine zr_iloadn C 2 eX9_within_6 rfl ?_
  refine zr_icmp_gt C eX9_within_7 n0 n2 ?_ ?_
  · refine zr_iconst C eX9_within_14 rfl ?_
    exact zr_zret C eX9_within_15 (Or.inl rfl)
  refine zr_iconst C eX9_within_10 rfl ?_
  refine zr_goto C eX9_within_11 ?_
  exact zr_zret C eX9_within_15 (Or.inr rfl)
theorem zqX_isPiece (l : Launch) (G : Zg) (σ : Zm) (x0 : Int) (n0 : zw x0 = x0) (res : Int × Zm) (he : fX_isPiece σ x0 = some res) : zM l yX9_isPiece cX9_isPiece 1 (some .boolean) 1 G 294 ztt σ [.int (zI x0)] (some (.int (zI res.1))) res.2 := by
  refine zM_of he (by decide +kernel) (Nat.le_of_ble_eq_true rfl) (lv := [(0, .int (zI x0))]) rfl (fun p e s m below meth c C => ?_)
  unfold fX_isPiece
  refine zr_iloadn C 0 eX9_isPiece_0 rfl ?_
  refine zr_iconst C eX9_isPiece_1 rfl ?_
  refine zr_iconst C eX9_isPiece_2 rfl ?_
  refine zr_callSi C [.int (zI x0), .int (zI 0), .int (zI 3)] zy_X9_within zs_X9_within lk_X9_113 zrm_1_3_0 (fun r hr => zqX_within l G σ x0 0 3 n0 w_0 w_3 r hr) rfl rfl (Nat.le_of_ble_eq_true rfl) eX9_isPiece_3 (fun v2 nv2 σ1 => ?_)
  exact zr_zretg C eX9_isPiece_6
theorem zqX_isVoice (l : Launch) (G : Zg) (σ : Zm) (x0 : Int) (n0 : zw x0 = x0) (res : Int × Zm) (he : fX_isVoice σ x0 = some res) : zM l yX9_isVoice cX9_isVoice 1 (some .boolean) 1 G 294 ztt σ [.int (zI x0)] (some (.int (zI res.1))) res.2 := by
  refine zM_of he (by decide +kernel) (Nat.le_of_ble_eq_true rfl) (lv := [(0, .int (zI x0))]) rfl (fun p e s m below meth c C => ?_)
  unfold fX_isVoice
  refine zr_iloadn C 0 eX9_isVoice_0 rfl ?_
  refine zr_iconst C eX9_isVoice_1 rfl ?_
  refine zr_iconst C eX9_isVoice_2 rfl ?_
  refine zr_callSi C [.int (zI x0), .int (zI 0), .int (zI 3)] zy_X9_within zs_X9_within lk_X9_113 zrm_1_3_0 (fun r hr => zqX_within l G σ x0 0 3 n0 w_0 w_3 r hr) rfl rfl (Nat.le_of_ble_eq_true rfl) eX9_isVoice_3 (fun v2 nv2 σ1 => ?_)
  exact zr_zretg C eX9_isVoice_6
theorem zqX_isPitch (l : Launch) (G : Zg) (σ : Zm) (x0 : Int) (n0 : zw x0 = x0) (res : Int × Zm) (he : fX_isPitch σ x0 = some res) : zM l yX9_isPitch cX9_isPitch 1 (some .boolean) 1 G 294 ztt σ [.int (zI x0)] (some (.int (zI res.1))) res.2 := by
  refine zM_of he (by decide +kernel) (Nat.le_of_ble_eq_true rfl) (lv := [(0, .int (zI x0))]) rfl (fun p e s m below meth c C => ?_)
  unfold fX_isPitch
  refine zr_iloadn C 0 eX9_isPitch_0 rfl ?_
  refine zr_iconst C eX9_isPitch_1 rfl ?_
  refine zr_bipush (a := 60) C eX9_isPitch_2 rfl ?_
  refine zr_callSi C [.int (zI x0), .int (zI 0), .int (zI 60)] zy_X9_within zs_X9_within lk_X9_113 zrm_1_3_0 (fun r hr => zqX_within l G σ x0 0 60 n0 w_0 w_60 r hr) rfl rfl (Nat.le_of_ble_eq_true rfl) eX9_isPitch_4 (fun v2 nv2 σ1 => ?_)
  exact zr_zretg C eX9_isPitch_7
theorem zqX_isSubject (l : Launch) (G : Zg) (σ : Zm) (x0 : Int) (n0 : zw x0 = x0) (res : Int × Zm) (he : fX_isSubject σ x0 = some res) : zM l yX9_isSubject cX9_isSubject 1 (some .boolean) 1 G 294 ztt σ [.int (zI x0)] (some (.int (zI res.1))) res.2 := by
  refine zM_of he (by decide +kernel) (Nat.le_of_ble_eq_true rfl) (lv := [(0, .int (zI x0))]) rfl (fun p e s m below meth c C => ?_)
  unfold fX_isSubject
  refine zr_iloadn C 0 eX9_isSubject_0 rfl ?_
  refine zr_iconst C eX9_isSubject_1 rfl ?_
  refine zr_iconst C eX9_isSubject_2 rfl ?_
  refine zr_callSi C [.int (zI x0), .int (zI 0), .int (zI 5)] zy_X9_within zs_X9_within lk_X9_113 zrm_1_3_0 (fun r hr => zqX_within l G σ x0 0 5 n0 w_0 w_5 r hr) rfl rfl (Nat.le_of_ble_eq_true rfl) eX9_isSubject_3 (fun v2 nv2 σ1 => ?_)
  exact zr_zretg C eX9_isSubject_6
theorem zqX_isSet (l : Launch) (G : Zg) (σ : Zm) (x0 : Int) (n0 : zw x0 = x0) (res : Int × Zm) (he : fX_isSet σ x0 = some res) : zM l yX9_isSet cX9_isSet 1 (some .boolean) 1 G 294 ztt σ [.int (zI x0)] (some (.int (zI res.1))) res.2 := by
  refine zM_of he (by decide +kernel) (Nat.le_of_ble_eq_true rfl) (lv := [(0, .int (zI x0))]) rfl (fun p e s m below meth c C => ?_)
  unfold fX_isSet
  refine zr_iloadn C 0 eX9_isSet_0 rfl ?_
  refine zr_iconst C eX9_isSet_1 rfl ?_
  refine zr_bipush (a := 15) C eX9_isSet_2 rfl ?_
  refine zr_callSi C [.int (zI x0), .int (zI 0), .int (zI 15)] zy_X9_within zs_X9_within lk_X9_113 zrm_1_3_0 (fun r hr => zqX_within l G σ x0 0 15 n0 w_0 w_15 r hr) rfl rfl (Nat.le_of_ble_eq_true rfl) eX9_isSet_4 (fun v2 nv2 σ1 => ?_)
  exact zr_zretg C eX9_isSet_7
theorem zqX_isNote (l : Launch) (G : Zg) (σ : Zm) (x0 : Int) (x1 : Int) (x2 : Int) (x3 : Int) (n0 : zw x0 = x0) (n1 : zw x1 = x1) (n2 : zw x2 = x2) (n3 : zw x3 = x3) (res : Int × Zm) (he : fX_isNote σ x0 x1 x2 x3 = some res) : zM l yX9_isNote cX9_isNote 4 (some .boolean) 1 G 294 ztt σ [.int (zI x0), .int (zI x1), .int (zI x2), .int (zI x3)] (some (.int (zI res.1))) res.2 := by
  refine zM_of he (by decide +kernel) (Nat.le_of_ble_eq_true rfl) (lv := [(0, .int (zI x0)), (1, .int (zI x1)), (2, .int (zI x2)), (3, .int (zI x3))]) rfl (fun p e s m below meth c C => ?_)
  unfold fX_isNote
  refine zr_iloadn C 1 eX9_isNote_0 rfl ?_
  refine zr_iconst C eX9_isNote_1 rfl ?_
  refine zr_iloadn C 2 eX9_isNote_2 rfl ?_
  refine zr_callSi C [.int (zI x1), .int (zI 1), .int (zI x2)] zy_X9_within zs_X9_within lk_X9_113 zrm_1_3_0 (fun r hr => zqX_within l G σ x1 1 x2 n1 w_1 n2 r hr) rfl rfl (Nat.le_of_ble_eq_true rfl) eX9_isNote_3 (fun v2 nv2 σ1 => ?_)
  refine zr_if_eq C eX9_isNote_6 nv2 ?_ ?_
  · refine zr_iconst C eX9_isNote_24 rfl ?_
    exact zr_zret C eX9_isNote_25 (Or.inl rfl)
  refine zr_iloadn C 0 eX9_isNote_9 rfl ?_
  refine zr_iconst C eX9_isNote_10 rfl ?_
  refine zr_iloadn C 3 eX9_isNote_11 rfl ?_
  refine zr_iloadn C 1 eX9_isNote_12 rfl ?_
  refine zr_isub C eX9_isNote_13 ?_
  refine zr_callSi C [.int (zI x0), .int (zI 0), .int (zI (zw (x3 - x1)))] zy_X9_within zs_X9_within lk_X9_113 zrm_1_3_0 (fun r hr => zqX_within l G σ1 x0 0 (zw (x3 - x1)) n0 w_0 (zw_w (x3 - x1)) r hr) rfl (zs_i (zI_w (x3 - x1)).symm (zs_k (zs_k rfl))) (Nat.le_of_ble_eq_true rfl) eX9_isNote_14 (fun v4 nv4 σ3 => ?_)
  refine zr_if_eq C eX9_isNote_17 nv4 ?_ ?_
  · refine zr_iconst C eX9_isNote_24 rfl ?_
    exact zr_zret C eX9_isNote_25 (Or.inl rfl)
  refine zr_iconst C eX9_isNote_20 rfl ?_
  refine zr_goto C eX9_isNote_21 ?_
  exact zr_zret C eX9_isNote_25 (Or.inr rfl)
theorem zqX_boundedStep (l : Launch) (G : Zg) (σ : Zm) (x0 : Int) (n0 : zw x0 = x0) (res : Int × Zm) (he : fX_boundedStep σ x0 = some res) : zM l yX9_boundedStep cX9_boundedStep 1 (some .int) 1 G 294 ztt σ [.int (zI x0)] (some (.int (zI res.1))) res.2 := by
  refine zM_of he (by decide +kernel) (Nat.le_of_ble_eq_true rfl) (lv := [(0, .int (zI x0))]) rfl (fun p e s m below meth c C => ?_)
  unfold fX_boundedStep
  refine zr_bipush (a := (-12)) C eX9_boundedStep_0 rfl ?_
  refine zr_bipush (a := 12) C eX9_boundedStep_2 rfl ?_
  refine zr_iloadn C 0 eX9_boundedStep_4 rfl ?_
  refine zr_mmin C lk_X9_320 zy_mmin zrm_1_2_0 (Nat.le_of_ble_eq_true rfl) w_12 n0 eX9_boundedStep_5 (fun v1 nv1 => ?_)
  refine zr_mmax C lk_X9_290 zy_mmax zrm_1_2_0 (Nat.le_of_ble_eq_true rfl) w_m12 nv1 eX9_boundedStep_8 (fun v2 nv2 => ?_)
  exact zr_iret C eX9_boundedStep_11
theorem zqX_formCode (l : Launch) (G : Zg) (σ : Zm) (x0 : Int) (n0 : zw x0 = x0) (res : Int × Zm) (he : fX_formCode σ x0 = some res) : zM l yX9_formCode cX9_formCode 4 (some .int) 0 G 294 ztt σ [.int (zI x0)] (some (.int (zI res.1))) res.2 := by
  refine zM_of he (by decide +kernel) (Nat.le_of_ble_eq_true rfl) (lv := [(0, .int (zI x0))]) rfl (fun p e s m below meth c C => ?_)
  unfold fX_formCode
  refine zr_iloadn C 0 eX9_formCode_0 rfl ?_
  refine zr_bipush (a := 25) C eX9_formCode_1 rfl ?_
  refine zr_iremc C eX9_formCode_3 n0 w_25 (by decide) ?_
  refine zr_st (show _ = .int (zI (zw (Int.tmod x0 25))) :: _ from congrArg (· :: _) (congrArg Value.int (zI_w (Int.tmod x0 25)).symm)) ?_
  refine zr_letw (P := fun z => .int (zI z) :: _) (zw_w (Int.tmod x0 25)) (fun v1 nv1 => ?_)
  refine zr_istoren (lv' := [(1, .int (zI v1)), (0, .int (zI x0))]) C eX9_formCode_4 (by decide) rfl ?_
  refine zr_iloadn C 1 eX9_formCode_5 rfl ?_
  refine zr_bipush (a := 25) C eX9_formCode_6 rfl ?_
  refine zr_idivc C eX9_formCode_8 n0 w_25 (by decide) ?_
  refine zr_bipush (a := 9) C eX9_formCode_9 rfl ?_
  refine zr_iremc C eX9_formCode_11 rfl w_9 (by decide) ?_
  refine zr_st (show _ = .int (zI (zw (Int.tmod (zw (Int.tdiv x0 25)) 9))) :: _ from congrArg (· :: _) (congrArg Value.int (zI_w (Int.tmod (zw (Int.tdiv x0 25)) 9)).symm)) ?_
  refine zr_letw (P := fun z => .int (zI z) :: _) (zw_w (Int.tmod (zw (Int.tdiv x0 25)) 9)) (fun v2 nv2 => ?_)
  refine zr_istoren (lv' := [(2, .int (zI v2)), (1, .int (zI v1)), (0, .int (zI x0))]) C eX9_formCode_12 (by decide) rfl ?_
  refine zr_iloadn C 2 eX9_formCode_13 rfl ?_
  refine zr_sipush (a := 225) C eX9_formCode_14 rfl ?_
  refine zr_idivc C eX9_formCode_17 n0 w_225 (by decide) ?_
  refine zr_iconst C eX9_formCode_18 rfl ?_
  refine zr_iremc C eX9_formCode_19 rfl w_2 (by decide) ?_
  refine zr_st (show _ = .int (zI (zw (Int.tmod (zw (Int.tdiv x0 225)) 2))) :: _ from congrArg (· :: _) (congrArg Value.int (zI_w (Int.tmod (zw (Int.tdiv x0 225)) 2)).symm)) ?_
  refine zr_letw (P := fun z => .int (zI z) :: _) (zw_w (Int.tmod (zw (Int.tdiv x0 225)) 2)) (fun v3 nv3 => ?_)
  refine zr_istoren (lv' := [(3, .int (zI v3)), (2, .int (zI v2)), (1, .int (zI v1)), (0, .int (zI x0))]) C eX9_formCode_20 (by decide) rfl ?_
  refine zr_sipush (a := 10000) C eX9_formCode_21 rfl ?_
  refine zr_iloadn C 3 eX9_formCode_24 rfl ?_
  refine zr_sipush (a := 450) C eX9_formCode_25 rfl ?_
  refine zr_idivc C eX9_formCode_28 n0 w_450 (by decide) ?_
  refine zr_imul C eX9_formCode_29 ?_
  refine zr_sipush (a := 5000) C eX9_formCode_30 rfl ?_
  refine zr_iloadn C 0 eX9_formCode_33 rfl ?_
  refine zr_imul C eX9_formCode_34 ?_
  refine zr_iadd C eX9_formCode_35 ?_
  refine zr_bipush (a := 100) C eX9_formCode_36 rfl ?_
  refine zr_iloadn C 1 eX9_formCode_38 rfl ?_
  refine zr_imul C eX9_formCode_39 ?_
  refine zr_iadd C eX9_formCode_40 ?_
  refine zr_iloadn C 2 eX9_formCode_41 rfl ?_
  refine zr_iadd C eX9_formCode_42 ?_
  exact zr_iret C eX9_formCode_43
theorem zqX_formOfThree (l : Launch) (G : Zg) (σ : Zm) (x0 : Int) (n0 : zw x0 = x0) (res : Int × Zm) (he : fX_formOfThree σ x0 = some res) : zM l yX9_formOfThree cX9_formOfThree 4 (some .int) 0 G 294 ztt σ [.int (zI x0)] (some (.int (zI res.1))) res.2 := by
  refine zM_of he (by decide +kernel) (Nat.le_of_ble_eq_true rfl) (lv := [(0, .int (zI x0))]) rfl (fun p e s m below meth c C => ?_)
  unfold fX_formOfThree
  refine zr_iloadn C 0 eX9_formOfThree_0 rfl ?_
  refine zr_bipush (a := 11) C eX9_formOfThree_1 rfl ?_
  refine zr_iremc C eX9_formOfThree_3 n0 w_11 (by decide) ?_
  refine zr_iconst C eX9_formOfThree_4 rfl ?_
  refine zr_isub C eX9_formOfThree_5 ?_
  refine zr_st (show _ = .int (zI (zw ((Int.tmod x0 11) - 5))) :: _ from congrArg (· :: _) (congrArg Value.int (zI_w ((Int.tmod x0 11) - 5)).symm)) ?_
  refine zr_letw (P := fun z => .int (zI z) :: _) (zw_w ((Int.tmod x0 11) - 5)) (fun v1 nv1 => ?_)
  refine zr_istoren (lv' := [(1, .int (zI v1)), (0, .int (zI x0))]) C eX9_formOfThree_6 (by decide) rfl ?_
  refine zr_iloadn C 1 eX9_formOfThree_7 rfl ?_
  refine zr_bipush (a := 11) C eX9_formOfThree_8 rfl ?_
  refine zr_idivc C eX9_formOfThree_10 n0 w_11 (by decide) ?_
  refine zr_iconst C eX9_formOfThree_11 rfl ?_
  refine zr_iremc C eX9_formOfThree_12 rfl w_4 (by decide) ?_
  refine zr_st (show _ = .int (zI (zw (Int.tmod (zw (Int.tdiv x0 11)) 4))) :: _ from congrArg (· :: _) (congrArg Value.int (zI_w (Int.tmod (zw (Int.tdiv x0 11)) 4)).symm)) ?_
  refine zr_letw (P := fun z => .int (zI z) :: _) (zw_w (Int.tmod (zw (Int.tdiv x0 11)) 4)) (fun v2 nv2 => ?_)
  refine zr_istoren (lv' := [(2, .int (zI v2)), (1, .int (zI v1)), (0, .int (zI x0))]) C eX9_formOfThree_13 (by decide) rfl ?_
  refine zr_iloadn C 2 eX9_formOfThree_14 rfl ?_
  refine zr_bipush (a := 44) C eX9_formOfThree_15 rfl ?_
  refine zr_idivc C eX9_formOfThree_17 n0 w_44 (by decide) ?_
  refine zr_st (show _ = .int (zI (zw (Int.tdiv x0 44))) :: _ from congrArg (· :: _) (congrArg Value.int (zI_w (Int.tdiv x0 44)).symm)) ?_
  refine zr_letw (P := fun z => .int (zI z) :: _) (zw_w (Int.tdiv x0 44)) (fun v3 nv3 => ?_)
  refine zr_istoren (lv' := [(3, .int (zI v3)), (2, .int (zI v2)), (1, .int (zI v1)), (0, .int (zI x0))]) C eX9_formOfThree_18 (by decide) rfl ?_
  refine zr_iloadn C 0 eX9_formOfThree_19 rfl ?_
  refine zr_sipush (a := 225) C eX9_formOfThree_20 rfl ?_
  refine zr_imul C eX9_formOfThree_23 ?_
  refine zr_iloadn C 1 eX9_formOfThree_24 rfl ?_
  refine zr_bipush (a := 25) C eX9_formOfThree_25 rfl ?_
  refine zr_imul C eX9_formOfThree_27 ?_
  refine zr_iadd C eX9_formOfThree_28 ?_
  refine zr_iloadn C 2 eX9_formOfThree_29 rfl ?_
  refine zr_iadd C eX9_formOfThree_30 ?_
  refine zr_bipush (a := 12) C eX9_formOfThree_31 rfl ?_
  refine zr_iadd C eX9_formOfThree_33 ?_
  exact zr_iret C eX9_formOfThree_34
theorem qJ6_bitCount_0f7a4 (l : Launch) (G : Zg) (σ : Zm) (x0 : Int) (n0 : zw x0 = x0) (res : Int × Zm) (he : fJ6_bitCount_0f7a4 σ x0 = some res) : zM l yJ6_bitCount_0f7a4 cJ6_bitCount_0f7a4 1 (some .int) 0 G 294 ztt σ [.int (zI x0)] (some (.int (zI res.1))) res.2 := by
  refine zM_of he (by decide +kernel) (Nat.le_of_ble_eq_true rfl) (lv := [(0, .int (zI x0))]) rfl (fun p e s m below meth c C => ?_)
  unfold fJ6_bitCount_0f7a4
  refine zr_iloadn C 0 eJ6_bitCount_0f7a4_0 rfl ?_
  refine zr_iloadn C 0 eJ6_bitCount_0f7a4_1 rfl ?_
  refine zr_iconst C eJ6_bitCount_0f7a4_2 rfl ?_
  refine zr_iushr C eJ6_bitCount_0f7a4_3 ?_
  refine zr_ldcw (a := 1431655765) C eJ6_bitCount_0f7a4_4 zq_J6_265 rfl ?_
  refine zr_iand C eJ6_bitCount_0f7a4_7 ?_
  refine zr_isub C eJ6_bitCount_0f7a4_8 ?_
  refine zr_st (show _ = .int (zI (zw (x0 - (zand (zushr x0 1) 1431655765)))) :: _ from congrArg (· :: _) (congrArg Value.int (zI_w (x0 - (zand (zushr x0 1) 1431655765))).symm)) ?_
  refine zr_letw (P := fun z => .int (zI z) :: _) (zw_w (x0 - (zand (zushr x0 1) 1431655765))) (fun v1 nv1 => ?_)
  refine zr_istoren (lv' := [(0, .int (zI v1))]) C eJ6_bitCount_0f7a4_9 (by decide) rfl ?_
  refine zr_iloadn C 0 eJ6_bitCount_0f7a4_10 rfl ?_
  refine zr_ldcw (a := 858993459) C eJ6_bitCount_0f7a4_11 zq_J6_266 rfl ?_
  refine zr_iand C eJ6_bitCount_0f7a4_14 ?_
  refine zr_iloadn C 0 eJ6_bitCount_0f7a4_15 rfl ?_
  refine zr_iconst C eJ6_bitCount_0f7a4_16 rfl ?_
  refine zr_iushr C eJ6_bitCount_0f7a4_17 ?_
  refine zr_ldcw (a := 858993459) C eJ6_bitCount_0f7a4_18 zq_J6_266 rfl ?_
  refine zr_iand C eJ6_bitCount_0f7a4_21 ?_
  refine zr_iadd C eJ6_bitCount_0f7a4_22 ?_
  refine zr_st (show _ = .int (zI (zw ((zand v1 858993459) + (zand (zushr v1 2) 858993459)))) :: _ from congrArg (· :: _) (congrArg Value.int (zI_w ((zand v1 858993459) + (zand (zushr v1 2) 858993459))).symm)) ?_
  refine zr_letw (P := fun z => .int (zI z) :: _) (zw_w ((zand v1 858993459) + (zand (zushr v1 2) 858993459))) (fun v2 nv2 => ?_)
  refine zr_istoren (lv' := [(0, .int (zI v2))]) C eJ6_bitCount_0f7a4_23 (by decide) rfl ?_
  refine zr_iloadn C 0 eJ6_bitCount_0f7a4_24 rfl ?_
  refine zr_iloadn C 0 eJ6_bitCount_0f7a4_25 rfl ?_
  refine zr_iconst C eJ6_bitCount_0f7a4_26 rfl ?_
  refine zr_iushr C eJ6_bitCount_0f7a4_27 ?_
  refine zr_iadd C eJ6_bitCount_0f7a4_28 ?_
  refine zr_ldcw (a := 252645135) C eJ6_bitCount_0f7a4_29 zq_J6_267 rfl ?_
  refine zr_iand C eJ6_bitCount_0f7a4_32 ?_
  refine zr_istoren (lv' := [(0, .int (zI (zand (v2 + (zushr v2 4)) 252645135)))]) C eJ6_bitCount_0f7a4_33 (by decide) rfl ?_
  refine zr_iloadn C 0 eJ6_bitCount_0f7a4_34 rfl ?_
  refine zr_iloadn C 0 eJ6_bitCount_0f7a4_35 rfl ?_
  refine zr_bipush (a := 8) C eJ6_bitCount_0f7a4_36 rfl ?_
  refine zr_iushr C eJ6_bitCount_0f7a4_38 ?_
  refine zr_iadd C eJ6_bitCount_0f7a4_39 ?_
  refine zr_st (show _ = .int (zI (zw ((zand (v2 + (zushr v2 4)) 252645135) + (zushr (zand (v2 + (zushr v2 4)) 252645135) 8)))) :: _ from congrArg (· :: _) (congrArg Value.int (zI_w ((zand (v2 + (zushr v2 4)) 252645135) + (zushr (zand (v2 + (zushr v2 4)) 252645135) 8))).symm)) ?_
  refine zr_letw (P := fun z => .int (zI z) :: _) (zw_w ((zand (v2 + (zushr v2 4)) 252645135) + (zushr (zand (v2 + (zushr v2 4)) 252645135) 8))) (fun v3 nv3 => ?_)
  refine zr_istoren (lv' := [(0, .int (zI v3))]) C eJ6_bitCount_0f7a4_40 (by decide) rfl ?_
  refine zr_iloadn C 0 eJ6_bitCount_0f7a4_41 rfl ?_
  refine zr_iloadn C 0 eJ6_bitCount_0f7a4_42 rfl ?_
  refine zr_bipush (a := 16) C eJ6_bitCount_0f7a4_43 rfl ?_
  refine zr_iushr C eJ6_bitCount_0f7a4_45 ?_
  refine zr_iadd C eJ6_bitCount_0f7a4_46 ?_
  refine zr_st (show _ = .int (zI (zw (v3 + (zushr v3 16)))) :: _ from congrArg (· :: _) (congrArg Value.int (zI_w (v3 + (zushr v3 16))).symm)) ?_
  refine zr_letw (P := fun z => .int (zI z) :: _) (zw_w (v3 + (zushr v3 16))) (fun v4 nv4 => ?_)
  refine zr_istoren (lv' := [(0, .int (zI v4))]) C eJ6_bitCount_0f7a4_47 (by decide) rfl ?_
  refine zr_iloadn C 0 eJ6_bitCount_0f7a4_48 rfl ?_
  refine zr_bipush (a := 63) C eJ6_bitCount_0f7a4_49 rfl ?_
  refine zr_iand C eJ6_bitCount_0f7a4_51 ?_
  exact zr_iret C eJ6_bitCount_0f7a4_52
theorem qJ9_floorMod_7cf53 (l : Launch) (G : Zg) (σ : Zm) (x0 : Int) (x1 : Int) (n0 : zw x0 = x0) (n1 : zw x1 = x1) (res : Int × Zm) (he : fJ9_floorMod_7cf53 σ x0 x1 = some res) : zM l yJ9_floorMod_7cf53 cJ9_floorMod_7cf53 3 (some .int) 0 G 294 ztt σ [.int (zI x0), .int (zI x1)] (some (.int (zI res.1))) res.2 := by
  refine zM_of he (by decide +kernel) (Nat.le_of_ble_eq_true rfl) (lv := [(0, .int (zI x0)), (1, .int (zI x1))]) rfl (fun p e s m below meth c C => ?_)
  unfold fJ9_floorMod_7cf53
  refine zr_iloadn C 0 eJ9_floorMod_7cf53_0 rfl ?_
  refine zr_iloadn C 1 eJ9_floorMod_7cf53_1 rfl ?_
  refine zr_irem C eJ9_floorMod_7cf53_2 n0 n1 ?_
  refine zr_st (show _ = .int (zI (zw (Int.tmod x0 x1))) :: _ from congrArg (· :: _) (congrArg Value.int (zI_w (Int.tmod x0 x1)).symm)) ?_
  refine zr_letw (P := fun z => .int (zI z) :: _) (zw_w (Int.tmod x0 x1)) (fun v1 nv1 => ?_)
  refine zr_istoren (lv' := [(2, .int (zI v1)), (0, .int (zI x0)), (1, .int (zI x1))]) C eJ9_floorMod_7cf53_3 (by decide) rfl ?_
  refine zr_iloadn C 1 eJ9_floorMod_7cf53_4 rfl ?_
  refine zr_iloadn C 2 eJ9_floorMod_7cf53_5 rfl ?_
  refine zr_ixor C eJ9_floorMod_7cf53_6 ?_
  refine zr_if_ge C eJ9_floorMod_7cf53_7 (zw_n _) ?_ ?_
  · refine zr_iloadn C 0 eJ9_floorMod_7cf53_18 rfl ?_
    exact zr_iret C eJ9_floorMod_7cf53_19
  refine zr_iloadn C 0 eJ9_floorMod_7cf53_10 rfl ?_
  refine zr_if_eq C eJ9_floorMod_7cf53_11 nv1 ?_ ?_
  · refine zr_iloadn C 0 eJ9_floorMod_7cf53_18 rfl ?_
    exact zr_iret C eJ9_floorMod_7cf53_19
  refine zr_iloadn C 0 eJ9_floorMod_7cf53_14 rfl ?_
  refine zr_iloadn C 2 eJ9_floorMod_7cf53_15 rfl ?_
  refine zr_iadd C eJ9_floorMod_7cf53_16 ?_
  exact zr_iret C eJ9_floorMod_7cf53_17
theorem wJ7_fill_53178_5 {G : Zg} {p : Program} {l : Launch} {e : Env} {s : State} {m : MethodId} {args : Array Value} {below : List Frame} {meth : Method} {c : Code} (C : zC G p s m args meth c cJ7_fill_53178 4 RJ7 none) {res : Int × Zm} : ∀ (n : Nat) (o0 : Nat) (x1 : Int) (x2 : Int) (x3 : Int) (h0 : zin 294 o0 20) (n1 : zw x1 = x1) (n2 : zw x2 = x2) (n3 : zw x3 = x3) (σ : Zm), zR G p l e (zrm 0) s m args below meth c 4 0 0 (zQm below args s G 294 ztt none res.2) 294 ztt res σ (fJ7_fill_53178_5 n o0 x1 x2 x3 σ) [(0, .ref (zad G o0)), (1, .int (zI x1)), (2, .int (zI x2)), (3, .int (zI x3))] 5 []
  | 0, _, _, _, _, _, _, _, _, _ => zr_none
  | n + 1, o0, x1, x2, x3, h0, n1, n2, n3, σ => by
    have ih := fun (o0 : Nat) (x1 : Int) (x2 : Int) (x3 : Int) (h0 : zin 294 o0 20) (n1 : zw x1 = x1) (n2 : zw x2 = x2) (n3 : zw x3 = x3) (σ : Zm) => wJ7_fill_53178_5 (l := l) (e := e) (below := below) C (res := res) n o0 x1 x2 x3 h0 n1 n2 n3 σ
    rw [fJ7_fill_53178_5]
    refine zr_letf (fun R0 hR0 => ?_)
    have ih : ∀ (o0 : Nat) (x1 : Int) (x2 : Int) (x3 : Int) (h0 : zin 294 o0 20) (n1 : zw x1 = x1) (n2 : zw x2 = x2) (n3 : zw x3 = x3) (σ : Zm), zR G p l e (zrm 0) s m args below meth c 4 0 0 (zQm below args s G 294 ztt none res.2) 294 ztt res σ (R0 o0 x1 x2 x3 σ) [(0, .ref (zad G o0)), (1, .int (zI x1)), (2, .int (zI x2)), (3, .int (zI x3))] 5 [] := by rw [hR0]; exact ih
    clear hR0
    refine zr_iloadn C 2 eJ7_fill_53178_5 rfl ?_
    refine zr_iloadn C 3 eJ7_fill_53178_6 rfl ?_
    refine zr_icmp_ge C eJ7_fill_53178_7 n2 n3 ?_ ?_
    · exact zr_vret C eJ7_fill_53178_20
    refine zr_aloadn C 0 eJ7_fill_53178_10 rfl ?_
    refine zr_iloadn C 2 eJ7_fill_53178_11 rfl ?_
    refine zr_iloadn C 1 eJ7_fill_53178_12 rfl ?_
    refine zr_iast C h0 rfl n2 eJ7_fill_53178_13 (fun σ1 => ?_)
    refine zr_iinc (lv' := [(2, .int (zI (x2 + 1))), (0, .ref (zad G o0)), (1, .int (zI x1)), (3, .int (zI x3))]) C 2 eJ7_fill_53178_14 rfl (by decide) rfl ?_
    refine zr_goto C eJ7_fill_53178_17 ?_
    refine zr_lv [1, 2, 0, 3] rfl ?_
    exact zr_lve (zs_p (zs_p (zs_pi (zI_w (x2 + 1)).symm (zs_p rfl)))) (ih o0 x1 (zw (x2 + 1)) x3 h0 n1 (zw_w (x2 + 1)) n3 _)
theorem qJ7_fill_53178 (l : Launch) (G : Zg) (σ : Zm) (o0 : Nat) (x1 : Int) (h0 : zin 294 o0 20) (n1 : zw x1 = x1) (res : Int × Zm) (he : fJ7_fill_53178 σ o0 x1 = some res) : zM l yJ7_fill_53178 cJ7_fill_53178 4 none 0 G 294 ztt σ [.ref (zad G o0), .int (zI x1)] none res.2 := by
  refine zM_of he (by decide +kernel) (Nat.le_of_ble_eq_true rfl) (lv := [(0, .ref (zad G o0)), (1, .int (zI x1))]) rfl (fun p e s m below meth c C => ?_)
  unfold fJ7_fill_53178
  refine zr_iconst C eJ7_fill_53178_0 rfl ?_
  refine zr_istoren (lv' := [(2, .int (zI 0)), (0, .ref (zad G o0)), (1, .int (zI x1))]) C eJ7_fill_53178_1 (by decide) rfl ?_
  refine zr_aloadn C 1 eJ7_fill_53178_2 rfl ?_
  refine zr_alen (A := ((zLN o0 : Nat) : Int)) C h0 (by decide) rfl rfl eJ7_fill_53178_3 ?_
  refine zr_istoren (lv' := [(3, .int (zI ((zLN o0 : Nat) : Int))), (2, .int (zI 0)), (0, .ref (zad G o0)), (1, .int (zI x1))]) C eJ7_fill_53178_4 (by decide) rfl ?_
  refine zr_lv [2, 3, 1, 0] rfl ?_
  refine wJ7_fill_53178_5 C 5000 o0 x1 0 ((zLN o0 : Nat) : Int) h0 n1 w_0 ((zw_LN _)) σ
