theorem zo_150 : zin 294 150 5 := by unfold zin; decide +kernel
theorem w_24 : zw 24 = 24 := by decide +kernel
theorem ff_X5_18 : zF RX5 18 5 2 .int := Or.inl (by unfold zFd; decide +kernel)
theorem ff_X5_9 : zF RX5 9 5 0 (.array .int) := Or.inl (by unfold zFd; decide +kernel)
theorem zf_150_0 : zRF 150 0 = 151 := by decide +kernel
theorem zo_151 : zin 294 151 20 := by unfold zin; decide +kernel
theorem zn_151 : zLN 151 = 300 := by decide +kernel
theorem w_255 : zw 255 = 255 := by decide +kernel
theorem w_97 : zw 97 = 97 := by decide +kernel
theorem w_122 : zw 122 = 122 := by decide +kernel
theorem lk_X5_105 : zL RX5 105 yX9_within := Or.inr ⟨"BrokenFugue", by decide +kernel⟩
theorem w_65 : zw 65 = 65 := by decide +kernel
theorem w_90 : zw 90 = 90 := by decide +kernel
theorem ff_X5_31 : zF RX5 31 5 6 .int := Or.inl (by unfold zFd; decide +kernel)
theorem lk_X5_161 : zL RX5 161 yJ0_length_8abf5 := Or.inl (by decide +kernel)
theorem zrm_4_1_1 : zRm (zrm 4) 0 0 1 1 := by unfold zRm; decide
theorem lk_X5_165 : zL RX5 165 yJ0_charAt_5068e := Or.inl (by decide +kernel)
theorem zrm_4_2_3 : zRm (zrm 4) 0 0 2 3 := by unfold zRm; decide
theorem ff_X5_28 : zF RX5 28 5 5 .int := Or.inl (by unfold zFd; decide +kernel)
theorem lk_X5_136 : zL RX5 136 yX5_isLetter := Or.inl (by decide +kernel)
theorem zy_X5_isLetter : zY yX5_isLetter cX5_isLetter 1 (some .boolean) 1 := by unfold zY; decide +kernel
theorem zs_X5_isLetter : Cond.static yX5_isLetter ∈ ztb := by decide +kernel
theorem zrm_5_1_1 : zRm (zrm 5) 0 0 1 1 := by unfold zRm; decide
theorem lk_X5_155 : zL RX5 155 yX5_wordNumber := Or.inl (by decide +kernel)
theorem zy_X5_wordNumber : zY yX5_wordNumber cX5_wordNumber 6 (some .int) 0 := by unfold zY; decide +kernel
theorem zv_X5_wordNumber : zYv yX5_wordNumber := by unfold zYv; decide +kernel
theorem ff_X5_34 : zF RX5 34 5 7 .int := Or.inl (by unfold zFd; decide +kernel)
theorem w_19 : zw 19 = 19 := by decide +kernel
theorem ff_X5_37 : zF RX5 37 5 8 .int := Or.inl (by unfold zFd; decide +kernel)
theorem w_18 : zw 18 = 18 := by decide +kernel
theorem w_22 : zw 22 = 22 := by decide +kernel
theorem w_48 : zw 48 = 48 := by decide +kernel
theorem w_57 : zw 57 = 57 := by decide +kernel
theorem w_20 : zw 20 = 20 := by decide +kernel
theorem lk_X5_143 : zL RX5 143 yX5_isDigit := Or.inl (by decide +kernel)
theorem zy_X5_isDigit : zY yX5_isDigit cX5_isDigit 1 (some .boolean) 1 := by unfold zY; decide +kernel
theorem zs_X5_isDigit : Cond.static yX5_isDigit ∈ ztb := by decide +kernel
theorem lk_X5_152 : Cond.methodLink RX5 152 Lib.Math.min.name ∈ ztb := by decide +kernel
theorem lk_X5_169 : zL RX5 169 yX5_signKind := Or.inl (by decide +kernel)
theorem zy_X5_signKind : zY yX5_signKind cX5_signKind 1 (some .int) 1 := by unfold zY; decide +kernel
theorem zs_X5_signKind : Cond.static yX5_signKind ∈ ztb := by decide +kernel
theorem w_61 : zw 61 = 61 := by decide +kernel
theorem zrm_6_1_1 : zRm (zrm 6) 0 0 1 1 := by unfold zRm; decide
theorem lk_X5_149 : zL RX5 149 yX5_scanSign := Or.inl (by decide +kernel)
theorem zy_X5_scanSign : zY yX5_scanSign cX5_scanSign 1 none 0 := by unfold zY; decide +kernel
theorem zv_X5_scanSign : zYv yX5_scanSign := by unfold zYv; decide +kernel
theorem lk_X5_146 : zL RX5 146 yX5_scanDigits := Or.inl (by decide +kernel)
theorem zy_X5_scanDigits : zY yX5_scanDigits cX5_scanDigits 1 none 0 := by unfold zY; decide +kernel
theorem zv_X5_scanDigits : zYv yX5_scanDigits := by unfold zYv; decide +kernel
theorem zrm_6_1_2 : zRm (zrm 6) 0 0 1 2 := by unfold zRm; decide
theorem lk_X5_140 : zL RX5 140 yX5_scanWord := Or.inl (by decide +kernel)
theorem zy_X5_scanWord : zY yX5_scanWord cX5_scanWord 2 none 0 := by unfold zY; decide +kernel
theorem zv_X5_scanWord : zYv yX5_scanWord := by unfold zYv; decide +kernel
theorem zrm_6_2_5 : zRm (zrm 6) 0 0 2 5 := by unfold zRm; decide
theorem ff_X5_22 : zF RX5 22 5 3 .int := Or.inl (by unfold zFd; decide +kernel)
theorem ff_X5_25 : zF RX5 25 5 4 .int := Or.inl (by unfold zFd; decide +kernel)
theorem ff_X5_62 : zF RX5 62 6 5 .int := Or.inr ⟨"BrokenFugue", by unfold zFn; decide +kernel⟩
theorem ff_X5_43 : zF RX5 43 5 10 .int := Or.inl (by unfold zFd; decide +kernel)
theorem ff_X5_46 : zF RX5 46 5 11 .boolean := Or.inl (by unfold zFd; decide +kernel)
theorem ff_X5_50 : zF RX5 50 5 12 .boolean := Or.inl (by unfold zFd; decide +kernel)
theorem ff_X5_53 : zF RX5 53 5 13 .int := Or.inl (by unfold zFd; decide +kernel)
theorem ff_X5_56 : zF RX5 56 5 14 .int := Or.inl (by unfold zFd; decide +kernel)
theorem ff_X5_59 : zF RX5 59 5 15 .int := Or.inl (by unfold zFd; decide +kernel)
theorem lk_X5_90 : zL RX5 90 yX6_open := Or.inl (by decide +kernel)
theorem zy_X6_open : zY yX6_open cX6_open 2 none 1 := by unfold zY; decide +kernel
theorem zv_X6_open : zYv yX6_open := by unfold zYv; decide +kernel
theorem ff_X5_40 : zF RX5 40 5 9 .int := Or.inl (by unfold zFd; decide +kernel)
theorem lk_X5_86 : zL RX5 86 yX5_refuse := Or.inl (by decide +kernel)
theorem zy_X5_refuse : zY yX5_refuse cX5_refuse 2 none 1 := by unfold zY; decide +kernel
theorem zv_X5_refuse : zYv yX5_refuse := by unfold zYv; decide +kernel
theorem lk_X5_109 : zL RX5 109 yX6_emit := Or.inl (by decide +kernel)
theorem zy_X6_emit : zY yX6_emit cX6_emit 2 none 1 := by unfold zY; decide +kernel
theorem zv_X6_emit : zYv yX6_emit := by unfold zYv; decide +kernel
theorem ff_X5_15 : zF RX5 15 5 1 (.array .int) := Or.inl (by unfold zFd; decide +kernel)
theorem zf_150_1 : zRF 150 1 = 152 := by decide +kernel
theorem zo_152 : zin 294 152 20 := by unfold zin; decide +kernel
theorem zn_152 : zLN 152 = 300 := by decide +kernel
theorem lk_X5_112 : zL RX5 112 yX5_hold := Or.inl (by decide +kernel)
theorem zy_X5_hold : zY yX5_hold cX5_hold 2 none 1 := by unfold zY; decide +kernel
theorem zv_X5_hold : zYv yX5_hold := by unfold zYv; decide +kernel
theorem lk_X5_101 : zL RX5 101 yX5_nest := Or.inl (by decide +kernel)
theorem zy_X5_nest : zY yX5_nest cX5_nest 3 none 2 := by unfold zY; decide +kernel
theorem zv_X5_nest : zYv yX5_nest := by unfold zYv; decide +kernel
theorem lk_X5_97 : zL RX5 97 yX5_isNameOfSort := Or.inl (by decide +kernel)
theorem zy_X5_isNameOfSort : zY yX5_isNameOfSort cX5_isNameOfSort 1 (some .boolean) 0 := by unfold zY; decide +kernel
theorem zv_X5_isNameOfSort : zYv yX5_isNameOfSort := by unfold zYv; decide +kernel
theorem lk_X5_93 : zL RX5 93 yX5_takeOperand := Or.inl (by decide +kernel)
theorem zy_X5_takeOperand : zY yX5_takeOperand cX5_takeOperand 3 none 2 := by unfold zY; decide +kernel
theorem zv_X5_takeOperand : zYv yX5_takeOperand := by unfold zYv; decide +kernel
theorem zlv_115 : Cond.fieldLinkNest RX5 115 "BrokenFugue" "LEVELS" "[I" "BrokenFugue" ∈ znst := by decide +kernel
theorem lk_X5_118 : zL RX5 118 yX5_release := Or.inl (by decide +kernel)
theorem zy_X5_release : zY yX5_release cX5_release 5 none 2 := by unfold zY; decide +kernel
theorem zv_X5_release : zYv yX5_release := by unfold zYv; decide +kernel
theorem zrm_2_5_1 : zRm (zrm 2) 0 0 5 1 := by unfold zRm; decide
theorem lk_X5_130 : Cond.methodLink RX5 130 Lib.Math.max.name ∈ ztb := by decide +kernel
theorem zrm_3_3_0 : zRm (zrm 3) 0 0 3 0 := by unfold zRm; decide
theorem zrm_3_5_1 : zRm (zrm 3) 0 0 5 1 := by unfold zRm; decide
theorem lk_X5_127 : zL RX5 127 yX6_close := Or.inl (by decide +kernel)
theorem zy_X6_close : zY yX6_close cX6_close 1 none 0 := by unfold zY; decide +kernel
theorem zv_X6_close : zYv yX6_close := by unfold zYv; decide +kernel
theorem lk_X5_124 : zL RX5 124 yX6_beginCondition := Or.inl (by decide +kernel)
theorem zy_X6_beginCondition : zY yX6_beginCondition cX6_beginCondition 1 none 0 := by unfold zY; decide +kernel
theorem zv_X6_beginCondition : zYv yX6_beginCondition := by unfold zYv; decide +kernel
theorem lk_X5_121 : zL RX5 121 yX5_shutParenthesis := Or.inl (by decide +kernel)
theorem zy_X5_shutParenthesis : zY yX5_shutParenthesis cX5_shutParenthesis 2 none 1 := by unfold zY; decide +kernel
theorem zv_X5_shutParenthesis : zYv yX5_shutParenthesis := by unfold zYv; decide +kernel
theorem lk_X5_77 : zL RX5 77 yX5_takeSort := Or.inl (by decide +kernel)
theorem zy_X5_takeSort : zY yX5_takeSort cX5_takeSort 2 none 1 := by unfold zY; decide +kernel
theorem zv_X5_takeSort : zYv yX5_takeSort := by unfold zYv; decide +kernel
theorem zrm_4_2_1 : zRm (zrm 4) 0 0 2 1 := by unfold zRm; decide
theorem lk_X5_80 : zL RX5 80 yX5_takeOne := Or.inl (by decide +kernel)
theorem zy_X5_takeOne : zY yX5_takeOne cX5_takeOne 2 none 1 := by unfold zY; decide +kernel
theorem zv_X5_takeOne : zYv yX5_takeOne := by unfold zYv; decide +kernel
theorem zrm_4_2_2 : zRm (zrm 4) 0 0 2 2 := by unfold zRm; decide
theorem lk_X5_83 : zL RX5 83 yX5_takeBehind := Or.inl (by decide +kernel)
theorem zy_X5_takeBehind : zY yX5_takeBehind cX5_takeBehind 4 none 1 := by unfold zY; decide +kernel
theorem zv_X5_takeBehind : zYv yX5_takeBehind := by unfold zYv; decide +kernel
theorem zrm_4_4_3 : zRm (zrm 4) 0 0 4 3 := by unfold zRm; decide
theorem ff_X5_67 : zF RX5 67 6 6 .int := Or.inr ⟨"BrokenFugue", by unfold zFn; decide +kernel⟩
theorem lk_X5_70 : zL RX5 70 yX5_scan := Or.inl (by decide +kernel)
theorem zy_X5_scan : zY yX5_scan cX5_scan 1 none 0 := by unfold zY; decide +kernel
theorem zv_X5_scan : zYv yX5_scan := by unfold zYv; decide +kernel
theorem zrm_7_1_6 : zRm (zrm 7) 0 0 1 6 := by unfold zRm; decide
theorem lk_X5_73 : zL RX5 73 yX5_take := Or.inl (by decide +kernel)
theorem zy_X5_take : zY yX5_take cX5_take 2 none 1 := by unfold zY; decide +kernel
theorem zv_X5_take : zYv yX5_take := by unfold zYv; decide +kernel
theorem zrm_7_2_4 : zRm (zrm 7) 0 0 2 4 := by unfold zRm; decide
theorem eX5_append_0 : zD cX5_append 0 (.bipush 24) 2 2 := ⟨by decide +kernel, rfl⟩
theorem eX5_append_2 : zD cX5_append 2 (.istore_n 2) 1 3 := ⟨by decide +kernel, rfl⟩
theorem eX5_append_3 : zD cX5_append 3 (.iload_n 2) 1 4 := ⟨by decide +kernel, rfl⟩
theorem eX5_append_4 : zDj cX5_append 4 (.ifCond .lt 47) 47 51 7 := ⟨by decide +kernel, rfl, by decide⟩
theorem eX5_append_7 : zD cX5_append 7 (.aload_n 0) 1 8 := ⟨by decide +kernel, rfl⟩
theorem eX5_append_8 : zD cX5_append 8 (.getfield 18) 3 11 := ⟨by decide +kernel, rfl⟩
theorem eX5_append_11 : zD cX5_append 11 (.aload_n 0) 1 12 := ⟨by decide +kernel, rfl⟩
theorem eX5_append_12 : zD cX5_append 12 (.getfield 9) 3 15 := ⟨by decide +kernel, rfl⟩
theorem eX5_append_15 : zD cX5_append 15 .arraylength 1 16 := ⟨by decide +kernel, rfl⟩
theorem eX5_append_16 : zDj cX5_append 16 (.if_icmp .ge 35) 35 51 19 := ⟨by decide +kernel, rfl, by decide⟩
theorem eX5_append_19 : zD cX5_append 19 (.aload_n 0) 1 20 := ⟨by decide +kernel, rfl⟩
theorem eX5_append_20 : zD cX5_append 20 (.getfield 9) 3 23 := ⟨by decide +kernel, rfl⟩
theorem eX5_append_23 : zD cX5_append 23 (.aload_n 0) 1 24 := ⟨by decide +kernel, rfl⟩
theorem eX5_append_24 : zD cX5_append 24 (.getfield 18) 3 27 := ⟨by decide +kernel, rfl⟩
theorem eX5_append_27 : zD cX5_append 27 (.iload_n 1) 1 28 := ⟨by decide +kernel, rfl⟩
theorem eX5_append_28 : zD cX5_append 28 (.iload_n 2) 1 29 := ⟨by decide +kernel, rfl⟩
theorem eX5_append_29 : zD cX5_append 29 .iushr 1 30 := ⟨by decide +kernel, rfl⟩
theorem eX5_append_30 : zD cX5_append 30 (.sipush 255) 3 33 := ⟨by decide +kernel, rfl⟩
theorem eX5_append_33 : zD cX5_append 33 .iand 1 34 := ⟨by decide +kernel, rfl⟩
theorem eX5_append_34 : zD cX5_append 34 .iastore 1 35 := ⟨by decide +kernel, rfl⟩
theorem eX5_append_35 : zD cX5_append 35 (.aload_n 0) 1 36 := ⟨by decide +kernel, rfl⟩
theorem eX5_append_36 : zD cX5_append 36 .dup 1 37 := ⟨by decide +kernel, rfl⟩
theorem eX5_append_37 : zD cX5_append 37 (.getfield 18) 3 40 := ⟨by decide +kernel, rfl⟩
theorem eX5_append_40 : zD cX5_append 40 (.iconst 1) 1 41 := ⟨by decide +kernel, rfl⟩
theorem eX5_append_41 : zD cX5_append 41 .iadd 1 42 := ⟨by decide +kernel, rfl⟩
theorem eX5_append_42 : zD cX5_append 42 (.putfield 18) 3 45 := ⟨by decide +kernel, rfl⟩
theorem eX5_append_45 : zD cX5_append 45 (.iinc 2 (-8)) 3 48 := ⟨by decide +kernel, rfl⟩
theorem eX5_append_48 : zDj cX5_append 48 (.goto (-45)) (-45) 3 51 := ⟨by decide +kernel, rfl, by decide⟩
theorem eX5_append_51 : zD cX5_append 51 .return_ 1 52 := ⟨by decide +kernel, rfl⟩
theorem eX5_isLetter_0 : zD cX5_isLetter 0 (.iload_n 0) 1 1 := ⟨by decide +kernel, rfl⟩
theorem eX5_isLetter_1 : zD cX5_isLetter 1 (.bipush 97) 2 3 := ⟨by decide +kernel, rfl⟩
theorem eX5_isLetter_3 : zD cX5_isLetter 3 (.bipush 122) 2 5 := ⟨by decide +kernel, rfl⟩
theorem eX5_isLetter_5 : zD cX5_isLetter 5 (.invokestatic 105) 3 8 := ⟨by decide +kernel, rfl⟩
theorem eX5_isLetter_8 : zDj cX5_isLetter 8 (.ifCond .ne 14) 14 22 11 := ⟨by decide +kernel, rfl, by decide⟩
theorem eX5_isLetter_11 : zD cX5_isLetter 11 (.iload_n 0) 1 12 := ⟨by decide +kernel, rfl⟩
theorem eX5_isLetter_12 : zD cX5_isLetter 12 (.bipush 65) 2 14 := ⟨by decide +kernel, rfl⟩
theorem eX5_isLetter_14 : zD cX5_isLetter 14 (.bipush 90) 2 16 := ⟨by decide +kernel, rfl⟩
theorem eX5_isLetter_16 : zD cX5_isLetter 16 (.invokestatic 105) 3 19 := ⟨by decide +kernel, rfl⟩
theorem eX5_isLetter_19 : zDj cX5_isLetter 19 (.ifCond .eq 7) 7 26 22 := ⟨by decide +kernel, rfl, by decide⟩
theorem eX5_isLetter_22 : zD cX5_isLetter 22 (.iconst 1) 1 23 := ⟨by decide +kernel, rfl⟩
theorem eX5_isLetter_23 : zDj cX5_isLetter 23 (.goto 4) 4 27 26 := ⟨by decide +kernel, rfl, by decide⟩
theorem eX5_isLetter_26 : zD cX5_isLetter 26 (.iconst 0) 1 27 := ⟨by decide +kernel, rfl⟩
theorem eX5_isLetter_27 : zD cX5_isLetter 27 .ireturn 1 28 := ⟨by decide +kernel, rfl⟩
theorem eX5_wordNumber_0 : zD cX5_wordNumber 0 (.iconst 0) 1 1 := ⟨by decide +kernel, rfl⟩
theorem eX5_wordNumber_1 : zD cX5_wordNumber 1 (.istore_n 1) 1 2 := ⟨by decide +kernel, rfl⟩
theorem eX5_wordNumber_2 : zD cX5_wordNumber 2 (.aload_n 0) 1 3 := ⟨by decide +kernel, rfl⟩
theorem eX5_wordNumber_3 : zD cX5_wordNumber 3 (.getfield 31) 3 6 := ⟨by decide +kernel, rfl⟩
theorem eX5_wordNumber_6 : zD cX5_wordNumber 6 (.istore_n 2) 1 7 := ⟨by decide +kernel, rfl⟩
theorem eX5_wordNumber_7 : zD cX5_wordNumber 7 (.iconst 1) 1 8 := ⟨by decide +kernel, rfl⟩
theorem eX5_wordNumber_8 : zD cX5_wordNumber 8 (.istore_n 3) 1 9 := ⟨by decide +kernel, rfl⟩
theorem eX5_wordNumber_9 : zD cX5_wordNumber 9 (.iconst 0) 1 10 := ⟨by decide +kernel, rfl⟩
theorem eX5_wordNumber_10 : zD cX5_wordNumber 10 (.istore 4) 2 12 := ⟨by decide +kernel, rfl⟩
theorem eX5_wordNumber_12 : zD cX5_wordNumber 12 (.iload 4) 2 14 := ⟨by decide +kernel, rfl⟩
theorem eX5_wordNumber_14 : zD cX5_wordNumber 14 (.ldc 159) 2 16 := ⟨by decide +kernel, rfl⟩
theorem eX5_wordNumber_16 : zD cX5_wordNumber 16 (.invokevirtual 161) 3 19 := ⟨by decide +kernel, rfl⟩
theorem eX5_wordNumber_19 : zDj cX5_wordNumber 19 (.if_icmp .ge 84) 84 103 22 := ⟨by decide +kernel, rfl, by decide⟩
theorem eX5_wordNumber_22 : zD cX5_wordNumber 22 (.ldc 159) 2 24 := ⟨by decide +kernel, rfl⟩
theorem eX5_wordNumber_24 : zD cX5_wordNumber 24 (.iload 4) 2 26 := ⟨by decide +kernel, rfl⟩
theorem eX5_wordNumber_26 : zD cX5_wordNumber 26 (.invokevirtual 165) 3 29 := ⟨by decide +kernel, rfl⟩
theorem eX5_wordNumber_29 : zD cX5_wordNumber 29 (.istore 5) 2 31 := ⟨by decide +kernel, rfl⟩
theorem eX5_wordNumber_31 : zD cX5_wordNumber 31 (.iload 5) 2 33 := ⟨by decide +kernel, rfl⟩
theorem eX5_wordNumber_33 : zD cX5_wordNumber 33 (.bipush 32) 2 35 := ⟨by decide +kernel, rfl⟩
theorem eX5_wordNumber_35 : zDj cX5_wordNumber 35 (.if_icmp .ne 30) 30 65 38 := ⟨by decide +kernel, rfl, by decide⟩
theorem eX5_wordNumber_38 : zD cX5_wordNumber 38 (.iload_n 3) 1 39 := ⟨by decide +kernel, rfl⟩
theorem eX5_wordNumber_39 : zDj cX5_wordNumber 39 (.ifCond .eq 13) 13 52 42 := ⟨by decide +kernel, rfl, by decide⟩
theorem eX5_wordNumber_42 : zD cX5_wordNumber 42 (.iload_n 2) 1 43 := ⟨by decide +kernel, rfl⟩
theorem eX5_wordNumber_43 : zD cX5_wordNumber 43 (.aload_n 0) 1 44 := ⟨by decide +kernel, rfl⟩
theorem eX5_wordNumber_44 : zD cX5_wordNumber 44 (.getfield 28) 3 47 := ⟨by decide +kernel, rfl⟩
theorem eX5_wordNumber_47 : zDj cX5_wordNumber 47 (.if_icmp .ne 5) 5 52 50 := ⟨by decide +kernel, rfl, by decide⟩
theorem eX5_wordNumber_50 : zD cX5_wordNumber 50 (.iload_n 1) 1 51 := ⟨by decide +kernel, rfl⟩
theorem eX5_wordNumber_51 : zD cX5_wordNumber 51 .ireturn 1 52 := ⟨by decide +kernel, rfl⟩
theorem eX5_wordNumber_52 : zD cX5_wordNumber 52 (.iinc 1 1) 3 55 := ⟨by decide +kernel, rfl⟩
theorem eX5_wordNumber_55 : zD cX5_wordNumber 55 (.aload_n 0) 1 56 := ⟨by decide +kernel, rfl⟩
theorem eX5_wordNumber_56 : zD cX5_wordNumber 56 (.getfield 31) 3 59 := ⟨by decide +kernel, rfl⟩
theorem eX5_wordNumber_59 : zD cX5_wordNumber 59 (.istore_n 2) 1 60 := ⟨by decide +kernel, rfl⟩
theorem eX5_wordNumber_60 : zD cX5_wordNumber 60 (.iconst 1) 1 61 := ⟨by decide +kernel, rfl⟩
theorem eX5_wordNumber_61 : zD cX5_wordNumber 61 (.istore_n 3) 1 62 := ⟨by decide +kernel, rfl⟩
theorem eX5_wordNumber_62 : zDj cX5_wordNumber 62 (.goto 35) 35 97 65 := ⟨by decide +kernel, rfl, by decide⟩
theorem eX5_wordNumber_65 : zD cX5_wordNumber 65 (.iload_n 3) 1 66 := ⟨by decide +kernel, rfl⟩
theorem eX5_wordNumber_66 : zDj cX5_wordNumber 66 (.ifCond .eq 26) 26 92 69 := ⟨by decide +kernel, rfl, by decide⟩
theorem eX5_wordNumber_69 : zD cX5_wordNumber 69 (.iload_n 2) 1 70 := ⟨by decide +kernel, rfl⟩
theorem eX5_wordNumber_70 : zD cX5_wordNumber 70 (.aload_n 0) 1 71 := ⟨by decide +kernel, rfl⟩
theorem eX5_wordNumber_71 : zD cX5_wordNumber 71 (.getfield 28) 3 74 := ⟨by decide +kernel, rfl⟩
theorem eX5_wordNumber_74 : zDj cX5_wordNumber 74 (.if_icmp .ge 18) 18 92 77 := ⟨by decide +kernel, rfl, by decide⟩
theorem eX5_wordNumber_77 : zD cX5_wordNumber 77 (.aload_n 0) 1 78 := ⟨by decide +kernel, rfl⟩
theorem eX5_wordNumber_78 : zD cX5_wordNumber 78 (.getfield 9) 3 81 := ⟨by decide +kernel, rfl⟩
theorem eX5_wordNumber_81 : zD cX5_wordNumber 81 (.iload_n 2) 1 82 := ⟨by decide +kernel, rfl⟩
theorem eX5_wordNumber_82 : zD cX5_wordNumber 82 .iaload 1 83 := ⟨by decide +kernel, rfl⟩
theorem eX5_wordNumber_83 : zD cX5_wordNumber 83 (.iload 5) 2 85 := ⟨by decide +kernel, rfl⟩
theorem eX5_wordNumber_85 : zDj cX5_wordNumber 85 (.if_icmp .ne 7) 7 92 88 := ⟨by decide +kernel, rfl, by decide⟩
theorem eX5_wordNumber_88 : zD cX5_wordNumber 88 (.iconst 1) 1 89 := ⟨by decide +kernel, rfl⟩
theorem eX5_wordNumber_89 : zDj cX5_wordNumber 89 (.goto 4) 4 93 92 := ⟨by decide +kernel, rfl, by decide⟩
theorem eX5_wordNumber_92 : zD cX5_wordNumber 92 (.iconst 0) 1 93 := ⟨by decide +kernel, rfl⟩
theorem eX5_wordNumber_93 : zD cX5_wordNumber 93 (.istore_n 3) 1 94 := ⟨by decide +kernel, rfl⟩
theorem eX5_wordNumber_94 : zD cX5_wordNumber 94 (.iinc 2 1) 3 97 := ⟨by decide +kernel, rfl⟩
theorem eX5_wordNumber_97 : zD cX5_wordNumber 97 (.iinc 4 1) 3 100 := ⟨by decide +kernel, rfl⟩
theorem eX5_wordNumber_100 : zDj cX5_wordNumber 100 (.goto (-88)) (-88) 12 103 := ⟨by decide +kernel, rfl, by decide⟩
theorem eX5_wordNumber_103 : zD cX5_wordNumber 103 (.iconst (-1)) 1 104 := ⟨by decide +kernel, rfl⟩
theorem eX5_wordNumber_104 : zD cX5_wordNumber 104 .ireturn 1 105 := ⟨by decide +kernel, rfl⟩
theorem eX5_scanWord_0 : zD cX5_scanWord 0 (.aload_n 0) 1 1 := ⟨by decide +kernel, rfl⟩
theorem eX5_scanWord_1 : zD cX5_scanWord 1 (.getfield 28) 3 4 := ⟨by decide +kernel, rfl⟩
theorem eX5_scanWord_4 : zD cX5_scanWord 4 (.aload_n 0) 1 5 := ⟨by decide +kernel, rfl⟩
theorem eX5_scanWord_5 : zD cX5_scanWord 5 (.getfield 18) 3 8 := ⟨by decide +kernel, rfl⟩
theorem eX5_scanWord_8 : zDj cX5_scanWord 8 (.if_icmp .ge 31) 31 39 11 := ⟨by decide +kernel, rfl, by decide⟩
theorem eX5_scanWord_11 : zD cX5_scanWord 11 (.aload_n 0) 1 12 := ⟨by decide +kernel, rfl⟩
theorem eX5_scanWord_12 : zD cX5_scanWord 12 (.getfield 9) 3 15 := ⟨by decide +kernel, rfl⟩
theorem eX5_scanWord_15 : zD cX5_scanWord 15 (.aload_n 0) 1 16 := ⟨by decide +kernel, rfl⟩
theorem eX5_scanWord_16 : zD cX5_scanWord 16 (.getfield 28) 3 19 := ⟨by decide +kernel, rfl⟩
theorem eX5_scanWord_19 : zD cX5_scanWord 19 .iaload 1 20 := ⟨by decide +kernel, rfl⟩
theorem eX5_scanWord_20 : zD cX5_scanWord 20 (.invokestatic 136) 3 23 := ⟨by decide +kernel, rfl⟩
theorem eX5_scanWord_23 : zDj cX5_scanWord 23 (.ifCond .eq 16) 16 39 26 := ⟨by decide +kernel, rfl, by decide⟩
theorem eX5_scanWord_26 : zD cX5_scanWord 26 (.aload_n 0) 1 27 := ⟨by decide +kernel, rfl⟩
theorem eX5_scanWord_27 : zD cX5_scanWord 27 .dup 1 28 := ⟨by decide +kernel, rfl⟩
theorem eX5_scanWord_28 : zD cX5_scanWord 28 (.getfield 28) 3 31 := ⟨by decide +kernel, rfl⟩
theorem eX5_scanWord_31 : zD cX5_scanWord 31 (.iconst 1) 1 32 := ⟨by decide +kernel, rfl⟩
theorem eX5_scanWord_32 : zD cX5_scanWord 32 .iadd 1 33 := ⟨by decide +kernel, rfl⟩
theorem eX5_scanWord_33 : zD cX5_scanWord 33 (.putfield 28) 3 36 := ⟨by decide +kernel, rfl⟩
theorem eX5_scanWord_36 : zDj cX5_scanWord 36 (.goto (-36)) (-36) 0 39 := ⟨by decide +kernel, rfl, by decide⟩
theorem eX5_scanWord_39 : zD cX5_scanWord 39 (.aload_n 0) 1 40 := ⟨by decide +kernel, rfl⟩
theorem eX5_scanWord_40 : zD cX5_scanWord 40 (.invokevirtual 155) 3 43 := ⟨by decide +kernel, rfl⟩
theorem eX5_scanWord_43 : zD cX5_scanWord 43 (.istore_n 1) 1 44 := ⟨by decide +kernel, rfl⟩
theorem eX5_scanWord_44 : zD cX5_scanWord 44 (.iload_n 1) 1 45 := ⟨by decide +kernel, rfl⟩
theorem eX5_scanWord_45 : zD cX5_scanWord 45 (.iconst (-1)) 1 46 := ⟨by decide +kernel, rfl⟩
theorem eX5_scanWord_46 : zDj cX5_scanWord 46 (.if_icmp .ne 12) 12 58 49 := ⟨by decide +kernel, rfl, by decide⟩
theorem eX5_scanWord_49 : zD cX5_scanWord 49 (.aload_n 0) 1 50 := ⟨by decide +kernel, rfl⟩
theorem eX5_scanWord_50 : zD cX5_scanWord 50 (.bipush 22) 2 52 := ⟨by decide +kernel, rfl⟩
theorem eX5_scanWord_52 : zD cX5_scanWord 52 (.putfield 34) 3 55 := ⟨by decide +kernel, rfl⟩
theorem eX5_scanWord_55 : zDj cX5_scanWord 55 (.goto 79) 79 134 58 := ⟨by decide +kernel, rfl, by decide⟩
theorem eX5_scanWord_58 : zD cX5_scanWord 58 (.iload_n 1) 1 59 := ⟨by decide +kernel, rfl⟩
theorem eX5_scanWord_59 : zD cX5_scanWord 59 (.iconst 4) 1 60 := ⟨by decide +kernel, rfl⟩
theorem eX5_scanWord_60 : zDj cX5_scanWord 60 (.if_icmp .ge 17) 17 77 63 := ⟨by decide +kernel, rfl, by decide⟩
theorem eX5_scanWord_63 : zD cX5_scanWord 63 (.aload_n 0) 1 64 := ⟨by decide +kernel, rfl⟩
theorem eX5_scanWord_64 : zD cX5_scanWord 64 (.bipush 18) 2 66 := ⟨by decide +kernel, rfl⟩
theorem eX5_scanWord_66 : zD cX5_scanWord 66 (.putfield 34) 3 69 := ⟨by decide +kernel, rfl⟩
theorem eX5_scanWord_69 : zD cX5_scanWord 69 (.aload_n 0) 1 70 := ⟨by decide +kernel, rfl⟩
theorem eX5_scanWord_70 : zD cX5_scanWord 70 (.iload_n 1) 1 71 := ⟨by decide +kernel, rfl⟩
theorem eX5_scanWord_71 : zD cX5_scanWord 71 (.putfield 37) 3 74 := ⟨by decide +kernel, rfl⟩
theorem eX5_scanWord_74 : zDj cX5_scanWord 74 (.goto 60) 60 134 77 := ⟨by decide +kernel, rfl, by decide⟩
theorem eX5_scanWord_77 : zD cX5_scanWord 77 (.iload_n 1) 1 78 := ⟨by decide +kernel, rfl⟩
theorem eX5_scanWord_78 : zD cX5_scanWord 78 (.bipush 8) 2 80 := ⟨by decide +kernel, rfl⟩
theorem eX5_scanWord_80 : zDj cX5_scanWord 80 (.if_icmp .lt 20) 20 100 83 := ⟨by decide +kernel, rfl, by decide⟩
theorem eX5_scanWord_83 : zD cX5_scanWord 83 (.aload_n 0) 1 84 := ⟨by decide +kernel, rfl⟩
theorem eX5_scanWord_84 : zD cX5_scanWord 84 (.bipush 19) 2 86 := ⟨by decide +kernel, rfl⟩
theorem eX5_scanWord_86 : zD cX5_scanWord 86 (.putfield 34) 3 89 := ⟨by decide +kernel, rfl⟩
theorem eX5_scanWord_89 : zD cX5_scanWord 89 (.aload_n 0) 1 90 := ⟨by decide +kernel, rfl⟩
theorem eX5_scanWord_90 : zD cX5_scanWord 90 (.iload_n 1) 1 91 := ⟨by decide +kernel, rfl⟩
theorem eX5_scanWord_91 : zD cX5_scanWord 91 (.bipush 8) 2 93 := ⟨by decide +kernel, rfl⟩
theorem eX5_scanWord_93 : zD cX5_scanWord 93 .isub 1 94 := ⟨by decide +kernel, rfl⟩
theorem eX5_scanWord_94 : zD cX5_scanWord 94 (.putfield 37) 3 97 := ⟨by decide +kernel, rfl⟩
theorem eX5_scanWord_97 : zDj cX5_scanWord 97 (.goto 37) 37 134 100 := ⟨by decide +kernel, rfl, by decide⟩
theorem eX5_scanWord_100 : zD cX5_scanWord 100 (.aload_n 0) 1 101 := ⟨by decide +kernel, rfl⟩
theorem eX5_scanWord_101 : zD cX5_scanWord 101 (.iload_n 1) 1 102 := ⟨by decide +kernel, rfl⟩
theorem eX5_scanWord_102 : zD cX5_scanWord 102 (.iconst 4) 1 103 := ⟨by decide +kernel, rfl⟩
theorem eX5_scanWord_103 : zDj cX5_scanWord 103 (.if_icmp .ne 8) 8 111 106 := ⟨by decide +kernel, rfl, by decide⟩
theorem eX5_scanWord_106 : zD cX5_scanWord 106 (.bipush 17) 2 108 := ⟨by decide +kernel, rfl⟩
theorem eX5_scanWord_108 : zDj cX5_scanWord 108 (.goto 23) 23 131 111 := ⟨by decide +kernel, rfl, by decide⟩
theorem eX5_scanWord_111 : zD cX5_scanWord 111 (.iload_n 1) 1 112 := ⟨by decide +kernel, rfl⟩
theorem eX5_scanWord_112 : zD cX5_scanWord 112 (.iconst 5) 1 113 := ⟨by decide +kernel, rfl⟩
theorem eX5_scanWord_113 : zDj cX5_scanWord 113 (.if_icmp .ne 7) 7 120 116 := ⟨by decide +kernel, rfl, by decide⟩
theorem eX5_scanWord_116 : zD cX5_scanWord 116 (.iconst 1) 1 117 := ⟨by decide +kernel, rfl⟩
theorem eX5_scanWord_117 : zDj cX5_scanWord 117 (.goto 14) 14 131 120 := ⟨by decide +kernel, rfl, by decide⟩
theorem eX5_scanWord_120 : zD cX5_scanWord 120 (.iload_n 1) 1 121 := ⟨by decide +kernel, rfl⟩
theorem eX5_scanWord_121 : zD cX5_scanWord 121 (.bipush 6) 2 123 := ⟨by decide +kernel, rfl⟩
theorem eX5_scanWord_123 : zDj cX5_scanWord 123 (.if_icmp .ne 7) 7 130 126 := ⟨by decide +kernel, rfl, by decide⟩
theorem eX5_scanWord_126 : zD cX5_scanWord 126 (.iconst 2) 1 127 := ⟨by decide +kernel, rfl⟩
theorem eX5_scanWord_127 : zDj cX5_scanWord 127 (.goto 4) 4 131 130 := ⟨by decide +kernel, rfl, by decide⟩
theorem eX5_scanWord_130 : zD cX5_scanWord 130 (.iconst 3) 1 131 := ⟨by decide +kernel, rfl⟩
theorem eX5_scanWord_131 : zD cX5_scanWord 131 (.putfield 34) 3 134 := ⟨by decide +kernel, rfl⟩
theorem eX5_scanWord_134 : zD cX5_scanWord 134 .return_ 1 135 := ⟨by decide +kernel, rfl⟩
theorem eX5_isDigit_0 : zD cX5_isDigit 0 (.iload_n 0) 1 1 := ⟨by decide +kernel, rfl⟩
theorem eX5_isDigit_1 : zD cX5_isDigit 1 (.bipush 48) 2 3 := ⟨by decide +kernel, rfl⟩
theorem eX5_isDigit_3 : zD cX5_isDigit 3 (.bipush 57) 2 5 := ⟨by decide +kernel, rfl⟩
theorem eX5_isDigit_5 : zD cX5_isDigit 5 (.invokestatic 105) 3 8 := ⟨by decide +kernel, rfl⟩
theorem eX5_isDigit_8 : zD cX5_isDigit 8 .ireturn 1 9 := ⟨by decide +kernel, rfl⟩
theorem eX5_scanDigits_0 : zD cX5_scanDigits 0 (.aload_n 0) 1 1 := ⟨by decide +kernel, rfl⟩
theorem eX5_scanDigits_1 : zD cX5_scanDigits 1 (.bipush 20) 2 3 := ⟨by decide +kernel, rfl⟩
theorem eX5_scanDigits_3 : zD cX5_scanDigits 3 (.putfield 34) 3 6 := ⟨by decide +kernel, rfl⟩
theorem eX5_scanDigits_6 : zD cX5_scanDigits 6 (.aload_n 0) 1 7 := ⟨by decide +kernel, rfl⟩
theorem eX5_scanDigits_7 : zD cX5_scanDigits 7 (.iconst 0) 1 8 := ⟨by decide +kernel, rfl⟩
theorem eX5_scanDigits_8 : zD cX5_scanDigits 8 (.putfield 37) 3 11 := ⟨by decide +kernel, rfl⟩
theorem eX5_scanDigits_11 : zD cX5_scanDigits 11 (.aload_n 0) 1 12 := ⟨by decide +kernel, rfl⟩
theorem eX5_scanDigits_12 : zD cX5_scanDigits 12 (.getfield 28) 3 15 := ⟨by decide +kernel, rfl⟩
theorem eX5_scanDigits_15 : zD cX5_scanDigits 15 (.aload_n 0) 1 16 := ⟨by decide +kernel, rfl⟩
theorem eX5_scanDigits_16 : zD cX5_scanDigits 16 (.getfield 18) 3 19 := ⟨by decide +kernel, rfl⟩
theorem eX5_scanDigits_19 : zDj cX5_scanDigits 19 (.if_icmp .ge 61) 61 80 22 := ⟨by decide +kernel, rfl, by decide⟩
theorem eX5_scanDigits_22 : zD cX5_scanDigits 22 (.aload_n 0) 1 23 := ⟨by decide +kernel, rfl⟩
theorem eX5_scanDigits_23 : zD cX5_scanDigits 23 (.getfield 9) 3 26 := ⟨by decide +kernel, rfl⟩
theorem eX5_scanDigits_26 : zD cX5_scanDigits 26 (.aload_n 0) 1 27 := ⟨by decide +kernel, rfl⟩
theorem eX5_scanDigits_27 : zD cX5_scanDigits 27 (.getfield 28) 3 30 := ⟨by decide +kernel, rfl⟩
theorem eX5_scanDigits_30 : zD cX5_scanDigits 30 .iaload 1 31 := ⟨by decide +kernel, rfl⟩
theorem eX5_scanDigits_31 : zD cX5_scanDigits 31 (.invokestatic 143) 3 34 := ⟨by decide +kernel, rfl⟩
theorem eX5_scanDigits_34 : zDj cX5_scanDigits 34 (.ifCond .eq 46) 46 80 37 := ⟨by decide +kernel, rfl, by decide⟩
theorem eX5_scanDigits_37 : zD cX5_scanDigits 37 (.aload_n 0) 1 38 := ⟨by decide +kernel, rfl⟩
theorem eX5_scanDigits_38 : zD cX5_scanDigits 38 (.sipush 1000) 3 41 := ⟨by decide +kernel, rfl⟩
theorem eX5_scanDigits_41 : zD cX5_scanDigits 41 (.aload_n 0) 1 42 := ⟨by decide +kernel, rfl⟩
theorem eX5_scanDigits_42 : zD cX5_scanDigits 42 (.getfield 37) 3 45 := ⟨by decide +kernel, rfl⟩
theorem eX5_scanDigits_45 : zD cX5_scanDigits 45 (.bipush 10) 2 47 := ⟨by decide +kernel, rfl⟩
theorem eX5_scanDigits_47 : zD cX5_scanDigits 47 .imul 1 48 := ⟨by decide +kernel, rfl⟩
theorem eX5_scanDigits_48 : zD cX5_scanDigits 48 (.aload_n 0) 1 49 := ⟨by decide +kernel, rfl⟩
theorem eX5_scanDigits_49 : zD cX5_scanDigits 49 (.getfield 9) 3 52 := ⟨by decide +kernel, rfl⟩
theorem eX5_scanDigits_52 : zD cX5_scanDigits 52 (.aload_n 0) 1 53 := ⟨by decide +kernel, rfl⟩
theorem eX5_scanDigits_53 : zD cX5_scanDigits 53 (.getfield 28) 3 56 := ⟨by decide +kernel, rfl⟩
theorem eX5_scanDigits_56 : zD cX5_scanDigits 56 .iaload 1 57 := ⟨by decide +kernel, rfl⟩
theorem eX5_scanDigits_57 : zD cX5_scanDigits 57 .iadd 1 58 := ⟨by decide +kernel, rfl⟩
theorem eX5_scanDigits_58 : zD cX5_scanDigits 58 (.bipush 48) 2 60 := ⟨by decide +kernel, rfl⟩
theorem eX5_scanDigits_60 : zD cX5_scanDigits 60 .isub 1 61 := ⟨by decide +kernel, rfl⟩
theorem eX5_scanDigits_61 : zD cX5_scanDigits 61 (.invokestatic 152) 3 64 := ⟨by decide +kernel, rfl⟩
theorem eX5_scanDigits_64 : zD cX5_scanDigits 64 (.putfield 37) 3 67 := ⟨by decide +kernel, rfl⟩
theorem eX5_scanDigits_67 : zD cX5_scanDigits 67 (.aload_n 0) 1 68 := ⟨by decide +kernel, rfl⟩
theorem eX5_scanDigits_68 : zD cX5_scanDigits 68 .dup 1 69 := ⟨by decide +kernel, rfl⟩
theorem eX5_scanDigits_69 : zD cX5_scanDigits 69 (.getfield 28) 3 72 := ⟨by decide +kernel, rfl⟩
theorem eX5_scanDigits_72 : zD cX5_scanDigits 72 (.iconst 1) 1 73 := ⟨by decide +kernel, rfl⟩
theorem eX5_scanDigits_73 : zD cX5_scanDigits 73 .iadd 1 74 := ⟨by decide +kernel, rfl⟩
theorem eX5_scanDigits_74 : zD cX5_scanDigits 74 (.putfield 28) 3 77 := ⟨by decide +kernel, rfl⟩
theorem eX5_scanDigits_77 : zDj cX5_scanDigits 77 (.goto (-66)) (-66) 11 80 := ⟨by decide +kernel, rfl, by decide⟩
theorem eX5_scanDigits_80 : zD cX5_scanDigits 80 .return_ 1 81 := ⟨by decide +kernel, rfl⟩
theorem eX5_signKind_0 : zD cX5_signKind 0 (.iload_n 0) 1 1 := ⟨by decide +kernel, rfl⟩
theorem eX5_signKind_1 : decode cX5_signKind 1 = .ok (.tableswitch 158 35 62 #[135, 158, 158, 158, 158, 150, 152, 144, 138, 158, 141, 158, 147, 158, 158, 158, 158, 158, 158, 158, 158, 158, 158, 158, 155, 127, 132, 129], 127) := by decide +kernel
theorem eX5_signKind_128 : zD cX5_signKind 128 (.iconst 4) 1 129 := ⟨by decide +kernel, rfl⟩
theorem eX5_signKind_129 : zD cX5_signKind 129 .ireturn 1 130 := ⟨by decide +kernel, rfl⟩
theorem eX5_signKind_130 : zD cX5_signKind 130 (.bipush 6) 2 132 := ⟨by decide +kernel, rfl⟩
theorem eX5_signKind_132 : zD cX5_signKind 132 .ireturn 1 133 := ⟨by decide +kernel, rfl⟩
theorem eX5_signKind_133 : zD cX5_signKind 133 (.bipush 8) 2 135 := ⟨by decide +kernel, rfl⟩
theorem eX5_signKind_135 : zD cX5_signKind 135 .ireturn 1 136 := ⟨by decide +kernel, rfl⟩
theorem eX5_signKind_136 : zD cX5_signKind 136 (.bipush 9) 2 138 := ⟨by decide +kernel, rfl⟩
theorem eX5_signKind_138 : zD cX5_signKind 138 .ireturn 1 139 := ⟨by decide +kernel, rfl⟩
theorem eX5_signKind_139 : zD cX5_signKind 139 (.bipush 10) 2 141 := ⟨by decide +kernel, rfl⟩
theorem eX5_signKind_141 : zD cX5_signKind 141 .ireturn 1 142 := ⟨by decide +kernel, rfl⟩
theorem eX5_signKind_142 : zD cX5_signKind 142 (.bipush 11) 2 144 := ⟨by decide +kernel, rfl⟩
theorem eX5_signKind_144 : zD cX5_signKind 144 .ireturn 1 145 := ⟨by decide +kernel, rfl⟩
theorem eX5_signKind_145 : zD cX5_signKind 145 (.bipush 12) 2 147 := ⟨by decide +kernel, rfl⟩
theorem eX5_signKind_147 : zD cX5_signKind 147 .ireturn 1 148 := ⟨by decide +kernel, rfl⟩
theorem eX5_signKind_148 : zD cX5_signKind 148 (.bipush 13) 2 150 := ⟨by decide +kernel, rfl⟩
theorem eX5_signKind_150 : zD cX5_signKind 150 .ireturn 1 151 := ⟨by decide +kernel, rfl⟩
theorem eX5_signKind_151 : zD cX5_signKind 151 (.iconst 0) 1 152 := ⟨by decide +kernel, rfl⟩
theorem eX5_signKind_152 : zD cX5_signKind 152 .ireturn 1 153 := ⟨by decide +kernel, rfl⟩
theorem eX5_signKind_153 : zD cX5_signKind 153 (.bipush 15) 2 155 := ⟨by decide +kernel, rfl⟩
theorem eX5_signKind_155 : zD cX5_signKind 155 .ireturn 1 156 := ⟨by decide +kernel, rfl⟩
theorem eX5_signKind_156 : zD cX5_signKind 156 (.bipush 16) 2 158 := ⟨by decide +kernel, rfl⟩
theorem eX5_signKind_158 : zD cX5_signKind 158 .ireturn 1 159 := ⟨by decide +kernel, rfl⟩
theorem eX5_signKind_159 : zD cX5_signKind 159 (.bipush 22) 2 161 := ⟨by decide +kernel, rfl⟩
theorem eX5_signKind_161 : zD cX5_signKind 161 .ireturn 1 162 := ⟨by decide +kernel, rfl⟩
theorem eX5_scanSign_0 : zD cX5_scanSign 0 (.aload_n 0) 1 1 := ⟨by decide +kernel, rfl⟩
theorem eX5_scanSign_1 : zD cX5_scanSign 1 (.aload_n 0) 1 2 := ⟨by decide +kernel, rfl⟩
theorem eX5_scanSign_2 : zD cX5_scanSign 2 (.getfield 9) 3 5 := ⟨by decide +kernel, rfl⟩
theorem eX5_scanSign_5 : zD cX5_scanSign 5 (.aload_n 0) 1 6 := ⟨by decide +kernel, rfl⟩
theorem eX5_scanSign_6 : zD cX5_scanSign 6 (.getfield 28) 3 9 := ⟨by decide +kernel, rfl⟩
theorem eX5_scanSign_9 : zD cX5_scanSign 9 .iaload 1 10 := ⟨by decide +kernel, rfl⟩
theorem eX5_scanSign_10 : zD cX5_scanSign 10 (.invokestatic 169) 3 13 := ⟨by decide +kernel, rfl⟩
theorem eX5_scanSign_13 : zD cX5_scanSign 13 (.putfield 34) 3 16 := ⟨by decide +kernel, rfl⟩
theorem eX5_scanSign_16 : zD cX5_scanSign 16 (.aload_n 0) 1 17 := ⟨by decide +kernel, rfl⟩
theorem eX5_scanSign_17 : zD cX5_scanSign 17 .dup 1 18 := ⟨by decide +kernel, rfl⟩
theorem eX5_scanSign_18 : zD cX5_scanSign 18 (.getfield 28) 3 21 := ⟨by decide +kernel, rfl⟩
theorem eX5_scanSign_21 : zD cX5_scanSign 21 (.iconst 1) 1 22 := ⟨by decide +kernel, rfl⟩
theorem eX5_scanSign_22 : zD cX5_scanSign 22 .iadd 1 23 := ⟨by decide +kernel, rfl⟩
theorem eX5_scanSign_23 : zD cX5_scanSign 23 (.putfield 28) 3 26 := ⟨by decide +kernel, rfl⟩
theorem eX5_scanSign_26 : zD cX5_scanSign 26 (.aload_n 0) 1 27 := ⟨by decide +kernel, rfl⟩
theorem eX5_scanSign_27 : zD cX5_scanSign 27 (.getfield 34) 3 30 := ⟨by decide +kernel, rfl⟩
theorem eX5_scanSign_30 : zD cX5_scanSign 30 (.iconst 4) 1 31 := ⟨by decide +kernel, rfl⟩
theorem eX5_scanSign_31 : zDj cX5_scanSign 31 (.if_icmp .eq 12) 12 43 34 := ⟨by decide +kernel, rfl, by decide⟩
theorem eX5_scanSign_34 : zD cX5_scanSign 34 (.aload_n 0) 1 35 := ⟨by decide +kernel, rfl⟩
theorem eX5_scanSign_35 : zD cX5_scanSign 35 (.getfield 34) 3 38 := ⟨by decide +kernel, rfl⟩
theorem eX5_scanSign_38 : zD cX5_scanSign 38 (.bipush 6) 2 40 := ⟨by decide +kernel, rfl⟩
theorem eX5_scanSign_40 : zDj cX5_scanSign 40 (.if_icmp .ne 56) 56 96 43 := ⟨by decide +kernel, rfl, by decide⟩
theorem eX5_scanSign_43 : zD cX5_scanSign 43 (.aload_n 0) 1 44 := ⟨by decide +kernel, rfl⟩
theorem eX5_scanSign_44 : zD cX5_scanSign 44 (.getfield 28) 3 47 := ⟨by decide +kernel, rfl⟩
theorem eX5_scanSign_47 : zD cX5_scanSign 47 (.aload_n 0) 1 48 := ⟨by decide +kernel, rfl⟩
theorem eX5_scanSign_48 : zD cX5_scanSign 48 (.getfield 18) 3 51 := ⟨by decide +kernel, rfl⟩
theorem eX5_scanSign_51 : zDj cX5_scanSign 51 (.if_icmp .ge 45) 45 96 54 := ⟨by decide +kernel, rfl, by decide⟩
theorem eX5_scanSign_54 : zD cX5_scanSign 54 (.aload_n 0) 1 55 := ⟨by decide +kernel, rfl⟩
theorem eX5_scanSign_55 : zD cX5_scanSign 55 (.getfield 9) 3 58 := ⟨by decide +kernel, rfl⟩
theorem eX5_scanSign_58 : zD cX5_scanSign 58 (.aload_n 0) 1 59 := ⟨by decide +kernel, rfl⟩
theorem eX5_scanSign_59 : zD cX5_scanSign 59 (.getfield 28) 3 62 := ⟨by decide +kernel, rfl⟩
theorem eX5_scanSign_62 : zD cX5_scanSign 62 .iaload 1 63 := ⟨by decide +kernel, rfl⟩
theorem eX5_scanSign_63 : zD cX5_scanSign 63 (.bipush 61) 2 65 := ⟨by decide +kernel, rfl⟩
theorem eX5_scanSign_65 : zDj cX5_scanSign 65 (.if_icmp .ne 31) 31 96 68 := ⟨by decide +kernel, rfl, by decide⟩
theorem eX5_scanSign_68 : zD cX5_scanSign 68 (.aload_n 0) 1 69 := ⟨by decide +kernel, rfl⟩
theorem eX5_scanSign_69 : zD cX5_scanSign 69 (.aload_n 0) 1 70 := ⟨by decide +kernel, rfl⟩
theorem eX5_scanSign_70 : zD cX5_scanSign 70 (.getfield 34) 3 73 := ⟨by decide +kernel, rfl⟩
theorem eX5_scanSign_73 : zD cX5_scanSign 73 (.iconst 4) 1 74 := ⟨by decide +kernel, rfl⟩
theorem eX5_scanSign_74 : zDj cX5_scanSign 74 (.if_icmp .ne 7) 7 81 77 := ⟨by decide +kernel, rfl, by decide⟩
theorem eX5_scanSign_77 : zD cX5_scanSign 77 (.iconst 5) 1 78 := ⟨by decide +kernel, rfl⟩
theorem eX5_scanSign_78 : zDj cX5_scanSign 78 (.goto 5) 5 83 81 := ⟨by decide +kernel, rfl, by decide⟩
theorem eX5_scanSign_81 : zD cX5_scanSign 81 (.bipush 7) 2 83 := ⟨by decide +kernel, rfl⟩
theorem eX5_scanSign_83 : zD cX5_scanSign 83 (.putfield 34) 3 86 := ⟨by decide +kernel, rfl⟩
theorem eX5_scanSign_86 : zD cX5_scanSign 86 (.aload_n 0) 1 87 := ⟨by decide +kernel, rfl⟩
theorem eX5_scanSign_87 : zD cX5_scanSign 87 .dup 1 88 := ⟨by decide +kernel, rfl⟩
theorem eX5_scanSign_88 : zD cX5_scanSign 88 (.getfield 28) 3 91 := ⟨by decide +kernel, rfl⟩
theorem eX5_scanSign_91 : zD cX5_scanSign 91 (.iconst 1) 1 92 := ⟨by decide +kernel, rfl⟩
theorem eX5_scanSign_92 : zD cX5_scanSign 92 .iadd 1 93 := ⟨by decide +kernel, rfl⟩
theorem eX5_scanSign_93 : zD cX5_scanSign 93 (.putfield 28) 3 96 := ⟨by decide +kernel, rfl⟩
theorem eX5_scanSign_96 : zD cX5_scanSign 96 .return_ 1 97 := ⟨by decide +kernel, rfl⟩
theorem eX5_scan_0 : zD cX5_scan 0 (.aload_n 0) 1 1 := ⟨by decide +kernel, rfl⟩
theorem eX5_scan_1 : zD cX5_scan 1 (.getfield 28) 3 4 := ⟨by decide +kernel, rfl⟩
theorem eX5_scan_4 : zD cX5_scan 4 (.aload_n 0) 1 5 := ⟨by decide +kernel, rfl⟩
theorem eX5_scan_5 : zD cX5_scan 5 (.getfield 18) 3 8 := ⟨by decide +kernel, rfl⟩
theorem eX5_scan_8 : zDj cX5_scan 8 (.if_icmp .ge 44) 44 52 11 := ⟨by decide +kernel, rfl, by decide⟩
theorem eX5_scan_11 : zD cX5_scan 11 (.aload_n 0) 1 12 := ⟨by decide +kernel, rfl⟩
theorem eX5_scan_12 : zD cX5_scan 12 (.getfield 9) 3 15 := ⟨by decide +kernel, rfl⟩
theorem eX5_scan_15 : zD cX5_scan 15 (.aload_n 0) 1 16 := ⟨by decide +kernel, rfl⟩
theorem eX5_scan_16 : zD cX5_scan 16 (.getfield 28) 3 19 := ⟨by decide +kernel, rfl⟩
theorem eX5_scan_19 : zD cX5_scan 19 .iaload 1 20 := ⟨by decide +kernel, rfl⟩
theorem eX5_scan_20 : zD cX5_scan 20 (.bipush 32) 2 22 := ⟨by decide +kernel, rfl⟩
theorem eX5_scan_22 : zDj cX5_scan 22 (.if_icmp .eq 17) 17 39 25 := ⟨by decide +kernel, rfl, by decide⟩
theorem eX5_scan_25 : zD cX5_scan 25 (.aload_n 0) 1 26 := ⟨by decide +kernel, rfl⟩
theorem eX5_scan_26 : zD cX5_scan 26 (.getfield 9) 3 29 := ⟨by decide +kernel, rfl⟩
theorem eX5_scan_29 : zD cX5_scan 29 (.aload_n 0) 1 30 := ⟨by decide +kernel, rfl⟩
theorem eX5_scan_30 : zD cX5_scan 30 (.getfield 28) 3 33 := ⟨by decide +kernel, rfl⟩
theorem eX5_scan_33 : zD cX5_scan 33 .iaload 1 34 := ⟨by decide +kernel, rfl⟩
theorem eX5_scan_34 : zD cX5_scan 34 (.bipush 10) 2 36 := ⟨by decide +kernel, rfl⟩
theorem eX5_scan_36 : zDj cX5_scan 36 (.if_icmp .ne 16) 16 52 39 := ⟨by decide +kernel, rfl, by decide⟩
theorem eX5_scan_39 : zD cX5_scan 39 (.aload_n 0) 1 40 := ⟨by decide +kernel, rfl⟩
theorem eX5_scan_40 : zD cX5_scan 40 .dup 1 41 := ⟨by decide +kernel, rfl⟩
theorem eX5_scan_41 : zD cX5_scan 41 (.getfield 28) 3 44 := ⟨by decide +kernel, rfl⟩
theorem eX5_scan_44 : zD cX5_scan 44 (.iconst 1) 1 45 := ⟨by decide +kernel, rfl⟩
theorem eX5_scan_45 : zD cX5_scan 45 .iadd 1 46 := ⟨by decide +kernel, rfl⟩
theorem eX5_scan_46 : zD cX5_scan 46 (.putfield 28) 3 49 := ⟨by decide +kernel, rfl⟩
theorem eX5_scan_49 : zDj cX5_scan 49 (.goto (-49)) (-49) 0 52 := ⟨by decide +kernel, rfl, by decide⟩
theorem eX5_scan_52 : zD cX5_scan 52 (.aload_n 0) 1 53 := ⟨by decide +kernel, rfl⟩
theorem eX5_scan_53 : zD cX5_scan 53 (.aload_n 0) 1 54 := ⟨by decide +kernel, rfl⟩
theorem eX5_scan_54 : zD cX5_scan 54 (.getfield 28) 3 57 := ⟨by decide +kernel, rfl⟩
theorem eX5_scan_57 : zD cX5_scan 57 (.putfield 31) 3 60 := ⟨by decide +kernel, rfl⟩
theorem eX5_scan_60 : zD cX5_scan 60 (.aload_n 0) 1 61 := ⟨by decide +kernel, rfl⟩
theorem eX5_scan_61 : zD cX5_scan 61 (.getfield 28) 3 64 := ⟨by decide +kernel, rfl⟩
theorem eX5_scan_64 : zD cX5_scan 64 (.aload_n 0) 1 65 := ⟨by decide +kernel, rfl⟩
theorem eX5_scan_65 : zD cX5_scan 65 (.getfield 18) 3 68 := ⟨by decide +kernel, rfl⟩
theorem eX5_scan_68 : zDj cX5_scan 68 (.if_icmp .lt 12) 12 80 71 := ⟨by decide +kernel, rfl, by decide⟩
theorem eX5_scan_71 : zD cX5_scan 71 (.aload_n 0) 1 72 := ⟨by decide +kernel, rfl⟩
theorem eX5_scan_72 : zD cX5_scan 72 (.bipush 21) 2 74 := ⟨by decide +kernel, rfl⟩
theorem eX5_scan_74 : zD cX5_scan 74 (.putfield 34) 3 77 := ⟨by decide +kernel, rfl⟩
theorem eX5_scan_77 : zDj cX5_scan 77 (.goto 51) 51 128 80 := ⟨by decide +kernel, rfl, by decide⟩
theorem eX5_scan_80 : zD cX5_scan 80 (.aload_n 0) 1 81 := ⟨by decide +kernel, rfl⟩
theorem eX5_scan_81 : zD cX5_scan 81 (.getfield 9) 3 84 := ⟨by decide +kernel, rfl⟩
theorem eX5_scan_84 : zD cX5_scan 84 (.aload_n 0) 1 85 := ⟨by decide +kernel, rfl⟩
theorem eX5_scan_85 : zD cX5_scan 85 (.getfield 28) 3 88 := ⟨by decide +kernel, rfl⟩
theorem eX5_scan_88 : zD cX5_scan 88 .iaload 1 89 := ⟨by decide +kernel, rfl⟩
theorem eX5_scan_89 : zD cX5_scan 89 (.invokestatic 136) 3 92 := ⟨by decide +kernel, rfl⟩
theorem eX5_scan_92 : zDj cX5_scan 92 (.ifCond .eq 10) 10 102 95 := ⟨by decide +kernel, rfl, by decide⟩
theorem eX5_scan_95 : zD cX5_scan 95 (.aload_n 0) 1 96 := ⟨by decide +kernel, rfl⟩
theorem eX5_scan_96 : zD cX5_scan 96 (.invokevirtual 140) 3 99 := ⟨by decide +kernel, rfl⟩
theorem eX5_scan_99 : zDj cX5_scan 99 (.goto 29) 29 128 102 := ⟨by decide +kernel, rfl, by decide⟩
theorem eX5_scan_102 : zD cX5_scan 102 (.aload_n 0) 1 103 := ⟨by decide +kernel, rfl⟩
theorem eX5_scan_103 : zD cX5_scan 103 (.getfield 9) 3 106 := ⟨by decide +kernel, rfl⟩
theorem eX5_scan_106 : zD cX5_scan 106 (.aload_n 0) 1 107 := ⟨by decide +kernel, rfl⟩
theorem eX5_scan_107 : zD cX5_scan 107 (.getfield 28) 3 110 := ⟨by decide +kernel, rfl⟩
theorem eX5_scan_110 : zD cX5_scan 110 .iaload 1 111 := ⟨by decide +kernel, rfl⟩
theorem eX5_scan_111 : zD cX5_scan 111 (.invokestatic 143) 3 114 := ⟨by decide +kernel, rfl⟩
theorem eX5_scan_114 : zDj cX5_scan 114 (.ifCond .eq 10) 10 124 117 := ⟨by decide +kernel, rfl, by decide⟩
theorem eX5_scan_117 : zD cX5_scan 117 (.aload_n 0) 1 118 := ⟨by decide +kernel, rfl⟩
theorem eX5_scan_118 : zD cX5_scan 118 (.invokevirtual 146) 3 121 := ⟨by decide +kernel, rfl⟩
theorem eX5_scan_121 : zDj cX5_scan 121 (.goto 7) 7 128 124 := ⟨by decide +kernel, rfl, by decide⟩
theorem eX5_scan_124 : zD cX5_scan 124 (.aload_n 0) 1 125 := ⟨by decide +kernel, rfl⟩
theorem eX5_scan_125 : zD cX5_scan 125 (.invokevirtual 149) 3 128 := ⟨by decide +kernel, rfl⟩
theorem eX5_scan_128 : zD cX5_scan 128 .return_ 1 129 := ⟨by decide +kernel, rfl⟩
theorem eX5_refuse_0 : zD cX5_refuse 0 (.aload_n 0) 1 1 := ⟨by decide +kernel, rfl⟩
theorem eX5_refuse_1 : zD cX5_refuse 1 (.iload_n 1) 1 2 := ⟨by decide +kernel, rfl⟩
theorem eX5_refuse_2 : zD cX5_refuse 2 (.putfield 22) 3 5 := ⟨by decide +kernel, rfl⟩
theorem eX5_refuse_5 : zD cX5_refuse 5 (.aload_n 0) 1 6 := ⟨by decide +kernel, rfl⟩
theorem eX5_refuse_6 : zD cX5_refuse 6 (.aload_n 0) 1 7 := ⟨by decide +kernel, rfl⟩
theorem eX5_refuse_7 : zD cX5_refuse 7 (.getfield 31) 3 10 := ⟨by decide +kernel, rfl⟩
theorem eX5_refuse_10 : zD cX5_refuse 10 (.putfield 25) 3 13 := ⟨by decide +kernel, rfl⟩
theorem eX5_refuse_13 : zD cX5_refuse 13 .return_ 1 14 := ⟨by decide +kernel, rfl⟩
theorem eX5_takeSort_0 : zD cX5_takeSort 0 (.aload_n 0) 1 1 := ⟨by decide +kernel, rfl⟩
theorem eX5_takeSort_1 : zD cX5_takeSort 1 (.getfield 34) 3 4 := ⟨by decide +kernel, rfl⟩
theorem eX5_takeSort_4 : zD cX5_takeSort 4 (.bipush 21) 2 6 := ⟨by decide +kernel, rfl⟩
theorem eX5_takeSort_6 : zDj cX5_takeSort 6 (.if_icmp .ne 11) 11 17 9 := ⟨by decide +kernel, rfl, by decide⟩
theorem eX5_takeSort_9 : zD cX5_takeSort 9 (.aload_n 0) 1 10 := ⟨by decide +kernel, rfl⟩
theorem eX5_takeSort_10 : zD cX5_takeSort 10 (.iconst 4) 1 11 := ⟨by decide +kernel, rfl⟩
theorem eX5_takeSort_11 : zD cX5_takeSort 11 (.putfield 40) 3 14 := ⟨by decide +kernel, rfl⟩
theorem eX5_takeSort_14 : zDj cX5_takeSort 14 (.goto 113) 113 127 17 := ⟨by decide +kernel, rfl, by decide⟩
theorem eX5_takeSort_17 : zD cX5_takeSort 17 (.aload_n 0) 1 18 := ⟨by decide +kernel, rfl⟩
theorem eX5_takeSort_18 : zD cX5_takeSort 18 (.getfield 34) 3 21 := ⟨by decide +kernel, rfl⟩
theorem eX5_takeSort_21 : zD cX5_takeSort 21 (.bipush 18) 2 23 := ⟨by decide +kernel, rfl⟩
theorem eX5_takeSort_23 : zDj cX5_takeSort 23 (.if_icmp .eq 11) 11 34 26 := ⟨by decide +kernel, rfl, by decide⟩
theorem eX5_takeSort_26 : zD cX5_takeSort 26 (.aload_n 0) 1 27 := ⟨by decide +kernel, rfl⟩
theorem eX5_takeSort_27 : zD cX5_takeSort 27 (.iconst 1) 1 28 := ⟨by decide +kernel, rfl⟩
theorem eX5_takeSort_28 : zD cX5_takeSort 28 (.invokevirtual 86) 3 31 := ⟨by decide +kernel, rfl⟩
theorem eX5_takeSort_31 : zDj cX5_takeSort 31 (.goto 96) 96 127 34 := ⟨by decide +kernel, rfl, by decide⟩
theorem eX5_takeSort_34 : zD cX5_takeSort 34 (.aload_n 1) 1 35 := ⟨by decide +kernel, rfl⟩
theorem eX5_takeSort_35 : zD cX5_takeSort 35 (.getfield 62) 3 38 := ⟨by decide +kernel, rfl⟩
theorem eX5_takeSort_38 : zD cX5_takeSort 38 (.bipush 10) 2 40 := ⟨by decide +kernel, rfl⟩
theorem eX5_takeSort_40 : zDj cX5_takeSort 40 (.if_icmp .lt 11) 11 51 43 := ⟨by decide +kernel, rfl, by decide⟩
theorem eX5_takeSort_43 : zD cX5_takeSort 43 (.aload_n 0) 1 44 := ⟨by decide +kernel, rfl⟩
theorem eX5_takeSort_44 : zD cX5_takeSort 44 (.iconst 5) 1 45 := ⟨by decide +kernel, rfl⟩
theorem eX5_takeSort_45 : zD cX5_takeSort 45 (.invokevirtual 86) 3 48 := ⟨by decide +kernel, rfl⟩
theorem eX5_takeSort_48 : zDj cX5_takeSort 48 (.goto 79) 79 127 51 := ⟨by decide +kernel, rfl, by decide⟩
theorem eX5_takeSort_51 : zD cX5_takeSort 51 (.aload_n 0) 1 52 := ⟨by decide +kernel, rfl⟩
theorem eX5_takeSort_52 : zD cX5_takeSort 52 (.aload_n 0) 1 53 := ⟨by decide +kernel, rfl⟩
theorem eX5_takeSort_53 : zD cX5_takeSort 53 (.getfield 37) 3 56 := ⟨by decide +kernel, rfl⟩
theorem eX5_takeSort_56 : zD cX5_takeSort 56 (.putfield 43) 3 59 := ⟨by decide +kernel, rfl⟩
theorem eX5_takeSort_59 : zD cX5_takeSort 59 (.aload_n 0) 1 60 := ⟨by decide +kernel, rfl⟩
theorem eX5_takeSort_60 : zD cX5_takeSort 60 (.aload_n 0) 1 61 := ⟨by decide +kernel, rfl⟩
theorem eX5_takeSort_61 : zD cX5_takeSort 61 (.getfield 43) 3 64 := ⟨by decide +kernel, rfl⟩
theorem eX5_takeSort_64 : zDj cX5_takeSort 64 (.ifCond .eq 11) 11 75 67 := ⟨by decide +kernel, rfl, by decide⟩
theorem eX5_takeSort_67 : zD cX5_takeSort 67 (.aload_n 0) 1 68 := ⟨by decide +kernel, rfl⟩
theorem eX5_takeSort_68 : zD cX5_takeSort 68 (.getfield 43) 3 71 := ⟨by decide +kernel, rfl⟩
theorem eX5_takeSort_71 : zD cX5_takeSort 71 (.iconst 1) 1 72 := ⟨by decide +kernel, rfl⟩
theorem eX5_takeSort_72 : zDj cX5_takeSort 72 (.if_icmp .ne 7) 7 79 75 := ⟨by decide +kernel, rfl, by decide⟩
theorem eX5_takeSort_75 : zD cX5_takeSort 75 (.iconst 1) 1 76 := ⟨by decide +kernel, rfl⟩
theorem eX5_takeSort_76 : zDj cX5_takeSort 76 (.goto 4) 4 80 79 := ⟨by decide +kernel, rfl, by decide⟩
theorem eX5_takeSort_79 : zD cX5_takeSort 79 (.iconst 0) 1 80 := ⟨by decide +kernel, rfl⟩
theorem eX5_takeSort_80 : zD cX5_takeSort 80 (.putfield 46) 3 83 := ⟨by decide +kernel, rfl⟩
theorem eX5_takeSort_83 : zD cX5_takeSort 83 (.aload_n 0) 1 84 := ⟨by decide +kernel, rfl⟩
theorem eX5_takeSort_84 : zD cX5_takeSort 84 (.iconst 0) 1 85 := ⟨by decide +kernel, rfl⟩
theorem eX5_takeSort_85 : zD cX5_takeSort 85 (.putfield 50) 3 88 := ⟨by decide +kernel, rfl⟩
theorem eX5_takeSort_88 : zD cX5_takeSort 88 (.aload_n 0) 1 89 := ⟨by decide +kernel, rfl⟩
theorem eX5_takeSort_89 : zD cX5_takeSort 89 (.iconst 0) 1 90 := ⟨by decide +kernel, rfl⟩
theorem eX5_takeSort_90 : zD cX5_takeSort 90 (.putfield 53) 3 93 := ⟨by decide +kernel, rfl⟩
theorem eX5_takeSort_93 : zD cX5_takeSort 93 (.aload_n 0) 1 94 := ⟨by decide +kernel, rfl⟩
theorem eX5_takeSort_94 : zD cX5_takeSort 94 (.iconst 0) 1 95 := ⟨by decide +kernel, rfl⟩
theorem eX5_takeSort_95 : zD cX5_takeSort 95 (.putfield 56) 3 98 := ⟨by decide +kernel, rfl⟩
theorem eX5_takeSort_98 : zD cX5_takeSort 98 (.aload_n 0) 1 99 := ⟨by decide +kernel, rfl⟩
theorem eX5_takeSort_99 : zD cX5_takeSort 99 (.iconst 0) 1 100 := ⟨by decide +kernel, rfl⟩
theorem eX5_takeSort_100 : zD cX5_takeSort 100 (.putfield 59) 3 103 := ⟨by decide +kernel, rfl⟩
theorem eX5_takeSort_103 : zD cX5_takeSort 103 (.aload_n 1) 1 104 := ⟨by decide +kernel, rfl⟩
theorem eX5_takeSort_104 : zD cX5_takeSort 104 (.aload_n 0) 1 105 := ⟨by decide +kernel, rfl⟩
theorem eX5_takeSort_105 : zD cX5_takeSort 105 (.getfield 43) 3 108 := ⟨by decide +kernel, rfl⟩
theorem eX5_takeSort_108 : zD cX5_takeSort 108 (.invokevirtual 90) 3 111 := ⟨by decide +kernel, rfl⟩
theorem eX5_takeSort_111 : zD cX5_takeSort 111 (.aload_n 0) 1 112 := ⟨by decide +kernel, rfl⟩
theorem eX5_takeSort_112 : zD cX5_takeSort 112 (.aload_n 0) 1 113 := ⟨by decide +kernel, rfl⟩
theorem eX5_takeSort_113 : zD cX5_takeSort 113 (.getfield 46) 3 116 := ⟨by decide +kernel, rfl⟩
theorem eX5_takeSort_116 : zDj cX5_takeSort 116 (.ifCond .eq 7) 7 123 119 := ⟨by decide +kernel, rfl, by decide⟩
theorem eX5_takeSort_119 : zD cX5_takeSort 119 (.iconst 2) 1 120 := ⟨by decide +kernel, rfl⟩
theorem eX5_takeSort_120 : zDj cX5_takeSort 120 (.goto 4) 4 124 123 := ⟨by decide +kernel, rfl, by decide⟩
theorem eX5_takeSort_123 : zD cX5_takeSort 123 (.iconst 1) 1 124 := ⟨by decide +kernel, rfl⟩
theorem eX5_takeSort_124 : zD cX5_takeSort 124 (.putfield 40) 3 127 := ⟨by decide +kernel, rfl⟩
theorem eX5_takeSort_127 : zD cX5_takeSort 127 .return_ 1 128 := ⟨by decide +kernel, rfl⟩
theorem eX5_takeOperand_0 : zD cX5_takeOperand 0 (.aload_n 1) 1 1 := ⟨by decide +kernel, rfl⟩
theorem eX5_takeOperand_1 : zD cX5_takeOperand 1 (.iload_n 2) 1 2 := ⟨by decide +kernel, rfl⟩
theorem eX5_takeOperand_2 : zD cX5_takeOperand 2 (.invokevirtual 109) 3 5 := ⟨by decide +kernel, rfl⟩
theorem eX5_takeOperand_5 : zD cX5_takeOperand 5 (.aload_n 0) 1 6 := ⟨by decide +kernel, rfl⟩
theorem eX5_takeOperand_6 : zD cX5_takeOperand 6 (.iconst 3) 1 7 := ⟨by decide +kernel, rfl⟩
theorem eX5_takeOperand_7 : zD cX5_takeOperand 7 (.putfield 40) 3 10 := ⟨by decide +kernel, rfl⟩
theorem eX5_takeOperand_10 : zD cX5_takeOperand 10 .return_ 1 11 := ⟨by decide +kernel, rfl⟩
theorem eX5_isNameOfSort_0 : zD cX5_isNameOfSort 0 (.aload_n 0) 1 1 := ⟨by decide +kernel, rfl⟩
theorem eX5_isNameOfSort_1 : zD cX5_isNameOfSort 1 (.getfield 43) 3 4 := ⟨by decide +kernel, rfl⟩
theorem eX5_isNameOfSort_4 : decode cX5_isNameOfSort 4 = .ok (.lookupswitch 51 #[(0, 28), (1, 39)], 28) := by decide +kernel
theorem eX5_isNameOfSort_32 : zD cX5_isNameOfSort 32 (.aload_n 0) 1 33 := ⟨by decide +kernel, rfl⟩
theorem eX5_isNameOfSort_33 : zD cX5_isNameOfSort 33 (.getfield 37) 3 36 := ⟨by decide +kernel, rfl⟩
theorem eX5_isNameOfSort_36 : zD cX5_isNameOfSort 36 (.iconst 0) 1 37 := ⟨by decide +kernel, rfl⟩
theorem eX5_isNameOfSort_37 : zD cX5_isNameOfSort 37 (.bipush 8) 2 39 := ⟨by decide +kernel, rfl⟩
theorem eX5_isNameOfSort_39 : zD cX5_isNameOfSort 39 (.invokestatic 105) 3 42 := ⟨by decide +kernel, rfl⟩
theorem eX5_isNameOfSort_42 : zD cX5_isNameOfSort 42 .ireturn 1 43 := ⟨by decide +kernel, rfl⟩
theorem eX5_isNameOfSort_43 : zD cX5_isNameOfSort 43 (.aload_n 0) 1 44 := ⟨by decide +kernel, rfl⟩
theorem eX5_isNameOfSort_44 : zD cX5_isNameOfSort 44 (.getfield 37) 3 47 := ⟨by decide +kernel, rfl⟩
theorem eX5_isNameOfSort_47 : zD cX5_isNameOfSort 47 (.bipush 8) 2 49 := ⟨by decide +kernel, rfl⟩
theorem eX5_isNameOfSort_49 : zD cX5_isNameOfSort 49 (.bipush 12) 2 51 := ⟨by decide +kernel, rfl⟩
theorem eX5_isNameOfSort_51 : zD cX5_isNameOfSort 51 (.invokestatic 105) 3 54 := ⟨by decide +kernel, rfl⟩
theorem eX5_isNameOfSort_54 : zD cX5_isNameOfSort 54 .ireturn 1 55 := ⟨by decide +kernel, rfl⟩
theorem eX5_isNameOfSort_55 : zD cX5_isNameOfSort 55 (.aload_n 0) 1 56 := ⟨by decide +kernel, rfl⟩
theorem eX5_isNameOfSort_56 : zD cX5_isNameOfSort 56 (.getfield 37) 3 59 := ⟨by decide +kernel, rfl⟩
theorem eX5_isNameOfSort_59 : zD cX5_isNameOfSort 59 (.bipush 13) 2 61 := ⟨by decide +kernel, rfl⟩
theorem eX5_isNameOfSort_61 : zD cX5_isNameOfSort 61 (.bipush 20) 2 63 := ⟨by decide +kernel, rfl⟩
theorem eX5_isNameOfSort_63 : zD cX5_isNameOfSort 63 (.invokestatic 105) 3 66 := ⟨by decide +kernel, rfl⟩
theorem eX5_isNameOfSort_66 : zD cX5_isNameOfSort 66 .ireturn 1 67 := ⟨by decide +kernel, rfl⟩
theorem eX5_hold_0 : zD cX5_hold 0 (.aload_n 0) 1 1 := ⟨by decide +kernel, rfl⟩
theorem eX5_hold_1 : zD cX5_hold 1 (.getfield 53) 3 4 := ⟨by decide +kernel, rfl⟩
theorem eX5_hold_4 : zD cX5_hold 4 (.aload_n 0) 1 5 := ⟨by decide +kernel, rfl⟩
theorem eX5_hold_5 : zD cX5_hold 5 (.getfield 15) 3 8 := ⟨by decide +kernel, rfl⟩
theorem eX5_hold_8 : zD cX5_hold 8 .arraylength 1 9 := ⟨by decide +kernel, rfl⟩
theorem eX5_hold_9 : zDj cX5_hold 9 (.if_icmp .ge 23) 23 32 12 := ⟨by decide +kernel, rfl, by decide⟩
theorem eX5_hold_12 : zD cX5_hold 12 (.aload_n 0) 1 13 := ⟨by decide +kernel, rfl⟩
theorem eX5_hold_13 : zD cX5_hold 13 (.getfield 15) 3 16 := ⟨by decide +kernel, rfl⟩
theorem eX5_hold_16 : zD cX5_hold 16 (.aload_n 0) 1 17 := ⟨by decide +kernel, rfl⟩
theorem eX5_hold_17 : zD cX5_hold 17 (.getfield 53) 3 20 := ⟨by decide +kernel, rfl⟩
theorem eX5_hold_20 : zD cX5_hold 20 (.iload_n 1) 1 21 := ⟨by decide +kernel, rfl⟩
theorem eX5_hold_21 : zD cX5_hold 21 .iastore 1 22 := ⟨by decide +kernel, rfl⟩
theorem eX5_hold_22 : zD cX5_hold 22 (.aload_n 0) 1 23 := ⟨by decide +kernel, rfl⟩
theorem eX5_hold_23 : zD cX5_hold 23 .dup 1 24 := ⟨by decide +kernel, rfl⟩
theorem eX5_hold_24 : zD cX5_hold 24 (.getfield 53) 3 27 := ⟨by decide +kernel, rfl⟩
theorem eX5_hold_27 : zD cX5_hold 27 (.iconst 1) 1 28 := ⟨by decide +kernel, rfl⟩
theorem eX5_hold_28 : zD cX5_hold 28 .iadd 1 29 := ⟨by decide +kernel, rfl⟩
theorem eX5_hold_29 : zD cX5_hold 29 (.putfield 53) 3 32 := ⟨by decide +kernel, rfl⟩
theorem eX5_hold_32 : zD cX5_hold 32 .return_ 1 33 := ⟨by decide +kernel, rfl⟩
theorem eX5_nest_0 : zD cX5_nest 0 (.aload_n 0) 1 1 := ⟨by decide +kernel, rfl⟩
theorem eX5_nest_1 : zD cX5_nest 1 (.getfield 59) 3 4 := ⟨by decide +kernel, rfl⟩
theorem eX5_nest_4 : zD cX5_nest 4 (.bipush 8) 2 6 := ⟨by decide +kernel, rfl⟩
theorem eX5_nest_6 : zDj cX5_nest 6 (.if_icmp .lt 9) 9 15 9 := ⟨by decide +kernel, rfl, by decide⟩
theorem eX5_nest_9 : zD cX5_nest 9 (.aload_n 0) 1 10 := ⟨by decide +kernel, rfl⟩
theorem eX5_nest_10 : zD cX5_nest 10 (.iconst 3) 1 11 := ⟨by decide +kernel, rfl⟩
theorem eX5_nest_11 : zD cX5_nest 11 (.invokevirtual 86) 3 14 := ⟨by decide +kernel, rfl⟩
theorem eX5_nest_14 : zD cX5_nest 14 .return_ 1 15 := ⟨by decide +kernel, rfl⟩
theorem eX5_nest_15 : zD cX5_nest 15 (.aload_n 0) 1 16 := ⟨by decide +kernel, rfl⟩
theorem eX5_nest_16 : zD cX5_nest 16 .dup 1 17 := ⟨by decide +kernel, rfl⟩
theorem eX5_nest_17 : zD cX5_nest 17 (.getfield 59) 3 20 := ⟨by decide +kernel, rfl⟩
theorem eX5_nest_20 : zD cX5_nest 20 (.iconst 1) 1 21 := ⟨by decide +kernel, rfl⟩
theorem eX5_nest_21 : zD cX5_nest 21 .iadd 1 22 := ⟨by decide +kernel, rfl⟩
theorem eX5_nest_22 : zD cX5_nest 22 (.putfield 59) 3 25 := ⟨by decide +kernel, rfl⟩
theorem eX5_nest_25 : zD cX5_nest 25 (.iload_n 1) 1 26 := ⟨by decide +kernel, rfl⟩
theorem eX5_nest_26 : zDj cX5_nest 26 (.ifCond .ne 13) 13 39 29 := ⟨by decide +kernel, rfl, by decide⟩
theorem eX5_nest_29 : zD cX5_nest 29 (.aload_n 0) 1 30 := ⟨by decide +kernel, rfl⟩
theorem eX5_nest_30 : zD cX5_nest 30 .dup 1 31 := ⟨by decide +kernel, rfl⟩
theorem eX5_nest_31 : zD cX5_nest 31 (.getfield 56) 3 34 := ⟨by decide +kernel, rfl⟩
theorem eX5_nest_34 : zD cX5_nest 34 (.iconst 1) 1 35 := ⟨by decide +kernel, rfl⟩
theorem eX5_nest_35 : zD cX5_nest 35 .iadd 1 36 := ⟨by decide +kernel, rfl⟩
theorem eX5_nest_36 : zD cX5_nest 36 (.putfield 56) 3 39 := ⟨by decide +kernel, rfl⟩
theorem eX5_nest_39 : zD cX5_nest 39 (.aload_n 0) 1 40 := ⟨by decide +kernel, rfl⟩
theorem eX5_nest_40 : zD cX5_nest 40 (.iload_n 1) 1 41 := ⟨by decide +kernel, rfl⟩
theorem eX5_nest_41 : zD cX5_nest 41 (.invokevirtual 112) 3 44 := ⟨by decide +kernel, rfl⟩
theorem eX5_nest_44 : zD cX5_nest 44 (.aload_n 0) 1 45 := ⟨by decide +kernel, rfl⟩
theorem eX5_nest_45 : zD cX5_nest 45 (.iload_n 2) 1 46 := ⟨by decide +kernel, rfl⟩
theorem eX5_nest_46 : zD cX5_nest 46 (.putfield 40) 3 49 := ⟨by decide +kernel, rfl⟩
theorem eX5_nest_49 : zD cX5_nest 49 .return_ 1 50 := ⟨by decide +kernel, rfl⟩
theorem eX5_takeOne_0 : zD cX5_takeOne 0 (.aload_n 0) 1 1 := ⟨by decide +kernel, rfl⟩
theorem eX5_takeOne_1 : zD cX5_takeOne 1 (.getfield 34) 3 4 := ⟨by decide +kernel, rfl⟩
theorem eX5_takeOne_4 : decode cX5_takeOne 4 = .ok (.lookupswitch 161 #[(0, 113), (3, 136), (11, 113), (19, 82), (20, 52)], 52) := by decide +kernel
theorem eX5_takeOne_56 : zD cX5_takeOne 56 (.aload_n 0) 1 57 := ⟨by decide +kernel, rfl⟩
theorem eX5_takeOne_57 : zD cX5_takeOne 57 (.getfield 37) 3 60 := ⟨by decide +kernel, rfl⟩
theorem eX5_takeOne_60 : zD cX5_takeOne 60 (.sipush 999) 3 63 := ⟨by decide +kernel, rfl⟩
theorem eX5_takeOne_63 : zDj cX5_takeOne 63 (.if_icmp .le 11) 11 74 66 := ⟨by decide +kernel, rfl, by decide⟩
theorem eX5_takeOne_66 : zD cX5_takeOne 66 (.aload_n 0) 1 67 := ⟨by decide +kernel, rfl⟩
theorem eX5_takeOne_67 : zD cX5_takeOne 67 (.iconst 2) 1 68 := ⟨by decide +kernel, rfl⟩
theorem eX5_takeOne_68 : zD cX5_takeOne 68 (.invokevirtual 86) 3 71 := ⟨by decide +kernel, rfl⟩
theorem eX5_takeOne_71 : zDj cX5_takeOne 71 (.goto 99) 99 170 74 := ⟨by decide +kernel, rfl, by decide⟩
theorem eX5_takeOne_74 : zD cX5_takeOne 74 (.aload_n 0) 1 75 := ⟨by decide +kernel, rfl⟩
theorem eX5_takeOne_75 : zD cX5_takeOne 75 (.aload_n 1) 1 76 := ⟨by decide +kernel, rfl⟩
theorem eX5_takeOne_76 : zD cX5_takeOne 76 (.aload_n 0) 1 77 := ⟨by decide +kernel, rfl⟩
theorem eX5_takeOne_77 : zD cX5_takeOne 77 (.getfield 37) 3 80 := ⟨by decide +kernel, rfl⟩
theorem eX5_takeOne_80 : zD cX5_takeOne 80 (.invokevirtual 93) 3 83 := ⟨by decide +kernel, rfl⟩
theorem eX5_takeOne_83 : zDj cX5_takeOne 83 (.goto 87) 87 170 86 := ⟨by decide +kernel, rfl, by decide⟩
theorem eX5_takeOne_86 : zD cX5_takeOne 86 (.aload_n 0) 1 87 := ⟨by decide +kernel, rfl⟩
theorem eX5_takeOne_87 : zD cX5_takeOne 87 (.invokevirtual 97) 3 90 := ⟨by decide +kernel, rfl⟩
theorem eX5_takeOne_90 : zDj cX5_takeOne 90 (.ifCond .ne 11) 11 101 93 := ⟨by decide +kernel, rfl, by decide⟩
theorem eX5_takeOne_93 : zD cX5_takeOne 93 (.aload_n 0) 1 94 := ⟨by decide +kernel, rfl⟩
theorem eX5_takeOne_94 : zD cX5_takeOne 94 (.iconst 4) 1 95 := ⟨by decide +kernel, rfl⟩
theorem eX5_takeOne_95 : zD cX5_takeOne 95 (.invokevirtual 86) 3 98 := ⟨by decide +kernel, rfl⟩
theorem eX5_takeOne_98 : zDj cX5_takeOne 98 (.goto 72) 72 170 101 := ⟨by decide +kernel, rfl, by decide⟩
theorem eX5_takeOne_101 : zD cX5_takeOne 101 (.aload_n 0) 1 102 := ⟨by decide +kernel, rfl⟩
theorem eX5_takeOne_102 : zD cX5_takeOne 102 (.aload_n 1) 1 103 := ⟨by decide +kernel, rfl⟩
theorem eX5_takeOne_103 : zD cX5_takeOne 103 (.sipush 1000) 3 106 := ⟨by decide +kernel, rfl⟩
theorem eX5_takeOne_106 : zD cX5_takeOne 106 (.aload_n 0) 1 107 := ⟨by decide +kernel, rfl⟩
theorem eX5_takeOne_107 : zD cX5_takeOne 107 (.getfield 37) 3 110 := ⟨by decide +kernel, rfl⟩
theorem eX5_takeOne_110 : zD cX5_takeOne 110 .iadd 1 111 := ⟨by decide +kernel, rfl⟩
theorem eX5_takeOne_111 : zD cX5_takeOne 111 (.invokevirtual 93) 3 114 := ⟨by decide +kernel, rfl⟩
theorem eX5_takeOne_114 : zDj cX5_takeOne 114 (.goto 56) 56 170 117 := ⟨by decide +kernel, rfl, by decide⟩
theorem eX5_takeOne_117 : zD cX5_takeOne 117 (.aload_n 0) 1 118 := ⟨by decide +kernel, rfl⟩
theorem eX5_takeOne_118 : zD cX5_takeOne 118 (.aload_n 0) 1 119 := ⟨by decide +kernel, rfl⟩
theorem eX5_takeOne_119 : zD cX5_takeOne 119 (.getfield 34) 3 122 := ⟨by decide +kernel, rfl⟩
theorem eX5_takeOne_122 : zD cX5_takeOne 122 (.bipush 11) 2 124 := ⟨by decide +kernel, rfl⟩
theorem eX5_takeOne_124 : zDj cX5_takeOne 124 (.if_icmp .ne 8) 8 132 127 := ⟨by decide +kernel, rfl, by decide⟩
theorem eX5_takeOne_127 : zD cX5_takeOne 127 (.bipush 14) 2 129 := ⟨by decide +kernel, rfl⟩
theorem eX5_takeOne_129 : zDj cX5_takeOne 129 (.goto 4) 4 133 132 := ⟨by decide +kernel, rfl, by decide⟩
theorem eX5_takeOne_132 : zD cX5_takeOne 132 (.iconst 0) 1 133 := ⟨by decide +kernel, rfl⟩
theorem eX5_takeOne_133 : zD cX5_takeOne 133 (.iconst 2) 1 134 := ⟨by decide +kernel, rfl⟩
theorem eX5_takeOne_134 : zD cX5_takeOne 134 (.invokevirtual 101) 3 137 := ⟨by decide +kernel, rfl⟩
theorem eX5_takeOne_137 : zDj cX5_takeOne 137 (.goto 33) 33 170 140 := ⟨by decide +kernel, rfl, by decide⟩
theorem eX5_takeOne_140 : zD cX5_takeOne 140 (.aload_n 0) 1 141 := ⟨by decide +kernel, rfl⟩
theorem eX5_takeOne_141 : zD cX5_takeOne 141 (.getfield 40) 3 144 := ⟨by decide +kernel, rfl⟩
theorem eX5_takeOne_144 : zD cX5_takeOne 144 (.iconst 1) 1 145 := ⟨by decide +kernel, rfl⟩
theorem eX5_takeOne_145 : zDj cX5_takeOne 145 (.if_icmp .eq 11) 11 156 148 := ⟨by decide +kernel, rfl, by decide⟩
theorem eX5_takeOne_148 : zD cX5_takeOne 148 (.aload_n 0) 1 149 := ⟨by decide +kernel, rfl⟩
theorem eX5_takeOne_149 : zD cX5_takeOne 149 (.iconst 1) 1 150 := ⟨by decide +kernel, rfl⟩
theorem eX5_takeOne_150 : zD cX5_takeOne 150 (.invokevirtual 86) 3 153 := ⟨by decide +kernel, rfl⟩
theorem eX5_takeOne_153 : zDj cX5_takeOne 153 (.goto 17) 17 170 156 := ⟨by decide +kernel, rfl, by decide⟩
theorem eX5_takeOne_156 : zD cX5_takeOne 156 (.aload_n 0) 1 157 := ⟨by decide +kernel, rfl⟩
theorem eX5_takeOne_157 : zD cX5_takeOne 157 (.iconst 3) 1 158 := ⟨by decide +kernel, rfl⟩
theorem eX5_takeOne_158 : zD cX5_takeOne 158 (.iconst 1) 1 159 := ⟨by decide +kernel, rfl⟩
theorem eX5_takeOne_159 : zD cX5_takeOne 159 (.invokevirtual 101) 3 162 := ⟨by decide +kernel, rfl⟩
theorem eX5_takeOne_162 : zDj cX5_takeOne 162 (.goto 8) 8 170 165 := ⟨by decide +kernel, rfl, by decide⟩
theorem eX5_takeOne_165 : zD cX5_takeOne 165 (.aload_n 0) 1 166 := ⟨by decide +kernel, rfl⟩
theorem eX5_takeOne_166 : zD cX5_takeOne 166 (.iconst 1) 1 167 := ⟨by decide +kernel, rfl⟩
theorem eX5_takeOne_167 : zD cX5_takeOne 167 (.invokevirtual 86) 3 170 := ⟨by decide +kernel, rfl⟩
theorem eX5_takeOne_170 : zD cX5_takeOne 170 .return_ 1 171 := ⟨by decide +kernel, rfl⟩
theorem eX5_release_0 : zD cX5_release 0 (.aload_n 0) 1 1 := ⟨by decide +kernel, rfl⟩
theorem eX5_release_1 : zD cX5_release 1 (.getfield 53) 3 4 := ⟨by decide +kernel, rfl⟩
theorem eX5_release_4 : zD cX5_release 4 (.iconst 1) 1 5 := ⟨by decide +kernel, rfl⟩
theorem eX5_release_5 : zD cX5_release 5 .isub 1 6 := ⟨by decide +kernel, rfl⟩
theorem eX5_release_6 : zD cX5_release 6 (.istore_n 3) 1 7 := ⟨by decide +kernel, rfl⟩
theorem eX5_release_7 : zD cX5_release 7 (.iload_n 3) 1 8 := ⟨by decide +kernel, rfl⟩
theorem eX5_release_8 : zDj cX5_release 8 (.ifCond .lt 66) 66 74 11 := ⟨by decide +kernel, rfl, by decide⟩
theorem eX5_release_11 : zD cX5_release 11 (.aload_n 0) 1 12 := ⟨by decide +kernel, rfl⟩
theorem eX5_release_12 : zD cX5_release 12 (.getfield 15) 3 15 := ⟨by decide +kernel, rfl⟩
theorem eX5_release_15 : zD cX5_release 15 (.iload_n 3) 1 16 := ⟨by decide +kernel, rfl⟩
theorem eX5_release_16 : zD cX5_release 16 .iaload 1 17 := ⟨by decide +kernel, rfl⟩
theorem eX5_release_17 : zD cX5_release 17 (.istore 4) 2 19 := ⟨by decide +kernel, rfl⟩
theorem eX5_release_19 : zD cX5_release 19 (.getstatic 115) 3 22 := ⟨by decide +kernel, rfl⟩
theorem eX5_release_22 : zD cX5_release 22 (.iload 4) 2 24 := ⟨by decide +kernel, rfl⟩
theorem eX5_release_24 : zD cX5_release 24 .iaload 1 25 := ⟨by decide +kernel, rfl⟩
theorem eX5_release_25 : zD cX5_release 25 (.iload_n 2) 1 26 := ⟨by decide +kernel, rfl⟩
theorem eX5_release_26 : zDj cX5_release 26 (.if_icmp .ge 4) 4 30 29 := ⟨by decide +kernel, rfl, by decide⟩
theorem eX5_release_29 : zD cX5_release 29 .return_ 1 30 := ⟨by decide +kernel, rfl⟩
theorem eX5_release_30 : zD cX5_release 30 (.iload 4) 2 32 := ⟨by decide +kernel, rfl⟩
theorem eX5_release_32 : zD cX5_release 32 (.iconst 3) 1 33 := ⟨by decide +kernel, rfl⟩
theorem eX5_release_33 : zDj cX5_release 33 (.if_icmp .eq 10) 10 43 36 := ⟨by decide +kernel, rfl, by decide⟩
theorem eX5_release_36 : zD cX5_release 36 (.iload 4) 2 38 := ⟨by decide +kernel, rfl⟩
theorem eX5_release_38 : zD cX5_release 38 (.bipush 14) 2 40 := ⟨by decide +kernel, rfl⟩
theorem eX5_release_40 : zDj cX5_release 40 (.if_icmp .ne 13) 13 53 43 := ⟨by decide +kernel, rfl, by decide⟩
theorem eX5_release_43 : zD cX5_release 43 (.aload_n 0) 1 44 := ⟨by decide +kernel, rfl⟩
theorem eX5_release_44 : zD cX5_release 44 .dup 1 45 := ⟨by decide +kernel, rfl⟩
theorem eX5_release_45 : zD cX5_release 45 (.getfield 59) 3 48 := ⟨by decide +kernel, rfl⟩
theorem eX5_release_48 : zD cX5_release 48 (.iconst 1) 1 49 := ⟨by decide +kernel, rfl⟩
theorem eX5_release_49 : zD cX5_release 49 .isub 1 50 := ⟨by decide +kernel, rfl⟩
theorem eX5_release_50 : zD cX5_release 50 (.putfield 59) 3 53 := ⟨by decide +kernel, rfl⟩
theorem eX5_release_53 : zD cX5_release 53 (.aload_n 1) 1 54 := ⟨by decide +kernel, rfl⟩
theorem eX5_release_54 : zD cX5_release 54 (.sipush 2000) 3 57 := ⟨by decide +kernel, rfl⟩
theorem eX5_release_57 : zD cX5_release 57 (.iload 4) 2 59 := ⟨by decide +kernel, rfl⟩
theorem eX5_release_59 : zD cX5_release 59 .iadd 1 60 := ⟨by decide +kernel, rfl⟩
theorem eX5_release_60 : zD cX5_release 60 (.invokevirtual 109) 3 63 := ⟨by decide +kernel, rfl⟩
theorem eX5_release_63 : zD cX5_release 63 (.aload_n 0) 1 64 := ⟨by decide +kernel, rfl⟩
theorem eX5_release_64 : zD cX5_release 64 (.iload_n 3) 1 65 := ⟨by decide +kernel, rfl⟩
theorem eX5_release_65 : zD cX5_release 65 (.putfield 53) 3 68 := ⟨by decide +kernel, rfl⟩
theorem eX5_release_68 : zD cX5_release 68 (.iinc 3 (-1)) 3 71 := ⟨by decide +kernel, rfl⟩
theorem eX5_release_71 : zDj cX5_release 71 (.goto (-64)) (-64) 7 74 := ⟨by decide +kernel, rfl, by decide⟩
theorem eX5_release_74 : zD cX5_release 74 .return_ 1 75 := ⟨by decide +kernel, rfl⟩
theorem eX5_shutParenthesis_0 : zD cX5_shutParenthesis 0 (.aload_n 0) 1 1 := ⟨by decide +kernel, rfl⟩
theorem eX5_shutParenthesis_1 : zD cX5_shutParenthesis 1 (.aload_n 1) 1 2 := ⟨by decide +kernel, rfl⟩
theorem eX5_shutParenthesis_2 : zD cX5_shutParenthesis 2 (.iconst 1) 1 3 := ⟨by decide +kernel, rfl⟩
theorem eX5_shutParenthesis_3 : zD cX5_shutParenthesis 3 (.invokevirtual 118) 3 6 := ⟨by decide +kernel, rfl⟩
theorem eX5_shutParenthesis_6 : zD cX5_shutParenthesis 6 (.aload_n 0) 1 7 := ⟨by decide +kernel, rfl⟩
theorem eX5_shutParenthesis_7 : zD cX5_shutParenthesis 7 (.iconst 0) 1 8 := ⟨by decide +kernel, rfl⟩
theorem eX5_shutParenthesis_8 : zD cX5_shutParenthesis 8 (.aload_n 0) 1 9 := ⟨by decide +kernel, rfl⟩
theorem eX5_shutParenthesis_9 : zD cX5_shutParenthesis 9 (.getfield 53) 3 12 := ⟨by decide +kernel, rfl⟩
theorem eX5_shutParenthesis_12 : zD cX5_shutParenthesis 12 (.iconst 1) 1 13 := ⟨by decide +kernel, rfl⟩
theorem eX5_shutParenthesis_13 : zD cX5_shutParenthesis 13 .isub 1 14 := ⟨by decide +kernel, rfl⟩
theorem eX5_shutParenthesis_14 : zD cX5_shutParenthesis 14 (.invokestatic 130) 3 17 := ⟨by decide +kernel, rfl⟩
theorem eX5_shutParenthesis_17 : zD cX5_shutParenthesis 17 (.putfield 53) 3 20 := ⟨by decide +kernel, rfl⟩
theorem eX5_shutParenthesis_20 : zD cX5_shutParenthesis 20 (.aload_n 0) 1 21 := ⟨by decide +kernel, rfl⟩
theorem eX5_shutParenthesis_21 : zD cX5_shutParenthesis 21 .dup 1 22 := ⟨by decide +kernel, rfl⟩
theorem eX5_shutParenthesis_22 : zD cX5_shutParenthesis 22 (.getfield 56) 3 25 := ⟨by decide +kernel, rfl⟩
theorem eX5_shutParenthesis_25 : zD cX5_shutParenthesis 25 (.iconst 1) 1 26 := ⟨by decide +kernel, rfl⟩
theorem eX5_shutParenthesis_26 : zD cX5_shutParenthesis 26 .isub 1 27 := ⟨by decide +kernel, rfl⟩
theorem eX5_shutParenthesis_27 : zD cX5_shutParenthesis 27 (.putfield 56) 3 30 := ⟨by decide +kernel, rfl⟩
theorem eX5_shutParenthesis_30 : zD cX5_shutParenthesis 30 (.aload_n 0) 1 31 := ⟨by decide +kernel, rfl⟩
theorem eX5_shutParenthesis_31 : zD cX5_shutParenthesis 31 .dup 1 32 := ⟨by decide +kernel, rfl⟩
theorem eX5_shutParenthesis_32 : zD cX5_shutParenthesis 32 (.getfield 59) 3 35 := ⟨by decide +kernel, rfl⟩
theorem eX5_shutParenthesis_35 : zD cX5_shutParenthesis 35 (.iconst 1) 1 36 := ⟨by decide +kernel, rfl⟩
theorem eX5_shutParenthesis_36 : zD cX5_shutParenthesis 36 .isub 1 37 := ⟨by decide +kernel, rfl⟩
theorem eX5_shutParenthesis_37 : zD cX5_shutParenthesis 37 (.putfield 59) 3 40 := ⟨by decide +kernel, rfl⟩
theorem eX5_shutParenthesis_40 : zD cX5_shutParenthesis 40 .return_ 1 41 := ⟨by decide +kernel, rfl⟩
theorem eX5_takeBehind_0 : zD cX5_takeBehind 0 (.aload_n 0) 1 1 := ⟨by decide +kernel, rfl⟩
theorem eX5_takeBehind_1 : zD cX5_takeBehind 1 (.getfield 56) 3 4 := ⟨by decide +kernel, rfl⟩
theorem eX5_takeBehind_4 : zDj cX5_takeBehind 4 (.ifCond .ne 7) 7 11 7 := ⟨by decide +kernel, rfl, by decide⟩
theorem eX5_takeBehind_7 : zD cX5_takeBehind 7 (.iconst 1) 1 8 := ⟨by decide +kernel, rfl⟩
theorem eX5_takeBehind_8 : zDj cX5_takeBehind 8 (.goto 4) 4 12 11 := ⟨by decide +kernel, rfl, by decide⟩
theorem eX5_takeBehind_11 : zD cX5_takeBehind 11 (.iconst 0) 1 12 := ⟨by decide +kernel, rfl⟩
theorem eX5_takeBehind_12 : zD cX5_takeBehind 12 (.istore_n 2) 1 13 := ⟨by decide +kernel, rfl⟩
theorem eX5_takeBehind_13 : zD cX5_takeBehind 13 (.iload_n 2) 1 14 := ⟨by decide +kernel, rfl⟩
theorem eX5_takeBehind_14 : zDj cX5_takeBehind 14 (.ifCond .eq 21) 21 35 17 := ⟨by decide +kernel, rfl, by decide⟩
theorem eX5_takeBehind_17 : zD cX5_takeBehind 17 (.aload_n 0) 1 18 := ⟨by decide +kernel, rfl⟩
theorem eX5_takeBehind_18 : zD cX5_takeBehind 18 (.getfield 46) 3 21 := ⟨by decide +kernel, rfl⟩
theorem eX5_takeBehind_21 : zDj cX5_takeBehind 21 (.ifCond .ne 14) 14 35 24 := ⟨by decide +kernel, rfl, by decide⟩
theorem eX5_takeBehind_24 : zD cX5_takeBehind 24 (.aload_n 0) 1 25 := ⟨by decide +kernel, rfl⟩
theorem eX5_takeBehind_25 : zD cX5_takeBehind 25 (.getfield 50) 3 28 := ⟨by decide +kernel, rfl⟩
theorem eX5_takeBehind_28 : zDj cX5_takeBehind 28 (.ifCond .eq 7) 7 35 31 := ⟨by decide +kernel, rfl, by decide⟩
theorem eX5_takeBehind_31 : zD cX5_takeBehind 31 (.iconst 1) 1 32 := ⟨by decide +kernel, rfl⟩
theorem eX5_takeBehind_32 : zDj cX5_takeBehind 32 (.goto 4) 4 36 35 := ⟨by decide +kernel, rfl, by decide⟩
theorem eX5_takeBehind_35 : zD cX5_takeBehind 35 (.iconst 0) 1 36 := ⟨by decide +kernel, rfl⟩
theorem eX5_takeBehind_36 : zD cX5_takeBehind 36 (.istore_n 3) 1 37 := ⟨by decide +kernel, rfl⟩
theorem eX5_takeBehind_37 : zD cX5_takeBehind 37 (.aload_n 0) 1 38 := ⟨by decide +kernel, rfl⟩
theorem eX5_takeBehind_38 : zD cX5_takeBehind 38 (.getfield 34) 3 41 := ⟨by decide +kernel, rfl⟩
theorem eX5_takeBehind_41 : zD cX5_takeBehind 41 (.bipush 10) 2 43 := ⟨by decide +kernel, rfl⟩
theorem eX5_takeBehind_43 : zD cX5_takeBehind 43 (.bipush 13) 2 45 := ⟨by decide +kernel, rfl⟩
theorem eX5_takeBehind_45 : zD cX5_takeBehind 45 (.invokestatic 105) 3 48 := ⟨by decide +kernel, rfl⟩
theorem eX5_takeBehind_48 : zDj cX5_takeBehind 48 (.ifCond .eq 39) 39 87 51 := ⟨by decide +kernel, rfl, by decide⟩
theorem eX5_takeBehind_51 : zD cX5_takeBehind 51 (.aload_n 0) 1 52 := ⟨by decide +kernel, rfl⟩
theorem eX5_takeBehind_52 : zD cX5_takeBehind 52 (.aload_n 1) 1 53 := ⟨by decide +kernel, rfl⟩
theorem eX5_takeBehind_53 : zD cX5_takeBehind 53 (.aload_n 0) 1 54 := ⟨by decide +kernel, rfl⟩
theorem eX5_takeBehind_54 : zD cX5_takeBehind 54 (.getfield 34) 3 57 := ⟨by decide +kernel, rfl⟩
theorem eX5_takeBehind_57 : zD cX5_takeBehind 57 (.bipush 11) 2 59 := ⟨by decide +kernel, rfl⟩
theorem eX5_takeBehind_59 : zDj cX5_takeBehind 59 (.if_icmp .gt 7) 7 66 62 := ⟨by decide +kernel, rfl, by decide⟩
theorem eX5_takeBehind_62 : zD cX5_takeBehind 62 (.iconst 5) 1 63 := ⟨by decide +kernel, rfl⟩
theorem eX5_takeBehind_63 : zDj cX5_takeBehind 63 (.goto 5) 5 68 66 := ⟨by decide +kernel, rfl, by decide⟩
theorem eX5_takeBehind_66 : zD cX5_takeBehind 66 (.bipush 6) 2 68 := ⟨by decide +kernel, rfl⟩
theorem eX5_takeBehind_68 : zD cX5_takeBehind 68 (.invokevirtual 118) 3 71 := ⟨by decide +kernel, rfl⟩
theorem eX5_takeBehind_71 : zD cX5_takeBehind 71 (.aload_n 0) 1 72 := ⟨by decide +kernel, rfl⟩
theorem eX5_takeBehind_72 : zD cX5_takeBehind 72 (.aload_n 0) 1 73 := ⟨by decide +kernel, rfl⟩
theorem eX5_takeBehind_73 : zD cX5_takeBehind 73 (.getfield 34) 3 76 := ⟨by decide +kernel, rfl⟩
theorem eX5_takeBehind_76 : zD cX5_takeBehind 76 (.invokevirtual 112) 3 79 := ⟨by decide +kernel, rfl⟩
theorem eX5_takeBehind_79 : zD cX5_takeBehind 79 (.aload_n 0) 1 80 := ⟨by decide +kernel, rfl⟩
theorem eX5_takeBehind_80 : zD cX5_takeBehind 80 (.iconst 2) 1 81 := ⟨by decide +kernel, rfl⟩
theorem eX5_takeBehind_81 : zD cX5_takeBehind 81 (.putfield 40) 3 84 := ⟨by decide +kernel, rfl⟩
theorem eX5_takeBehind_84 : zDj cX5_takeBehind 84 (.goto 220) 220 304 87 := ⟨by decide +kernel, rfl, by decide⟩
theorem eX5_takeBehind_87 : zD cX5_takeBehind 87 (.aload_n 0) 1 88 := ⟨by decide +kernel, rfl⟩
theorem eX5_takeBehind_88 : zD cX5_takeBehind 88 (.getfield 34) 3 91 := ⟨by decide +kernel, rfl⟩
theorem eX5_takeBehind_91 : zD cX5_takeBehind 91 (.bipush 15) 2 93 := ⟨by decide +kernel, rfl⟩
theorem eX5_takeBehind_93 : zDj cX5_takeBehind 93 (.if_icmp .ne 15) 15 108 96 := ⟨by decide +kernel, rfl, by decide⟩
theorem eX5_takeBehind_96 : zD cX5_takeBehind 96 (.iload_n 2) 1 97 := ⟨by decide +kernel, rfl⟩
theorem eX5_takeBehind_97 : zDj cX5_takeBehind 97 (.ifCond .ne 11) 11 108 100 := ⟨by decide +kernel, rfl, by decide⟩
theorem eX5_takeBehind_100 : zD cX5_takeBehind 100 (.aload_n 0) 1 101 := ⟨by decide +kernel, rfl⟩
theorem eX5_takeBehind_101 : zD cX5_takeBehind 101 (.aload_n 1) 1 102 := ⟨by decide +kernel, rfl⟩
theorem eX5_takeBehind_102 : zD cX5_takeBehind 102 (.invokevirtual 121) 3 105 := ⟨by decide +kernel, rfl⟩
theorem eX5_takeBehind_105 : zDj cX5_takeBehind 105 (.goto 199) 199 304 108 := ⟨by decide +kernel, rfl, by decide⟩
theorem eX5_takeBehind_108 : zD cX5_takeBehind 108 (.aload_n 0) 1 109 := ⟨by decide +kernel, rfl⟩
theorem eX5_takeBehind_109 : zD cX5_takeBehind 109 (.getfield 34) 3 112 := ⟨by decide +kernel, rfl⟩
theorem eX5_takeBehind_112 : zD cX5_takeBehind 112 (.iconst 4) 1 113 := ⟨by decide +kernel, rfl⟩
theorem eX5_takeBehind_113 : zD cX5_takeBehind 113 (.bipush 9) 2 115 := ⟨by decide +kernel, rfl⟩
theorem eX5_takeBehind_115 : zD cX5_takeBehind 115 (.invokestatic 105) 3 118 := ⟨by decide +kernel, rfl⟩
theorem eX5_takeBehind_118 : zDj cX5_takeBehind 118 (.ifCond .eq 48) 48 166 121 := ⟨by decide +kernel, rfl, by decide⟩
theorem eX5_takeBehind_121 : zD cX5_takeBehind 121 (.iload_n 2) 1 122 := ⟨by decide +kernel, rfl⟩
theorem eX5_takeBehind_122 : zDj cX5_takeBehind 122 (.ifCond .eq 44) 44 166 125 := ⟨by decide +kernel, rfl, by decide⟩
theorem eX5_takeBehind_125 : zD cX5_takeBehind 125 (.aload_n 0) 1 126 := ⟨by decide +kernel, rfl⟩
theorem eX5_takeBehind_126 : zD cX5_takeBehind 126 (.getfield 46) 3 129 := ⟨by decide +kernel, rfl⟩
theorem eX5_takeBehind_129 : zDj cX5_takeBehind 129 (.ifCond .ne 37) 37 166 132 := ⟨by decide +kernel, rfl, by decide⟩
theorem eX5_takeBehind_132 : zD cX5_takeBehind 132 (.aload_n 0) 1 133 := ⟨by decide +kernel, rfl⟩
theorem eX5_takeBehind_133 : zD cX5_takeBehind 133 (.getfield 50) 3 136 := ⟨by decide +kernel, rfl⟩
theorem eX5_takeBehind_136 : zDj cX5_takeBehind 136 (.ifCond .ne 30) 30 166 139 := ⟨by decide +kernel, rfl, by decide⟩
theorem eX5_takeBehind_139 : zD cX5_takeBehind 139 (.aload_n 0) 1 140 := ⟨by decide +kernel, rfl⟩
theorem eX5_takeBehind_140 : zD cX5_takeBehind 140 (.aload_n 1) 1 141 := ⟨by decide +kernel, rfl⟩
theorem eX5_takeBehind_141 : zD cX5_takeBehind 141 (.iconst 5) 1 142 := ⟨by decide +kernel, rfl⟩
theorem eX5_takeBehind_142 : zD cX5_takeBehind 142 (.invokevirtual 118) 3 145 := ⟨by decide +kernel, rfl⟩
theorem eX5_takeBehind_145 : zD cX5_takeBehind 145 (.aload_n 0) 1 146 := ⟨by decide +kernel, rfl⟩
theorem eX5_takeBehind_146 : zD cX5_takeBehind 146 (.aload_n 0) 1 147 := ⟨by decide +kernel, rfl⟩
theorem eX5_takeBehind_147 : zD cX5_takeBehind 147 (.getfield 34) 3 150 := ⟨by decide +kernel, rfl⟩
theorem eX5_takeBehind_150 : zD cX5_takeBehind 150 (.invokevirtual 112) 3 153 := ⟨by decide +kernel, rfl⟩
theorem eX5_takeBehind_153 : zD cX5_takeBehind 153 (.aload_n 0) 1 154 := ⟨by decide +kernel, rfl⟩
theorem eX5_takeBehind_154 : zD cX5_takeBehind 154 (.iconst 1) 1 155 := ⟨by decide +kernel, rfl⟩
theorem eX5_takeBehind_155 : zD cX5_takeBehind 155 (.putfield 50) 3 158 := ⟨by decide +kernel, rfl⟩
theorem eX5_takeBehind_158 : zD cX5_takeBehind 158 (.aload_n 0) 1 159 := ⟨by decide +kernel, rfl⟩
theorem eX5_takeBehind_159 : zD cX5_takeBehind 159 (.iconst 2) 1 160 := ⟨by decide +kernel, rfl⟩
theorem eX5_takeBehind_160 : zD cX5_takeBehind 160 (.putfield 40) 3 163 := ⟨by decide +kernel, rfl⟩
theorem eX5_takeBehind_163 : zDj cX5_takeBehind 163 (.goto 141) 141 304 166 := ⟨by decide +kernel, rfl, by decide⟩
theorem eX5_takeBehind_166 : zD cX5_takeBehind 166 (.aload_n 0) 1 167 := ⟨by decide +kernel, rfl⟩
theorem eX5_takeBehind_167 : zD cX5_takeBehind 167 (.getfield 34) 3 170 := ⟨by decide +kernel, rfl⟩
theorem eX5_takeBehind_170 : zD cX5_takeBehind 170 (.iconst 1) 1 171 := ⟨by decide +kernel, rfl⟩
theorem eX5_takeBehind_171 : zDj cX5_takeBehind 171 (.if_icmp .eq 11) 11 182 174 := ⟨by decide +kernel, rfl, by decide⟩
theorem eX5_takeBehind_174 : zD cX5_takeBehind 174 (.aload_n 0) 1 175 := ⟨by decide +kernel, rfl⟩
theorem eX5_takeBehind_175 : zD cX5_takeBehind 175 (.getfield 34) 3 178 := ⟨by decide +kernel, rfl⟩
theorem eX5_takeBehind_178 : zD cX5_takeBehind 178 (.iconst 2) 1 179 := ⟨by decide +kernel, rfl⟩
theorem eX5_takeBehind_179 : zDj cX5_takeBehind 179 (.if_icmp .ne 46) 46 225 182 := ⟨by decide +kernel, rfl, by decide⟩
theorem eX5_takeBehind_182 : zD cX5_takeBehind 182 (.iload_n 3) 1 183 := ⟨by decide +kernel, rfl⟩
theorem eX5_takeBehind_183 : zDj cX5_takeBehind 183 (.ifCond .eq 42) 42 225 186 := ⟨by decide +kernel, rfl, by decide⟩
theorem eX5_takeBehind_186 : zD cX5_takeBehind 186 (.aload_n 0) 1 187 := ⟨by decide +kernel, rfl⟩
theorem eX5_takeBehind_187 : zD cX5_takeBehind 187 (.aload_n 1) 1 188 := ⟨by decide +kernel, rfl⟩
theorem eX5_takeBehind_188 : zD cX5_takeBehind 188 (.aload_n 0) 1 189 := ⟨by decide +kernel, rfl⟩
theorem eX5_takeBehind_189 : zD cX5_takeBehind 189 (.getfield 34) 3 192 := ⟨by decide +kernel, rfl⟩
theorem eX5_takeBehind_192 : zD cX5_takeBehind 192 (.iconst 1) 1 193 := ⟨by decide +kernel, rfl⟩
theorem eX5_takeBehind_193 : zDj cX5_takeBehind 193 (.if_icmp .ne 7) 7 200 196 := ⟨by decide +kernel, rfl, by decide⟩
theorem eX5_takeBehind_196 : zD cX5_takeBehind 196 (.iconst 1) 1 197 := ⟨by decide +kernel, rfl⟩
theorem eX5_takeBehind_197 : zDj cX5_takeBehind 197 (.goto 4) 4 201 200 := ⟨by decide +kernel, rfl, by decide⟩
theorem eX5_takeBehind_200 : zD cX5_takeBehind 200 (.iconst 2) 1 201 := ⟨by decide +kernel, rfl⟩
theorem eX5_takeBehind_201 : zD cX5_takeBehind 201 (.invokevirtual 118) 3 204 := ⟨by decide +kernel, rfl⟩
theorem eX5_takeBehind_204 : zD cX5_takeBehind 204 (.aload_n 0) 1 205 := ⟨by decide +kernel, rfl⟩
theorem eX5_takeBehind_205 : zD cX5_takeBehind 205 (.aload_n 0) 1 206 := ⟨by decide +kernel, rfl⟩
theorem eX5_takeBehind_206 : zD cX5_takeBehind 206 (.getfield 34) 3 209 := ⟨by decide +kernel, rfl⟩
theorem eX5_takeBehind_209 : zD cX5_takeBehind 209 (.invokevirtual 112) 3 212 := ⟨by decide +kernel, rfl⟩
theorem eX5_takeBehind_212 : zD cX5_takeBehind 212 (.aload_n 0) 1 213 := ⟨by decide +kernel, rfl⟩
theorem eX5_takeBehind_213 : zD cX5_takeBehind 213 (.iconst 0) 1 214 := ⟨by decide +kernel, rfl⟩
theorem eX5_takeBehind_214 : zD cX5_takeBehind 214 (.putfield 50) 3 217 := ⟨by decide +kernel, rfl⟩
theorem eX5_takeBehind_217 : zD cX5_takeBehind 217 (.aload_n 0) 1 218 := ⟨by decide +kernel, rfl⟩
theorem eX5_takeBehind_218 : zD cX5_takeBehind 218 (.iconst 1) 1 219 := ⟨by decide +kernel, rfl⟩
theorem eX5_takeBehind_219 : zD cX5_takeBehind 219 (.putfield 40) 3 222 := ⟨by decide +kernel, rfl⟩
theorem eX5_takeBehind_222 : zDj cX5_takeBehind 222 (.goto 82) 82 304 225 := ⟨by decide +kernel, rfl, by decide⟩
theorem eX5_takeBehind_225 : zD cX5_takeBehind 225 (.aload_n 0) 1 226 := ⟨by decide +kernel, rfl⟩
theorem eX5_takeBehind_226 : zD cX5_takeBehind 226 (.getfield 34) 3 229 := ⟨by decide +kernel, rfl⟩
theorem eX5_takeBehind_229 : zD cX5_takeBehind 229 (.bipush 17) 2 231 := ⟨by decide +kernel, rfl⟩
theorem eX5_takeBehind_231 : zDj cX5_takeBehind 231 (.if_icmp .ne 37) 37 268 234 := ⟨by decide +kernel, rfl, by decide⟩
theorem eX5_takeBehind_234 : zD cX5_takeBehind 234 (.iload_n 2) 1 235 := ⟨by decide +kernel, rfl⟩
theorem eX5_takeBehind_235 : zDj cX5_takeBehind 235 (.ifCond .eq 33) 33 268 238 := ⟨by decide +kernel, rfl, by decide⟩
theorem eX5_takeBehind_238 : zD cX5_takeBehind 238 (.aload_n 0) 1 239 := ⟨by decide +kernel, rfl⟩
theorem eX5_takeBehind_239 : zD cX5_takeBehind 239 (.getfield 46) 3 242 := ⟨by decide +kernel, rfl⟩
theorem eX5_takeBehind_242 : zDj cX5_takeBehind 242 (.ifCond .eq 26) 26 268 245 := ⟨by decide +kernel, rfl, by decide⟩
theorem eX5_takeBehind_245 : zD cX5_takeBehind 245 (.aload_n 0) 1 246 := ⟨by decide +kernel, rfl⟩
theorem eX5_takeBehind_246 : zD cX5_takeBehind 246 (.aload_n 1) 1 247 := ⟨by decide +kernel, rfl⟩
theorem eX5_takeBehind_247 : zD cX5_takeBehind 247 (.iconst 1) 1 248 := ⟨by decide +kernel, rfl⟩
theorem eX5_takeBehind_248 : zD cX5_takeBehind 248 (.invokevirtual 118) 3 251 := ⟨by decide +kernel, rfl⟩
theorem eX5_takeBehind_251 : zD cX5_takeBehind 251 (.aload_n 1) 1 252 := ⟨by decide +kernel, rfl⟩
theorem eX5_takeBehind_252 : zD cX5_takeBehind 252 (.invokevirtual 124) 3 255 := ⟨by decide +kernel, rfl⟩
theorem eX5_takeBehind_255 : zD cX5_takeBehind 255 (.aload_n 0) 1 256 := ⟨by decide +kernel, rfl⟩
theorem eX5_takeBehind_256 : zD cX5_takeBehind 256 (.iconst 0) 1 257 := ⟨by decide +kernel, rfl⟩
theorem eX5_takeBehind_257 : zD cX5_takeBehind 257 (.putfield 46) 3 260 := ⟨by decide +kernel, rfl⟩
theorem eX5_takeBehind_260 : zD cX5_takeBehind 260 (.aload_n 0) 1 261 := ⟨by decide +kernel, rfl⟩
theorem eX5_takeBehind_261 : zD cX5_takeBehind 261 (.iconst 1) 1 262 := ⟨by decide +kernel, rfl⟩
theorem eX5_takeBehind_262 : zD cX5_takeBehind 262 (.putfield 40) 3 265 := ⟨by decide +kernel, rfl⟩
theorem eX5_takeBehind_265 : zDj cX5_takeBehind 265 (.goto 39) 39 304 268 := ⟨by decide +kernel, rfl, by decide⟩
theorem eX5_takeBehind_268 : zD cX5_takeBehind 268 (.aload_n 0) 1 269 := ⟨by decide +kernel, rfl⟩
theorem eX5_takeBehind_269 : zD cX5_takeBehind 269 (.getfield 34) 3 272 := ⟨by decide +kernel, rfl⟩
theorem eX5_takeBehind_272 : zD cX5_takeBehind 272 (.bipush 16) 2 274 := ⟨by decide +kernel, rfl⟩
theorem eX5_takeBehind_274 : zDj cX5_takeBehind 274 (.if_icmp .ne 25) 25 299 277 := ⟨by decide +kernel, rfl, by decide⟩
theorem eX5_takeBehind_277 : zD cX5_takeBehind 277 (.iload_n 3) 1 278 := ⟨by decide +kernel, rfl⟩
theorem eX5_takeBehind_278 : zDj cX5_takeBehind 278 (.ifCond .eq 21) 21 299 281 := ⟨by decide +kernel, rfl, by decide⟩
theorem eX5_takeBehind_281 : zD cX5_takeBehind 281 (.aload_n 0) 1 282 := ⟨by decide +kernel, rfl⟩
theorem eX5_takeBehind_282 : zD cX5_takeBehind 282 (.aload_n 1) 1 283 := ⟨by decide +kernel, rfl⟩
theorem eX5_takeBehind_283 : zD cX5_takeBehind 283 (.iconst 1) 1 284 := ⟨by decide +kernel, rfl⟩
theorem eX5_takeBehind_284 : zD cX5_takeBehind 284 (.invokevirtual 118) 3 287 := ⟨by decide +kernel, rfl⟩
theorem eX5_takeBehind_287 : zD cX5_takeBehind 287 (.aload_n 1) 1 288 := ⟨by decide +kernel, rfl⟩
theorem eX5_takeBehind_288 : zD cX5_takeBehind 288 (.invokevirtual 127) 3 291 := ⟨by decide +kernel, rfl⟩
theorem eX5_takeBehind_291 : zD cX5_takeBehind 291 (.aload_n 0) 1 292 := ⟨by decide +kernel, rfl⟩
theorem eX5_takeBehind_292 : zD cX5_takeBehind 292 (.iconst 0) 1 293 := ⟨by decide +kernel, rfl⟩
theorem eX5_takeBehind_293 : zD cX5_takeBehind 293 (.putfield 40) 3 296 := ⟨by decide +kernel, rfl⟩
theorem eX5_takeBehind_296 : zDj cX5_takeBehind 296 (.goto 8) 8 304 299 := ⟨by decide +kernel, rfl, by decide⟩
theorem eX5_takeBehind_299 : zD cX5_takeBehind 299 (.aload_n 0) 1 300 := ⟨by decide +kernel, rfl⟩
theorem eX5_takeBehind_300 : zD cX5_takeBehind 300 (.iconst 1) 1 301 := ⟨by decide +kernel, rfl⟩
theorem eX5_takeBehind_301 : zD cX5_takeBehind 301 (.invokevirtual 86) 3 304 := ⟨by decide +kernel, rfl⟩
theorem eX5_takeBehind_304 : zD cX5_takeBehind 304 .return_ 1 305 := ⟨by decide +kernel, rfl⟩
theorem eX5_take_0 : zD cX5_take 0 (.aload_n 0) 1 1 := ⟨by decide +kernel, rfl⟩
theorem eX5_take_1 : zD cX5_take 1 (.getfield 40) 3 4 := ⟨by decide +kernel, rfl⟩
theorem eX5_take_4 : decode cX5_take 4 = .ok (.tableswitch 44 0 2 #[28, 36, 36], 28) := by decide +kernel
theorem eX5_take_32 : zD cX5_take 32 (.aload_n 0) 1 33 := ⟨by decide +kernel, rfl⟩
theorem eX5_take_33 : zD cX5_take 33 (.aload_n 1) 1 34 := ⟨by decide +kernel, rfl⟩
theorem eX5_take_34 : zD cX5_take 34 (.invokevirtual 77) 3 37 := ⟨by decide +kernel, rfl⟩
theorem eX5_take_37 : zDj cX5_take 37 (.goto 16) 16 53 40 := ⟨by decide +kernel, rfl, by decide⟩
theorem eX5_take_40 : zD cX5_take 40 (.aload_n 0) 1 41 := ⟨by decide +kernel, rfl⟩
theorem eX5_take_41 : zD cX5_take 41 (.aload_n 1) 1 42 := ⟨by decide +kernel, rfl⟩
theorem eX5_take_42 : zD cX5_take 42 (.invokevirtual 80) 3 45 := ⟨by decide +kernel, rfl⟩
theorem eX5_take_45 : zDj cX5_take 45 (.goto 8) 8 53 48 := ⟨by decide +kernel, rfl, by decide⟩
theorem eX5_take_48 : zD cX5_take 48 (.aload_n 0) 1 49 := ⟨by decide +kernel, rfl⟩
theorem eX5_take_49 : zD cX5_take 49 (.aload_n 1) 1 50 := ⟨by decide +kernel, rfl⟩
theorem eX5_take_50 : zD cX5_take 50 (.invokevirtual 83) 3 53 := ⟨by decide +kernel, rfl⟩
theorem eX5_take_53 : zD cX5_take 53 .return_ 1 54 := ⟨by decide +kernel, rfl⟩
theorem eX5_read_0 : zD cX5_read 0 (.aload_n 0) 1 1 := ⟨by decide +kernel, rfl⟩
theorem eX5_read_1 : zD cX5_read 1 (.iconst 0) 1 2 := ⟨by decide +kernel, rfl⟩
theorem eX5_read_2 : zD cX5_read 2 (.putfield 22) 3 5 := ⟨by decide +kernel, rfl⟩
theorem eX5_read_5 : zD cX5_read 5 (.aload_n 0) 1 6 := ⟨by decide +kernel, rfl⟩
theorem eX5_read_6 : zD cX5_read 6 (.iconst (-1)) 1 7 := ⟨by decide +kernel, rfl⟩
theorem eX5_read_7 : zD cX5_read 7 (.putfield 25) 3 10 := ⟨by decide +kernel, rfl⟩
theorem eX5_read_10 : zD cX5_read 10 (.aload_n 0) 1 11 := ⟨by decide +kernel, rfl⟩
theorem eX5_read_11 : zD cX5_read 11 (.iconst 0) 1 12 := ⟨by decide +kernel, rfl⟩
theorem eX5_read_12 : zD cX5_read 12 (.putfield 28) 3 15 := ⟨by decide +kernel, rfl⟩
theorem eX5_read_15 : zD cX5_read 15 (.aload_n 0) 1 16 := ⟨by decide +kernel, rfl⟩
theorem eX5_read_16 : zD cX5_read 16 (.iconst 0) 1 17 := ⟨by decide +kernel, rfl⟩
theorem eX5_read_17 : zD cX5_read 17 (.putfield 40) 3 20 := ⟨by decide +kernel, rfl⟩
theorem eX5_read_20 : zD cX5_read 20 (.aload_n 1) 1 21 := ⟨by decide +kernel, rfl⟩
theorem eX5_read_21 : zD cX5_read 21 (.iconst 0) 1 22 := ⟨by decide +kernel, rfl⟩
theorem eX5_read_22 : zD cX5_read 22 (.putfield 62) 3 25 := ⟨by decide +kernel, rfl⟩
theorem eX5_read_25 : zD cX5_read 25 (.aload_n 1) 1 26 := ⟨by decide +kernel, rfl⟩
theorem eX5_read_26 : zD cX5_read 26 (.iconst 0) 1 27 := ⟨by decide +kernel, rfl⟩
theorem eX5_read_27 : zD cX5_read 27 (.putfield 67) 3 30 := ⟨by decide +kernel, rfl⟩
theorem eX5_read_30 : zD cX5_read 30 (.iconst 0) 1 31 := ⟨by decide +kernel, rfl⟩
theorem eX5_read_31 : zD cX5_read 31 (.istore_n 2) 1 32 := ⟨by decide +kernel, rfl⟩
theorem eX5_read_32 : zD cX5_read 32 (.iload_n 2) 1 33 := ⟨by decide +kernel, rfl⟩
theorem eX5_read_33 : zD cX5_read 33 (.aload_n 0) 1 34 := ⟨by decide +kernel, rfl⟩
theorem eX5_read_34 : zD cX5_read 34 (.getfield 18) 3 37 := ⟨by decide +kernel, rfl⟩
theorem eX5_read_37 : zDj cX5_read 37 (.if_icmp .gt 33) 33 70 40 := ⟨by decide +kernel, rfl, by decide⟩
theorem eX5_read_40 : zD cX5_read 40 (.aload_n 0) 1 41 := ⟨by decide +kernel, rfl⟩
theorem eX5_read_41 : zD cX5_read 41 (.getfield 40) 3 44 := ⟨by decide +kernel, rfl⟩
theorem eX5_read_44 : zD cX5_read 44 (.iconst 4) 1 45 := ⟨by decide +kernel, rfl⟩
theorem eX5_read_45 : zDj cX5_read 45 (.if_icmp .eq 25) 25 70 48 := ⟨by decide +kernel, rfl, by decide⟩
theorem eX5_read_48 : zD cX5_read 48 (.aload_n 0) 1 49 := ⟨by decide +kernel, rfl⟩
theorem eX5_read_49 : zD cX5_read 49 (.getfield 22) 3 52 := ⟨by decide +kernel, rfl⟩
theorem eX5_read_52 : zDj cX5_read 52 (.ifCond .ne 18) 18 70 55 := ⟨by decide +kernel, rfl, by decide⟩
theorem eX5_read_55 : zD cX5_read 55 (.aload_n 0) 1 56 := ⟨by decide +kernel, rfl⟩
theorem eX5_read_56 : zD cX5_read 56 (.invokevirtual 70) 3 59 := ⟨by decide +kernel, rfl⟩
theorem eX5_read_59 : zD cX5_read 59 (.aload_n 0) 1 60 := ⟨by decide +kernel, rfl⟩
theorem eX5_read_60 : zD cX5_read 60 (.aload_n 1) 1 61 := ⟨by decide +kernel, rfl⟩
theorem eX5_read_61 : zD cX5_read 61 (.invokevirtual 73) 3 64 := ⟨by decide +kernel, rfl⟩
theorem eX5_read_64 : zD cX5_read 64 (.iinc 2 1) 3 67 := ⟨by decide +kernel, rfl⟩
theorem eX5_read_67 : zDj cX5_read 67 (.goto (-35)) (-35) 32 70 := ⟨by decide +kernel, rfl, by decide⟩
theorem eX5_read_70 : zD cX5_read 70 .return_ 1 71 := ⟨by decide +kernel, rfl⟩
theorem wR_append_3 {G : Zg} {p : Program} {l : Launch} {e : Env} {s : State} {m : MethodId} {args : Array Value} {below : List Frame} {meth : Method} {c : Code} (C : zC G p s m args meth c cX5_append 3 RX5 none) {res : Int × Zm} : ∀ (n : Nat) (x1 : Int) (x2 : Int) (n1 : zw x1 = x1) (n2 : zw x2 = x2) (σ : Zm), zR G p l e (zrm 0) s m args below meth c 3 0 0 (zQm below args s G 294 ztt none res.2) 294 ztt res σ (fR_append_3 n x1 x2 σ) [(0, .ref (zad G 150)), (1, .int (zI x1)), (2, .int (zI x2))] 3 []
  | 0, _, _, _, _, _ => zr_none
  | n + 1, x1, x2, n1, n2, σ => by
    have ih := fun (x1 : Int) (x2 : Int) (n1 : zw x1 = x1) (n2 : zw x2 = x2) (σ : Zm) => wR_append_3 (l := l) (e := e) (below := below) C (res := res) n x1 x2 n1 n2 σ
    rw [fR_append_3]
    refine zr_letf (fun R0 hR0 => ?_)
    have ih : ∀ (x1 : Int) (x2 : Int) (n1 : zw x1 = x1) (n2 : zw x2 = x2) (σ : Zm), zR G p l e (zrm 0) s m args below meth c 3 0 0 (zQm below args s G 294 ztt none res.2) 294 ztt res σ (R0 x1 x2 σ) [(0, .ref (zad G 150)), (1, .int (zI x1)), (2, .int (zI x2))] 3 [] := by rw [hR0]; exact ih
    clear hR0
    refine zr_iloadn C 2 eX5_append_3 rfl ?_
    refine zr_if_lt C eX5_append_4 n2 ?_ ?_
    · exact zr_vret C eX5_append_51
    refine zr_aloadn C 0 eX5_append_7 rfl ?_
    refine zr_getI C ff_X5_18 zo_150 eX5_append_8 (fun v1 nv1 => ?_)
    refine zr_aloadn C 0 eX5_append_11 rfl ?_
    refine zr_getR C ff_X5_9 rfl zo_150 rfl zf_150_0 eX5_append_12 ?_
    refine zr_alen (A := 300) C zo_151 (by decide) zn_151 rfl eX5_append_15 ?_
    refine zr_icmp_ge C eX5_append_16 nv1 w_300 ?_ ?_
    · exact zr_vret C eX5_append_51
    refine zr_aloadn C 0 eX5_append_19 rfl ?_
    refine zr_getR C ff_X5_9 rfl zo_150 rfl zf_150_0 eX5_append_20 ?_
    refine zr_aloadn C 0 eX5_append_23 rfl ?_
    refine zr_getI C ff_X5_18 zo_150 eX5_append_24 (fun v2 nv2 => ?_)
    refine zr_iloadn C 1 eX5_append_27 rfl ?_
    refine zr_iloadn C 2 eX5_append_28 rfl ?_
    refine zr_iushr C eX5_append_29 ?_
    refine zr_sipush (a := 255) C eX5_append_30 rfl ?_
    refine zr_iand C eX5_append_33 ?_
    refine zr_iast C zo_151 zn_151 nv2 eX5_append_34 (fun σ3 => ?_)
    refine zr_aloadn C 0 eX5_append_35 rfl ?_
    refine zr_dup C eX5_append_36 rfl ?_
    refine zr_getI C ff_X5_18 zo_150 eX5_append_37 (fun v4 nv4 => ?_)
    refine zr_iconst C eX5_append_40 rfl ?_
    refine zr_iadd C eX5_append_41 ?_
    refine zr_putI C ff_X5_18 rfl zo_150 eX5_append_42 (fun σ5 => ?_)
    refine zr_iinc (lv' := [(2, .int (zI (x2 + (-8)))), (0, .ref (zad G 150)), (1, .int (zI x1))]) C 2 eX5_append_45 rfl (by decide) rfl ?_
    refine zr_goto C eX5_append_48 ?_
    refine zr_lv [1, 2, 0] rfl ?_
    exact zr_lve (zs_p (zs_p (zs_pi (zI_w (x2 + (-8))).symm rfl))) (ih x1 (zw (x2 + (-8))) n1 (zw_w (x2 + (-8))) _)
theorem zqR_append (l : Launch) (G : Zg) (σ : Zm) (x1 : Int) (n1 : zw x1 = x1) (res : Int × Zm) (he : fR_append σ x1 = some res) : zM l yX5_append cX5_append 3 none 0 G 294 ztt σ [.ref (zad G 150), .int (zI x1)] none res.2 := by
  refine zM_of he (by decide +kernel) (Nat.le_of_ble_eq_true rfl) (lv := [(0, .ref (zad G 150)), (1, .int (zI x1))]) rfl (fun p e s m below meth c C => ?_)
  unfold fR_append
  refine zr_bipush (a := 24) C eX5_append_0 rfl ?_
  refine zr_istoren (lv' := [(2, .int (zI 24)), (0, .ref (zad G 150)), (1, .int (zI x1))]) C eX5_append_2 (by decide) rfl ?_
  refine zr_lv [1, 2, 0] rfl ?_
  refine wR_append_3 C 5000 x1 24 n1 w_24 σ
theorem zqR_isLetter (l : Launch) (G : Zg) (σ : Zm) (x0 : Int) (n0 : zw x0 = x0) (res : Int × Zm) (he : fR_isLetter σ x0 = some res) : zM l yX5_isLetter cX5_isLetter 1 (some .boolean) 1 G 294 ztt σ [.int (zI x0)] (some (.int (zI res.1))) res.2 := by
  refine zM_of he (by decide +kernel) (Nat.le_of_ble_eq_true rfl) (lv := [(0, .int (zI x0))]) rfl (fun p e s m below meth c C => ?_)
  unfold fR_isLetter
  refine zr_iloadn C 0 eX5_isLetter_0 rfl ?_
  refine zr_bipush (a := 97) C eX5_isLetter_1 rfl ?_
  refine zr_bipush (a := 122) C eX5_isLetter_3 rfl ?_
  refine zr_callSi C [.int (zI x0), .int (zI 97), .int (zI 122)] zy_X9_within zs_X9_within lk_X5_105 zrm_1_3_0 (fun r hr => zqX_within l G σ x0 97 122 n0 w_97 w_122 r hr) rfl rfl (Nat.le_of_ble_eq_true rfl) eX5_isLetter_5 (fun v2 nv2 σ1 => ?_)
  refine zr_if_ne C eX5_isLetter_8 nv2 ?_ ?_
  · refine zr_iconst C eX5_isLetter_22 rfl ?_
    refine zr_goto C eX5_isLetter_23 ?_
    exact zr_zret C eX5_isLetter_27 (Or.inr rfl)
  refine zr_iloadn C 0 eX5_isLetter_11 rfl ?_
  refine zr_bipush (a := 65) C eX5_isLetter_12 rfl ?_
  refine zr_bipush (a := 90) C eX5_isLetter_14 rfl ?_
  refine zr_callSi C [.int (zI x0), .int (zI 65), .int (zI 90)] zy_X9_within zs_X9_within lk_X5_105 zrm_1_3_0 (fun r hr => zqX_within l G σ1 x0 65 90 n0 w_65 w_90 r hr) rfl rfl (Nat.le_of_ble_eq_true rfl) eX5_isLetter_16 (fun v4 nv4 σ3 => ?_)
  refine zr_if_eq C eX5_isLetter_19 nv4 ?_ ?_
  · refine zr_iconst C eX5_isLetter_26 rfl ?_
    exact zr_zret C eX5_isLetter_27 (Or.inl rfl)
  refine zr_iconst C eX5_isLetter_22 rfl ?_
  refine zr_goto C eX5_isLetter_23 ?_
  exact zr_zret C eX5_isLetter_27 (Or.inr rfl)
theorem wR_wordNumber_12 {G : Zg} {p : Program} {l : Launch} {e : Env} {s : State} {m : MethodId} {args : Array Value} {below : List Frame} {meth : Method} {c : Code} (C : zC G p s m args meth c cX5_wordNumber 6 RX5 (some .int)) {res : Int × Zm} : ∀ (n : Nat) (x1 : Int) (x2 : Int) (x3 : Int) (x4 : Int) (n1 : zw x1 = x1) (n2 : zw x2 = x2) (n3 : zw x3 = x3) (n4 : zw x4 = x4) (σ : Zm), zR G p l e (zrm 4) s m args below meth c 6 0 0 (zQm below args s G 294 ztt (some (.int (zI res.1))) res.2) 294 ztt res σ (fR_wordNumber_12 n x1 x2 x3 x4 σ) [(0, .ref (zad G 150)), (1, .int (zI x1)), (2, .int (zI x2)), (3, .int (zI x3)), (4, .int (zI x4))] 12 []
  | 0, _, _, _, _, _, _, _, _, _ => zr_none
  | n + 1, x1, x2, x3, x4, n1, n2, n3, n4, σ => by
    have ih := fun (x1 : Int) (x2 : Int) (x3 : Int) (x4 : Int) (n1 : zw x1 = x1) (n2 : zw x2 = x2) (n3 : zw x3 = x3) (n4 : zw x4 = x4) (σ : Zm) => wR_wordNumber_12 (l := l) (e := e) (below := below) C (res := res) n x1 x2 x3 x4 n1 n2 n3 n4 σ
    rw [fR_wordNumber_12]
    refine zr_letf (fun R0 hR0 => ?_)
    have ih : ∀ (x1 : Int) (x2 : Int) (x3 : Int) (x4 : Int) (n1 : zw x1 = x1) (n2 : zw x2 = x2) (n3 : zw x3 = x3) (n4 : zw x4 = x4) (σ : Zm), zR G p l e (zrm 4) s m args below meth c 6 0 0 (zQm below args s G 294 ztt (some (.int (zI res.1))) res.2) 294 ztt res σ (R0 x1 x2 x3 x4 σ) [(0, .ref (zad G 150)), (1, .int (zI x1)), (2, .int (zI x2)), (3, .int (zI x3)), (4, .int (zI x4))] 12 [] := by rw [hR0]; exact ih
    clear hR0
    refine zr_iload C 4 eX5_wordNumber_12 rfl ?_
    refine zr_ldcs C eX5_wordNumber_14 ?_
    refine zr_strlen C lk_X5_161 zrm_4_1_1 (by exact Nat.le_of_ble_eq_true rfl) eX5_wordNumber_16 ?_
    refine zr_icmp_ge C eX5_wordNumber_19 n4 w_155 ?_ ?_
    · refine zr_iconst C eX5_wordNumber_103 rfl ?_
      exact zr_iret C eX5_wordNumber_104
    refine zr_ldcs C eX5_wordNumber_22 ?_
    refine zr_iload C 4 eX5_wordNumber_24 rfl ?_
    refine zr_charAt C lk_X5_165 zrm_4_2_3 n4 (by exact Nat.le_of_ble_eq_true rfl) eX5_wordNumber_26 (fun v2 nv2 => ?_)
    refine zr_istore (lv' := [(5, .int (zI v2)), (0, .ref (zad G 150)), (1, .int (zI x1)), (2, .int (zI x2)), (3, .int (zI x3)), (4, .int (zI x4))]) C eX5_wordNumber_29 (by decide) rfl ?_
    refine zr_iload C 0 eX5_wordNumber_31 rfl ?_
    refine zr_bipush (a := 32) C eX5_wordNumber_33 rfl ?_
    refine zr_icmp_ne C eX5_wordNumber_35 nv2 w_32 ?_ ?_
    · refine zr_iloadn C 4 eX5_wordNumber_65 rfl ?_
      refine zr_if_eq C eX5_wordNumber_66 n3 ?_ ?_
      · refine zr_iconst C eX5_wordNumber_92 rfl ?_
        refine zr_istoren (lv' := [(3, .int (zI 0)), (5, .int (zI v2)), (0, .ref (zad G 150)), (1, .int (zI x1)), (2, .int (zI x2)), (4, .int (zI x4))]) C eX5_wordNumber_93 (by decide) rfl ?_
        refine zr_iinc (lv' := [(2, .int (zI (x2 + 1))), (3, .int (zI 0)), (5, .int (zI v2)), (0, .ref (zad G 150)), (1, .int (zI x1)), (4, .int (zI x4))]) C 4 eX5_wordNumber_94 rfl (by decide) rfl ?_
        refine zr_iinc (lv' := [(4, .int (zI (x4 + 1))), (2, .int (zI (x2 + 1))), (3, .int (zI 0)), (5, .int (zI v2)), (0, .ref (zad G 150)), (1, .int (zI x1))]) C 5 eX5_wordNumber_97 rfl (by decide) rfl ?_
        refine zr_goto C eX5_wordNumber_100 ?_
        refine zr_lv [4, 5, 1, 2, 0] rfl ?_
        exact zr_lve (zs_p (zs_p (zs_pi (zI_w (x2 + 1)).symm (zs_p (zs_pi (zI_w (x4 + 1)).symm rfl))))) (ih x1 (zw (x2 + 1)) 0 (zw (x4 + 1)) n1 (zw_w (x2 + 1)) w_0 (zw_w (x4 + 1)) _)
      refine zr_iloadn C 3 eX5_wordNumber_69 rfl ?_
      refine zr_aloadn C 1 eX5_wordNumber_70 rfl ?_
      refine zr_getI C ff_X5_28 zo_150 eX5_wordNumber_71 (fun v3 nv3 => ?_)
      refine zr_icmp_ge C eX5_wordNumber_74 n2 nv3 ?_ ?_
      · refine zr_iconst C eX5_wordNumber_92 rfl ?_
        refine zr_istoren (lv' := [(3, .int (zI 0)), (5, .int (zI v2)), (0, .ref (zad G 150)), (1, .int (zI x1)), (2, .int (zI x2)), (4, .int (zI x4))]) C eX5_wordNumber_93 (by decide) rfl ?_
        refine zr_iinc (lv' := [(2, .int (zI (x2 + 1))), (3, .int (zI 0)), (5, .int (zI v2)), (0, .ref (zad G 150)), (1, .int (zI x1)), (4, .int (zI x4))]) C 4 eX5_wordNumber_94 rfl (by decide) rfl ?_
        refine zr_iinc (lv' := [(4, .int (zI (x4 + 1))), (2, .int (zI (x2 + 1))), (3, .int (zI 0)), (5, .int (zI v2)), (0, .ref (zad G 150)), (1, .int (zI x1))]) C 5 eX5_wordNumber_97 rfl (by decide) rfl ?_
        refine zr_goto C eX5_wordNumber_100 ?_
        refine zr_lv [4, 5, 1, 2, 0] rfl ?_
        exact zr_lve (zs_p (zs_p (zs_pi (zI_w (x2 + 1)).symm (zs_p (zs_pi (zI_w (x4 + 1)).symm rfl))))) (ih x1 (zw (x2 + 1)) 0 (zw (x4 + 1)) n1 (zw_w (x2 + 1)) w_0 (zw_w (x4 + 1)) _)
      refine zr_aloadn C 1 eX5_wordNumber_77 rfl ?_
      refine zr_getR C ff_X5_9 rfl zo_150 rfl zf_150_0 eX5_wordNumber_78 ?_
      refine zr_iloadn C 3 eX5_wordNumber_81 rfl ?_
      refine zr_iald C zo_151 zn_151 n2 eX5_wordNumber_82 (fun v4 nv4 => ?_)
      refine zr_iload C 0 eX5_wordNumber_83 rfl ?_
      refine zr_icmp_ne C eX5_wordNumber_85 nv4 nv2 ?_ ?_
      · refine zr_iconst C eX5_wordNumber_92 rfl ?_
        refine zr_istoren (lv' := [(3, .int (zI 0)), (5, .int (zI v2)), (0, .ref (zad G 150)), (1, .int (zI x1)), (2, .int (zI x2)), (4, .int (zI x4))]) C eX5_wordNumber_93 (by decide) rfl ?_
        refine zr_iinc (lv' := [(2, .int (zI (x2 + 1))), (3, .int (zI 0)), (5, .int (zI v2)), (0, .ref (zad G 150)), (1, .int (zI x1)), (4, .int (zI x4))]) C 4 eX5_wordNumber_94 rfl (by decide) rfl ?_
        refine zr_iinc (lv' := [(4, .int (zI (x4 + 1))), (2, .int (zI (x2 + 1))), (3, .int (zI 0)), (5, .int (zI v2)), (0, .ref (zad G 150)), (1, .int (zI x1))]) C 5 eX5_wordNumber_97 rfl (by decide) rfl ?_
        refine zr_goto C eX5_wordNumber_100 ?_
        refine zr_lv [4, 5, 1, 2, 0] rfl ?_
        exact zr_lve (zs_p (zs_p (zs_pi (zI_w (x2 + 1)).symm (zs_p (zs_pi (zI_w (x4 + 1)).symm rfl))))) (ih x1 (zw (x2 + 1)) 0 (zw (x4 + 1)) n1 (zw_w (x2 + 1)) w_0 (zw_w (x4 + 1)) _)
      refine zr_iconst C eX5_wordNumber_88 rfl ?_
      refine zr_goto C eX5_wordNumber_89 ?_
      refine zr_istoren (lv' := [(3, .int (zI 1)), (5, .int (zI v2)), (0, .ref (zad G 150)), (1, .int (zI x1)), (2, .int (zI x2)), (4, .int (zI x4))]) C eX5_wordNumber_93 (by decide) rfl ?_
      refine zr_iinc (lv' := [(2, .int (zI (x2 + 1))), (3, .int (zI 1)), (5, .int (zI v2)), (0, .ref (zad G 150)), (1, .int (zI x1)), (4, .int (zI x4))]) C 4 eX5_wordNumber_94 rfl (by decide) rfl ?_
      refine zr_iinc (lv' := [(4, .int (zI (x4 + 1))), (2, .int (zI (x2 + 1))), (3, .int (zI 1)), (5, .int (zI v2)), (0, .ref (zad G 150)), (1, .int (zI x1))]) C 5 eX5_wordNumber_97 rfl (by decide) rfl ?_
      refine zr_goto C eX5_wordNumber_100 ?_
      refine zr_lv [4, 5, 1, 2, 0] rfl ?_
      exact zr_lve (zs_p (zs_p (zs_pi (zI_w (x2 + 1)).symm (zs_p (zs_pi (zI_w (x4 + 1)).symm rfl))))) (ih x1 (zw (x2 + 1)) 1 (zw (x4 + 1)) n1 (zw_w (x2 + 1)) w_1 (zw_w (x4 + 1)) _)
    refine zr_iloadn C 4 eX5_wordNumber_38 rfl ?_
    refine zr_if_eq C eX5_wordNumber_39 n3 ?_ ?_
    · refine zr_iinc (lv' := [(1, .int (zI (x1 + 1))), (5, .int (zI v2)), (0, .ref (zad G 150)), (2, .int (zI x2)), (3, .int (zI x3)), (4, .int (zI x4))]) C 2 eX5_wordNumber_52 rfl (by decide) rfl ?_
      refine zr_aloadn C 2 eX5_wordNumber_55 rfl ?_
      refine zr_getI C ff_X5_31 zo_150 eX5_wordNumber_56 (fun v5 nv5 => ?_)
      refine zr_istoren (lv' := [(2, .int (zI v5)), (1, .int (zI (x1 + 1))), (5, .int (zI v2)), (0, .ref (zad G 150)), (3, .int (zI x3)), (4, .int (zI x4))]) C eX5_wordNumber_59 (by decide) rfl ?_
      refine zr_iconst C eX5_wordNumber_60 rfl ?_
      refine zr_istoren (lv' := [(3, .int (zI 1)), (2, .int (zI v5)), (1, .int (zI (x1 + 1))), (5, .int (zI v2)), (0, .ref (zad G 150)), (4, .int (zI x4))]) C eX5_wordNumber_61 (by decide) rfl ?_
      refine zr_goto C eX5_wordNumber_62 ?_
      refine zr_iinc (lv' := [(4, .int (zI (x4 + 1))), (3, .int (zI 1)), (2, .int (zI v5)), (1, .int (zI (x1 + 1))), (5, .int (zI v2)), (0, .ref (zad G 150))]) C 5 eX5_wordNumber_97 rfl (by decide) rfl ?_
      refine zr_goto C eX5_wordNumber_100 ?_
      refine zr_lv [5, 3, 2, 1, 0] rfl ?_
      exact zr_lve (zs_p (zs_pi (zI_w (x1 + 1)).symm (zs_p (zs_p (zs_pi (zI_w (x4 + 1)).symm rfl))))) (ih (zw (x1 + 1)) v5 1 (zw (x4 + 1)) (zw_w (x1 + 1)) nv5 w_1 (zw_w (x4 + 1)) _)
    refine zr_iloadn C 3 eX5_wordNumber_42 rfl ?_
    refine zr_aloadn C 1 eX5_wordNumber_43 rfl ?_
    refine zr_getI C ff_X5_28 zo_150 eX5_wordNumber_44 (fun v6 nv6 => ?_)
    refine zr_icmp_ne C eX5_wordNumber_47 n2 nv6 ?_ ?_
    · refine zr_iinc (lv' := [(1, .int (zI (x1 + 1))), (5, .int (zI v2)), (0, .ref (zad G 150)), (2, .int (zI x2)), (3, .int (zI x3)), (4, .int (zI x4))]) C 2 eX5_wordNumber_52 rfl (by decide) rfl ?_
      refine zr_aloadn C 2 eX5_wordNumber_55 rfl ?_
      refine zr_getI C ff_X5_31 zo_150 eX5_wordNumber_56 (fun v7 nv7 => ?_)
      refine zr_istoren (lv' := [(2, .int (zI v7)), (1, .int (zI (x1 + 1))), (5, .int (zI v2)), (0, .ref (zad G 150)), (3, .int (zI x3)), (4, .int (zI x4))]) C eX5_wordNumber_59 (by decide) rfl ?_
      refine zr_iconst C eX5_wordNumber_60 rfl ?_
      refine zr_istoren (lv' := [(3, .int (zI 1)), (2, .int (zI v7)), (1, .int (zI (x1 + 1))), (5, .int (zI v2)), (0, .ref (zad G 150)), (4, .int (zI x4))]) C eX5_wordNumber_61 (by decide) rfl ?_
      refine zr_goto C eX5_wordNumber_62 ?_
      refine zr_iinc (lv' := [(4, .int (zI (x4 + 1))), (3, .int (zI 1)), (2, .int (zI v7)), (1, .int (zI (x1 + 1))), (5, .int (zI v2)), (0, .ref (zad G 150))]) C 5 eX5_wordNumber_97 rfl (by decide) rfl ?_
      refine zr_goto C eX5_wordNumber_100 ?_
      refine zr_lv [5, 3, 2, 1, 0] rfl ?_
      exact zr_lve (zs_p (zs_pi (zI_w (x1 + 1)).symm (zs_p (zs_p (zs_pi (zI_w (x4 + 1)).symm rfl))))) (ih (zw (x1 + 1)) v7 1 (zw (x4 + 1)) (zw_w (x1 + 1)) nv7 w_1 (zw_w (x4 + 1)) _)
    refine zr_iloadn C 2 eX5_wordNumber_50 rfl ?_
    exact zr_iret C eX5_wordNumber_51
theorem zqR_wordNumber (l : Launch) (G : Zg) (σ : Zm) (res : Int × Zm) (he : fR_wordNumber σ = some res) : zM l yX5_wordNumber cX5_wordNumber 6 (some .int) 4 G 294 ztt σ [.ref (zad G 150)] (some (.int (zI res.1))) res.2 := by
  refine zM_of he (by decide +kernel) (Nat.le_of_ble_eq_true rfl) (lv := [(0, .ref (zad G 150))]) rfl (fun p e s m below meth c C => ?_)
  unfold fR_wordNumber
  refine zr_iconst C eX5_wordNumber_0 rfl ?_
  refine zr_istoren (lv' := [(1, .int (zI 0)), (0, .ref (zad G 150))]) C eX5_wordNumber_1 (by decide) rfl ?_
  refine zr_aloadn C 1 eX5_wordNumber_2 rfl ?_
  refine zr_getI C ff_X5_31 zo_150 eX5_wordNumber_3 (fun v1 nv1 => ?_)
  refine zr_istoren (lv' := [(2, .int (zI v1)), (1, .int (zI 0)), (0, .ref (zad G 150))]) C eX5_wordNumber_6 (by decide) rfl ?_
  refine zr_iconst C eX5_wordNumber_7 rfl ?_
  refine zr_istoren (lv' := [(3, .int (zI 1)), (2, .int (zI v1)), (1, .int (zI 0)), (0, .ref (zad G 150))]) C eX5_wordNumber_8 (by decide) rfl ?_
  refine zr_iconst C eX5_wordNumber_9 rfl ?_
  refine zr_istore (lv' := [(4, .int (zI 0)), (3, .int (zI 1)), (2, .int (zI v1)), (1, .int (zI 0)), (0, .ref (zad G 150))]) C eX5_wordNumber_10 (by decide) rfl ?_
  refine zr_lv [4, 3, 2, 1, 0] rfl ?_
  refine wR_wordNumber_12 C 5000 0 v1 1 0 w_0 nv1 w_1 w_0 σ
theorem wR_scanWord_0 {G : Zg} {p : Program} {l : Launch} {e : Env} {s : State} {m : MethodId} {args : Array Value} {below : List Frame} {meth : Method} {c : Code} (C : zC G p s m args meth c cX5_scanWord 2 RX5 none) {res : Int × Zm} (K39 : Zm → Zr) (hK39 : ∀ (σ : Zm), zR G p l e (zrm 5) s m args below meth c 2 0 0 (zQm below args s G 294 ztt none res.2) 294 ztt res σ (K39 σ) [(0, .ref (zad G 150))] 39 []) : ∀ (n : Nat) (σ : Zm), zR G p l e (zrm 5) s m args below meth c 2 0 0 (zQm below args s G 294 ztt none res.2) 294 ztt res σ (fR_scanWord_0 n σ K39) [(0, .ref (zad G 150))] 0 []
  | 0, _ => zr_none
  | n + 1, σ => by
    have ih := fun (σ : Zm) => wR_scanWord_0 (l := l) (e := e) (below := below) C K39 hK39 (res := res) n σ
    rw [fR_scanWord_0]
    refine zr_letf (fun R0 hR0 => ?_)
    have ih : ∀ (σ : Zm), zR G p l e (zrm 5) s m args below meth c 2 0 0 (zQm below args s G 294 ztt none res.2) 294 ztt res σ (R0 σ) [(0, .ref (zad G 150))] 0 [] := by rw [hR0]; exact ih
    clear hR0
    refine zr_aloadn C 0 eX5_scanWord_0 rfl ?_
    refine zr_getI C ff_X5_28 zo_150 eX5_scanWord_1 (fun v1 nv1 => ?_)
    refine zr_aloadn C 0 eX5_scanWord_4 rfl ?_
    refine zr_getI C ff_X5_18 zo_150 eX5_scanWord_5 (fun v2 nv2 => ?_)
    refine zr_icmp_ge C eX5_scanWord_8 nv1 nv2 ?_ ?_
    · exact hK39 _
    refine zr_aloadn C 0 eX5_scanWord_11 rfl ?_
    refine zr_getR C ff_X5_9 rfl zo_150 rfl zf_150_0 eX5_scanWord_12 ?_
    refine zr_aloadn C 0 eX5_scanWord_15 rfl ?_
    refine zr_getI C ff_X5_28 zo_150 eX5_scanWord_16 (fun v3 nv3 => ?_)
    refine zr_iald C zo_151 zn_151 nv3 eX5_scanWord_19 (fun v4 nv4 => ?_)
    refine zr_callSi C [.int (zI v4)] zy_X5_isLetter zs_X5_isLetter lk_X5_136 zrm_5_1_1 (fun r hr => zqR_isLetter l G σ v4 nv4 r hr) rfl rfl (Nat.le_of_ble_eq_true rfl) eX5_scanWord_20 (fun v6 nv6 σ5 => ?_)
    refine zr_if_eq C eX5_scanWord_23 nv6 ?_ ?_
    · exact hK39 _
    refine zr_aloadn C 0 eX5_scanWord_26 rfl ?_
    refine zr_dup C eX5_scanWord_27 rfl ?_
    refine zr_getI C ff_X5_28 zo_150 eX5_scanWord_28 (fun v7 nv7 => ?_)
    refine zr_iconst C eX5_scanWord_31 rfl ?_
    refine zr_iadd C eX5_scanWord_32 ?_
    refine zr_putI C ff_X5_28 rfl zo_150 eX5_scanWord_33 (fun σ8 => ?_)
    refine zr_goto C eX5_scanWord_36 ?_
    exact ih _
theorem wR_scanWord_39 {G : Zg} {p : Program} {l : Launch} {e : Env} {s : State} {m : MethodId} {args : Array Value} {below : List Frame} {meth : Method} {c : Code} (C : zC G p s m args meth c cX5_scanWord 2 RX5 none) {res : Int × Zm} (σ : Zm) : zR G p l e (zrm 5) s m args below meth c 2 0 0 (zQm below args s G 294 ztt none res.2) 294 ztt res σ (fR_scanWord_39 σ) [(0, .ref (zad G 150))] 39 [] := by
  unfold fR_scanWord_39
  refine zr_aloadn C 0 eX5_scanWord_39 rfl ?_
  refine zr_callVi C [] zy_X5_wordNumber zv_X5_wordNumber lk_X5_155 zrm_5_6_4 zo_150 (by decide) rfl (fun r hr => zqR_wordNumber l G σ r hr) rfl rfl (Nat.le_of_ble_eq_true rfl) eX5_scanWord_40 (fun v11 nv11 σ10 => ?_)
  refine zr_istoren (lv' := [(1, .int (zI v11)), (0, .ref (zad G 150))]) C eX5_scanWord_43 (by decide) rfl ?_
  refine zr_iloadn C 0 eX5_scanWord_44 rfl ?_
  refine zr_iconst C eX5_scanWord_45 rfl ?_
  refine zr_icmp_ne C eX5_scanWord_46 nv11 w_m1 ?_ ?_
  · refine zr_iloadn C 0 eX5_scanWord_58 rfl ?_
    refine zr_iconst C eX5_scanWord_59 rfl ?_
    refine zr_icmp_ge C eX5_scanWord_60 nv11 w_4 ?_ ?_
    · refine zr_iloadn C 0 eX5_scanWord_77 rfl ?_
      refine zr_bipush (a := 8) C eX5_scanWord_78 rfl ?_
      refine zr_icmp_lt C eX5_scanWord_80 nv11 w_8 ?_ ?_
      · refine zr_aloadn C 1 eX5_scanWord_100 rfl ?_
        refine zr_iloadn C 0 eX5_scanWord_101 rfl ?_
        refine zr_iconst C eX5_scanWord_102 rfl ?_
        refine zr_icmp_ne C eX5_scanWord_103 nv11 w_4 ?_ ?_
        · refine zr_iloadn C 0 eX5_scanWord_111 rfl ?_
          refine zr_iconst C eX5_scanWord_112 rfl ?_
          refine zr_icmp_ne C eX5_scanWord_113 nv11 w_5 ?_ ?_
          · refine zr_iloadn C 0 eX5_scanWord_120 rfl ?_
            refine zr_bipush (a := 6) C eX5_scanWord_121 rfl ?_
            refine zr_icmp_ne C eX5_scanWord_123 nv11 w_6 ?_ ?_
            · refine zr_iconst C eX5_scanWord_130 rfl ?_
              refine zr_putI C ff_X5_34 rfl zo_150 eX5_scanWord_131 (fun σ12 => ?_)
              exact zr_vret C eX5_scanWord_134
            refine zr_iconst C eX5_scanWord_126 rfl ?_
            refine zr_goto C eX5_scanWord_127 ?_
            refine zr_putI C ff_X5_34 rfl zo_150 eX5_scanWord_131 (fun σ13 => ?_)
            exact zr_vret C eX5_scanWord_134
          refine zr_iconst C eX5_scanWord_116 rfl ?_
          refine zr_goto C eX5_scanWord_117 ?_
          refine zr_putI C ff_X5_34 rfl zo_150 eX5_scanWord_131 (fun σ14 => ?_)
          exact zr_vret C eX5_scanWord_134
        refine zr_bipush (a := 17) C eX5_scanWord_106 rfl ?_
        refine zr_goto C eX5_scanWord_108 ?_
        refine zr_putI C ff_X5_34 rfl zo_150 eX5_scanWord_131 (fun σ15 => ?_)
        exact zr_vret C eX5_scanWord_134
      refine zr_aloadn C 1 eX5_scanWord_83 rfl ?_
      refine zr_bipush (a := 19) C eX5_scanWord_84 rfl ?_
      refine zr_putI C ff_X5_34 rfl zo_150 eX5_scanWord_86 (fun σ16 => ?_)
      refine zr_aloadn C 1 eX5_scanWord_89 rfl ?_
      refine zr_iloadn C 0 eX5_scanWord_90 rfl ?_
      refine zr_bipush (a := 8) C eX5_scanWord_91 rfl ?_
      refine zr_isub C eX5_scanWord_93 ?_
      refine zr_putI C ff_X5_37 rfl zo_150 eX5_scanWord_94 (fun σ17 => ?_)
      refine zr_goto C eX5_scanWord_97 ?_
      exact zr_vret C eX5_scanWord_134
    refine zr_aloadn C 1 eX5_scanWord_63 rfl ?_
    refine zr_bipush (a := 18) C eX5_scanWord_64 rfl ?_
    refine zr_putI C ff_X5_34 rfl zo_150 eX5_scanWord_66 (fun σ18 => ?_)
    refine zr_aloadn C 1 eX5_scanWord_69 rfl ?_
    refine zr_iloadn C 0 eX5_scanWord_70 rfl ?_
    refine zr_putI C ff_X5_37 rfl zo_150 eX5_scanWord_71 (fun σ19 => ?_)
    refine zr_goto C eX5_scanWord_74 ?_
    exact zr_vret C eX5_scanWord_134
  refine zr_aloadn C 1 eX5_scanWord_49 rfl ?_
  refine zr_bipush (a := 22) C eX5_scanWord_50 rfl ?_
  refine zr_putI C ff_X5_34 rfl zo_150 eX5_scanWord_52 (fun σ20 => ?_)
  refine zr_goto C eX5_scanWord_55 ?_
  exact zr_vret C eX5_scanWord_134
theorem zqR_scanWord (l : Launch) (G : Zg) (σ : Zm) (res : Int × Zm) (he : fR_scanWord σ = some res) : zM l yX5_scanWord cX5_scanWord 2 none 5 G 294 ztt σ [.ref (zad G 150)] none res.2 := by
  refine zM_of he (by decide +kernel) (Nat.le_of_ble_eq_true rfl) (lv := [(0, .ref (zad G 150))]) rfl (fun p e s m below meth c C => ?_)
  unfold fR_scanWord
  refine wR_scanWord_0 C _ ?_ 5000 σ
  intro σ9
  exact wR_scanWord_39 C σ9
theorem zqR_isDigit (l : Launch) (G : Zg) (σ : Zm) (x0 : Int) (n0 : zw x0 = x0) (res : Int × Zm) (he : fR_isDigit σ x0 = some res) : zM l yX5_isDigit cX5_isDigit 1 (some .boolean) 1 G 294 ztt σ [.int (zI x0)] (some (.int (zI res.1))) res.2 := by
  refine zM_of he (by decide +kernel) (Nat.le_of_ble_eq_true rfl) (lv := [(0, .int (zI x0))]) rfl (fun p e s m below meth c C => ?_)
  unfold fR_isDigit
  refine zr_iloadn C 0 eX5_isDigit_0 rfl ?_
  refine zr_bipush (a := 48) C eX5_isDigit_1 rfl ?_
  refine zr_bipush (a := 57) C eX5_isDigit_3 rfl ?_
  refine zr_callSi C [.int (zI x0), .int (zI 48), .int (zI 57)] zy_X9_within zs_X9_within lk_X5_105 zrm_1_3_0 (fun r hr => zqX_within l G σ x0 48 57 n0 w_48 w_57 r hr) rfl rfl (Nat.le_of_ble_eq_true rfl) eX5_isDigit_5 (fun v2 nv2 σ1 => ?_)
  exact zr_zretg C eX5_isDigit_8
theorem wR_scanDigits_11 {G : Zg} {p : Program} {l : Launch} {e : Env} {s : State} {m : MethodId} {args : Array Value} {below : List Frame} {meth : Method} {c : Code} (C : zC G p s m args meth c cX5_scanDigits 1 RX5 none) {res : Int × Zm} : ∀ (n : Nat) (σ : Zm), zR G p l e (zrm 2) s m args below meth c 1 0 0 (zQm below args s G 294 ztt none res.2) 294 ztt res σ (fR_scanDigits_11 n σ) [(0, .ref (zad G 150))] 11 []
  | 0, _ => zr_none
  | n + 1, σ => by
    have ih := fun (σ : Zm) => wR_scanDigits_11 (l := l) (e := e) (below := below) C (res := res) n σ
    rw [fR_scanDigits_11]
    refine zr_letf (fun R0 hR0 => ?_)
    have ih : ∀ (σ : Zm), zR G p l e (zrm 2) s m args below meth c 1 0 0 (zQm below args s G 294 ztt none res.2) 294 ztt res σ (R0 σ) [(0, .ref (zad G 150))] 11 [] := by rw [hR0]; exact ih
    clear hR0
    refine zr_aloadn C 0 eX5_scanDigits_11 rfl ?_
    refine zr_getI C ff_X5_28 zo_150 eX5_scanDigits_12 (fun v3 nv3 => ?_)
    refine zr_aloadn C 0 eX5_scanDigits_15 rfl ?_
    refine zr_getI C ff_X5_18 zo_150 eX5_scanDigits_16 (fun v4 nv4 => ?_)
    refine zr_icmp_ge C eX5_scanDigits_19 nv3 nv4 ?_ ?_
    · exact zr_vret C eX5_scanDigits_80
    refine zr_aloadn C 0 eX5_scanDigits_22 rfl ?_
    refine zr_getR C ff_X5_9 rfl zo_150 rfl zf_150_0 eX5_scanDigits_23 ?_
    refine zr_aloadn C 0 eX5_scanDigits_26 rfl ?_
    refine zr_getI C ff_X5_28 zo_150 eX5_scanDigits_27 (fun v5 nv5 => ?_)
    refine zr_iald C zo_151 zn_151 nv5 eX5_scanDigits_30 (fun v6 nv6 => ?_)
    refine zr_callSi C [.int (zI v6)] zy_X5_isDigit zs_X5_isDigit lk_X5_143 zrm_2_1_1 (fun r hr => zqR_isDigit l G σ v6 nv6 r hr) rfl rfl (Nat.le_of_ble_eq_true rfl) eX5_scanDigits_31 (fun v8 nv8 σ7 => ?_)
    refine zr_if_eq C eX5_scanDigits_34 nv8 ?_ ?_
    · exact zr_vret C eX5_scanDigits_80
    refine zr_aloadn C 0 eX5_scanDigits_37 rfl ?_
    refine zr_sipush (a := 1000) C eX5_scanDigits_38 rfl ?_
    refine zr_aloadn C 0 eX5_scanDigits_41 rfl ?_
    refine zr_getI C ff_X5_37 zo_150 eX5_scanDigits_42 (fun v9 nv9 => ?_)
    refine zr_bipush (a := 10) C eX5_scanDigits_45 rfl ?_
    refine zr_imul C eX5_scanDigits_47 ?_
    refine zr_aloadn C 0 eX5_scanDigits_48 rfl ?_
    refine zr_getR C ff_X5_9 rfl zo_150 rfl zf_150_0 eX5_scanDigits_49 ?_
    refine zr_aloadn C 0 eX5_scanDigits_52 rfl ?_
    refine zr_getI C ff_X5_28 zo_150 eX5_scanDigits_53 (fun v10 nv10 => ?_)
    refine zr_iald C zo_151 zn_151 nv10 eX5_scanDigits_56 (fun v11 nv11 => ?_)
    refine zr_iadd C eX5_scanDigits_57 ?_
    refine zr_bipush (a := 48) C eX5_scanDigits_58 rfl ?_
    refine zr_isub C eX5_scanDigits_60 ?_
    refine zr_mmin C lk_X5_152 zy_mmin zrm_2_2_0 (Nat.le_of_ble_eq_true rfl) w_1000 rfl eX5_scanDigits_61 (fun v12 nv12 => ?_)
    refine zr_putI C ff_X5_37 rfl zo_150 eX5_scanDigits_64 (fun σ13 => ?_)
    refine zr_aloadn C 0 eX5_scanDigits_67 rfl ?_
    refine zr_dup C eX5_scanDigits_68 rfl ?_
    refine zr_getI C ff_X5_28 zo_150 eX5_scanDigits_69 (fun v14 nv14 => ?_)
    refine zr_iconst C eX5_scanDigits_72 rfl ?_
    refine zr_iadd C eX5_scanDigits_73 ?_
    refine zr_putI C ff_X5_28 rfl zo_150 eX5_scanDigits_74 (fun σ15 => ?_)
    refine zr_goto C eX5_scanDigits_77 ?_
    exact ih _
theorem zqR_scanDigits (l : Launch) (G : Zg) (σ : Zm) (res : Int × Zm) (he : fR_scanDigits σ = some res) : zM l yX5_scanDigits cX5_scanDigits 1 none 2 G 294 ztt σ [.ref (zad G 150)] none res.2 := by
  refine zM_of he (by decide +kernel) (Nat.le_of_ble_eq_true rfl) (lv := [(0, .ref (zad G 150))]) rfl (fun p e s m below meth c C => ?_)
  unfold fR_scanDigits
  refine zr_aloadn C 0 eX5_scanDigits_0 rfl ?_
  refine zr_bipush (a := 20) C eX5_scanDigits_1 rfl ?_
  refine zr_putI C ff_X5_34 rfl zo_150 eX5_scanDigits_3 (fun σ1 => ?_)
  refine zr_aloadn C 0 eX5_scanDigits_6 rfl ?_
  refine zr_iconst C eX5_scanDigits_7 rfl ?_
  refine zr_putI C ff_X5_37 rfl zo_150 eX5_scanDigits_8 (fun σ2 => ?_)
  refine wR_scanDigits_11 C 5000 σ2
theorem zqR_signKind (l : Launch) (G : Zg) (σ : Zm) (x0 : Int) (n0 : zw x0 = x0) (res : Int × Zm) (he : fR_signKind σ x0 = some res) : zM l yX5_signKind cX5_signKind 1 (some .int) 0 G 294 ztt σ [.int (zI x0)] (some (.int (zI res.1))) res.2 := by
  refine zM_of he (by decide +kernel) (Nat.le_of_ble_eq_true rfl) (lv := [(0, .int (zI x0))]) rfl (fun p e s m below meth c C => ?_)
  unfold fR_signKind
  refine zr_iloadn C 0 eX5_signKind_0 rfl ?_
  refine zr_if (fun hh1 => ?_) (fun hh1 => ?_)
  · refine zr_tbl C eX5_signKind_1 35 n0 hh1 (by decide) (by decide) rfl rfl ?_
    refine zr_bipush (a := 9) C eX5_signKind_136 rfl ?_
    exact zr_iret C eX5_signKind_138
  refine zr_if (fun hh2 => ?_) (fun hh2 => ?_)
  · refine zr_tbl C eX5_signKind_1 40 n0 hh2 (by decide) (by decide) rfl rfl ?_
    refine zr_iconst C eX5_signKind_151 rfl ?_
    exact zr_iret C eX5_signKind_152
  refine zr_if (fun hh3 => ?_) (fun hh3 => ?_)
  · refine zr_tbl C eX5_signKind_1 41 n0 hh3 (by decide) (by decide) rfl rfl ?_
    refine zr_bipush (a := 15) C eX5_signKind_153 rfl ?_
    exact zr_iret C eX5_signKind_155
  refine zr_if (fun hh4 => ?_) (fun hh4 => ?_)
  · refine zr_tbl C eX5_signKind_1 42 n0 hh4 (by decide) (by decide) rfl rfl ?_
    refine zr_bipush (a := 12) C eX5_signKind_145 rfl ?_
    exact zr_iret C eX5_signKind_147
  refine zr_if (fun hh5 => ?_) (fun hh5 => ?_)
  · refine zr_tbl C eX5_signKind_1 43 n0 hh5 (by decide) (by decide) rfl rfl ?_
    refine zr_bipush (a := 10) C eX5_signKind_139 rfl ?_
    exact zr_iret C eX5_signKind_141
  refine zr_if (fun hh6 => ?_) (fun hh6 => ?_)
  · refine zr_tbl C eX5_signKind_1 45 n0 hh6 (by decide) (by decide) rfl rfl ?_
    refine zr_bipush (a := 11) C eX5_signKind_142 rfl ?_
    exact zr_iret C eX5_signKind_144
  refine zr_if (fun hh7 => ?_) (fun hh7 => ?_)
  · refine zr_tbl C eX5_signKind_1 47 n0 hh7 (by decide) (by decide) rfl rfl ?_
    refine zr_bipush (a := 13) C eX5_signKind_148 rfl ?_
    exact zr_iret C eX5_signKind_150
  refine zr_if (fun hh8 => ?_) (fun hh8 => ?_)
  · refine zr_tbl C eX5_signKind_1 59 n0 hh8 (by decide) (by decide) rfl rfl ?_
    refine zr_bipush (a := 16) C eX5_signKind_156 rfl ?_
    exact zr_iret C eX5_signKind_158
  refine zr_if (fun hh9 => ?_) (fun hh9 => ?_)
  · refine zr_tbl C eX5_signKind_1 60 n0 hh9 (by decide) (by decide) rfl rfl ?_
    refine zr_iconst C eX5_signKind_128 rfl ?_
    exact zr_iret C eX5_signKind_129
  refine zr_if (fun hh10 => ?_) (fun hh10 => ?_)
  · refine zr_tbl C eX5_signKind_1 61 n0 hh10 (by decide) (by decide) rfl rfl ?_
    refine zr_bipush (a := 8) C eX5_signKind_133 rfl ?_
    exact zr_iret C eX5_signKind_135
  refine zr_if (fun hh11 => ?_) (fun hh11 => ?_)
  · refine zr_tbl C eX5_signKind_1 62 n0 hh11 (by decide) (by decide) rfl rfl ?_
    refine zr_bipush (a := 6) C eX5_signKind_130 rfl ?_
    exact zr_iret C eX5_signKind_132
  refine zr_tblD C eX5_signKind_1 [35, 40, 41, 42, 43, 45, 47, 59, 60, 61, 62] n0 (by intro v hv; rcases (show v = 35 ∨ v = 40 ∨ v = 41 ∨ v = 42 ∨ v = 43 ∨ v = 45 ∨ v = 47 ∨ v = 59 ∨ v = 60 ∨ v = 61 ∨ v = 62 by simpa using hv) with rfl | rfl | rfl | rfl | rfl | rfl | rfl | rfl | rfl | rfl | rfl <;> assumption) (by decide +kernel) rfl ?_
  refine zr_bipush (a := 22) C eX5_signKind_159 rfl ?_
  exact zr_iret C eX5_signKind_161
theorem wR_scanSign_43 {G : Zg} {p : Program} {l : Launch} {e : Env} {s : State} {m : MethodId} {args : Array Value} {below : List Frame} {meth : Method} {c : Code} (C : zC G p s m args meth c cX5_scanSign 1 RX5 none) {res : Int × Zm} (σ : Zm) : zR G p l e (zrm 1) s m args below meth c 1 0 0 (zQm below args s G 294 ztt none res.2) 294 ztt res σ (fR_scanSign_43 σ) [(0, .ref (zad G 150))] 43 [] := by
  unfold fR_scanSign_43
  refine zr_aloadn C 0 eX5_scanSign_43 rfl ?_
  refine zr_getI C ff_X5_28 zo_150 eX5_scanSign_44 (fun v9 nv9 => ?_)
  refine zr_aloadn C 0 eX5_scanSign_47 rfl ?_
  refine zr_getI C ff_X5_18 zo_150 eX5_scanSign_48 (fun v10 nv10 => ?_)
  refine zr_icmp_ge C eX5_scanSign_51 nv9 nv10 ?_ ?_
  · exact zr_vret C eX5_scanSign_96
  refine zr_aloadn C 0 eX5_scanSign_54 rfl ?_
  refine zr_getR C ff_X5_9 rfl zo_150 rfl zf_150_0 eX5_scanSign_55 ?_
  refine zr_aloadn C 0 eX5_scanSign_58 rfl ?_
  refine zr_getI C ff_X5_28 zo_150 eX5_scanSign_59 (fun v11 nv11 => ?_)
  refine zr_iald C zo_151 zn_151 nv11 eX5_scanSign_62 (fun v12 nv12 => ?_)
  refine zr_bipush (a := 61) C eX5_scanSign_63 rfl ?_
  refine zr_icmp_ne C eX5_scanSign_65 nv12 w_61 ?_ ?_
  · exact zr_vret C eX5_scanSign_96
  refine zr_aloadn C 0 eX5_scanSign_68 rfl ?_
  refine zr_aloadn C 0 eX5_scanSign_69 rfl ?_
  refine zr_getI C ff_X5_34 zo_150 eX5_scanSign_70 (fun v13 nv13 => ?_)
  refine zr_iconst C eX5_scanSign_73 rfl ?_
  refine zr_icmp_ne C eX5_scanSign_74 nv13 w_4 ?_ ?_
  · refine zr_bipush (a := 7) C eX5_scanSign_81 rfl ?_
    refine zr_putI C ff_X5_34 rfl zo_150 eX5_scanSign_83 (fun σ14 => ?_)
    refine zr_aloadn C 0 eX5_scanSign_86 rfl ?_
    refine zr_dup C eX5_scanSign_87 rfl ?_
    refine zr_getI C ff_X5_28 zo_150 eX5_scanSign_88 (fun v15 nv15 => ?_)
    refine zr_iconst C eX5_scanSign_91 rfl ?_
    refine zr_iadd C eX5_scanSign_92 ?_
    refine zr_putI C ff_X5_28 rfl zo_150 eX5_scanSign_93 (fun σ16 => ?_)
    exact zr_vret C eX5_scanSign_96
  refine zr_iconst C eX5_scanSign_77 rfl ?_
  refine zr_goto C eX5_scanSign_78 ?_
  refine zr_putI C ff_X5_34 rfl zo_150 eX5_scanSign_83 (fun σ17 => ?_)
  refine zr_aloadn C 0 eX5_scanSign_86 rfl ?_
  refine zr_dup C eX5_scanSign_87 rfl ?_
  refine zr_getI C ff_X5_28 zo_150 eX5_scanSign_88 (fun v18 nv18 => ?_)
  refine zr_iconst C eX5_scanSign_91 rfl ?_
  refine zr_iadd C eX5_scanSign_92 ?_
  refine zr_putI C ff_X5_28 rfl zo_150 eX5_scanSign_93 (fun σ19 => ?_)
  exact zr_vret C eX5_scanSign_96
theorem zqR_scanSign (l : Launch) (G : Zg) (σ : Zm) (res : Int × Zm) (he : fR_scanSign σ = some res) : zM l yX5_scanSign cX5_scanSign 1 none 1 G 294 ztt σ [.ref (zad G 150)] none res.2 := by
  refine zM_of he (by decide +kernel) (Nat.le_of_ble_eq_true rfl) (lv := [(0, .ref (zad G 150))]) rfl (fun p e s m below meth c C => ?_)
  unfold fR_scanSign
  refine zr_aloadn C 0 eX5_scanSign_0 rfl ?_
  refine zr_aloadn C 0 eX5_scanSign_1 rfl ?_
  refine zr_getR C ff_X5_9 rfl zo_150 rfl zf_150_0 eX5_scanSign_2 ?_
  refine zr_aloadn C 0 eX5_scanSign_5 rfl ?_
  refine zr_getI C ff_X5_28 zo_150 eX5_scanSign_6 (fun v1 nv1 => ?_)
  refine zr_iald C zo_151 zn_151 nv1 eX5_scanSign_9 (fun v2 nv2 => ?_)
  refine zr_callSi C [.int (zI v2)] zy_X5_signKind zs_X5_signKind lk_X5_169 zrm_1_1_0 (fun r hr => zqR_signKind l G σ v2 nv2 r hr) rfl rfl (Nat.le_of_ble_eq_true rfl) eX5_scanSign_10 (fun v4 nv4 σ3 => ?_)
  refine zr_putI C ff_X5_34 rfl zo_150 eX5_scanSign_13 (fun σ5 => ?_)
  refine zr_aloadn C 0 eX5_scanSign_16 rfl ?_
  refine zr_dup C eX5_scanSign_17 rfl ?_
  refine zr_getI C ff_X5_28 zo_150 eX5_scanSign_18 (fun v6 nv6 => ?_)
  refine zr_iconst C eX5_scanSign_21 rfl ?_
  refine zr_iadd C eX5_scanSign_22 ?_
  refine zr_putI C ff_X5_28 rfl zo_150 eX5_scanSign_23 (fun σ7 => ?_)
  refine zr_aloadn C 0 eX5_scanSign_26 rfl ?_
  refine zr_getI C ff_X5_34 zo_150 eX5_scanSign_27 (fun v8 nv8 => ?_)
  refine zr_iconst C eX5_scanSign_30 rfl ?_
  refine zr_icmp_eq C eX5_scanSign_31 nv8 w_4 ?_ ?_
  · exact wR_scanSign_43 C σ7
  refine zr_aloadn C 0 eX5_scanSign_34 rfl ?_
  refine zr_getI C ff_X5_34 zo_150 eX5_scanSign_35 (fun v20 nv20 => ?_)
  refine zr_bipush (a := 6) C eX5_scanSign_38 rfl ?_
  refine zr_icmp_ne C eX5_scanSign_40 nv20 w_6 ?_ ?_
  · exact zr_vret C eX5_scanSign_96
  exact wR_scanSign_43 C σ7
theorem wR_scan_0 {G : Zg} {p : Program} {l : Launch} {e : Env} {s : State} {m : MethodId} {args : Array Value} {below : List Frame} {meth : Method} {c : Code} (C : zC G p s m args meth c cX5_scan 1 RX5 none) {res : Int × Zm} (K52 : Zm → Zr) (hK52 : ∀ (σ : Zm), zR G p l e (zrm 6) s m args below meth c 1 0 0 (zQm below args s G 294 ztt none res.2) 294 ztt res σ (K52 σ) [(0, .ref (zad G 150))] 52 []) : ∀ (n : Nat) (σ : Zm), zR G p l e (zrm 6) s m args below meth c 1 0 0 (zQm below args s G 294 ztt none res.2) 294 ztt res σ (fR_scan_0 n σ K52) [(0, .ref (zad G 150))] 0 []
  | 0, _ => zr_none
  | n + 1, σ => by
    have ih := fun (σ : Zm) => wR_scan_0 (l := l) (e := e) (below := below) C K52 hK52 (res := res) n σ
    rw [fR_scan_0]
    refine zr_letf (fun R0 hR0 => ?_)
    have ih : ∀ (σ : Zm), zR G p l e (zrm 6) s m args below meth c 1 0 0 (zQm below args s G 294 ztt none res.2) 294 ztt res σ (R0 σ) [(0, .ref (zad G 150))] 0 [] := by rw [hR0]; exact ih
    clear hR0
    refine zr_aloadn C 0 eX5_scan_0 rfl ?_
    refine zr_getI C ff_X5_28 zo_150 eX5_scan_1 (fun v1 nv1 => ?_)
    refine zr_aloadn C 0 eX5_scan_4 rfl ?_
    refine zr_getI C ff_X5_18 zo_150 eX5_scan_5 (fun v2 nv2 => ?_)
    refine zr_icmp_ge C eX5_scan_8 nv1 nv2 ?_ ?_
    · exact hK52 _
    refine zr_aloadn C 0 eX5_scan_11 rfl ?_
    refine zr_getR C ff_X5_9 rfl zo_150 rfl zf_150_0 eX5_scan_12 ?_
    refine zr_aloadn C 0 eX5_scan_15 rfl ?_
    refine zr_getI C ff_X5_28 zo_150 eX5_scan_16 (fun v3 nv3 => ?_)
    refine zr_iald C zo_151 zn_151 nv3 eX5_scan_19 (fun v4 nv4 => ?_)
    refine zr_bipush (a := 32) C eX5_scan_20 rfl ?_
    refine zr_icmp_eq C eX5_scan_22 nv4 w_32 ?_ ?_
    · refine zr_aloadn C 0 eX5_scan_39 rfl ?_
      refine zr_dup C eX5_scan_40 rfl ?_
      refine zr_getI C ff_X5_28 zo_150 eX5_scan_41 (fun v5 nv5 => ?_)
      refine zr_iconst C eX5_scan_44 rfl ?_
      refine zr_iadd C eX5_scan_45 ?_
      refine zr_putI C ff_X5_28 rfl zo_150 eX5_scan_46 (fun σ6 => ?_)
      refine zr_goto C eX5_scan_49 ?_
      exact ih _
    refine zr_aloadn C 0 eX5_scan_25 rfl ?_
    refine zr_getR C ff_X5_9 rfl zo_150 rfl zf_150_0 eX5_scan_26 ?_
    refine zr_aloadn C 0 eX5_scan_29 rfl ?_
    refine zr_getI C ff_X5_28 zo_150 eX5_scan_30 (fun v7 nv7 => ?_)
    refine zr_iald C zo_151 zn_151 nv7 eX5_scan_33 (fun v8 nv8 => ?_)
    refine zr_bipush (a := 10) C eX5_scan_34 rfl ?_
    refine zr_icmp_ne C eX5_scan_36 nv8 w_10 ?_ ?_
    · exact hK52 _
    refine zr_aloadn C 0 eX5_scan_39 rfl ?_
    refine zr_dup C eX5_scan_40 rfl ?_
    refine zr_getI C ff_X5_28 zo_150 eX5_scan_41 (fun v9 nv9 => ?_)
    refine zr_iconst C eX5_scan_44 rfl ?_
    refine zr_iadd C eX5_scan_45 ?_
    refine zr_putI C ff_X5_28 rfl zo_150 eX5_scan_46 (fun σ10 => ?_)
    refine zr_goto C eX5_scan_49 ?_
    exact ih _
theorem wR_scan_52 {G : Zg} {p : Program} {l : Launch} {e : Env} {s : State} {m : MethodId} {args : Array Value} {below : List Frame} {meth : Method} {c : Code} (C : zC G p s m args meth c cX5_scan 1 RX5 none) {res : Int × Zm} (σ : Zm) : zR G p l e (zrm 6) s m args below meth c 1 0 0 (zQm below args s G 294 ztt none res.2) 294 ztt res σ (fR_scan_52 σ) [(0, .ref (zad G 150))] 52 [] := by
  unfold fR_scan_52
  refine zr_aloadn C 0 eX5_scan_52 rfl ?_
  refine zr_aloadn C 0 eX5_scan_53 rfl ?_
  refine zr_getI C ff_X5_28 zo_150 eX5_scan_54 (fun v12 nv12 => ?_)
  refine zr_putI C ff_X5_31 rfl zo_150 eX5_scan_57 (fun σ13 => ?_)
  refine zr_aloadn C 0 eX5_scan_60 rfl ?_
  refine zr_getI C ff_X5_28 zo_150 eX5_scan_61 (fun v14 nv14 => ?_)
  refine zr_aloadn C 0 eX5_scan_64 rfl ?_
  refine zr_getI C ff_X5_18 zo_150 eX5_scan_65 (fun v15 nv15 => ?_)
  refine zr_icmp_lt C eX5_scan_68 nv14 nv15 ?_ ?_
  · refine zr_aloadn C 0 eX5_scan_80 rfl ?_
    refine zr_getR C ff_X5_9 rfl zo_150 rfl zf_150_0 eX5_scan_81 ?_
    refine zr_aloadn C 0 eX5_scan_84 rfl ?_
    refine zr_getI C ff_X5_28 zo_150 eX5_scan_85 (fun v16 nv16 => ?_)
    refine zr_iald C zo_151 zn_151 nv16 eX5_scan_88 (fun v17 nv17 => ?_)
    refine zr_callSi C [.int (zI v17)] zy_X5_isLetter zs_X5_isLetter lk_X5_136 zrm_6_1_1 (fun r hr => zqR_isLetter l G σ13 v17 nv17 r hr) rfl rfl (Nat.le_of_ble_eq_true rfl) eX5_scan_89 (fun v19 nv19 σ18 => ?_)
    refine zr_if_eq C eX5_scan_92 nv19 ?_ ?_
    · refine zr_aloadn C 0 eX5_scan_102 rfl ?_
      refine zr_getR C ff_X5_9 rfl zo_150 rfl zf_150_0 eX5_scan_103 ?_
      refine zr_aloadn C 0 eX5_scan_106 rfl ?_
      refine zr_getI C ff_X5_28 zo_150 eX5_scan_107 (fun v20 nv20 => ?_)
      refine zr_iald C zo_151 zn_151 nv20 eX5_scan_110 (fun v21 nv21 => ?_)
      refine zr_callSi C [.int (zI v21)] zy_X5_isDigit zs_X5_isDigit lk_X5_143 zrm_6_1_1 (fun r hr => zqR_isDigit l G σ18 v21 nv21 r hr) rfl rfl (Nat.le_of_ble_eq_true rfl) eX5_scan_111 (fun v23 nv23 σ22 => ?_)
      refine zr_if_eq C eX5_scan_114 nv23 ?_ ?_
      · refine zr_aloadn C 0 eX5_scan_124 rfl ?_
        refine zr_callVv C [] zy_X5_scanSign zv_X5_scanSign lk_X5_149 zrm_6_1_1 zo_150 (by decide) rfl (fun r hr => zqR_scanSign l G σ22 r hr) rfl rfl (Nat.le_of_ble_eq_true rfl) eX5_scan_125 (fun σ24 => ?_)
        exact zr_vret C eX5_scan_128
      refine zr_aloadn C 0 eX5_scan_117 rfl ?_
      refine zr_callVv C [] zy_X5_scanDigits zv_X5_scanDigits lk_X5_146 zrm_6_1_2 zo_150 (by decide) rfl (fun r hr => zqR_scanDigits l G σ22 r hr) rfl rfl (Nat.le_of_ble_eq_true rfl) eX5_scan_118 (fun σ25 => ?_)
      refine zr_goto C eX5_scan_121 ?_
      exact zr_vret C eX5_scan_128
    refine zr_aloadn C 0 eX5_scan_95 rfl ?_
    refine zr_callVv C [] zy_X5_scanWord zv_X5_scanWord lk_X5_140 zrm_6_2_5 zo_150 (by decide) rfl (fun r hr => zqR_scanWord l G σ18 r hr) rfl rfl (Nat.le_of_ble_eq_true rfl) eX5_scan_96 (fun σ26 => ?_)
    refine zr_goto C eX5_scan_99 ?_
    exact zr_vret C eX5_scan_128
  refine zr_aloadn C 0 eX5_scan_71 rfl ?_
  refine zr_bipush (a := 21) C eX5_scan_72 rfl ?_
  refine zr_putI C ff_X5_34 rfl zo_150 eX5_scan_74 (fun σ27 => ?_)
  refine zr_goto C eX5_scan_77 ?_
  exact zr_vret C eX5_scan_128
theorem zqR_scan (l : Launch) (G : Zg) (σ : Zm) (res : Int × Zm) (he : fR_scan σ = some res) : zM l yX5_scan cX5_scan 1 none 6 G 294 ztt σ [.ref (zad G 150)] none res.2 := by
  refine zM_of he (by decide +kernel) (Nat.le_of_ble_eq_true rfl) (lv := [(0, .ref (zad G 150))]) rfl (fun p e s m below meth c C => ?_)
  unfold fR_scan
  refine wR_scan_0 C _ ?_ 5000 σ
  intro σ11
  exact wR_scan_52 C σ11
theorem zqR_refuse (l : Launch) (G : Zg) (σ : Zm) (x1 : Int) (n1 : zw x1 = x1) (res : Int × Zm) (he : fR_refuse σ x1 = some res) : zM l yX5_refuse cX5_refuse 2 none 0 G 294 ztt σ [.ref (zad G 150), .int (zI x1)] none res.2 := by
  refine zM_of he (by decide +kernel) (Nat.le_of_ble_eq_true rfl) (lv := [(0, .ref (zad G 150)), (1, .int (zI x1))]) rfl (fun p e s m below meth c C => ?_)
  unfold fR_refuse
  refine zr_aloadn C 0 eX5_refuse_0 rfl ?_
  refine zr_iloadn C 1 eX5_refuse_1 rfl ?_
  refine zr_putI C ff_X5_22 rfl zo_150 eX5_refuse_2 (fun σ1 => ?_)
  refine zr_aloadn C 0 eX5_refuse_5 rfl ?_
  refine zr_aloadn C 0 eX5_refuse_6 rfl ?_
  refine zr_getI C ff_X5_31 zo_150 eX5_refuse_7 (fun v2 nv2 => ?_)
  refine zr_putI C ff_X5_25 rfl zo_150 eX5_refuse_10 (fun σ3 => ?_)
  exact zr_vret C eX5_refuse_13
theorem wR_takeSort_83 {G : Zg} {p : Program} {l : Launch} {e : Env} {s : State} {m : MethodId} {args : Array Value} {below : List Frame} {meth : Method} {c : Code} (C : zC G p s m args meth c cX5_takeSort 2 RX5 none) {res : Int × Zm} (o1 : Nat) (h1 : zin 294 o1 6) (σ : Zm) : zR G p l e (zrm 1) s m args below meth c 2 0 0 (zQm below args s G 294 ztt none res.2) 294 ztt res σ (fR_takeSort_83 o1 σ) [(0, .ref (zad G 150)), (1, .ref (zad G o1))] 83 [] := by
  unfold fR_takeSort_83
  refine zr_aloadn C 0 eX5_takeSort_83 rfl ?_
  refine zr_iconst C eX5_takeSort_84 rfl ?_
  refine zr_putZ C ff_X5_50 rfl zo_150 (Or.inl rfl) eX5_takeSort_85 (fun σ8 => ?_)
  refine zr_aloadn C 0 eX5_takeSort_88 rfl ?_
  refine zr_iconst C eX5_takeSort_89 rfl ?_
  refine zr_putI C ff_X5_53 rfl zo_150 eX5_takeSort_90 (fun σ9 => ?_)
  refine zr_aloadn C 0 eX5_takeSort_93 rfl ?_
  refine zr_iconst C eX5_takeSort_94 rfl ?_
  refine zr_putI C ff_X5_56 rfl zo_150 eX5_takeSort_95 (fun σ10 => ?_)
  refine zr_aloadn C 0 eX5_takeSort_98 rfl ?_
  refine zr_iconst C eX5_takeSort_99 rfl ?_
  refine zr_putI C ff_X5_59 rfl zo_150 eX5_takeSort_100 (fun σ11 => ?_)
  refine zr_aloadn C 1 eX5_takeSort_103 rfl ?_
  refine zr_aloadn C 0 eX5_takeSort_104 rfl ?_
  refine zr_getI C ff_X5_43 zo_150 eX5_takeSort_105 (fun v12 nv12 => ?_)
  refine zr_callVv C [.int (zI v12)] zy_X6_open zv_X6_open lk_X5_90 zrm_1_2_0 h1 (by decide) rfl (fun r hr => zqU_open l G σ11 o1 v12 h1 nv12 r hr) rfl rfl (Nat.le_of_ble_eq_true rfl) eX5_takeSort_108 (fun σ13 => ?_)
  refine zr_aloadn C 0 eX5_takeSort_111 rfl ?_
  refine zr_aloadn C 0 eX5_takeSort_112 rfl ?_
  refine zr_getZ C ff_X5_46 zo_150 eX5_takeSort_113 (fun v14 nv14 => ?_)
  refine zr_if_eq C eX5_takeSort_116 nv14 ?_ ?_
  · refine zr_iconst C eX5_takeSort_123 rfl ?_
    refine zr_putI C ff_X5_40 rfl zo_150 eX5_takeSort_124 (fun σ15 => ?_)
    exact zr_vret C eX5_takeSort_127
  refine zr_iconst C eX5_takeSort_119 rfl ?_
  refine zr_goto C eX5_takeSort_120 ?_
  refine zr_putI C ff_X5_40 rfl zo_150 eX5_takeSort_124 (fun σ16 => ?_)
  exact zr_vret C eX5_takeSort_127
theorem zqR_takeSort (l : Launch) (G : Zg) (σ : Zm) (o1 : Nat) (h1 : zin 294 o1 6) (res : Int × Zm) (he : fR_takeSort σ o1 = some res) : zM l yX5_takeSort cX5_takeSort 2 none 1 G 294 ztt σ [.ref (zad G 150), .ref (zad G o1)] none res.2 := by
  refine zM_of he (by decide +kernel) (Nat.le_of_ble_eq_true rfl) (lv := [(0, .ref (zad G 150)), (1, .ref (zad G o1))]) rfl (fun p e s m below meth c C => ?_)
  unfold fR_takeSort
  refine zr_aloadn C 0 eX5_takeSort_0 rfl ?_
  refine zr_getI C ff_X5_34 zo_150 eX5_takeSort_1 (fun v1 nv1 => ?_)
  refine zr_bipush (a := 21) C eX5_takeSort_4 rfl ?_
  refine zr_icmp_ne C eX5_takeSort_6 nv1 w_21 ?_ ?_
  · refine zr_aloadn C 0 eX5_takeSort_17 rfl ?_
    refine zr_getI C ff_X5_34 zo_150 eX5_takeSort_18 (fun v2 nv2 => ?_)
    refine zr_bipush (a := 18) C eX5_takeSort_21 rfl ?_
    refine zr_icmp_eq C eX5_takeSort_23 nv2 w_18 ?_ ?_
    · refine zr_aloadn C 1 eX5_takeSort_34 rfl ?_
      refine zr_getI C ff_X5_62 h1 eX5_takeSort_35 (fun v3 nv3 => ?_)
      refine zr_bipush (a := 10) C eX5_takeSort_38 rfl ?_
      refine zr_icmp_lt C eX5_takeSort_40 nv3 w_10 ?_ ?_
      · refine zr_aloadn C 0 eX5_takeSort_51 rfl ?_
        refine zr_aloadn C 0 eX5_takeSort_52 rfl ?_
        refine zr_getI C ff_X5_37 zo_150 eX5_takeSort_53 (fun v4 nv4 => ?_)
        refine zr_putI C ff_X5_43 rfl zo_150 eX5_takeSort_56 (fun σ5 => ?_)
        refine zr_aloadn C 0 eX5_takeSort_59 rfl ?_
        refine zr_aloadn C 0 eX5_takeSort_60 rfl ?_
        refine zr_getI C ff_X5_43 zo_150 eX5_takeSort_61 (fun v6 nv6 => ?_)
        refine zr_if_eq C eX5_takeSort_64 nv6 ?_ ?_
        · refine zr_iconst C eX5_takeSort_75 rfl ?_
          refine zr_goto C eX5_takeSort_76 ?_
          refine zr_putZ C ff_X5_46 rfl zo_150 (Or.inr rfl) eX5_takeSort_80 (fun σ7 => ?_)
          exact wR_takeSort_83 C o1 h1 σ7
        refine zr_aloadn C 0 eX5_takeSort_67 rfl ?_
        refine zr_getI C ff_X5_43 zo_150 eX5_takeSort_68 (fun v17 nv17 => ?_)
        refine zr_iconst C eX5_takeSort_71 rfl ?_
        refine zr_icmp_ne C eX5_takeSort_72 nv17 w_1 ?_ ?_
        · refine zr_iconst C eX5_takeSort_79 rfl ?_
          refine zr_putZ C ff_X5_46 rfl zo_150 (Or.inl rfl) eX5_takeSort_80 (fun σ18 => ?_)
          exact wR_takeSort_83 C o1 h1 σ18
        refine zr_iconst C eX5_takeSort_75 rfl ?_
        refine zr_goto C eX5_takeSort_76 ?_
        refine zr_putZ C ff_X5_46 rfl zo_150 (Or.inr rfl) eX5_takeSort_80 (fun σ19 => ?_)
        exact wR_takeSort_83 C o1 h1 σ19
      refine zr_aloadn C 0 eX5_takeSort_43 rfl ?_
      refine zr_iconst C eX5_takeSort_44 rfl ?_
      refine zr_callVv C [.int (zI 5)] zy_X5_refuse zv_X5_refuse lk_X5_86 zrm_1_2_0 zo_150 (by decide) rfl (fun r hr => zqR_refuse l G σ 5 w_5 r hr) rfl rfl (Nat.le_of_ble_eq_true rfl) eX5_takeSort_45 (fun σ20 => ?_)
      refine zr_goto C eX5_takeSort_48 ?_
      exact zr_vret C eX5_takeSort_127
    refine zr_aloadn C 0 eX5_takeSort_26 rfl ?_
    refine zr_iconst C eX5_takeSort_27 rfl ?_
    refine zr_callVv C [.int (zI 1)] zy_X5_refuse zv_X5_refuse lk_X5_86 zrm_1_2_0 zo_150 (by decide) rfl (fun r hr => zqR_refuse l G σ 1 w_1 r hr) rfl rfl (Nat.le_of_ble_eq_true rfl) eX5_takeSort_28 (fun σ21 => ?_)
    refine zr_goto C eX5_takeSort_31 ?_
    exact zr_vret C eX5_takeSort_127
  refine zr_aloadn C 0 eX5_takeSort_9 rfl ?_
  refine zr_iconst C eX5_takeSort_10 rfl ?_
  refine zr_putI C ff_X5_40 rfl zo_150 eX5_takeSort_11 (fun σ22 => ?_)
  refine zr_goto C eX5_takeSort_14 ?_
  exact zr_vret C eX5_takeSort_127
theorem zqR_takeOperand (l : Launch) (G : Zg) (σ : Zm) (o1 : Nat) (x2 : Int) (h1 : zin 294 o1 6) (n2 : zw x2 = x2) (res : Int × Zm) (he : fR_takeOperand σ o1 x2 = some res) : zM l yX5_takeOperand cX5_takeOperand 3 none 1 G 294 ztt σ [.ref (zad G 150), .ref (zad G o1), .int (zI x2)] none res.2 := by
  refine zM_of he (by decide +kernel) (Nat.le_of_ble_eq_true rfl) (lv := [(0, .ref (zad G 150)), (1, .ref (zad G o1)), (2, .int (zI x2))]) rfl (fun p e s m below meth c C => ?_)
  unfold fR_takeOperand
  refine zr_aloadn C 1 eX5_takeOperand_0 rfl ?_
  refine zr_iloadn C 2 eX5_takeOperand_1 rfl ?_
  refine zr_callVv C [.int (zI x2)] zy_X6_emit zv_X6_emit lk_X5_109 zrm_1_2_0 h1 (by decide) rfl (fun r hr => zqU_emit l G σ o1 x2 h1 n2 r hr) rfl rfl (Nat.le_of_ble_eq_true rfl) eX5_takeOperand_2 (fun σ1 => ?_)
  refine zr_aloadn C 0 eX5_takeOperand_5 rfl ?_
  refine zr_iconst C eX5_takeOperand_6 rfl ?_
  refine zr_putI C ff_X5_40 rfl zo_150 eX5_takeOperand_7 (fun σ2 => ?_)
  exact zr_vret C eX5_takeOperand_10
theorem zqR_isNameOfSort (l : Launch) (G : Zg) (σ : Zm) (res : Int × Zm) (he : fR_isNameOfSort σ = some res) : zM l yX5_isNameOfSort cX5_isNameOfSort 1 (some .boolean) 1 G 294 ztt σ [.ref (zad G 150)] (some (.int (zI res.1))) res.2 := by
  refine zM_of he (by decide +kernel) (Nat.le_of_ble_eq_true rfl) (lv := [(0, .ref (zad G 150))]) rfl (fun p e s m below meth c C => ?_)
  unfold fR_isNameOfSort
  refine zr_aloadn C 0 eX5_isNameOfSort_0 rfl ?_
  refine zr_getI C ff_X5_43 zo_150 eX5_isNameOfSort_1 (fun v1 nv1 => ?_)
  refine zr_if (fun hh2 => ?_) (fun hh2 => ?_)
  · refine zr_lkp C eX5_isNameOfSort_4 (by decide) 0 nv1 hh2 rfl rfl ?_
    refine zr_aloadn C 0 eX5_isNameOfSort_32 rfl ?_
    refine zr_getI C ff_X5_37 zo_150 eX5_isNameOfSort_33 (fun v3 nv3 => ?_)
    refine zr_iconst C eX5_isNameOfSort_36 rfl ?_
    refine zr_bipush (a := 8) C eX5_isNameOfSort_37 rfl ?_
    refine zr_callSi C [.int (zI v3), .int (zI 0), .int (zI 8)] zy_X9_within zs_X9_within lk_X5_105 zrm_1_3_0 (fun r hr => zqX_within l G σ v3 0 8 nv3 w_0 w_8 r hr) rfl rfl (Nat.le_of_ble_eq_true rfl) eX5_isNameOfSort_39 (fun v5 nv5 σ4 => ?_)
    exact zr_zretg C eX5_isNameOfSort_42
  refine zr_if (fun hh6 => ?_) (fun hh6 => ?_)
  · refine zr_lkp C eX5_isNameOfSort_4 (by decide) 1 nv1 hh6 rfl rfl ?_
    refine zr_aloadn C 0 eX5_isNameOfSort_43 rfl ?_
    refine zr_getI C ff_X5_37 zo_150 eX5_isNameOfSort_44 (fun v7 nv7 => ?_)
    refine zr_bipush (a := 8) C eX5_isNameOfSort_47 rfl ?_
    refine zr_bipush (a := 12) C eX5_isNameOfSort_49 rfl ?_
    refine zr_callSi C [.int (zI v7), .int (zI 8), .int (zI 12)] zy_X9_within zs_X9_within lk_X5_105 zrm_1_3_0 (fun r hr => zqX_within l G σ v7 8 12 nv7 w_8 w_12 r hr) rfl rfl (Nat.le_of_ble_eq_true rfl) eX5_isNameOfSort_51 (fun v9 nv9 σ8 => ?_)
    exact zr_zretg C eX5_isNameOfSort_54
  refine zr_lkpD C eX5_isNameOfSort_4 (by decide) nv1 (by intro v hv; rcases (show v = 0 ∨ v = 1 by simpa using hv) with rfl | rfl <;> assumption) rfl ?_
  refine zr_aloadn C 0 eX5_isNameOfSort_55 rfl ?_
  refine zr_getI C ff_X5_37 zo_150 eX5_isNameOfSort_56 (fun v10 nv10 => ?_)
  refine zr_bipush (a := 13) C eX5_isNameOfSort_59 rfl ?_
  refine zr_bipush (a := 20) C eX5_isNameOfSort_61 rfl ?_
  refine zr_callSi C [.int (zI v10), .int (zI 13), .int (zI 20)] zy_X9_within zs_X9_within lk_X5_105 zrm_1_3_0 (fun r hr => zqX_within l G σ v10 13 20 nv10 w_13 w_20 r hr) rfl rfl (Nat.le_of_ble_eq_true rfl) eX5_isNameOfSort_63 (fun v12 nv12 σ11 => ?_)
  exact zr_zretg C eX5_isNameOfSort_66
theorem zqR_hold (l : Launch) (G : Zg) (σ : Zm) (x1 : Int) (n1 : zw x1 = x1) (res : Int × Zm) (he : fR_hold σ x1 = some res) : zM l yX5_hold cX5_hold 2 none 0 G 294 ztt σ [.ref (zad G 150), .int (zI x1)] none res.2 := by
  refine zM_of he (by decide +kernel) (Nat.le_of_ble_eq_true rfl) (lv := [(0, .ref (zad G 150)), (1, .int (zI x1))]) rfl (fun p e s m below meth c C => ?_)
  unfold fR_hold
  refine zr_aloadn C 0 eX5_hold_0 rfl ?_
  refine zr_getI C ff_X5_53 zo_150 eX5_hold_1 (fun v1 nv1 => ?_)
  refine zr_aloadn C 0 eX5_hold_4 rfl ?_
  refine zr_getR C ff_X5_15 rfl zo_150 rfl zf_150_1 eX5_hold_5 ?_
  refine zr_alen (A := 300) C zo_152 (by decide) zn_152 rfl eX5_hold_8 ?_
  refine zr_icmp_ge C eX5_hold_9 nv1 w_300 ?_ ?_
  · exact zr_vret C eX5_hold_32
  refine zr_aloadn C 0 eX5_hold_12 rfl ?_
  refine zr_getR C ff_X5_15 rfl zo_150 rfl zf_150_1 eX5_hold_13 ?_
  refine zr_aloadn C 0 eX5_hold_16 rfl ?_
  refine zr_getI C ff_X5_53 zo_150 eX5_hold_17 (fun v2 nv2 => ?_)
  refine zr_iloadn C 1 eX5_hold_20 rfl ?_
  refine zr_iast C zo_152 zn_152 nv2 eX5_hold_21 (fun σ3 => ?_)
  refine zr_aloadn C 0 eX5_hold_22 rfl ?_
  refine zr_dup C eX5_hold_23 rfl ?_
  refine zr_getI C ff_X5_53 zo_150 eX5_hold_24 (fun v4 nv4 => ?_)
  refine zr_iconst C eX5_hold_27 rfl ?_
  refine zr_iadd C eX5_hold_28 ?_
  refine zr_putI C ff_X5_53 rfl zo_150 eX5_hold_29 (fun σ5 => ?_)
  exact zr_vret C eX5_hold_32
theorem zqR_nest (l : Launch) (G : Zg) (σ : Zm) (x1 : Int) (x2 : Int) (n1 : zw x1 = x1) (n2 : zw x2 = x2) (res : Int × Zm) (he : fR_nest σ x1 x2 = some res) : zM l yX5_nest cX5_nest 3 none 1 G 294 ztt σ [.ref (zad G 150), .int (zI x1), .int (zI x2)] none res.2 := by
  refine zM_of he (by decide +kernel) (Nat.le_of_ble_eq_true rfl) (lv := [(0, .ref (zad G 150)), (1, .int (zI x1)), (2, .int (zI x2))]) rfl (fun p e s m below meth c C => ?_)
  unfold fR_nest
  refine zr_aloadn C 0 eX5_nest_0 rfl ?_
  refine zr_getI C ff_X5_59 zo_150 eX5_nest_1 (fun v1 nv1 => ?_)
  refine zr_bipush (a := 8) C eX5_nest_4 rfl ?_
  refine zr_icmp_lt C eX5_nest_6 nv1 w_8 ?_ ?_
  · refine zr_aloadn C 0 eX5_nest_15 rfl ?_
    refine zr_dup C eX5_nest_16 rfl ?_
    refine zr_getI C ff_X5_59 zo_150 eX5_nest_17 (fun v2 nv2 => ?_)
    refine zr_iconst C eX5_nest_20 rfl ?_
    refine zr_iadd C eX5_nest_21 ?_
    refine zr_putI C ff_X5_59 rfl zo_150 eX5_nest_22 (fun σ3 => ?_)
    refine zr_iloadn C 1 eX5_nest_25 rfl ?_
    refine zr_if_ne C eX5_nest_26 n1 ?_ ?_
    · refine zr_aloadn C 0 eX5_nest_39 rfl ?_
      refine zr_iloadn C 1 eX5_nest_40 rfl ?_
      refine zr_callVv C [.int (zI x1)] zy_X5_hold zv_X5_hold lk_X5_112 zrm_1_2_0 zo_150 (by decide) rfl (fun r hr => zqR_hold l G σ3 x1 n1 r hr) rfl rfl (Nat.le_of_ble_eq_true rfl) eX5_nest_41 (fun σ4 => ?_)
      refine zr_aloadn C 0 eX5_nest_44 rfl ?_
      refine zr_iloadn C 2 eX5_nest_45 rfl ?_
      refine zr_putI C ff_X5_40 rfl zo_150 eX5_nest_46 (fun σ5 => ?_)
      exact zr_vret C eX5_nest_49
    refine zr_aloadn C 0 eX5_nest_29 rfl ?_
    refine zr_dup C eX5_nest_30 rfl ?_
    refine zr_getI C ff_X5_56 zo_150 eX5_nest_31 (fun v6 nv6 => ?_)
    refine zr_iconst C eX5_nest_34 rfl ?_
    refine zr_iadd C eX5_nest_35 ?_
    refine zr_putI C ff_X5_56 rfl zo_150 eX5_nest_36 (fun σ7 => ?_)
    refine zr_aloadn C 0 eX5_nest_39 rfl ?_
    refine zr_iloadn C 1 eX5_nest_40 rfl ?_
    refine zr_callVv C [.int (zI x1)] zy_X5_hold zv_X5_hold lk_X5_112 zrm_1_2_0 zo_150 (by decide) rfl (fun r hr => zqR_hold l G σ7 x1 n1 r hr) rfl rfl (Nat.le_of_ble_eq_true rfl) eX5_nest_41 (fun σ8 => ?_)
    refine zr_aloadn C 0 eX5_nest_44 rfl ?_
    refine zr_iloadn C 2 eX5_nest_45 rfl ?_
    refine zr_putI C ff_X5_40 rfl zo_150 eX5_nest_46 (fun σ9 => ?_)
    exact zr_vret C eX5_nest_49
  refine zr_aloadn C 0 eX5_nest_9 rfl ?_
  refine zr_iconst C eX5_nest_10 rfl ?_
  refine zr_callVv C [.int (zI 3)] zy_X5_refuse zv_X5_refuse lk_X5_86 zrm_1_2_0 zo_150 (by decide) rfl (fun r hr => zqR_refuse l G σ 3 w_3 r hr) rfl rfl (Nat.le_of_ble_eq_true rfl) eX5_nest_11 (fun σ10 => ?_)
  exact zr_vret C eX5_nest_14
theorem zqR_takeOne (l : Launch) (G : Zg) (σ : Zm) (o1 : Nat) (h1 : zin 294 o1 6) (res : Int × Zm) (he : fR_takeOne σ o1 = some res) : zM l yX5_takeOne cX5_takeOne 2 none 2 G 294 ztt σ [.ref (zad G 150), .ref (zad G o1)] none res.2 := by
  refine zM_of he (by decide +kernel) (Nat.le_of_ble_eq_true rfl) (lv := [(0, .ref (zad G 150)), (1, .ref (zad G o1))]) rfl (fun p e s m below meth c C => ?_)
  unfold fR_takeOne
  refine zr_aloadn C 0 eX5_takeOne_0 rfl ?_
  refine zr_getI C ff_X5_34 zo_150 eX5_takeOne_1 (fun v1 nv1 => ?_)
  refine zr_if (fun hh2 => ?_) (fun hh2 => ?_)
  · refine zr_lkp C eX5_takeOne_4 (by decide) 0 nv1 hh2 rfl rfl ?_
    refine zr_aloadn C 0 eX5_takeOne_117 rfl ?_
    refine zr_aloadn C 0 eX5_takeOne_118 rfl ?_
    refine zr_getI C ff_X5_34 zo_150 eX5_takeOne_119 (fun v3 nv3 => ?_)
    refine zr_bipush (a := 11) C eX5_takeOne_122 rfl ?_
    refine zr_icmp_ne C eX5_takeOne_124 nv3 w_11 ?_ ?_
    · refine zr_iconst C eX5_takeOne_132 rfl ?_
      refine zr_iconst C eX5_takeOne_133 rfl ?_
      refine zr_callVv C [.int (zI 0), .int (zI 2)] zy_X5_nest zv_X5_nest lk_X5_101 zrm_2_3_1 zo_150 (by decide) rfl (fun r hr => zqR_nest l G σ 0 2 w_0 w_2 r hr) rfl rfl (Nat.le_of_ble_eq_true rfl) eX5_takeOne_134 (fun σ4 => ?_)
      refine zr_goto C eX5_takeOne_137 ?_
      exact zr_vret C eX5_takeOne_170
    refine zr_bipush (a := 14) C eX5_takeOne_127 rfl ?_
    refine zr_goto C eX5_takeOne_129 ?_
    refine zr_iconst C eX5_takeOne_133 rfl ?_
    refine zr_callVv C [.int (zI 14), .int (zI 2)] zy_X5_nest zv_X5_nest lk_X5_101 zrm_2_3_1 zo_150 (by decide) rfl (fun r hr => zqR_nest l G σ 14 2 w_14 w_2 r hr) rfl rfl (Nat.le_of_ble_eq_true rfl) eX5_takeOne_134 (fun σ5 => ?_)
    refine zr_goto C eX5_takeOne_137 ?_
    exact zr_vret C eX5_takeOne_170
  refine zr_if (fun hh6 => ?_) (fun hh6 => ?_)
  · refine zr_lkp C eX5_takeOne_4 (by decide) 3 nv1 hh6 rfl rfl ?_
    refine zr_aloadn C 0 eX5_takeOne_140 rfl ?_
    refine zr_getI C ff_X5_40 zo_150 eX5_takeOne_141 (fun v7 nv7 => ?_)
    refine zr_iconst C eX5_takeOne_144 rfl ?_
    refine zr_icmp_eq C eX5_takeOne_145 nv7 w_1 ?_ ?_
    · refine zr_aloadn C 0 eX5_takeOne_156 rfl ?_
      refine zr_iconst C eX5_takeOne_157 rfl ?_
      refine zr_iconst C eX5_takeOne_158 rfl ?_
      refine zr_callVv C [.int (zI 3), .int (zI 1)] zy_X5_nest zv_X5_nest lk_X5_101 zrm_2_3_1 zo_150 (by decide) rfl (fun r hr => zqR_nest l G σ 3 1 w_3 w_1 r hr) rfl rfl (Nat.le_of_ble_eq_true rfl) eX5_takeOne_159 (fun σ8 => ?_)
      refine zr_goto C eX5_takeOne_162 ?_
      exact zr_vret C eX5_takeOne_170
    refine zr_aloadn C 0 eX5_takeOne_148 rfl ?_
    refine zr_iconst C eX5_takeOne_149 rfl ?_
    refine zr_callVv C [.int (zI 1)] zy_X5_refuse zv_X5_refuse lk_X5_86 zrm_2_2_0 zo_150 (by decide) rfl (fun r hr => zqR_refuse l G σ 1 w_1 r hr) rfl rfl (Nat.le_of_ble_eq_true rfl) eX5_takeOne_150 (fun σ9 => ?_)
    refine zr_goto C eX5_takeOne_153 ?_
    exact zr_vret C eX5_takeOne_170
  refine zr_if (fun hh10 => ?_) (fun hh10 => ?_)
  · refine zr_lkp C eX5_takeOne_4 (by decide) 11 nv1 hh10 rfl rfl ?_
    refine zr_aloadn C 0 eX5_takeOne_117 rfl ?_
    refine zr_aloadn C 0 eX5_takeOne_118 rfl ?_
    refine zr_getI C ff_X5_34 zo_150 eX5_takeOne_119 (fun v11 nv11 => ?_)
    refine zr_bipush (a := 11) C eX5_takeOne_122 rfl ?_
    refine zr_icmp_ne C eX5_takeOne_124 nv11 w_11 ?_ ?_
    · refine zr_iconst C eX5_takeOne_132 rfl ?_
      refine zr_iconst C eX5_takeOne_133 rfl ?_
      refine zr_callVv C [.int (zI 0), .int (zI 2)] zy_X5_nest zv_X5_nest lk_X5_101 zrm_2_3_1 zo_150 (by decide) rfl (fun r hr => zqR_nest l G σ 0 2 w_0 w_2 r hr) rfl rfl (Nat.le_of_ble_eq_true rfl) eX5_takeOne_134 (fun σ12 => ?_)
      refine zr_goto C eX5_takeOne_137 ?_
      exact zr_vret C eX5_takeOne_170
    refine zr_bipush (a := 14) C eX5_takeOne_127 rfl ?_
    refine zr_goto C eX5_takeOne_129 ?_
    refine zr_iconst C eX5_takeOne_133 rfl ?_
    refine zr_callVv C [.int (zI 14), .int (zI 2)] zy_X5_nest zv_X5_nest lk_X5_101 zrm_2_3_1 zo_150 (by decide) rfl (fun r hr => zqR_nest l G σ 14 2 w_14 w_2 r hr) rfl rfl (Nat.le_of_ble_eq_true rfl) eX5_takeOne_134 (fun σ13 => ?_)
    refine zr_goto C eX5_takeOne_137 ?_
    exact zr_vret C eX5_takeOne_170
  refine zr_if (fun hh14 => ?_) (fun hh14 => ?_)
  · refine zr_lkp C eX5_takeOne_4 (by decide) 19 nv1 hh14 rfl rfl ?_
    refine zr_aloadn C 0 eX5_takeOne_86 rfl ?_
    refine zr_callVi C [] zy_X5_isNameOfSort zv_X5_isNameOfSort lk_X5_97 zrm_2_1_1 zo_150 (by decide) rfl (fun r hr => zqR_isNameOfSort l G σ r hr) rfl rfl (Nat.le_of_ble_eq_true rfl) eX5_takeOne_87 (fun v16 nv16 σ15 => ?_)
    refine zr_if_ne C eX5_takeOne_90 nv16 ?_ ?_
    · refine zr_aloadn C 0 eX5_takeOne_101 rfl ?_
      refine zr_aloadn C 1 eX5_takeOne_102 rfl ?_
      refine zr_sipush (a := 1000) C eX5_takeOne_103 rfl ?_
      refine zr_aloadn C 0 eX5_takeOne_106 rfl ?_
      refine zr_getI C ff_X5_37 zo_150 eX5_takeOne_107 (fun v17 nv17 => ?_)
      refine zr_iadd C eX5_takeOne_110 ?_
      refine zr_callVv C [.ref (zad G o1), .int (zI (zw (1000 + v17)))] zy_X5_takeOperand zv_X5_takeOperand lk_X5_93 zrm_2_3_1 zo_150 (by decide) rfl (fun r hr => zqR_takeOperand l G σ15 o1 (zw (1000 + v17)) h1 (zw_w (1000 + v17)) r hr) rfl (zs_i (zI_w (1000 + v17)).symm (zs_k rfl)) (Nat.le_of_ble_eq_true rfl) eX5_takeOne_111 (fun σ18 => ?_)
      refine zr_goto C eX5_takeOne_114 ?_
      exact zr_vret C eX5_takeOne_170
    refine zr_aloadn C 0 eX5_takeOne_93 rfl ?_
    refine zr_iconst C eX5_takeOne_94 rfl ?_
    refine zr_callVv C [.int (zI 4)] zy_X5_refuse zv_X5_refuse lk_X5_86 zrm_2_2_0 zo_150 (by decide) rfl (fun r hr => zqR_refuse l G σ15 4 w_4 r hr) rfl rfl (Nat.le_of_ble_eq_true rfl) eX5_takeOne_95 (fun σ19 => ?_)
    refine zr_goto C eX5_takeOne_98 ?_
    exact zr_vret C eX5_takeOne_170
  refine zr_if (fun hh20 => ?_) (fun hh20 => ?_)
  · refine zr_lkp C eX5_takeOne_4 (by decide) 20 nv1 hh20 rfl rfl ?_
    refine zr_aloadn C 0 eX5_takeOne_56 rfl ?_
    refine zr_getI C ff_X5_37 zo_150 eX5_takeOne_57 (fun v21 nv21 => ?_)
    refine zr_sipush (a := 999) C eX5_takeOne_60 rfl ?_
    refine zr_icmp_le C eX5_takeOne_63 nv21 w_999 ?_ ?_
    · refine zr_aloadn C 0 eX5_takeOne_74 rfl ?_
      refine zr_aloadn C 1 eX5_takeOne_75 rfl ?_
      refine zr_aloadn C 0 eX5_takeOne_76 rfl ?_
      refine zr_getI C ff_X5_37 zo_150 eX5_takeOne_77 (fun v22 nv22 => ?_)
      refine zr_callVv C [.ref (zad G o1), .int (zI v22)] zy_X5_takeOperand zv_X5_takeOperand lk_X5_93 zrm_2_3_1 zo_150 (by decide) rfl (fun r hr => zqR_takeOperand l G σ o1 v22 h1 nv22 r hr) rfl rfl (Nat.le_of_ble_eq_true rfl) eX5_takeOne_80 (fun σ23 => ?_)
      refine zr_goto C eX5_takeOne_83 ?_
      exact zr_vret C eX5_takeOne_170
    refine zr_aloadn C 0 eX5_takeOne_66 rfl ?_
    refine zr_iconst C eX5_takeOne_67 rfl ?_
    refine zr_callVv C [.int (zI 2)] zy_X5_refuse zv_X5_refuse lk_X5_86 zrm_2_2_0 zo_150 (by decide) rfl (fun r hr => zqR_refuse l G σ 2 w_2 r hr) rfl rfl (Nat.le_of_ble_eq_true rfl) eX5_takeOne_68 (fun σ24 => ?_)
    refine zr_goto C eX5_takeOne_71 ?_
    exact zr_vret C eX5_takeOne_170
  refine zr_lkpD C eX5_takeOne_4 (by decide) nv1 (by intro v hv; rcases (show v = 0 ∨ v = 3 ∨ v = 11 ∨ v = 19 ∨ v = 20 by simpa using hv) with rfl | rfl | rfl | rfl | rfl <;> assumption) rfl ?_
  refine zr_aloadn C 0 eX5_takeOne_165 rfl ?_
  refine zr_iconst C eX5_takeOne_166 rfl ?_
  refine zr_callVv C [.int (zI 1)] zy_X5_refuse zv_X5_refuse lk_X5_86 zrm_2_2_0 zo_150 (by decide) rfl (fun r hr => zqR_refuse l G σ 1 w_1 r hr) rfl rfl (Nat.le_of_ble_eq_true rfl) eX5_takeOne_167 (fun σ25 => ?_)
  exact zr_vret C eX5_takeOne_170
theorem wR_release_53 {G : Zg} {p : Program} {l : Launch} {e : Env} {s : State} {m : MethodId} {args : Array Value} {below : List Frame} {meth : Method} {c : Code} (C : zC G p s m args meth c cX5_release 5 RX5 none) {res : Int × Zm} (R0 : Nat → Int → Int → Zm → Zr) (ih : ∀ (o1 : Nat) (x2 : Int) (x3 : Int) (h1 : zin 294 o1 6) (n2 : zw x2 = x2) (n3 : zw x3 = x3) (σ : Zm), zR G p l e (zrm 1) s m args below meth c 5 0 0 (zQm below args s G 294 ztt none res.2) 294 ztt res σ (R0 o1 x2 x3 σ) [(0, .ref (zad G 150)), (1, .ref (zad G o1)), (2, .int (zI x2)), (3, .int (zI x3))] 7 []) (o1 : Nat) (x2 : Int) (x3 : Int) (x4 : Int) (h1 : zin 294 o1 6) (n2 : zw x2 = x2) (n3 : zw x3 = x3) (n4 : zw x4 = x4) (σ : Zm) : zR G p l e (zrm 1) s m args below meth c 5 0 0 (zQm below args s G 294 ztt none res.2) 294 ztt res σ (fR_release_53 R0 o1 x2 x3 x4 σ) [(0, .ref (zad G 150)), (1, .ref (zad G o1)), (2, .int (zI x2)), (3, .int (zI x3)), (4, .int (zI x4))] 53 [] := by
  unfold fR_release_53
  refine zr_aloadn C 1 eX5_release_53 rfl ?_
  refine zr_sipush (a := 2000) C eX5_release_54 rfl ?_
  refine zr_iload C 4 eX5_release_57 rfl ?_
  refine zr_iadd C eX5_release_59 ?_
  refine zr_callVv C [.int (zI (zw (2000 + x4)))] zy_X6_emit zv_X6_emit lk_X5_109 zrm_1_2_0 h1 (by decide) rfl (fun r hr => zqU_emit l G σ o1 (zw (2000 + x4)) h1 (zw_w (2000 + x4)) r hr) rfl (zs_i (zI_w (2000 + x4)).symm rfl) (Nat.le_of_ble_eq_true rfl) eX5_release_60 (fun σ7 => ?_)
  refine zr_aloadn C 0 eX5_release_63 rfl ?_
  refine zr_iloadn C 3 eX5_release_64 rfl ?_
  refine zr_putI C ff_X5_53 rfl zo_150 eX5_release_65 (fun σ8 => ?_)
  refine zr_iinc (lv' := [(3, .int (zI (x3 + (-1)))), (0, .ref (zad G 150)), (1, .ref (zad G o1)), (2, .int (zI x2)), (4, .int (zI x4))]) C 3 eX5_release_68 rfl (by decide) rfl ?_
  refine zr_goto C eX5_release_71 ?_
  refine zr_lv [1, 2, 3, 0] rfl ?_
  exact zr_lve (zs_p (zs_p (zs_p (zs_pi (zI_w (x3 + (-1))).symm rfl)))) (ih o1 x2 (zw (x3 + (-1))) h1 n2 (zw_w (x3 + (-1))) _)
theorem wR_release_43 {G : Zg} {p : Program} {l : Launch} {e : Env} {s : State} {m : MethodId} {args : Array Value} {below : List Frame} {meth : Method} {c : Code} (C : zC G p s m args meth c cX5_release 5 RX5 none) {res : Int × Zm} (R0 : Nat → Int → Int → Zm → Zr) (ih : ∀ (o1 : Nat) (x2 : Int) (x3 : Int) (h1 : zin 294 o1 6) (n2 : zw x2 = x2) (n3 : zw x3 = x3) (σ : Zm), zR G p l e (zrm 1) s m args below meth c 5 0 0 (zQm below args s G 294 ztt none res.2) 294 ztt res σ (R0 o1 x2 x3 σ) [(0, .ref (zad G 150)), (1, .ref (zad G o1)), (2, .int (zI x2)), (3, .int (zI x3))] 7 []) (o1 : Nat) (x2 : Int) (x3 : Int) (x4 : Int) (h1 : zin 294 o1 6) (n2 : zw x2 = x2) (n3 : zw x3 = x3) (n4 : zw x4 = x4) (σ : Zm) : zR G p l e (zrm 1) s m args below meth c 5 0 0 (zQm below args s G 294 ztt none res.2) 294 ztt res σ (fR_release_43 R0 o1 x2 x3 x4 σ) [(0, .ref (zad G 150)), (1, .ref (zad G o1)), (2, .int (zI x2)), (3, .int (zI x3)), (4, .int (zI x4))] 43 [] := by
  unfold fR_release_43
  refine zr_aloadn C 0 eX5_release_43 rfl ?_
  refine zr_dup C eX5_release_44 rfl ?_
  refine zr_getI C ff_X5_59 zo_150 eX5_release_45 (fun v5 nv5 => ?_)
  refine zr_iconst C eX5_release_48 rfl ?_
  refine zr_isub C eX5_release_49 ?_
  refine zr_putI C ff_X5_59 rfl zo_150 eX5_release_50 (fun σ6 => ?_)
  exact wR_release_53 C R0 ih o1 x2 x3 x4 h1 n2 n3 n4 σ6
theorem wR_release_7 {G : Zg} {p : Program} {l : Launch} {e : Env} {s : State} {m : MethodId} {args : Array Value} {below : List Frame} {meth : Method} {c : Code} (C : zC G p s m args meth c cX5_release 5 RX5 none) {res : Int × Zm} : ∀ (n : Nat) (o1 : Nat) (x2 : Int) (x3 : Int) (h1 : zin 294 o1 6) (n2 : zw x2 = x2) (n3 : zw x3 = x3) (σ : Zm), zR G p l e (zrm 1) s m args below meth c 5 0 0 (zQm below args s G 294 ztt none res.2) 294 ztt res σ (fR_release_7 n o1 x2 x3 σ) [(0, .ref (zad G 150)), (1, .ref (zad G o1)), (2, .int (zI x2)), (3, .int (zI x3))] 7 []
  | 0, _, _, _, _, _, _, _ => zr_none
  | n + 1, o1, x2, x3, h1, n2, n3, σ => by
    have ih := fun (o1 : Nat) (x2 : Int) (x3 : Int) (h1 : zin 294 o1 6) (n2 : zw x2 = x2) (n3 : zw x3 = x3) (σ : Zm) => wR_release_7 (l := l) (e := e) (below := below) C (res := res) n o1 x2 x3 h1 n2 n3 σ
    rw [fR_release_7]
    refine zr_letf (fun R0 hR0 => ?_)
    have ih : ∀ (o1 : Nat) (x2 : Int) (x3 : Int) (h1 : zin 294 o1 6) (n2 : zw x2 = x2) (n3 : zw x3 = x3) (σ : Zm), zR G p l e (zrm 1) s m args below meth c 5 0 0 (zQm below args s G 294 ztt none res.2) 294 ztt res σ (R0 o1 x2 x3 σ) [(0, .ref (zad G 150)), (1, .ref (zad G o1)), (2, .int (zI x2)), (3, .int (zI x3))] 7 [] := by rw [hR0]; exact ih
    clear hR0
    refine zr_iloadn C 3 eX5_release_7 rfl ?_
    refine zr_if_lt C eX5_release_8 n3 ?_ ?_
    · exact zr_vret C eX5_release_74
    refine zr_aloadn C 0 eX5_release_11 rfl ?_
    refine zr_getR C ff_X5_15 rfl zo_150 rfl zf_150_1 eX5_release_12 ?_
    refine zr_iloadn C 3 eX5_release_15 rfl ?_
    refine zr_iald C zo_152 zn_152 n3 eX5_release_16 (fun v3 nv3 => ?_)
    refine zr_istore (lv' := [(4, .int (zI v3)), (0, .ref (zad G 150)), (1, .ref (zad G o1)), (2, .int (zI x2)), (3, .int (zI x3))]) C eX5_release_17 (by decide) rfl ?_
    refine zr_lev C zlv_115 eX5_release_19 ?_
    refine zr_iload C 0 eX5_release_22 rfl ?_
    refine zr_levld C nv3 eX5_release_24 (fun v4 nv4 => ?_)
    refine zr_iloadn C 3 eX5_release_25 rfl ?_
    refine zr_icmp_ge C eX5_release_26 nv4 n2 ?_ ?_
    · refine zr_iload C 0 eX5_release_30 rfl ?_
      refine zr_iconst C eX5_release_32 rfl ?_
      refine zr_icmp_eq C eX5_release_33 nv3 w_3 ?_ ?_
      · refine zr_lv [1, 2, 3, 4, 0] rfl ?_
        exact wR_release_43 C R0 ih o1 x2 x3 v3 h1 n2 n3 nv3 σ
      refine zr_iload C 0 eX5_release_36 rfl ?_
      refine zr_bipush (a := 14) C eX5_release_38 rfl ?_
      refine zr_icmp_ne C eX5_release_40 nv3 w_14 ?_ ?_
      · refine zr_lv [1, 2, 3, 4, 0] rfl ?_
        exact wR_release_53 C R0 ih o1 x2 x3 v3 h1 n2 n3 nv3 σ
      refine zr_lv [1, 2, 3, 4, 0] rfl ?_
      exact wR_release_43 C R0 ih o1 x2 x3 v3 h1 n2 n3 nv3 σ
    exact zr_vret C eX5_release_29
theorem zqR_release (l : Launch) (G : Zg) (σ : Zm) (o1 : Nat) (x2 : Int) (h1 : zin 294 o1 6) (n2 : zw x2 = x2) (res : Int × Zm) (he : fR_release σ o1 x2 = some res) : zM l yX5_release cX5_release 5 none 1 G 294 ztt σ [.ref (zad G 150), .ref (zad G o1), .int (zI x2)] none res.2 := by
  refine zM_of he (by decide +kernel) (Nat.le_of_ble_eq_true rfl) (lv := [(0, .ref (zad G 150)), (1, .ref (zad G o1)), (2, .int (zI x2))]) rfl (fun p e s m below meth c C => ?_)
  unfold fR_release
  refine zr_aloadn C 0 eX5_release_0 rfl ?_
  refine zr_getI C ff_X5_53 zo_150 eX5_release_1 (fun v1 nv1 => ?_)
  refine zr_iconst C eX5_release_4 rfl ?_
  refine zr_isub C eX5_release_5 ?_
  refine zr_st (show _ = .int (zI (zw (v1 - 1))) :: _ from congrArg (· :: _) (congrArg Value.int (zI_w (v1 - 1)).symm)) ?_
  refine zr_letw (P := fun z => .int (zI z) :: _) (zw_w (v1 - 1)) (fun v2 nv2 => ?_)
  refine zr_istoren (lv' := [(3, .int (zI v2)), (0, .ref (zad G 150)), (1, .ref (zad G o1)), (2, .int (zI x2))]) C eX5_release_6 (by decide) rfl ?_
  refine zr_lv [1, 2, 3, 0] rfl ?_
  refine wR_release_7 C 5000 o1 x2 v2 h1 n2 nv2 σ
theorem zqR_shutParenthesis (l : Launch) (G : Zg) (σ : Zm) (o1 : Nat) (h1 : zin 294 o1 6) (res : Int × Zm) (he : fR_shutParenthesis σ o1 = some res) : zM l yX5_shutParenthesis cX5_shutParenthesis 2 none 2 G 294 ztt σ [.ref (zad G 150), .ref (zad G o1)] none res.2 := by
  refine zM_of he (by decide +kernel) (Nat.le_of_ble_eq_true rfl) (lv := [(0, .ref (zad G 150)), (1, .ref (zad G o1))]) rfl (fun p e s m below meth c C => ?_)
  unfold fR_shutParenthesis
  refine zr_aloadn C 0 eX5_shutParenthesis_0 rfl ?_
  refine zr_aloadn C 1 eX5_shutParenthesis_1 rfl ?_
  refine zr_iconst C eX5_shutParenthesis_2 rfl ?_
  refine zr_callVv C [.ref (zad G o1), .int (zI 1)] zy_X5_release zv_X5_release lk_X5_118 zrm_2_5_1 zo_150 (by decide) rfl (fun r hr => zqR_release l G σ o1 1 h1 w_1 r hr) rfl rfl (Nat.le_of_ble_eq_true rfl) eX5_shutParenthesis_3 (fun σ1 => ?_)
  refine zr_aloadn C 0 eX5_shutParenthesis_6 rfl ?_
  refine zr_iconst C eX5_shutParenthesis_7 rfl ?_
  refine zr_aloadn C 0 eX5_shutParenthesis_8 rfl ?_
  refine zr_getI C ff_X5_53 zo_150 eX5_shutParenthesis_9 (fun v2 nv2 => ?_)
  refine zr_iconst C eX5_shutParenthesis_12 rfl ?_
  refine zr_isub C eX5_shutParenthesis_13 ?_
  refine zr_mmax C lk_X5_130 zy_mmax zrm_2_2_0 (Nat.le_of_ble_eq_true rfl) w_0 rfl eX5_shutParenthesis_14 (fun v3 nv3 => ?_)
  refine zr_putI C ff_X5_53 rfl zo_150 eX5_shutParenthesis_17 (fun σ4 => ?_)
  refine zr_aloadn C 0 eX5_shutParenthesis_20 rfl ?_
  refine zr_dup C eX5_shutParenthesis_21 rfl ?_
  refine zr_getI C ff_X5_56 zo_150 eX5_shutParenthesis_22 (fun v5 nv5 => ?_)
  refine zr_iconst C eX5_shutParenthesis_25 rfl ?_
  refine zr_isub C eX5_shutParenthesis_26 ?_
  refine zr_putI C ff_X5_56 rfl zo_150 eX5_shutParenthesis_27 (fun σ6 => ?_)
  refine zr_aloadn C 0 eX5_shutParenthesis_30 rfl ?_
  refine zr_dup C eX5_shutParenthesis_31 rfl ?_
  refine zr_getI C ff_X5_59 zo_150 eX5_shutParenthesis_32 (fun v7 nv7 => ?_)
  refine zr_iconst C eX5_shutParenthesis_35 rfl ?_
  refine zr_isub C eX5_shutParenthesis_36 ?_
  refine zr_putI C ff_X5_59 rfl zo_150 eX5_shutParenthesis_37 (fun σ8 => ?_)
  exact zr_vret C eX5_shutParenthesis_40
theorem wR_takeBehind_268 {G : Zg} {p : Program} {l : Launch} {e : Env} {s : State} {m : MethodId} {args : Array Value} {below : List Frame} {meth : Method} {c : Code} (C : zC G p s m args meth c cX5_takeBehind 4 RX5 none) {res : Int × Zm} (o1 : Nat) (x3 : Int) (h1 : zin 294 o1 6) (n3 : zw x3 = x3) (σ : Zm) : zR G p l e (zrm 3) s m args below meth c 4 0 0 (zQm below args s G 294 ztt none res.2) 294 ztt res σ (fR_takeBehind_268 o1 x3 σ) [(0, .ref (zad G 150)), (1, .ref (zad G o1)), (3, .int (zI x3))] 268 [] := by
  unfold fR_takeBehind_268
  refine zr_aloadn C 0 eX5_takeBehind_268 rfl ?_
  refine zr_getI C ff_X5_34 zo_150 eX5_takeBehind_269 (fun v11 nv11 => ?_)
  refine zr_bipush (a := 16) C eX5_takeBehind_272 rfl ?_
  refine zr_icmp_ne C eX5_takeBehind_274 nv11 w_16 ?_ ?_
  · refine zr_aloadn C 0 eX5_takeBehind_299 rfl ?_
    refine zr_iconst C eX5_takeBehind_300 rfl ?_
    refine zr_callVv C [.int (zI 1)] zy_X5_refuse zv_X5_refuse lk_X5_86 zrm_3_2_0 zo_150 (by decide) rfl (fun r hr => zqR_refuse l G σ 1 w_1 r hr) rfl rfl (Nat.le_of_ble_eq_true rfl) eX5_takeBehind_301 (fun σ12 => ?_)
    exact zr_vret C eX5_takeBehind_304
  refine zr_iloadn C 2 eX5_takeBehind_277 rfl ?_
  refine zr_if_eq C eX5_takeBehind_278 n3 ?_ ?_
  · refine zr_aloadn C 0 eX5_takeBehind_299 rfl ?_
    refine zr_iconst C eX5_takeBehind_300 rfl ?_
    refine zr_callVv C [.int (zI 1)] zy_X5_refuse zv_X5_refuse lk_X5_86 zrm_3_2_0 zo_150 (by decide) rfl (fun r hr => zqR_refuse l G σ 1 w_1 r hr) rfl rfl (Nat.le_of_ble_eq_true rfl) eX5_takeBehind_301 (fun σ13 => ?_)
    exact zr_vret C eX5_takeBehind_304
  refine zr_aloadn C 0 eX5_takeBehind_281 rfl ?_
  refine zr_aloadn C 1 eX5_takeBehind_282 rfl ?_
  refine zr_iconst C eX5_takeBehind_283 rfl ?_
  refine zr_callVv C [.ref (zad G o1), .int (zI 1)] zy_X5_release zv_X5_release lk_X5_118 zrm_3_5_1 zo_150 (by decide) rfl (fun r hr => zqR_release l G σ o1 1 h1 w_1 r hr) rfl rfl (Nat.le_of_ble_eq_true rfl) eX5_takeBehind_284 (fun σ14 => ?_)
  refine zr_aloadn C 1 eX5_takeBehind_287 rfl ?_
  refine zr_callVv C [] zy_X6_close zv_X6_close lk_X5_127 zrm_3_1_0 h1 (by decide) rfl (fun r hr => zqU_close l G σ14 o1 h1 r hr) rfl rfl (Nat.le_of_ble_eq_true rfl) eX5_takeBehind_288 (fun σ15 => ?_)
  refine zr_aloadn C 0 eX5_takeBehind_291 rfl ?_
  refine zr_iconst C eX5_takeBehind_292 rfl ?_
  refine zr_putI C ff_X5_40 rfl zo_150 eX5_takeBehind_293 (fun σ16 => ?_)
  refine zr_goto C eX5_takeBehind_296 ?_
  exact zr_vret C eX5_takeBehind_304
theorem wR_takeBehind_225 {G : Zg} {p : Program} {l : Launch} {e : Env} {s : State} {m : MethodId} {args : Array Value} {below : List Frame} {meth : Method} {c : Code} (C : zC G p s m args meth c cX5_takeBehind 4 RX5 none) {res : Int × Zm} (o1 : Nat) (x2 : Int) (x3 : Int) (h1 : zin 294 o1 6) (n2 : zw x2 = x2) (n3 : zw x3 = x3) (σ : Zm) : zR G p l e (zrm 3) s m args below meth c 4 0 0 (zQm below args s G 294 ztt none res.2) 294 ztt res σ (fR_takeBehind_225 o1 x2 x3 σ) [(0, .ref (zad G 150)), (1, .ref (zad G o1)), (2, .int (zI x2)), (3, .int (zI x3))] 225 [] := by
  unfold fR_takeBehind_225
  refine zr_aloadn C 0 eX5_takeBehind_225 rfl ?_
  refine zr_getI C ff_X5_34 zo_150 eX5_takeBehind_226 (fun v10 nv10 => ?_)
  refine zr_bipush (a := 17) C eX5_takeBehind_229 rfl ?_
  refine zr_icmp_ne C eX5_takeBehind_231 nv10 w_17 ?_ ?_
  · refine zr_lv [0, 1, 3] rfl ?_
    exact wR_takeBehind_268 C o1 x3 h1 n3 σ
  refine zr_iloadn C 2 eX5_takeBehind_234 rfl ?_
  refine zr_if_eq C eX5_takeBehind_235 n2 ?_ ?_
  · refine zr_lv [0, 1, 3] rfl ?_
    exact wR_takeBehind_268 C o1 x3 h1 n3 σ
  refine zr_aloadn C 0 eX5_takeBehind_238 rfl ?_
  refine zr_getZ C ff_X5_46 zo_150 eX5_takeBehind_239 (fun v17 nv17 => ?_)
  refine zr_if_eq C eX5_takeBehind_242 nv17 ?_ ?_
  · refine zr_lv [0, 1, 3] rfl ?_
    exact wR_takeBehind_268 C o1 x3 h1 n3 σ
  refine zr_aloadn C 0 eX5_takeBehind_245 rfl ?_
  refine zr_aloadn C 1 eX5_takeBehind_246 rfl ?_
  refine zr_iconst C eX5_takeBehind_247 rfl ?_
  refine zr_callVv C [.ref (zad G o1), .int (zI 1)] zy_X5_release zv_X5_release lk_X5_118 zrm_3_5_1 zo_150 (by decide) rfl (fun r hr => zqR_release l G σ o1 1 h1 w_1 r hr) rfl rfl (Nat.le_of_ble_eq_true rfl) eX5_takeBehind_248 (fun σ18 => ?_)
  refine zr_aloadn C 1 eX5_takeBehind_251 rfl ?_
  refine zr_callVv C [] zy_X6_beginCondition zv_X6_beginCondition lk_X5_124 zrm_3_1_0 h1 (by decide) rfl (fun r hr => zqU_beginCondition l G σ18 o1 h1 r hr) rfl rfl (Nat.le_of_ble_eq_true rfl) eX5_takeBehind_252 (fun σ19 => ?_)
  refine zr_aloadn C 0 eX5_takeBehind_255 rfl ?_
  refine zr_iconst C eX5_takeBehind_256 rfl ?_
  refine zr_putZ C ff_X5_46 rfl zo_150 (Or.inl rfl) eX5_takeBehind_257 (fun σ20 => ?_)
  refine zr_aloadn C 0 eX5_takeBehind_260 rfl ?_
  refine zr_iconst C eX5_takeBehind_261 rfl ?_
  refine zr_putI C ff_X5_40 rfl zo_150 eX5_takeBehind_262 (fun σ21 => ?_)
  refine zr_goto C eX5_takeBehind_265 ?_
  exact zr_vret C eX5_takeBehind_304
theorem wR_takeBehind_204 {G : Zg} {p : Program} {l : Launch} {e : Env} {s : State} {m : MethodId} {args : Array Value} {below : List Frame} {meth : Method} {c : Code} (C : zC G p s m args meth c cX5_takeBehind 4 RX5 none) {res : Int × Zm} (σ : Zm) : zR G p l e (zrm 3) s m args below meth c 4 0 0 (zQm below args s G 294 ztt none res.2) 294 ztt res σ (fR_takeBehind_204 σ) [(0, .ref (zad G 150))] 204 [] := by
  unfold fR_takeBehind_204
  refine zr_aloadn C 0 eX5_takeBehind_204 rfl ?_
  refine zr_aloadn C 0 eX5_takeBehind_205 rfl ?_
  refine zr_getI C ff_X5_34 zo_150 eX5_takeBehind_206 (fun v24 nv24 => ?_)
  refine zr_callVv C [.int (zI v24)] zy_X5_hold zv_X5_hold lk_X5_112 zrm_3_2_0 zo_150 (by decide) rfl (fun r hr => zqR_hold l G σ v24 nv24 r hr) rfl rfl (Nat.le_of_ble_eq_true rfl) eX5_takeBehind_209 (fun σ25 => ?_)
  refine zr_aloadn C 0 eX5_takeBehind_212 rfl ?_
  refine zr_iconst C eX5_takeBehind_213 rfl ?_
  refine zr_putZ C ff_X5_50 rfl zo_150 (Or.inl rfl) eX5_takeBehind_214 (fun σ26 => ?_)
  refine zr_aloadn C 0 eX5_takeBehind_217 rfl ?_
  refine zr_iconst C eX5_takeBehind_218 rfl ?_
  refine zr_putI C ff_X5_40 rfl zo_150 eX5_takeBehind_219 (fun σ27 => ?_)
  refine zr_goto C eX5_takeBehind_222 ?_
  exact zr_vret C eX5_takeBehind_304
theorem wR_takeBehind_182 {G : Zg} {p : Program} {l : Launch} {e : Env} {s : State} {m : MethodId} {args : Array Value} {below : List Frame} {meth : Method} {c : Code} (C : zC G p s m args meth c cX5_takeBehind 4 RX5 none) {res : Int × Zm} (o1 : Nat) (x2 : Int) (x3 : Int) (h1 : zin 294 o1 6) (n2 : zw x2 = x2) (n3 : zw x3 = x3) (σ : Zm) : zR G p l e (zrm 3) s m args below meth c 4 0 0 (zQm below args s G 294 ztt none res.2) 294 ztt res σ (fR_takeBehind_182 o1 x2 x3 σ) [(0, .ref (zad G 150)), (1, .ref (zad G o1)), (2, .int (zI x2)), (3, .int (zI x3))] 182 [] := by
  unfold fR_takeBehind_182
  refine zr_iloadn C 3 eX5_takeBehind_182 rfl ?_
  refine zr_if_eq C eX5_takeBehind_183 n3 ?_ ?_
  · exact wR_takeBehind_225 C o1 x2 x3 h1 n2 n3 σ
  refine zr_aloadn C 0 eX5_takeBehind_186 rfl ?_
  refine zr_aloadn C 1 eX5_takeBehind_187 rfl ?_
  refine zr_aloadn C 0 eX5_takeBehind_188 rfl ?_
  refine zr_getI C ff_X5_34 zo_150 eX5_takeBehind_189 (fun v22 nv22 => ?_)
  refine zr_iconst C eX5_takeBehind_192 rfl ?_
  refine zr_icmp_ne C eX5_takeBehind_193 nv22 w_1 ?_ ?_
  · refine zr_iconst C eX5_takeBehind_200 rfl ?_
    refine zr_callVv C [.ref (zad G o1), .int (zI 2)] zy_X5_release zv_X5_release lk_X5_118 zrm_3_5_1 zo_150 (by decide) rfl (fun r hr => zqR_release l G σ o1 2 h1 w_2 r hr) rfl rfl (Nat.le_of_ble_eq_true rfl) eX5_takeBehind_201 (fun σ23 => ?_)
    refine zr_lv [0] rfl ?_
    exact wR_takeBehind_204 C σ23
  refine zr_iconst C eX5_takeBehind_196 rfl ?_
  refine zr_goto C eX5_takeBehind_197 ?_
  refine zr_callVv C [.ref (zad G o1), .int (zI 1)] zy_X5_release zv_X5_release lk_X5_118 zrm_3_5_1 zo_150 (by decide) rfl (fun r hr => zqR_release l G σ o1 1 h1 w_1 r hr) rfl rfl (Nat.le_of_ble_eq_true rfl) eX5_takeBehind_201 (fun σ28 => ?_)
  refine zr_lv [0] rfl ?_
  exact wR_takeBehind_204 C σ28
theorem wR_takeBehind_166 {G : Zg} {p : Program} {l : Launch} {e : Env} {s : State} {m : MethodId} {args : Array Value} {below : List Frame} {meth : Method} {c : Code} (C : zC G p s m args meth c cX5_takeBehind 4 RX5 none) {res : Int × Zm} (o1 : Nat) (x2 : Int) (x3 : Int) (h1 : zin 294 o1 6) (n2 : zw x2 = x2) (n3 : zw x3 = x3) (σ : Zm) : zR G p l e (zrm 3) s m args below meth c 4 0 0 (zQm below args s G 294 ztt none res.2) 294 ztt res σ (fR_takeBehind_166 o1 x2 x3 σ) [(0, .ref (zad G 150)), (1, .ref (zad G o1)), (2, .int (zI x2)), (3, .int (zI x3))] 166 [] := by
  unfold fR_takeBehind_166
  refine zr_aloadn C 0 eX5_takeBehind_166 rfl ?_
  refine zr_getI C ff_X5_34 zo_150 eX5_takeBehind_167 (fun v9 nv9 => ?_)
  refine zr_iconst C eX5_takeBehind_170 rfl ?_
  refine zr_icmp_eq C eX5_takeBehind_171 nv9 w_1 ?_ ?_
  · exact wR_takeBehind_182 C o1 x2 x3 h1 n2 n3 σ
  refine zr_aloadn C 0 eX5_takeBehind_174 rfl ?_
  refine zr_getI C ff_X5_34 zo_150 eX5_takeBehind_175 (fun v29 nv29 => ?_)
  refine zr_iconst C eX5_takeBehind_178 rfl ?_
  refine zr_icmp_ne C eX5_takeBehind_179 nv29 w_2 ?_ ?_
  · exact wR_takeBehind_225 C o1 x2 x3 h1 n2 n3 σ
  exact wR_takeBehind_182 C o1 x2 x3 h1 n2 n3 σ
theorem wR_takeBehind_108 {G : Zg} {p : Program} {l : Launch} {e : Env} {s : State} {m : MethodId} {args : Array Value} {below : List Frame} {meth : Method} {c : Code} (C : zC G p s m args meth c cX5_takeBehind 4 RX5 none) {res : Int × Zm} (o1 : Nat) (x2 : Int) (x3 : Int) (h1 : zin 294 o1 6) (n2 : zw x2 = x2) (n3 : zw x3 = x3) (σ : Zm) : zR G p l e (zrm 3) s m args below meth c 4 0 0 (zQm below args s G 294 ztt none res.2) 294 ztt res σ (fR_takeBehind_108 o1 x2 x3 σ) [(0, .ref (zad G 150)), (1, .ref (zad G o1)), (2, .int (zI x2)), (3, .int (zI x3))] 108 [] := by
  unfold fR_takeBehind_108
  refine zr_aloadn C 0 eX5_takeBehind_108 rfl ?_
  refine zr_getI C ff_X5_34 zo_150 eX5_takeBehind_109 (fun v6 nv6 => ?_)
  refine zr_iconst C eX5_takeBehind_112 rfl ?_
  refine zr_bipush (a := 9) C eX5_takeBehind_113 rfl ?_
  refine zr_callSi C [.int (zI v6), .int (zI 4), .int (zI 9)] zy_X9_within zs_X9_within lk_X5_105 zrm_3_3_0 (fun r hr => zqX_within l G σ v6 4 9 nv6 w_4 w_9 r hr) rfl rfl (Nat.le_of_ble_eq_true rfl) eX5_takeBehind_115 (fun v8 nv8 σ7 => ?_)
  refine zr_if_eq C eX5_takeBehind_118 nv8 ?_ ?_
  · exact wR_takeBehind_166 C o1 x2 x3 h1 n2 n3 σ7
  refine zr_iloadn C 2 eX5_takeBehind_121 rfl ?_
  refine zr_if_eq C eX5_takeBehind_122 n2 ?_ ?_
  · exact wR_takeBehind_166 C o1 x2 x3 h1 n2 n3 σ7
  refine zr_aloadn C 0 eX5_takeBehind_125 rfl ?_
  refine zr_getZ C ff_X5_46 zo_150 eX5_takeBehind_126 (fun v30 nv30 => ?_)
  refine zr_if_ne C eX5_takeBehind_129 nv30 ?_ ?_
  · exact wR_takeBehind_166 C o1 x2 x3 h1 n2 n3 σ7
  refine zr_aloadn C 0 eX5_takeBehind_132 rfl ?_
  refine zr_getZ C ff_X5_50 zo_150 eX5_takeBehind_133 (fun v31 nv31 => ?_)
  refine zr_if_ne C eX5_takeBehind_136 nv31 ?_ ?_
  · exact wR_takeBehind_166 C o1 x2 x3 h1 n2 n3 σ7
  refine zr_aloadn C 0 eX5_takeBehind_139 rfl ?_
  refine zr_aloadn C 1 eX5_takeBehind_140 rfl ?_
  refine zr_iconst C eX5_takeBehind_141 rfl ?_
  refine zr_callVv C [.ref (zad G o1), .int (zI 5)] zy_X5_release zv_X5_release lk_X5_118 zrm_3_5_1 zo_150 (by decide) rfl (fun r hr => zqR_release l G σ7 o1 5 h1 w_5 r hr) rfl rfl (Nat.le_of_ble_eq_true rfl) eX5_takeBehind_142 (fun σ32 => ?_)
  refine zr_aloadn C 0 eX5_takeBehind_145 rfl ?_
  refine zr_aloadn C 0 eX5_takeBehind_146 rfl ?_
  refine zr_getI C ff_X5_34 zo_150 eX5_takeBehind_147 (fun v33 nv33 => ?_)
  refine zr_callVv C [.int (zI v33)] zy_X5_hold zv_X5_hold lk_X5_112 zrm_3_2_0 zo_150 (by decide) rfl (fun r hr => zqR_hold l G σ32 v33 nv33 r hr) rfl rfl (Nat.le_of_ble_eq_true rfl) eX5_takeBehind_150 (fun σ34 => ?_)
  refine zr_aloadn C 0 eX5_takeBehind_153 rfl ?_
  refine zr_iconst C eX5_takeBehind_154 rfl ?_
  refine zr_putZ C ff_X5_50 rfl zo_150 (Or.inr rfl) eX5_takeBehind_155 (fun σ35 => ?_)
  refine zr_aloadn C 0 eX5_takeBehind_158 rfl ?_
  refine zr_iconst C eX5_takeBehind_159 rfl ?_
  refine zr_putI C ff_X5_40 rfl zo_150 eX5_takeBehind_160 (fun σ36 => ?_)
  refine zr_goto C eX5_takeBehind_163 ?_
  exact zr_vret C eX5_takeBehind_304
theorem wR_takeBehind_37 {G : Zg} {p : Program} {l : Launch} {e : Env} {s : State} {m : MethodId} {args : Array Value} {below : List Frame} {meth : Method} {c : Code} (C : zC G p s m args meth c cX5_takeBehind 4 RX5 none) {res : Int × Zm} (o1 : Nat) (x2 : Int) (x3 : Int) (h1 : zin 294 o1 6) (n2 : zw x2 = x2) (n3 : zw x3 = x3) (σ : Zm) : zR G p l e (zrm 3) s m args below meth c 4 0 0 (zQm below args s G 294 ztt none res.2) 294 ztt res σ (fR_takeBehind_37 o1 x2 x3 σ) [(0, .ref (zad G 150)), (1, .ref (zad G o1)), (2, .int (zI x2)), (3, .int (zI x3))] 37 [] := by
  unfold fR_takeBehind_37
  refine zr_aloadn C 0 eX5_takeBehind_37 rfl ?_
  refine zr_getI C ff_X5_34 zo_150 eX5_takeBehind_38 (fun v2 nv2 => ?_)
  refine zr_bipush (a := 10) C eX5_takeBehind_41 rfl ?_
  refine zr_bipush (a := 13) C eX5_takeBehind_43 rfl ?_
  refine zr_callSi C [.int (zI v2), .int (zI 10), .int (zI 13)] zy_X9_within zs_X9_within lk_X5_105 zrm_3_3_0 (fun r hr => zqX_within l G σ v2 10 13 nv2 w_10 w_13 r hr) rfl rfl (Nat.le_of_ble_eq_true rfl) eX5_takeBehind_45 (fun v4 nv4 σ3 => ?_)
  refine zr_if_eq C eX5_takeBehind_48 nv4 ?_ ?_
  · refine zr_aloadn C 0 eX5_takeBehind_87 rfl ?_
    refine zr_getI C ff_X5_34 zo_150 eX5_takeBehind_88 (fun v5 nv5 => ?_)
    refine zr_bipush (a := 15) C eX5_takeBehind_91 rfl ?_
    refine zr_icmp_ne C eX5_takeBehind_93 nv5 w_15 ?_ ?_
    · exact wR_takeBehind_108 C o1 x2 x3 h1 n2 n3 σ3
    refine zr_iloadn C 2 eX5_takeBehind_96 rfl ?_
    refine zr_if_ne C eX5_takeBehind_97 n2 ?_ ?_
    · exact wR_takeBehind_108 C o1 x2 x3 h1 n2 n3 σ3
    refine zr_aloadn C 0 eX5_takeBehind_100 rfl ?_
    refine zr_aloadn C 1 eX5_takeBehind_101 rfl ?_
    refine zr_callVv C [.ref (zad G o1)] zy_X5_shutParenthesis zv_X5_shutParenthesis lk_X5_121 zrm_3_2_2 zo_150 (by decide) rfl (fun r hr => zqR_shutParenthesis l G σ3 o1 h1 r hr) rfl rfl (Nat.le_of_ble_eq_true rfl) eX5_takeBehind_102 (fun σ37 => ?_)
    refine zr_goto C eX5_takeBehind_105 ?_
    exact zr_vret C eX5_takeBehind_304
  refine zr_aloadn C 0 eX5_takeBehind_51 rfl ?_
  refine zr_aloadn C 1 eX5_takeBehind_52 rfl ?_
  refine zr_aloadn C 0 eX5_takeBehind_53 rfl ?_
  refine zr_getI C ff_X5_34 zo_150 eX5_takeBehind_54 (fun v38 nv38 => ?_)
  refine zr_bipush (a := 11) C eX5_takeBehind_57 rfl ?_
  refine zr_icmp_gt C eX5_takeBehind_59 nv38 w_11 ?_ ?_
  · refine zr_bipush (a := 6) C eX5_takeBehind_66 rfl ?_
    refine zr_callVv C [.ref (zad G o1), .int (zI 6)] zy_X5_release zv_X5_release lk_X5_118 zrm_3_5_1 zo_150 (by decide) rfl (fun r hr => zqR_release l G σ3 o1 6 h1 w_6 r hr) rfl rfl (Nat.le_of_ble_eq_true rfl) eX5_takeBehind_68 (fun σ39 => ?_)
    refine zr_aloadn C 0 eX5_takeBehind_71 rfl ?_
    refine zr_aloadn C 0 eX5_takeBehind_72 rfl ?_
    refine zr_getI C ff_X5_34 zo_150 eX5_takeBehind_73 (fun v40 nv40 => ?_)
    refine zr_callVv C [.int (zI v40)] zy_X5_hold zv_X5_hold lk_X5_112 zrm_3_2_0 zo_150 (by decide) rfl (fun r hr => zqR_hold l G σ39 v40 nv40 r hr) rfl rfl (Nat.le_of_ble_eq_true rfl) eX5_takeBehind_76 (fun σ41 => ?_)
    refine zr_aloadn C 0 eX5_takeBehind_79 rfl ?_
    refine zr_iconst C eX5_takeBehind_80 rfl ?_
    refine zr_putI C ff_X5_40 rfl zo_150 eX5_takeBehind_81 (fun σ42 => ?_)
    refine zr_goto C eX5_takeBehind_84 ?_
    exact zr_vret C eX5_takeBehind_304
  refine zr_iconst C eX5_takeBehind_62 rfl ?_
  refine zr_goto C eX5_takeBehind_63 ?_
  refine zr_callVv C [.ref (zad G o1), .int (zI 5)] zy_X5_release zv_X5_release lk_X5_118 zrm_3_5_1 zo_150 (by decide) rfl (fun r hr => zqR_release l G σ3 o1 5 h1 w_5 r hr) rfl rfl (Nat.le_of_ble_eq_true rfl) eX5_takeBehind_68 (fun σ43 => ?_)
  refine zr_aloadn C 0 eX5_takeBehind_71 rfl ?_
  refine zr_aloadn C 0 eX5_takeBehind_72 rfl ?_
  refine zr_getI C ff_X5_34 zo_150 eX5_takeBehind_73 (fun v44 nv44 => ?_)
  refine zr_callVv C [.int (zI v44)] zy_X5_hold zv_X5_hold lk_X5_112 zrm_3_2_0 zo_150 (by decide) rfl (fun r hr => zqR_hold l G σ43 v44 nv44 r hr) rfl rfl (Nat.le_of_ble_eq_true rfl) eX5_takeBehind_76 (fun σ45 => ?_)
  refine zr_aloadn C 0 eX5_takeBehind_79 rfl ?_
  refine zr_iconst C eX5_takeBehind_80 rfl ?_
  refine zr_putI C ff_X5_40 rfl zo_150 eX5_takeBehind_81 (fun σ46 => ?_)
  refine zr_goto C eX5_takeBehind_84 ?_
  exact zr_vret C eX5_takeBehind_304
theorem wR_takeBehind_35 {G : Zg} {p : Program} {l : Launch} {e : Env} {s : State} {m : MethodId} {args : Array Value} {below : List Frame} {meth : Method} {c : Code} (C : zC G p s m args meth c cX5_takeBehind 4 RX5 none) {res : Int × Zm} (o1 : Nat) (x2 : Int) (h1 : zin 294 o1 6) (n2 : zw x2 = x2) (σ : Zm) : zR G p l e (zrm 3) s m args below meth c 4 0 0 (zQm below args s G 294 ztt none res.2) 294 ztt res σ (fR_takeBehind_35 o1 x2 σ) [(0, .ref (zad G 150)), (1, .ref (zad G o1)), (2, .int (zI x2))] 35 [] := by
  unfold fR_takeBehind_35
  refine zr_iconst C eX5_takeBehind_35 rfl ?_
  refine zr_istoren (lv' := [(3, .int (zI 0)), (0, .ref (zad G 150)), (1, .ref (zad G o1)), (2, .int (zI x2))]) C eX5_takeBehind_36 (by decide) rfl ?_
  refine zr_lv [1, 2, 3, 0] rfl ?_
  exact wR_takeBehind_37 C o1 x2 0 h1 n2 w_0 σ
theorem wR_takeBehind_13 {G : Zg} {p : Program} {l : Launch} {e : Env} {s : State} {m : MethodId} {args : Array Value} {below : List Frame} {meth : Method} {c : Code} (C : zC G p s m args meth c cX5_takeBehind 4 RX5 none) {res : Int × Zm} (o1 : Nat) (x2 : Int) (h1 : zin 294 o1 6) (n2 : zw x2 = x2) (σ : Zm) : zR G p l e (zrm 3) s m args below meth c 4 0 0 (zQm below args s G 294 ztt none res.2) 294 ztt res σ (fR_takeBehind_13 o1 x2 σ) [(0, .ref (zad G 150)), (1, .ref (zad G o1)), (2, .int (zI x2))] 13 [] := by
  unfold fR_takeBehind_13
  refine zr_iloadn C 2 eX5_takeBehind_13 rfl ?_
  refine zr_if_eq C eX5_takeBehind_14 n2 ?_ ?_
  · exact wR_takeBehind_35 C o1 x2 h1 n2 σ
  refine zr_aloadn C 0 eX5_takeBehind_17 rfl ?_
  refine zr_getZ C ff_X5_46 zo_150 eX5_takeBehind_18 (fun v47 nv47 => ?_)
  refine zr_if_ne C eX5_takeBehind_21 nv47 ?_ ?_
  · exact wR_takeBehind_35 C o1 x2 h1 n2 σ
  refine zr_aloadn C 0 eX5_takeBehind_24 rfl ?_
  refine zr_getZ C ff_X5_50 zo_150 eX5_takeBehind_25 (fun v48 nv48 => ?_)
  refine zr_if_eq C eX5_takeBehind_28 nv48 ?_ ?_
  · exact wR_takeBehind_35 C o1 x2 h1 n2 σ
  refine zr_iconst C eX5_takeBehind_31 rfl ?_
  refine zr_goto C eX5_takeBehind_32 ?_
  refine zr_istoren (lv' := [(3, .int (zI 1)), (0, .ref (zad G 150)), (1, .ref (zad G o1)), (2, .int (zI x2))]) C eX5_takeBehind_36 (by decide) rfl ?_
  refine zr_lv [1, 2, 3, 0] rfl ?_
  exact wR_takeBehind_37 C o1 x2 1 h1 n2 w_1 σ
theorem zqR_takeBehind (l : Launch) (G : Zg) (σ : Zm) (o1 : Nat) (h1 : zin 294 o1 6) (res : Int × Zm) (he : fR_takeBehind σ o1 = some res) : zM l yX5_takeBehind cX5_takeBehind 4 none 3 G 294 ztt σ [.ref (zad G 150), .ref (zad G o1)] none res.2 := by
  refine zM_of he (by decide +kernel) (Nat.le_of_ble_eq_true rfl) (lv := [(0, .ref (zad G 150)), (1, .ref (zad G o1))]) rfl (fun p e s m below meth c C => ?_)
  unfold fR_takeBehind
  refine zr_aloadn C 0 eX5_takeBehind_0 rfl ?_
  refine zr_getI C ff_X5_56 zo_150 eX5_takeBehind_1 (fun v1 nv1 => ?_)
  refine zr_if_ne C eX5_takeBehind_4 nv1 ?_ ?_
  · refine zr_iconst C eX5_takeBehind_11 rfl ?_
    refine zr_istoren (lv' := [(2, .int (zI 0)), (0, .ref (zad G 150)), (1, .ref (zad G o1))]) C eX5_takeBehind_12 (by decide) rfl ?_
    refine zr_lv [1, 2, 0] rfl ?_
    exact wR_takeBehind_13 C o1 0 h1 w_0 σ
  refine zr_iconst C eX5_takeBehind_7 rfl ?_
  refine zr_goto C eX5_takeBehind_8 ?_
  refine zr_istoren (lv' := [(2, .int (zI 1)), (0, .ref (zad G 150)), (1, .ref (zad G o1))]) C eX5_takeBehind_12 (by decide) rfl ?_
  refine zr_lv [1, 2, 0] rfl ?_
  exact wR_takeBehind_13 C o1 1 h1 w_1 σ
theorem zqR_take (l : Launch) (G : Zg) (σ : Zm) (o1 : Nat) (h1 : zin 294 o1 6) (res : Int × Zm) (he : fR_take σ o1 = some res) : zM l yX5_take cX5_take 2 none 4 G 294 ztt σ [.ref (zad G 150), .ref (zad G o1)] none res.2 := by
  refine zM_of he (by decide +kernel) (Nat.le_of_ble_eq_true rfl) (lv := [(0, .ref (zad G 150)), (1, .ref (zad G o1))]) rfl (fun p e s m below meth c C => ?_)
  unfold fR_take
  refine zr_aloadn C 0 eX5_take_0 rfl ?_
  refine zr_getI C ff_X5_40 zo_150 eX5_take_1 (fun v1 nv1 => ?_)
  refine zr_if (fun hh2 => ?_) (fun hh2 => ?_)
  · refine zr_tbl C eX5_take_4 0 nv1 hh2 (by decide) (by decide) rfl rfl ?_
    refine zr_aloadn C 0 eX5_take_32 rfl ?_
    refine zr_aloadn C 1 eX5_take_33 rfl ?_
    refine zr_callVv C [.ref (zad G o1)] zy_X5_takeSort zv_X5_takeSort lk_X5_77 zrm_4_2_1 zo_150 (by decide) rfl (fun r hr => zqR_takeSort l G σ o1 h1 r hr) rfl rfl (Nat.le_of_ble_eq_true rfl) eX5_take_34 (fun σ3 => ?_)
    refine zr_goto C eX5_take_37 ?_
    exact zr_vret C eX5_take_53
  refine zr_if (fun hh4 => ?_) (fun hh4 => ?_)
  · refine zr_tbl C eX5_take_4 1 nv1 hh4 (by decide) (by decide) rfl rfl ?_
    refine zr_aloadn C 0 eX5_take_40 rfl ?_
    refine zr_aloadn C 1 eX5_take_41 rfl ?_
    refine zr_callVv C [.ref (zad G o1)] zy_X5_takeOne zv_X5_takeOne lk_X5_80 zrm_4_2_2 zo_150 (by decide) rfl (fun r hr => zqR_takeOne l G σ o1 h1 r hr) rfl rfl (Nat.le_of_ble_eq_true rfl) eX5_take_42 (fun σ5 => ?_)
    refine zr_goto C eX5_take_45 ?_
    exact zr_vret C eX5_take_53
  refine zr_if (fun hh6 => ?_) (fun hh6 => ?_)
  · refine zr_tbl C eX5_take_4 2 nv1 hh6 (by decide) (by decide) rfl rfl ?_
    refine zr_aloadn C 0 eX5_take_40 rfl ?_
    refine zr_aloadn C 1 eX5_take_41 rfl ?_
    refine zr_callVv C [.ref (zad G o1)] zy_X5_takeOne zv_X5_takeOne lk_X5_80 zrm_4_2_2 zo_150 (by decide) rfl (fun r hr => zqR_takeOne l G σ o1 h1 r hr) rfl rfl (Nat.le_of_ble_eq_true rfl) eX5_take_42 (fun σ7 => ?_)
    refine zr_goto C eX5_take_45 ?_
    exact zr_vret C eX5_take_53
  refine zr_tblD C eX5_take_4 [0, 1, 2] nv1 (by intro v hv; rcases (show v = 0 ∨ v = 1 ∨ v = 2 by simpa using hv) with rfl | rfl | rfl <;> assumption) (by decide +kernel) rfl ?_
  refine zr_aloadn C 0 eX5_take_48 rfl ?_
  refine zr_aloadn C 1 eX5_take_49 rfl ?_
  refine zr_callVv C [.ref (zad G o1)] zy_X5_takeBehind zv_X5_takeBehind lk_X5_83 zrm_4_4_3 zo_150 (by decide) rfl (fun r hr => zqR_takeBehind l G σ o1 h1 r hr) rfl rfl (Nat.le_of_ble_eq_true rfl) eX5_take_50 (fun σ8 => ?_)
  exact zr_vret C eX5_take_53
theorem wR_read_32 {G : Zg} {p : Program} {l : Launch} {e : Env} {s : State} {m : MethodId} {args : Array Value} {below : List Frame} {meth : Method} {c : Code} (C : zC G p s m args meth c cX5_read 3 RX5 none) {res : Int × Zm} : ∀ (n : Nat) (o1 : Nat) (x2 : Int) (h1 : zin 294 o1 6) (n2 : zw x2 = x2) (σ : Zm), zR G p l e (zrm 7) s m args below meth c 3 0 0 (zQm below args s G 294 ztt none res.2) 294 ztt res σ (fR_read_32 n o1 x2 σ) [(0, .ref (zad G 150)), (1, .ref (zad G o1)), (2, .int (zI x2))] 32 []
  | 0, _, _, _, _, _ => zr_none
  | n + 1, o1, x2, h1, n2, σ => by
    have ih := fun (o1 : Nat) (x2 : Int) (h1 : zin 294 o1 6) (n2 : zw x2 = x2) (σ : Zm) => wR_read_32 (l := l) (e := e) (below := below) C (res := res) n o1 x2 h1 n2 σ
    rw [fR_read_32]
    refine zr_letf (fun R0 hR0 => ?_)
    have ih : ∀ (o1 : Nat) (x2 : Int) (h1 : zin 294 o1 6) (n2 : zw x2 = x2) (σ : Zm), zR G p l e (zrm 7) s m args below meth c 3 0 0 (zQm below args s G 294 ztt none res.2) 294 ztt res σ (R0 o1 x2 σ) [(0, .ref (zad G 150)), (1, .ref (zad G o1)), (2, .int (zI x2))] 32 [] := by rw [hR0]; exact ih
    clear hR0
    refine zr_iloadn C 2 eX5_read_32 rfl ?_
    refine zr_aloadn C 0 eX5_read_33 rfl ?_
    refine zr_getI C ff_X5_18 zo_150 eX5_read_34 (fun v7 nv7 => ?_)
    refine zr_icmp_gt C eX5_read_37 n2 nv7 ?_ ?_
    · exact zr_vret C eX5_read_70
    refine zr_aloadn C 0 eX5_read_40 rfl ?_
    refine zr_getI C ff_X5_40 zo_150 eX5_read_41 (fun v8 nv8 => ?_)
    refine zr_iconst C eX5_read_44 rfl ?_
    refine zr_icmp_eq C eX5_read_45 nv8 w_4 ?_ ?_
    · exact zr_vret C eX5_read_70
    refine zr_aloadn C 0 eX5_read_48 rfl ?_
    refine zr_getI C ff_X5_22 zo_150 eX5_read_49 (fun v9 nv9 => ?_)
    refine zr_if_ne C eX5_read_52 nv9 ?_ ?_
    · exact zr_vret C eX5_read_70
    refine zr_aloadn C 0 eX5_read_55 rfl ?_
    refine zr_callVv C [] zy_X5_scan zv_X5_scan lk_X5_70 zrm_7_1_6 zo_150 (by decide) rfl (fun r hr => zqR_scan l G σ r hr) rfl rfl (Nat.le_of_ble_eq_true rfl) eX5_read_56 (fun σ10 => ?_)
    refine zr_aloadn C 0 eX5_read_59 rfl ?_
    refine zr_aloadn C 1 eX5_read_60 rfl ?_
    refine zr_callVv C [.ref (zad G o1)] zy_X5_take zv_X5_take lk_X5_73 zrm_7_2_4 zo_150 (by decide) rfl (fun r hr => zqR_take l G σ10 o1 h1 r hr) rfl rfl (Nat.le_of_ble_eq_true rfl) eX5_read_61 (fun σ11 => ?_)
    refine zr_iinc (lv' := [(2, .int (zI (x2 + 1))), (0, .ref (zad G 150)), (1, .ref (zad G o1))]) C 2 eX5_read_64 rfl (by decide) rfl ?_
    refine zr_goto C eX5_read_67 ?_
    refine zr_lv [1, 2, 0] rfl ?_
    exact zr_lve (zs_p (zs_p (zs_pi (zI_w (x2 + 1)).symm rfl))) (ih o1 (zw (x2 + 1)) h1 (zw_w (x2 + 1)) _)
theorem zqR_read (l : Launch) (G : Zg) (σ : Zm) (o1 : Nat) (h1 : zin 294 o1 6) (res : Int × Zm) (he : fR_read σ o1 = some res) : zM l yX5_read cX5_read 3 none 7 G 294 ztt σ [.ref (zad G 150), .ref (zad G o1)] none res.2 := by
  refine zM_of he (by decide +kernel) (Nat.le_of_ble_eq_true rfl) (lv := [(0, .ref (zad G 150)), (1, .ref (zad G o1))]) rfl (fun p e s m below meth c C => ?_)
  unfold fR_read
  refine zr_aloadn C 0 eX5_read_0 rfl ?_
  refine zr_iconst C eX5_read_1 rfl ?_
  refine zr_putI C ff_X5_22 rfl zo_150 eX5_read_2 (fun σ1 => ?_)
  refine zr_aloadn C 0 eX5_read_5 rfl ?_
  refine zr_iconst C eX5_read_6 rfl ?_
  refine zr_putI C ff_X5_25 rfl zo_150 eX5_read_7 (fun σ2 => ?_)
  refine zr_aloadn C 0 eX5_read_10 rfl ?_
  refine zr_iconst C eX5_read_11 rfl ?_
  refine zr_putI C ff_X5_28 rfl zo_150 eX5_read_12 (fun σ3 => ?_)
  refine zr_aloadn C 0 eX5_read_15 rfl ?_
  refine zr_iconst C eX5_read_16 rfl ?_
  refine zr_putI C ff_X5_40 rfl zo_150 eX5_read_17 (fun σ4 => ?_)
  refine zr_aloadn C 1 eX5_read_20 rfl ?_
  refine zr_iconst C eX5_read_21 rfl ?_
  refine zr_putI C ff_X5_62 rfl h1 eX5_read_22 (fun σ5 => ?_)
  refine zr_aloadn C 1 eX5_read_25 rfl ?_
  refine zr_iconst C eX5_read_26 rfl ?_
  refine zr_putI C ff_X5_67 rfl h1 eX5_read_27 (fun σ6 => ?_)
  refine zr_iconst C eX5_read_30 rfl ?_
  refine zr_istoren (lv' := [(2, .int (zI 0)), (0, .ref (zad G 150)), (1, .ref (zad G o1))]) C eX5_read_31 (by decide) rfl ?_
  refine zr_lv [1, 2, 0] rfl ?_
  refine wR_read_32 C 5000 o1 0 h1 w_0 σ6
