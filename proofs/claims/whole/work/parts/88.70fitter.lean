theorem zo_157 : zin 294 157 1 := by unfold zin; decide +kernel
theorem ff_X1_23 : zF RX1 23 1 1 (.object "BrokenFugue$Line") := Or.inl (by unfold zFd; decide +kernel)
theorem zf_157_1 : zRF 157 1 = 162 := by decide +kernel
theorem zo_162 : zin 294 162 3 := by unfold zin; decide +kernel
theorem lk_X1_59 : zL RX1 59 yX3_takeForm := Or.inl (by decide +kernel)
theorem zy_X3_takeForm : zY yX3_takeForm cX3_takeForm 10 none 2 := by unfold zY; decide +kernel
theorem zv_X3_takeForm : zYv yX3_takeForm := by unfold zYv; decide +kernel
theorem zrm_5_10_1 : zRm (zrm 5) 0 0 10 1 := by unfold zRm; decide
theorem ff_X1_12 : zF RX1 12 1 0 (.object "BrokenFugue$Judge") := Or.inl (by unfold zFd; decide +kernel)
theorem zf_157_0 : zRF 157 0 = 158 := by decide +kernel
theorem zo_158 : zin 294 158 2 := by unfold zin; decide +kernel
theorem lk_X1_63 : zL RX1 63 yX2_begin := Or.inl (by decide +kernel)
theorem zy_X2_begin : zY yX2_begin cX2_begin 3 none 2 := by unfold zY; decide +kernel
theorem zv_X2_begin : zYv yX2_begin := by unfold zYv; decide +kernel
theorem zrm_5_3_1 : zRm (zrm 5) 0 0 3 1 := by unfold zRm; decide
theorem zq_X1_67 : Cond.constant RX1 67 (2147483647) ∈ ztb := by decide +kernel
theorem w_2147483647 : zw 2147483647 = 2147483647 := by decide +kernel
theorem lk_X1_68 : zL RX1 68 yX2_askLines := Or.inl (by decide +kernel)
theorem zy_X2_askLines : zY yX2_askLines cX2_askLines 6 none 3 := by unfold zY; decide +kernel
theorem zv_X2_askLines : zYv yX2_askLines := by unfold zYv; decide +kernel
theorem zrm_5_6_4 : zRm (zrm 5) 0 0 6 4 := by unfold zRm; decide
theorem ff_X1_72 : zF RX1 72 2 6 .int := Or.inr ⟨"BrokenFugue", by unfold zFn; decide +kernel⟩
theorem ff_X1_46 : zF RX1 46 1 8 .int := Or.inl (by unfold zFd; decide +kernel)
theorem ff_X1_27 : zF RX1 27 1 2 (.object "BrokenFugue$Line") := Or.inl (by unfold zFd; decide +kernel)
theorem zf_157_2 : zRF 157 2 = 165 := by decide +kernel
theorem zo_165 : zin 294 165 3 := by unfold zin; decide +kernel
theorem lk_X1_75 : zL RX1 75 yX2_askPairs := Or.inl (by decide +kernel)
theorem zy_X2_askPairs : zY yX2_askPairs cX2_askPairs 7 none 4 := by unfold zY; decide +kernel
theorem zv_X2_askPairs : zYv yX2_askPairs := by unfold zYv; decide +kernel
theorem zrm_5_7_4 : zRm (zrm 5) 0 0 7 4 := by unfold zRm; decide
theorem ff_X1_50 : zF RX1 50 1 9 .int := Or.inl (by unfold zFd; decide +kernel)
theorem ff_X1_53 : zF RX1 53 1 10 .int := Or.inl (by unfold zFd; decide +kernel)
theorem w_900 : zw 900 = 900 := by decide +kernel
theorem lk_X1_79 : Cond.methodLink RX1 79 Lib.Math.max.name ∈ ztb := by decide +kernel
theorem zrm_6_2_0 : zRm (zrm 6) 0 0 2 0 := by unfold zRm; decide
theorem lk_X1_85 : zL RX1 85 yX1_priceOf := Or.inl (by decide +kernel)
theorem zy_X1_priceOf : zY yX1_priceOf cX1_priceOf 5 (some .int) 4 := by unfold zY; decide +kernel
theorem zv_X1_priceOf : zYv yX1_priceOf := by unfold zYv; decide +kernel
theorem zrm_6_5_5 : zRm (zrm 6) 0 0 5 5 := by unfold zRm; decide
theorem w_88 : zw 88 = 88 := by decide +kernel
theorem ff_X1_40 : zF RX1 40 1 6 (.array .int) := Or.inl (by unfold zFd; decide +kernel)
theorem zf_157_6 : zRF 157 6 = 175 := by decide +kernel
theorem zo_175 : zin 294 175 20 := by unfold zin; decide +kernel
theorem lk_X1_89 : zL RX1 89 yX9_formOfThree := Or.inr ⟨"BrokenFugue", by decide +kernel⟩
theorem zy_X9_formOfThree : zY yX9_formOfThree cX9_formOfThree 4 (some .int) 1 := by unfold zY; decide +kernel
theorem zs_X9_formOfThree : Cond.static yX9_formOfThree ∈ ztb := by decide +kernel
theorem zrm_6_4_0 : zRm (zrm 6) 0 0 4 0 := by unfold zRm; decide
theorem zn_175 : zLN 175 = 88 := by decide +kernel
theorem ff_X1_43 : zF RX1 43 1 7 (.array .int) := Or.inl (by unfold zFd; decide +kernel)
theorem zf_157_7 : zRF 157 7 = 176 := by decide +kernel
theorem zo_176 : zin 294 176 20 := by unfold zin; decide +kernel
theorem zn_176 : zLN 176 = 88 := by decide +kernel
theorem zrm_6_10_1 : zRm (zrm 6) 0 0 10 1 := by unfold zRm; decide
theorem ff_X1_30 : zF RX1 30 1 3 (.object "BrokenFugue$Line") := Or.inl (by unfold zFd; decide +kernel)
theorem zf_157_3 : zRF 157 3 = 168 := by decide +kernel
theorem zo_168 : zin 294 168 3 := by unfold zin; decide +kernel
theorem zrm_6_7_4 : zRm (zrm 6) 0 0 7 4 := by unfold zRm; decide
theorem ff_X1_56 : zF RX1 56 1 11 .int := Or.inl (by unfold zFd; decide +kernel)
theorem ff_X1_33 : zF RX1 33 1 4 (.object "BrokenFugue$Line") := Or.inl (by unfold zFd; decide +kernel)
theorem zf_157_4 : zRF 157 4 = 171 := by decide +kernel
theorem zo_171 : zin 294 171 3 := by unfold zin; decide +kernel
theorem ff_X1_100 : zF RX1 100 3 1 (.array .int) := Or.inr ⟨"BrokenFugue", by unfold zFn; decide +kernel⟩
theorem zf_171_1 : zRF 171 1 = 173 := by decide +kernel
theorem zo_173 : zin 294 173 20 := by unfold zin; decide +kernel
theorem zn_173 : zLN 173 = 12 := by decide +kernel
theorem ff_X1_103 : zF RX1 103 3 0 (.array .int) := Or.inr ⟨"BrokenFugue", by unfold zFn; decide +kernel⟩
theorem zf_171_0 : zRF 171 0 = 172 := by decide +kernel
theorem zo_172 : zin 294 172 20 := by unfold zin; decide +kernel
theorem zn_172 : zLN 172 = 12 := by decide +kernel
theorem ff_X1_36 : zF RX1 36 1 5 (.array .int) := Or.inl (by unfold zFd; decide +kernel)
theorem zf_157_5 : zRF 157 5 = 174 := by decide +kernel
theorem zo_174 : zin 294 174 20 := by unfold zin; decide +kernel
theorem zn_174 : zLN 174 = 12 := by decide +kernel
theorem lk_X1_93 : zL RX1 93 yX3_take := Or.inl (by decide +kernel)
theorem lk_X1_97 : zL RX1 97 yX3_noteAhead := Or.inl (by decide +kernel)
theorem lk_X1_109 : zL RX1 109 yX1_singChanges := Or.inl (by decide +kernel)
theorem zy_X1_singChanges : zY yX1_singChanges cX1_singChanges 6 none 1 := by unfold zY; decide +kernel
theorem zv_X1_singChanges : zYv yX1_singChanges := by unfold zYv; decide +kernel
theorem zrm_2_6_0 : zRm (zrm 2) 0 0 6 0 := by unfold zRm; decide
theorem lk_X1_106 : zL RX1 106 yJ9_floorMod_7cf53 := Or.inl (by decide +kernel)
theorem zy_J9_floorMod_7cf53 : zY yJ9_floorMod_7cf53 cJ9_floorMod_7cf53 3 (some .int) 2 := by unfold zY; decide +kernel
theorem zs_J9_floorMod_7cf53 : Cond.static yJ9_floorMod_7cf53 ∈ ztb := by decide +kernel
theorem w_131 : zw 131 = 131 := by decide +kernel
theorem w_30013 : zw 30013 = 30013 := by decide +kernel
theorem eX1_begin_0 : zD cX1_begin 0 (.aload_n 0) 1 1 := ⟨by decide +kernel, rfl⟩
theorem eX1_begin_1 : zD cX1_begin 1 (.getfield 23) 3 4 := ⟨by decide +kernel, rfl⟩
theorem eX1_begin_4 : zD cX1_begin 4 (.aload_n 3) 1 5 := ⟨by decide +kernel, rfl⟩
theorem eX1_begin_5 : zD cX1_begin 5 (.bipush 12) 2 7 := ⟨by decide +kernel, rfl⟩
theorem eX1_begin_7 : zD cX1_begin 7 (.invokevirtual 59) 3 10 := ⟨by decide +kernel, rfl⟩
theorem eX1_begin_10 : zD cX1_begin 10 (.aload_n 0) 1 11 := ⟨by decide +kernel, rfl⟩
theorem eX1_begin_11 : zD cX1_begin 11 (.getfield 12) 3 14 := ⟨by decide +kernel, rfl⟩
theorem eX1_begin_14 : zD cX1_begin 14 (.iload_n 2) 1 15 := ⟨by decide +kernel, rfl⟩
theorem eX1_begin_15 : zD cX1_begin 15 (.iconst (-1)) 1 16 := ⟨by decide +kernel, rfl⟩
theorem eX1_begin_16 : zD cX1_begin 16 (.invokevirtual 63) 3 19 := ⟨by decide +kernel, rfl⟩
theorem eX1_begin_19 : zD cX1_begin 19 (.aload_n 0) 1 20 := ⟨by decide +kernel, rfl⟩
theorem eX1_begin_20 : zD cX1_begin 20 (.getfield 12) 3 23 := ⟨by decide +kernel, rfl⟩
theorem eX1_begin_23 : zD cX1_begin 23 (.aload_n 1) 1 24 := ⟨by decide +kernel, rfl⟩
theorem eX1_begin_24 : zD cX1_begin 24 (.aload_n 0) 1 25 := ⟨by decide +kernel, rfl⟩
theorem eX1_begin_25 : zD cX1_begin 25 (.getfield 23) 3 28 := ⟨by decide +kernel, rfl⟩
theorem eX1_begin_28 : zD cX1_begin 28 (.ldc 67) 2 30 := ⟨by decide +kernel, rfl⟩
theorem eX1_begin_30 : zD cX1_begin 30 (.invokevirtual 68) 3 33 := ⟨by decide +kernel, rfl⟩
theorem eX1_begin_33 : zD cX1_begin 33 (.aload_n 0) 1 34 := ⟨by decide +kernel, rfl⟩
theorem eX1_begin_34 : zD cX1_begin 34 (.aload_n 0) 1 35 := ⟨by decide +kernel, rfl⟩
theorem eX1_begin_35 : zD cX1_begin 35 (.getfield 12) 3 38 := ⟨by decide +kernel, rfl⟩
theorem eX1_begin_38 : zD cX1_begin 38 (.getfield 72) 3 41 := ⟨by decide +kernel, rfl⟩
theorem eX1_begin_41 : zD cX1_begin 41 (.putfield 46) 3 44 := ⟨by decide +kernel, rfl⟩
theorem eX1_begin_44 : zD cX1_begin 44 .return_ 1 45 := ⟨by decide +kernel, rfl⟩
theorem eX1_priceOf_0 : zD cX1_priceOf 0 (.aload_n 0) 1 1 := ⟨by decide +kernel, rfl⟩
theorem eX1_priceOf_1 : zD cX1_priceOf 1 (.getfield 27) 3 4 := ⟨by decide +kernel, rfl⟩
theorem eX1_priceOf_4 : zD cX1_priceOf 4 (.aload_n 2) 1 5 := ⟨by decide +kernel, rfl⟩
theorem eX1_priceOf_5 : zD cX1_priceOf 5 (.iload_n 3) 1 6 := ⟨by decide +kernel, rfl⟩
theorem eX1_priceOf_6 : zD cX1_priceOf 6 (.invokevirtual 59) 3 9 := ⟨by decide +kernel, rfl⟩
theorem eX1_priceOf_9 : zD cX1_priceOf 9 (.aload_n 0) 1 10 := ⟨by decide +kernel, rfl⟩
theorem eX1_priceOf_10 : zD cX1_priceOf 10 (.getfield 12) 3 13 := ⟨by decide +kernel, rfl⟩
theorem eX1_priceOf_13 : zD cX1_priceOf 13 (.aload_n 0) 1 14 := ⟨by decide +kernel, rfl⟩
theorem eX1_priceOf_14 : zD cX1_priceOf 14 (.getfield 46) 3 17 := ⟨by decide +kernel, rfl⟩
theorem eX1_priceOf_17 : zD cX1_priceOf 17 (.putfield 72) 3 20 := ⟨by decide +kernel, rfl⟩
theorem eX1_priceOf_20 : zD cX1_priceOf 20 (.aload_n 0) 1 21 := ⟨by decide +kernel, rfl⟩
theorem eX1_priceOf_21 : zD cX1_priceOf 21 (.getfield 12) 3 24 := ⟨by decide +kernel, rfl⟩
theorem eX1_priceOf_24 : zD cX1_priceOf 24 (.aload_n 1) 1 25 := ⟨by decide +kernel, rfl⟩
theorem eX1_priceOf_25 : zD cX1_priceOf 25 (.aload_n 0) 1 26 := ⟨by decide +kernel, rfl⟩
theorem eX1_priceOf_26 : zD cX1_priceOf 26 (.getfield 27) 3 29 := ⟨by decide +kernel, rfl⟩
theorem eX1_priceOf_29 : zD cX1_priceOf 29 (.iload 4) 2 31 := ⟨by decide +kernel, rfl⟩
theorem eX1_priceOf_31 : zD cX1_priceOf 31 (.invokevirtual 68) 3 34 := ⟨by decide +kernel, rfl⟩
theorem eX1_priceOf_34 : zD cX1_priceOf 34 (.aload_n 0) 1 35 := ⟨by decide +kernel, rfl⟩
theorem eX1_priceOf_35 : zD cX1_priceOf 35 (.getfield 12) 3 38 := ⟨by decide +kernel, rfl⟩
theorem eX1_priceOf_38 : zD cX1_priceOf 38 (.aload_n 1) 1 39 := ⟨by decide +kernel, rfl⟩
theorem eX1_priceOf_39 : zD cX1_priceOf 39 (.aload_n 0) 1 40 := ⟨by decide +kernel, rfl⟩
theorem eX1_priceOf_40 : zD cX1_priceOf 40 (.getfield 23) 3 43 := ⟨by decide +kernel, rfl⟩
theorem eX1_priceOf_43 : zD cX1_priceOf 43 (.aload_n 0) 1 44 := ⟨by decide +kernel, rfl⟩
theorem eX1_priceOf_44 : zD cX1_priceOf 44 (.getfield 27) 3 47 := ⟨by decide +kernel, rfl⟩
theorem eX1_priceOf_47 : zD cX1_priceOf 47 (.iload 4) 2 49 := ⟨by decide +kernel, rfl⟩
theorem eX1_priceOf_49 : zD cX1_priceOf 49 (.invokevirtual 75) 3 52 := ⟨by decide +kernel, rfl⟩
theorem eX1_priceOf_52 : zD cX1_priceOf 52 (.aload_n 0) 1 53 := ⟨by decide +kernel, rfl⟩
theorem eX1_priceOf_53 : zD cX1_priceOf 53 (.getfield 12) 3 56 := ⟨by decide +kernel, rfl⟩
theorem eX1_priceOf_56 : zD cX1_priceOf 56 (.getfield 72) 3 59 := ⟨by decide +kernel, rfl⟩
theorem eX1_priceOf_59 : zD cX1_priceOf 59 .ireturn 1 60 := ⟨by decide +kernel, rfl⟩
theorem eX1_findCheapest_0 : zD cX1_findCheapest 0 (.aload_n 0) 1 1 := ⟨by decide +kernel, rfl⟩
theorem eX1_findCheapest_1 : zD cX1_findCheapest 1 (.ldc 67) 2 3 := ⟨by decide +kernel, rfl⟩
theorem eX1_findCheapest_3 : zD cX1_findCheapest 3 (.putfield 50) 3 6 := ⟨by decide +kernel, rfl⟩
theorem eX1_findCheapest_6 : zD cX1_findCheapest 6 (.aload_n 0) 1 7 := ⟨by decide +kernel, rfl⟩
theorem eX1_findCheapest_7 : zD cX1_findCheapest 7 (.iconst 0) 1 8 := ⟨by decide +kernel, rfl⟩
theorem eX1_findCheapest_8 : zD cX1_findCheapest 8 (.putfield 53) 3 11 := ⟨by decide +kernel, rfl⟩
theorem eX1_findCheapest_11 : zD cX1_findCheapest 11 (.iconst 0) 1 12 := ⟨by decide +kernel, rfl⟩
theorem eX1_findCheapest_12 : zD cX1_findCheapest 12 (.istore 4) 2 14 := ⟨by decide +kernel, rfl⟩
theorem eX1_findCheapest_14 : zD cX1_findCheapest 14 (.iload 4) 2 16 := ⟨by decide +kernel, rfl⟩
theorem eX1_findCheapest_16 : zD cX1_findCheapest 16 (.sipush 900) 3 19 := ⟨by decide +kernel, rfl⟩
theorem eX1_findCheapest_19 : zDj cX1_findCheapest 19 (.if_icmp .ge 58) 58 77 22 := ⟨by decide +kernel, rfl, by decide⟩
theorem eX1_findCheapest_22 : zD cX1_findCheapest 22 (.aload_n 0) 1 23 := ⟨by decide +kernel, rfl⟩
theorem eX1_findCheapest_23 : zD cX1_findCheapest 23 (.getfield 50) 3 26 := ⟨by decide +kernel, rfl⟩
theorem eX1_findCheapest_26 : zD cX1_findCheapest 26 (.iconst 0) 1 27 := ⟨by decide +kernel, rfl⟩
theorem eX1_findCheapest_27 : zD cX1_findCheapest 27 (.iload_n 3) 1 28 := ⟨by decide +kernel, rfl⟩
theorem eX1_findCheapest_28 : zD cX1_findCheapest 28 (.invokestatic 79) 3 31 := ⟨by decide +kernel, rfl⟩
theorem eX1_findCheapest_31 : zDj cX1_findCheapest 31 (.if_icmp .le 46) 46 77 34 := ⟨by decide +kernel, rfl, by decide⟩
theorem eX1_findCheapest_34 : zD cX1_findCheapest 34 (.aload_n 0) 1 35 := ⟨by decide +kernel, rfl⟩
theorem eX1_findCheapest_35 : zD cX1_findCheapest 35 (.aload_n 1) 1 36 := ⟨by decide +kernel, rfl⟩
theorem eX1_findCheapest_36 : zD cX1_findCheapest 36 (.aload_n 2) 1 37 := ⟨by decide +kernel, rfl⟩
theorem eX1_findCheapest_37 : zD cX1_findCheapest 37 (.iload 4) 2 39 := ⟨by decide +kernel, rfl⟩
theorem eX1_findCheapest_39 : zD cX1_findCheapest 39 (.aload_n 0) 1 40 := ⟨by decide +kernel, rfl⟩
theorem eX1_findCheapest_40 : zD cX1_findCheapest 40 (.getfield 50) 3 43 := ⟨by decide +kernel, rfl⟩
theorem eX1_findCheapest_43 : zD cX1_findCheapest 43 (.iconst 1) 1 44 := ⟨by decide +kernel, rfl⟩
theorem eX1_findCheapest_44 : zD cX1_findCheapest 44 .isub 1 45 := ⟨by decide +kernel, rfl⟩
theorem eX1_findCheapest_45 : zD cX1_findCheapest 45 (.invokevirtual 85) 3 48 := ⟨by decide +kernel, rfl⟩
theorem eX1_findCheapest_48 : zD cX1_findCheapest 48 (.istore 5) 2 50 := ⟨by decide +kernel, rfl⟩
theorem eX1_findCheapest_50 : zD cX1_findCheapest 50 (.iload 5) 2 52 := ⟨by decide +kernel, rfl⟩
theorem eX1_findCheapest_52 : zD cX1_findCheapest 52 (.aload_n 0) 1 53 := ⟨by decide +kernel, rfl⟩
theorem eX1_findCheapest_53 : zD cX1_findCheapest 53 (.getfield 50) 3 56 := ⟨by decide +kernel, rfl⟩
theorem eX1_findCheapest_56 : zDj cX1_findCheapest 56 (.if_icmp .ge 15) 15 71 59 := ⟨by decide +kernel, rfl, by decide⟩
theorem eX1_findCheapest_59 : zD cX1_findCheapest 59 (.aload_n 0) 1 60 := ⟨by decide +kernel, rfl⟩
theorem eX1_findCheapest_60 : zD cX1_findCheapest 60 (.iload 5) 2 62 := ⟨by decide +kernel, rfl⟩
theorem eX1_findCheapest_62 : zD cX1_findCheapest 62 (.putfield 50) 3 65 := ⟨by decide +kernel, rfl⟩
theorem eX1_findCheapest_65 : zD cX1_findCheapest 65 (.aload_n 0) 1 66 := ⟨by decide +kernel, rfl⟩
theorem eX1_findCheapest_66 : zD cX1_findCheapest 66 (.iload 4) 2 68 := ⟨by decide +kernel, rfl⟩
theorem eX1_findCheapest_68 : zD cX1_findCheapest 68 (.putfield 53) 3 71 := ⟨by decide +kernel, rfl⟩
theorem eX1_findCheapest_71 : zD cX1_findCheapest 71 (.iinc 4 1) 3 74 := ⟨by decide +kernel, rfl⟩
theorem eX1_findCheapest_74 : zDj cX1_findCheapest 74 (.goto (-60)) (-60) 14 77 := ⟨by decide +kernel, rfl, by decide⟩
theorem eX1_findCheapest_77 : zD cX1_findCheapest 77 .return_ 1 78 := ⟨by decide +kernel, rfl⟩
theorem eX1_findThree_0 : zD cX1_findThree 0 (.iconst 0) 1 1 := ⟨by decide +kernel, rfl⟩
theorem eX1_findThree_1 : zD cX1_findThree 1 (.istore 4) 2 3 := ⟨by decide +kernel, rfl⟩
theorem eX1_findThree_3 : zD cX1_findThree 3 (.iload 4) 2 5 := ⟨by decide +kernel, rfl⟩
theorem eX1_findThree_5 : zD cX1_findThree 5 (.bipush 88) 2 7 := ⟨by decide +kernel, rfl⟩
theorem eX1_findThree_7 : zDj cX1_findThree 7 (.if_icmp .ge 54) 54 61 10 := ⟨by decide +kernel, rfl, by decide⟩
theorem eX1_findThree_10 : zD cX1_findThree 10 (.aload_n 0) 1 11 := ⟨by decide +kernel, rfl⟩
theorem eX1_findThree_11 : zD cX1_findThree 11 (.getfield 40) 3 14 := ⟨by decide +kernel, rfl⟩
theorem eX1_findThree_14 : zD cX1_findThree 14 (.iload 4) 2 16 := ⟨by decide +kernel, rfl⟩
theorem eX1_findThree_16 : zD cX1_findThree 16 (.aload_n 0) 1 17 := ⟨by decide +kernel, rfl⟩
theorem eX1_findThree_17 : zD cX1_findThree 17 (.aload_n 1) 1 18 := ⟨by decide +kernel, rfl⟩
theorem eX1_findThree_18 : zD cX1_findThree 18 (.aload_n 2) 1 19 := ⟨by decide +kernel, rfl⟩
theorem eX1_findThree_19 : zD cX1_findThree 19 (.iload 4) 2 21 := ⟨by decide +kernel, rfl⟩
theorem eX1_findThree_21 : zD cX1_findThree 21 (.invokestatic 89) 3 24 := ⟨by decide +kernel, rfl⟩
theorem eX1_findThree_24 : zD cX1_findThree 24 (.ldc 67) 2 26 := ⟨by decide +kernel, rfl⟩
theorem eX1_findThree_26 : zD cX1_findThree 26 (.invokevirtual 85) 3 29 := ⟨by decide +kernel, rfl⟩
theorem eX1_findThree_29 : zD cX1_findThree 29 .iastore 1 30 := ⟨by decide +kernel, rfl⟩
theorem eX1_findThree_30 : zD cX1_findThree 30 (.aload_n 0) 1 31 := ⟨by decide +kernel, rfl⟩
theorem eX1_findThree_31 : zD cX1_findThree 31 (.getfield 43) 3 34 := ⟨by decide +kernel, rfl⟩
theorem eX1_findThree_34 : zD cX1_findThree 34 (.iload 4) 2 36 := ⟨by decide +kernel, rfl⟩
theorem eX1_findThree_36 : zD cX1_findThree 36 (.aload_n 0) 1 37 := ⟨by decide +kernel, rfl⟩
theorem eX1_findThree_37 : zD cX1_findThree 37 (.aload_n 1) 1 38 := ⟨by decide +kernel, rfl⟩
theorem eX1_findThree_38 : zD cX1_findThree 38 (.aload_n 3) 1 39 := ⟨by decide +kernel, rfl⟩
theorem eX1_findThree_39 : zD cX1_findThree 39 (.iload 4) 2 41 := ⟨by decide +kernel, rfl⟩
theorem eX1_findThree_41 : zD cX1_findThree 41 (.invokestatic 89) 3 44 := ⟨by decide +kernel, rfl⟩
theorem eX1_findThree_44 : zD cX1_findThree 44 (.ldc 67) 2 46 := ⟨by decide +kernel, rfl⟩
theorem eX1_findThree_46 : zD cX1_findThree 46 (.invokevirtual 85) 3 49 := ⟨by decide +kernel, rfl⟩
theorem eX1_findThree_49 : zD cX1_findThree 49 (.aload_n 0) 1 50 := ⟨by decide +kernel, rfl⟩
theorem eX1_findThree_50 : zD cX1_findThree 50 (.getfield 46) 3 53 := ⟨by decide +kernel, rfl⟩
theorem eX1_findThree_53 : zD cX1_findThree 53 .isub 1 54 := ⟨by decide +kernel, rfl⟩
theorem eX1_findThree_54 : zD cX1_findThree 54 .iastore 1 55 := ⟨by decide +kernel, rfl⟩
theorem eX1_findThree_55 : zD cX1_findThree 55 (.iinc 4 1) 3 58 := ⟨by decide +kernel, rfl⟩
theorem eX1_findThree_58 : zDj cX1_findThree 58 (.goto (-55)) (-55) 3 61 := ⟨by decide +kernel, rfl, by decide⟩
theorem eX1_findThree_61 : zD cX1_findThree 61 (.aload_n 0) 1 62 := ⟨by decide +kernel, rfl⟩
theorem eX1_findThree_62 : zD cX1_findThree 62 (.ldc 67) 2 64 := ⟨by decide +kernel, rfl⟩
theorem eX1_findThree_64 : zD cX1_findThree 64 (.putfield 50) 3 67 := ⟨by decide +kernel, rfl⟩
theorem eX1_findThree_67 : zD cX1_findThree 67 (.iconst 0) 1 68 := ⟨by decide +kernel, rfl⟩
theorem eX1_findThree_68 : zD cX1_findThree 68 (.istore 4) 2 70 := ⟨by decide +kernel, rfl⟩
theorem eX1_findThree_70 : zD cX1_findThree 70 (.iload 4) 2 72 := ⟨by decide +kernel, rfl⟩
theorem eX1_findThree_72 : zD cX1_findThree 72 (.bipush 88) 2 74 := ⟨by decide +kernel, rfl⟩
theorem eX1_findThree_74 : zDj cX1_findThree 74 (.if_icmp .ge 154) 154 228 77 := ⟨by decide +kernel, rfl, by decide⟩
theorem eX1_findThree_77 : zD cX1_findThree 77 (.aload_n 0) 1 78 := ⟨by decide +kernel, rfl⟩
theorem eX1_findThree_78 : zD cX1_findThree 78 (.getfield 27) 3 81 := ⟨by decide +kernel, rfl⟩
theorem eX1_findThree_81 : zD cX1_findThree 81 (.aload_n 2) 1 82 := ⟨by decide +kernel, rfl⟩
theorem eX1_findThree_82 : zD cX1_findThree 82 (.iload 4) 2 84 := ⟨by decide +kernel, rfl⟩
theorem eX1_findThree_84 : zD cX1_findThree 84 (.invokestatic 89) 3 87 := ⟨by decide +kernel, rfl⟩
theorem eX1_findThree_87 : zD cX1_findThree 87 (.invokevirtual 59) 3 90 := ⟨by decide +kernel, rfl⟩
theorem eX1_findThree_90 : zD cX1_findThree 90 (.iconst 0) 1 91 := ⟨by decide +kernel, rfl⟩
theorem eX1_findThree_91 : zD cX1_findThree 91 (.istore 5) 2 93 := ⟨by decide +kernel, rfl⟩
theorem eX1_findThree_93 : zD cX1_findThree 93 (.iload 5) 2 95 := ⟨by decide +kernel, rfl⟩
theorem eX1_findThree_95 : zD cX1_findThree 95 (.bipush 88) 2 97 := ⟨by decide +kernel, rfl⟩
theorem eX1_findThree_97 : zDj cX1_findThree 97 (.if_icmp .ge 125) 125 222 100 := ⟨by decide +kernel, rfl, by decide⟩
theorem eX1_findThree_100 : zD cX1_findThree 100 (.aload_n 0) 1 101 := ⟨by decide +kernel, rfl⟩
theorem eX1_findThree_101 : zD cX1_findThree 101 (.getfield 40) 3 104 := ⟨by decide +kernel, rfl⟩
theorem eX1_findThree_104 : zD cX1_findThree 104 (.iload 4) 2 106 := ⟨by decide +kernel, rfl⟩
theorem eX1_findThree_106 : zD cX1_findThree 106 .iaload 1 107 := ⟨by decide +kernel, rfl⟩
theorem eX1_findThree_107 : zD cX1_findThree 107 (.aload_n 0) 1 108 := ⟨by decide +kernel, rfl⟩
theorem eX1_findThree_108 : zD cX1_findThree 108 (.getfield 43) 3 111 := ⟨by decide +kernel, rfl⟩
theorem eX1_findThree_111 : zD cX1_findThree 111 (.iload 5) 2 113 := ⟨by decide +kernel, rfl⟩
theorem eX1_findThree_113 : zD cX1_findThree 113 .iaload 1 114 := ⟨by decide +kernel, rfl⟩
theorem eX1_findThree_114 : zD cX1_findThree 114 .iadd 1 115 := ⟨by decide +kernel, rfl⟩
theorem eX1_findThree_115 : zD cX1_findThree 115 (.istore 6) 2 117 := ⟨by decide +kernel, rfl⟩
theorem eX1_findThree_117 : zD cX1_findThree 117 (.iload 6) 2 119 := ⟨by decide +kernel, rfl⟩
theorem eX1_findThree_119 : zD cX1_findThree 119 (.aload_n 0) 1 120 := ⟨by decide +kernel, rfl⟩
theorem eX1_findThree_120 : zD cX1_findThree 120 (.getfield 50) 3 123 := ⟨by decide +kernel, rfl⟩
theorem eX1_findThree_123 : zDj cX1_findThree 123 (.if_icmp .lt 6) 6 129 126 := ⟨by decide +kernel, rfl, by decide⟩
theorem eX1_findThree_126 : zDj cX1_findThree 126 (.goto 90) 90 216 129 := ⟨by decide +kernel, rfl, by decide⟩
theorem eX1_findThree_129 : zD cX1_findThree 129 (.aload_n 0) 1 130 := ⟨by decide +kernel, rfl⟩
theorem eX1_findThree_130 : zD cX1_findThree 130 (.getfield 30) 3 133 := ⟨by decide +kernel, rfl⟩
theorem eX1_findThree_133 : zD cX1_findThree 133 (.aload_n 3) 1 134 := ⟨by decide +kernel, rfl⟩
theorem eX1_findThree_134 : zD cX1_findThree 134 (.iload 5) 2 136 := ⟨by decide +kernel, rfl⟩
theorem eX1_findThree_136 : zD cX1_findThree 136 (.invokestatic 89) 3 139 := ⟨by decide +kernel, rfl⟩
theorem eX1_findThree_139 : zD cX1_findThree 139 (.invokevirtual 59) 3 142 := ⟨by decide +kernel, rfl⟩
theorem eX1_findThree_142 : zD cX1_findThree 142 (.aload_n 0) 1 143 := ⟨by decide +kernel, rfl⟩
theorem eX1_findThree_143 : zD cX1_findThree 143 (.getfield 12) 3 146 := ⟨by decide +kernel, rfl⟩
theorem eX1_findThree_146 : zD cX1_findThree 146 (.iload 6) 2 148 := ⟨by decide +kernel, rfl⟩
theorem eX1_findThree_148 : zD cX1_findThree 148 (.putfield 72) 3 151 := ⟨by decide +kernel, rfl⟩
theorem eX1_findThree_151 : zD cX1_findThree 151 (.aload_n 0) 1 152 := ⟨by decide +kernel, rfl⟩
theorem eX1_findThree_152 : zD cX1_findThree 152 (.getfield 12) 3 155 := ⟨by decide +kernel, rfl⟩
theorem eX1_findThree_155 : zD cX1_findThree 155 (.aload_n 1) 1 156 := ⟨by decide +kernel, rfl⟩
theorem eX1_findThree_156 : zD cX1_findThree 156 (.aload_n 0) 1 157 := ⟨by decide +kernel, rfl⟩
theorem eX1_findThree_157 : zD cX1_findThree 157 (.getfield 27) 3 160 := ⟨by decide +kernel, rfl⟩
theorem eX1_findThree_160 : zD cX1_findThree 160 (.aload_n 0) 1 161 := ⟨by decide +kernel, rfl⟩
theorem eX1_findThree_161 : zD cX1_findThree 161 (.getfield 30) 3 164 := ⟨by decide +kernel, rfl⟩
theorem eX1_findThree_164 : zD cX1_findThree 164 (.aload_n 0) 1 165 := ⟨by decide +kernel, rfl⟩
theorem eX1_findThree_165 : zD cX1_findThree 165 (.getfield 50) 3 168 := ⟨by decide +kernel, rfl⟩
theorem eX1_findThree_168 : zD cX1_findThree 168 (.iconst 1) 1 169 := ⟨by decide +kernel, rfl⟩
theorem eX1_findThree_169 : zD cX1_findThree 169 .isub 1 170 := ⟨by decide +kernel, rfl⟩
theorem eX1_findThree_170 : zD cX1_findThree 170 (.invokevirtual 75) 3 173 := ⟨by decide +kernel, rfl⟩
theorem eX1_findThree_173 : zD cX1_findThree 173 (.aload_n 0) 1 174 := ⟨by decide +kernel, rfl⟩
theorem eX1_findThree_174 : zD cX1_findThree 174 (.getfield 12) 3 177 := ⟨by decide +kernel, rfl⟩
theorem eX1_findThree_177 : zD cX1_findThree 177 (.getfield 72) 3 180 := ⟨by decide +kernel, rfl⟩
theorem eX1_findThree_180 : zD cX1_findThree 180 (.aload_n 0) 1 181 := ⟨by decide +kernel, rfl⟩
theorem eX1_findThree_181 : zD cX1_findThree 181 (.getfield 50) 3 184 := ⟨by decide +kernel, rfl⟩
theorem eX1_findThree_184 : zDj cX1_findThree 184 (.if_icmp .ge 32) 32 216 187 := ⟨by decide +kernel, rfl, by decide⟩
theorem eX1_findThree_187 : zD cX1_findThree 187 (.aload_n 0) 1 188 := ⟨by decide +kernel, rfl⟩
theorem eX1_findThree_188 : zD cX1_findThree 188 (.aload_n 0) 1 189 := ⟨by decide +kernel, rfl⟩
theorem eX1_findThree_189 : zD cX1_findThree 189 (.getfield 12) 3 192 := ⟨by decide +kernel, rfl⟩
theorem eX1_findThree_192 : zD cX1_findThree 192 (.getfield 72) 3 195 := ⟨by decide +kernel, rfl⟩
theorem eX1_findThree_195 : zD cX1_findThree 195 (.putfield 50) 3 198 := ⟨by decide +kernel, rfl⟩
theorem eX1_findThree_198 : zD cX1_findThree 198 (.aload_n 0) 1 199 := ⟨by decide +kernel, rfl⟩
theorem eX1_findThree_199 : zD cX1_findThree 199 (.iload 4) 2 201 := ⟨by decide +kernel, rfl⟩
theorem eX1_findThree_201 : zD cX1_findThree 201 (.invokestatic 89) 3 204 := ⟨by decide +kernel, rfl⟩
theorem eX1_findThree_204 : zD cX1_findThree 204 (.putfield 53) 3 207 := ⟨by decide +kernel, rfl⟩
theorem eX1_findThree_207 : zD cX1_findThree 207 (.aload_n 0) 1 208 := ⟨by decide +kernel, rfl⟩
theorem eX1_findThree_208 : zD cX1_findThree 208 (.iload 5) 2 210 := ⟨by decide +kernel, rfl⟩
theorem eX1_findThree_210 : zD cX1_findThree 210 (.invokestatic 89) 3 213 := ⟨by decide +kernel, rfl⟩
theorem eX1_findThree_213 : zD cX1_findThree 213 (.putfield 56) 3 216 := ⟨by decide +kernel, rfl⟩
theorem eX1_findThree_216 : zD cX1_findThree 216 (.iinc 5 1) 3 219 := ⟨by decide +kernel, rfl⟩
theorem eX1_findThree_219 : zDj cX1_findThree 219 (.goto (-126)) (-126) 93 222 := ⟨by decide +kernel, rfl, by decide⟩
theorem eX1_findThree_222 : zD cX1_findThree 222 (.iinc 4 1) 3 225 := ⟨by decide +kernel, rfl⟩
theorem eX1_findThree_225 : zDj cX1_findThree 225 (.goto (-155)) (-155) 70 228 := ⟨by decide +kernel, rfl, by decide⟩
theorem eX1_findThree_228 : zD cX1_findThree 228 .return_ 1 229 := ⟨by decide +kernel, rfl⟩
theorem eX1_singChanges_0 : zD cX1_singChanges 0 (.iconst 0) 1 1 := ⟨by decide +kernel, rfl⟩
theorem eX1_singChanges_1 : zD cX1_singChanges 1 (.istore_n 2) 1 2 := ⟨by decide +kernel, rfl⟩
theorem eX1_singChanges_2 : zD cX1_singChanges 2 (.iconst 0) 1 3 := ⟨by decide +kernel, rfl⟩
theorem eX1_singChanges_3 : zD cX1_singChanges 3 (.istore_n 3) 1 4 := ⟨by decide +kernel, rfl⟩
theorem eX1_singChanges_4 : zD cX1_singChanges 4 (.iconst 0) 1 5 := ⟨by decide +kernel, rfl⟩
theorem eX1_singChanges_5 : zD cX1_singChanges 5 (.istore 4) 2 7 := ⟨by decide +kernel, rfl⟩
theorem eX1_singChanges_7 : zD cX1_singChanges 7 (.iconst 0) 1 8 := ⟨by decide +kernel, rfl⟩
theorem eX1_singChanges_8 : zD cX1_singChanges 8 (.istore 5) 2 10 := ⟨by decide +kernel, rfl⟩
theorem eX1_singChanges_10 : zD cX1_singChanges 10 (.iload 5) 2 12 := ⟨by decide +kernel, rfl⟩
theorem eX1_singChanges_12 : zD cX1_singChanges 12 (.bipush 12) 2 14 := ⟨by decide +kernel, rfl⟩
theorem eX1_singChanges_14 : zDj cX1_singChanges 14 (.if_icmp .ge 109) 109 123 17 := ⟨by decide +kernel, rfl, by decide⟩
theorem eX1_singChanges_17 : zD cX1_singChanges 17 (.aload_n 0) 1 18 := ⟨by decide +kernel, rfl⟩
theorem eX1_singChanges_18 : zD cX1_singChanges 18 (.getfield 33) 3 21 := ⟨by decide +kernel, rfl⟩
theorem eX1_singChanges_21 : zD cX1_singChanges 21 (.getfield 100) 3 24 := ⟨by decide +kernel, rfl⟩
theorem eX1_singChanges_24 : zD cX1_singChanges 24 (.iload 5) 2 26 := ⟨by decide +kernel, rfl⟩
theorem eX1_singChanges_26 : zD cX1_singChanges 26 .iaload 1 27 := ⟨by decide +kernel, rfl⟩
theorem eX1_singChanges_27 : zD cX1_singChanges 27 (.iconst 1) 1 28 := ⟨by decide +kernel, rfl⟩
theorem eX1_singChanges_28 : zDj cX1_singChanges 28 (.if_icmp .ne 25) 25 53 31 := ⟨by decide +kernel, rfl, by decide⟩
theorem eX1_singChanges_31 : zD cX1_singChanges 31 (.iload 4) 2 33 := ⟨by decide +kernel, rfl⟩
theorem eX1_singChanges_33 : zDj cX1_singChanges 33 (.ifCond .ne 20) 20 53 36 := ⟨by decide +kernel, rfl, by decide⟩
theorem eX1_singChanges_36 : zD cX1_singChanges 36 (.aload_n 0) 1 37 := ⟨by decide +kernel, rfl⟩
theorem eX1_singChanges_37 : zD cX1_singChanges 37 (.getfield 33) 3 40 := ⟨by decide +kernel, rfl⟩
theorem eX1_singChanges_40 : zD cX1_singChanges 40 (.getfield 103) 3 43 := ⟨by decide +kernel, rfl⟩
theorem eX1_singChanges_43 : zD cX1_singChanges 43 (.iload 5) 2 45 := ⟨by decide +kernel, rfl⟩
theorem eX1_singChanges_45 : zD cX1_singChanges 45 .iaload 1 46 := ⟨by decide +kernel, rfl⟩
theorem eX1_singChanges_46 : zD cX1_singChanges 46 (.istore_n 3) 1 47 := ⟨by decide +kernel, rfl⟩
theorem eX1_singChanges_47 : zD cX1_singChanges 47 (.iconst 1) 1 48 := ⟨by decide +kernel, rfl⟩
theorem eX1_singChanges_48 : zD cX1_singChanges 48 (.istore 4) 2 50 := ⟨by decide +kernel, rfl⟩
theorem eX1_singChanges_50 : zDj cX1_singChanges 50 (.goto 43) 43 93 53 := ⟨by decide +kernel, rfl, by decide⟩
theorem eX1_singChanges_53 : zD cX1_singChanges 53 (.aload_n 0) 1 54 := ⟨by decide +kernel, rfl⟩
theorem eX1_singChanges_54 : zD cX1_singChanges 54 (.getfield 33) 3 57 := ⟨by decide +kernel, rfl⟩
theorem eX1_singChanges_57 : zD cX1_singChanges 57 (.getfield 100) 3 60 := ⟨by decide +kernel, rfl⟩
theorem eX1_singChanges_60 : zD cX1_singChanges 60 (.iload 5) 2 62 := ⟨by decide +kernel, rfl⟩
theorem eX1_singChanges_62 : zD cX1_singChanges 62 .iaload 1 63 := ⟨by decide +kernel, rfl⟩
theorem eX1_singChanges_63 : zD cX1_singChanges 63 (.iconst 1) 1 64 := ⟨by decide +kernel, rfl⟩
theorem eX1_singChanges_64 : zDj cX1_singChanges 64 (.if_icmp .ne 29) 29 93 67 := ⟨by decide +kernel, rfl, by decide⟩
theorem eX1_singChanges_67 : zD cX1_singChanges 67 (.iload_n 2) 1 68 := ⟨by decide +kernel, rfl⟩
theorem eX1_singChanges_68 : zD cX1_singChanges 68 (.iload_n 1) 1 69 := ⟨by decide +kernel, rfl⟩
theorem eX1_singChanges_69 : zDj cX1_singChanges 69 (.if_icmp .ge 24) 24 93 72 := ⟨by decide +kernel, rfl, by decide⟩
theorem eX1_singChanges_72 : zD cX1_singChanges 72 (.iload_n 2) 1 73 := ⟨by decide +kernel, rfl⟩
theorem eX1_singChanges_73 : zD cX1_singChanges 73 (.aload_n 0) 1 74 := ⟨by decide +kernel, rfl⟩
theorem eX1_singChanges_74 : zD cX1_singChanges 74 (.getfield 36) 3 77 := ⟨by decide +kernel, rfl⟩
theorem eX1_singChanges_77 : zD cX1_singChanges 77 .arraylength 1 78 := ⟨by decide +kernel, rfl⟩
theorem eX1_singChanges_78 : zDj cX1_singChanges 78 (.if_icmp .ge 15) 15 93 81 := ⟨by decide +kernel, rfl, by decide⟩
theorem eX1_singChanges_81 : zD cX1_singChanges 81 (.iload_n 3) 1 82 := ⟨by decide +kernel, rfl⟩
theorem eX1_singChanges_82 : zD cX1_singChanges 82 (.aload_n 0) 1 83 := ⟨by decide +kernel, rfl⟩
theorem eX1_singChanges_83 : zD cX1_singChanges 83 (.getfield 36) 3 86 := ⟨by decide +kernel, rfl⟩
theorem eX1_singChanges_86 : zD cX1_singChanges 86 (.iload_n 2) 1 87 := ⟨by decide +kernel, rfl⟩
theorem eX1_singChanges_87 : zD cX1_singChanges 87 .iaload 1 88 := ⟨by decide +kernel, rfl⟩
theorem eX1_singChanges_88 : zD cX1_singChanges 88 .iadd 1 89 := ⟨by decide +kernel, rfl⟩
theorem eX1_singChanges_89 : zD cX1_singChanges 89 (.istore_n 3) 1 90 := ⟨by decide +kernel, rfl⟩
theorem eX1_singChanges_90 : zD cX1_singChanges 90 (.iinc 2 1) 3 93 := ⟨by decide +kernel, rfl⟩
theorem eX1_singChanges_93 : zD cX1_singChanges 93 (.aload_n 0) 1 94 := ⟨by decide +kernel, rfl⟩
theorem eX1_singChanges_94 : zD cX1_singChanges 94 (.getfield 33) 3 97 := ⟨by decide +kernel, rfl⟩
theorem eX1_singChanges_97 : zD cX1_singChanges 97 (.getfield 100) 3 100 := ⟨by decide +kernel, rfl⟩
theorem eX1_singChanges_100 : zD cX1_singChanges 100 (.iload 5) 2 102 := ⟨by decide +kernel, rfl⟩
theorem eX1_singChanges_102 : zD cX1_singChanges 102 .iaload 1 103 := ⟨by decide +kernel, rfl⟩
theorem eX1_singChanges_103 : zDj cX1_singChanges 103 (.ifCond .eq 14) 14 117 106 := ⟨by decide +kernel, rfl, by decide⟩
theorem eX1_singChanges_106 : zD cX1_singChanges 106 (.aload_n 0) 1 107 := ⟨by decide +kernel, rfl⟩
theorem eX1_singChanges_107 : zD cX1_singChanges 107 (.getfield 33) 3 110 := ⟨by decide +kernel, rfl⟩
theorem eX1_singChanges_110 : zD cX1_singChanges 110 (.getfield 103) 3 113 := ⟨by decide +kernel, rfl⟩
theorem eX1_singChanges_113 : zD cX1_singChanges 113 (.iload 5) 2 115 := ⟨by decide +kernel, rfl⟩
theorem eX1_singChanges_115 : zD cX1_singChanges 115 (.iload_n 3) 1 116 := ⟨by decide +kernel, rfl⟩
theorem eX1_singChanges_116 : zD cX1_singChanges 116 .iastore 1 117 := ⟨by decide +kernel, rfl⟩
theorem eX1_singChanges_117 : zD cX1_singChanges 117 (.iinc 5 1) 3 120 := ⟨by decide +kernel, rfl⟩
theorem eX1_singChanges_120 : zDj cX1_singChanges 120 (.goto (-110)) (-110) 10 123 := ⟨by decide +kernel, rfl, by decide⟩
theorem eX1_singChanges_123 : zD cX1_singChanges 123 .return_ 1 124 := ⟨by decide +kernel, rfl⟩
theorem eX1_shuffle_0 : zD cX1_shuffle 0 (.aload_n 0) 1 1 := ⟨by decide +kernel, rfl⟩
theorem eX1_shuffle_1 : zD cX1_shuffle 1 (.getfield 33) 3 4 := ⟨by decide +kernel, rfl⟩
theorem eX1_shuffle_4 : zD cX1_shuffle 4 (.aload_n 1) 1 5 := ⟨by decide +kernel, rfl⟩
theorem eX1_shuffle_5 : zD cX1_shuffle 5 (.invokevirtual 93) 3 8 := ⟨by decide +kernel, rfl⟩
theorem eX1_shuffle_8 : zD cX1_shuffle 8 (.iconst 0) 1 9 := ⟨by decide +kernel, rfl⟩
theorem eX1_shuffle_9 : zD cX1_shuffle 9 (.istore_n 3) 1 10 := ⟨by decide +kernel, rfl⟩
theorem eX1_shuffle_10 : zD cX1_shuffle 10 (.iconst 0) 1 11 := ⟨by decide +kernel, rfl⟩
theorem eX1_shuffle_11 : zD cX1_shuffle 11 (.istore 4) 2 13 := ⟨by decide +kernel, rfl⟩
theorem eX1_shuffle_13 : zD cX1_shuffle 13 (.iload 4) 2 15 := ⟨by decide +kernel, rfl⟩
theorem eX1_shuffle_15 : zD cX1_shuffle 15 (.bipush 12) 2 17 := ⟨by decide +kernel, rfl⟩
theorem eX1_shuffle_17 : zDj cX1_shuffle 17 (.if_icmp .ge 66) 66 83 20 := ⟨by decide +kernel, rfl, by decide⟩
theorem eX1_shuffle_20 : zD cX1_shuffle 20 (.aload_n 1) 1 21 := ⟨by decide +kernel, rfl⟩
theorem eX1_shuffle_21 : zD cX1_shuffle 21 (.iload 4) 2 23 := ⟨by decide +kernel, rfl⟩
theorem eX1_shuffle_23 : zD cX1_shuffle 23 (.invokevirtual 97) 3 26 := ⟨by decide +kernel, rfl⟩
theorem eX1_shuffle_26 : zD cX1_shuffle 26 (.istore 5) 2 28 := ⟨by decide +kernel, rfl⟩
theorem eX1_shuffle_28 : zD cX1_shuffle 28 (.aload_n 1) 1 29 := ⟨by decide +kernel, rfl⟩
theorem eX1_shuffle_29 : zD cX1_shuffle 29 (.getfield 100) 3 32 := ⟨by decide +kernel, rfl⟩
theorem eX1_shuffle_32 : zD cX1_shuffle 32 (.iload 4) 2 34 := ⟨by decide +kernel, rfl⟩
theorem eX1_shuffle_34 : zD cX1_shuffle 34 .iaload 1 35 := ⟨by decide +kernel, rfl⟩
theorem eX1_shuffle_35 : zD cX1_shuffle 35 (.iconst 1) 1 36 := ⟨by decide +kernel, rfl⟩
theorem eX1_shuffle_36 : zDj cX1_shuffle 36 (.if_icmp .ne 41) 41 77 39 := ⟨by decide +kernel, rfl, by decide⟩
theorem eX1_shuffle_39 : zD cX1_shuffle 39 (.iload 5) 2 41 := ⟨by decide +kernel, rfl⟩
theorem eX1_shuffle_41 : zDj cX1_shuffle 41 (.ifCond .lt 36) 36 77 44 := ⟨by decide +kernel, rfl, by decide⟩
theorem eX1_shuffle_44 : zD cX1_shuffle 44 (.iload_n 3) 1 45 := ⟨by decide +kernel, rfl⟩
theorem eX1_shuffle_45 : zD cX1_shuffle 45 (.aload_n 0) 1 46 := ⟨by decide +kernel, rfl⟩
theorem eX1_shuffle_46 : zD cX1_shuffle 46 (.getfield 36) 3 49 := ⟨by decide +kernel, rfl⟩
theorem eX1_shuffle_49 : zD cX1_shuffle 49 .arraylength 1 50 := ⟨by decide +kernel, rfl⟩
theorem eX1_shuffle_50 : zDj cX1_shuffle 50 (.if_icmp .ge 27) 27 77 53 := ⟨by decide +kernel, rfl, by decide⟩
theorem eX1_shuffle_53 : zD cX1_shuffle 53 (.aload_n 0) 1 54 := ⟨by decide +kernel, rfl⟩
theorem eX1_shuffle_54 : zD cX1_shuffle 54 (.getfield 36) 3 57 := ⟨by decide +kernel, rfl⟩
theorem eX1_shuffle_57 : zD cX1_shuffle 57 (.iload_n 3) 1 58 := ⟨by decide +kernel, rfl⟩
theorem eX1_shuffle_58 : zD cX1_shuffle 58 (.aload_n 1) 1 59 := ⟨by decide +kernel, rfl⟩
theorem eX1_shuffle_59 : zD cX1_shuffle 59 (.getfield 103) 3 62 := ⟨by decide +kernel, rfl⟩
theorem eX1_shuffle_62 : zD cX1_shuffle 62 (.iload 4) 2 64 := ⟨by decide +kernel, rfl⟩
theorem eX1_shuffle_64 : zD cX1_shuffle 64 .iaload 1 65 := ⟨by decide +kernel, rfl⟩
theorem eX1_shuffle_65 : zD cX1_shuffle 65 (.aload_n 1) 1 66 := ⟨by decide +kernel, rfl⟩
theorem eX1_shuffle_66 : zD cX1_shuffle 66 (.getfield 103) 3 69 := ⟨by decide +kernel, rfl⟩
theorem eX1_shuffle_69 : zD cX1_shuffle 69 (.iload 5) 2 71 := ⟨by decide +kernel, rfl⟩
theorem eX1_shuffle_71 : zD cX1_shuffle 71 .iaload 1 72 := ⟨by decide +kernel, rfl⟩
theorem eX1_shuffle_72 : zD cX1_shuffle 72 .isub 1 73 := ⟨by decide +kernel, rfl⟩
theorem eX1_shuffle_73 : zD cX1_shuffle 73 .iastore 1 74 := ⟨by decide +kernel, rfl⟩
theorem eX1_shuffle_74 : zD cX1_shuffle 74 (.iinc 3 1) 3 77 := ⟨by decide +kernel, rfl⟩
theorem eX1_shuffle_77 : zD cX1_shuffle 77 (.iinc 4 1) 3 80 := ⟨by decide +kernel, rfl⟩
theorem eX1_shuffle_80 : zDj cX1_shuffle 80 (.goto (-67)) (-67) 13 83 := ⟨by decide +kernel, rfl, by decide⟩
theorem eX1_shuffle_83 : zD cX1_shuffle 83 (.iload_n 2) 1 84 := ⟨by decide +kernel, rfl⟩
theorem eX1_shuffle_84 : zD cX1_shuffle 84 (.istore 4) 2 86 := ⟨by decide +kernel, rfl⟩
theorem eX1_shuffle_86 : zD cX1_shuffle 86 (.iload_n 3) 1 87 := ⟨by decide +kernel, rfl⟩
theorem eX1_shuffle_87 : zD cX1_shuffle 87 (.iconst 1) 1 88 := ⟨by decide +kernel, rfl⟩
theorem eX1_shuffle_88 : zD cX1_shuffle 88 .isub 1 89 := ⟨by decide +kernel, rfl⟩
theorem eX1_shuffle_89 : zD cX1_shuffle 89 (.istore 5) 2 91 := ⟨by decide +kernel, rfl⟩
theorem eX1_shuffle_91 : zD cX1_shuffle 91 (.iload 5) 2 93 := ⟨by decide +kernel, rfl⟩
theorem eX1_shuffle_93 : zD cX1_shuffle 93 (.iconst 1) 1 94 := ⟨by decide +kernel, rfl⟩
theorem eX1_shuffle_94 : zDj cX1_shuffle 94 (.if_icmp .lt 67) 67 161 97 := ⟨by decide +kernel, rfl, by decide⟩
theorem eX1_shuffle_97 : zD cX1_shuffle 97 (.iload 4) 2 99 := ⟨by decide +kernel, rfl⟩
theorem eX1_shuffle_99 : zD cX1_shuffle 99 (.iload 5) 2 101 := ⟨by decide +kernel, rfl⟩
theorem eX1_shuffle_101 : zD cX1_shuffle 101 (.iconst 1) 1 102 := ⟨by decide +kernel, rfl⟩
theorem eX1_shuffle_102 : zD cX1_shuffle 102 .iadd 1 103 := ⟨by decide +kernel, rfl⟩
theorem eX1_shuffle_103 : zD cX1_shuffle 103 (.invokestatic 106) 3 106 := ⟨by decide +kernel, rfl⟩
theorem eX1_shuffle_106 : zD cX1_shuffle 106 (.istore 6) 2 108 := ⟨by decide +kernel, rfl⟩
theorem eX1_shuffle_108 : zD cX1_shuffle 108 (.aload_n 0) 1 109 := ⟨by decide +kernel, rfl⟩
theorem eX1_shuffle_109 : zD cX1_shuffle 109 (.getfield 36) 3 112 := ⟨by decide +kernel, rfl⟩
theorem eX1_shuffle_112 : zD cX1_shuffle 112 (.iload 5) 2 114 := ⟨by decide +kernel, rfl⟩
theorem eX1_shuffle_114 : zD cX1_shuffle 114 .iaload 1 115 := ⟨by decide +kernel, rfl⟩
theorem eX1_shuffle_115 : zD cX1_shuffle 115 (.istore 7) 2 117 := ⟨by decide +kernel, rfl⟩
theorem eX1_shuffle_117 : zD cX1_shuffle 117 (.aload_n 0) 1 118 := ⟨by decide +kernel, rfl⟩
theorem eX1_shuffle_118 : zD cX1_shuffle 118 (.getfield 36) 3 121 := ⟨by decide +kernel, rfl⟩
theorem eX1_shuffle_121 : zD cX1_shuffle 121 (.iload 5) 2 123 := ⟨by decide +kernel, rfl⟩
theorem eX1_shuffle_123 : zD cX1_shuffle 123 (.aload_n 0) 1 124 := ⟨by decide +kernel, rfl⟩
theorem eX1_shuffle_124 : zD cX1_shuffle 124 (.getfield 36) 3 127 := ⟨by decide +kernel, rfl⟩
theorem eX1_shuffle_127 : zD cX1_shuffle 127 (.iload 6) 2 129 := ⟨by decide +kernel, rfl⟩
theorem eX1_shuffle_129 : zD cX1_shuffle 129 .iaload 1 130 := ⟨by decide +kernel, rfl⟩
theorem eX1_shuffle_130 : zD cX1_shuffle 130 .iastore 1 131 := ⟨by decide +kernel, rfl⟩
theorem eX1_shuffle_131 : zD cX1_shuffle 131 (.aload_n 0) 1 132 := ⟨by decide +kernel, rfl⟩
theorem eX1_shuffle_132 : zD cX1_shuffle 132 (.getfield 36) 3 135 := ⟨by decide +kernel, rfl⟩
theorem eX1_shuffle_135 : zD cX1_shuffle 135 (.iload 6) 2 137 := ⟨by decide +kernel, rfl⟩
theorem eX1_shuffle_137 : zD cX1_shuffle 137 (.iload 7) 2 139 := ⟨by decide +kernel, rfl⟩
theorem eX1_shuffle_139 : zD cX1_shuffle 139 .iastore 1 140 := ⟨by decide +kernel, rfl⟩
theorem eX1_shuffle_140 : zD cX1_shuffle 140 (.iload 4) 2 142 := ⟨by decide +kernel, rfl⟩
theorem eX1_shuffle_142 : zD cX1_shuffle 142 (.sipush 131) 3 145 := ⟨by decide +kernel, rfl⟩
theorem eX1_shuffle_145 : zD cX1_shuffle 145 .imul 1 146 := ⟨by decide +kernel, rfl⟩
theorem eX1_shuffle_146 : zD cX1_shuffle 146 (.bipush 17) 2 148 := ⟨by decide +kernel, rfl⟩
theorem eX1_shuffle_148 : zD cX1_shuffle 148 .iadd 1 149 := ⟨by decide +kernel, rfl⟩
theorem eX1_shuffle_149 : zD cX1_shuffle 149 (.sipush 30013) 3 152 := ⟨by decide +kernel, rfl⟩
theorem eX1_shuffle_152 : zD cX1_shuffle 152 .irem 1 153 := ⟨by decide +kernel, rfl⟩
theorem eX1_shuffle_153 : zD cX1_shuffle 153 (.istore 4) 2 155 := ⟨by decide +kernel, rfl⟩
theorem eX1_shuffle_155 : zD cX1_shuffle 155 (.iinc 5 (-1)) 3 158 := ⟨by decide +kernel, rfl⟩
theorem eX1_shuffle_158 : zDj cX1_shuffle 158 (.goto (-67)) (-67) 91 161 := ⟨by decide +kernel, rfl, by decide⟩
theorem eX1_shuffle_161 : zD cX1_shuffle 161 (.aload_n 0) 1 162 := ⟨by decide +kernel, rfl⟩
theorem eX1_shuffle_162 : zD cX1_shuffle 162 (.iload_n 3) 1 163 := ⟨by decide +kernel, rfl⟩
theorem eX1_shuffle_163 : zD cX1_shuffle 163 (.invokevirtual 109) 3 166 := ⟨by decide +kernel, rfl⟩
theorem eX1_shuffle_166 : zD cX1_shuffle 166 .return_ 1 167 := ⟨by decide +kernel, rfl⟩
theorem zqF_begin (l : Launch) (G : Zg) (σ : Zm) (o1 : Nat) (x2 : Int) (o3 : Nat) (h1 : zin 294 o1 6) (n2 : zw x2 = x2) (h3 : zin 294 o3 3) (res : Int × Zm) (he : fF_begin σ o1 x2 o3 = some res) : zM l yX1_begin cX1_begin 4 none 5 G 294 ztt σ [.ref (zad G 157), .ref (zad G o1), .int (zI x2), .ref (zad G o3)] none res.2 := by
  refine zM_of he (by decide +kernel) (Nat.le_of_ble_eq_true rfl) (lv := [(0, .ref (zad G 157)), (1, .ref (zad G o1)), (2, .int (zI x2)), (3, .ref (zad G o3))]) rfl (fun p e s m below meth c C => ?_)
  unfold fF_begin
  refine zr_aloadn C 0 eX1_begin_0 rfl ?_
  refine zr_getR C ff_X1_23 rfl zo_157 rfl zf_157_1 eX1_begin_1 ?_
  refine zr_aloadn C 3 eX1_begin_4 rfl ?_
  refine zr_bipush (a := 12) C eX1_begin_5 rfl ?_
  refine zr_callVv C [.ref (zad G o3), .int (zI 12)] zy_X3_takeForm zv_X3_takeForm lk_X1_59 zrm_5_10_1 zo_162 (by decide) rfl (fun r hr => zqL_takeForm l G σ 162 o3 12 zo_162 h3 w_12 r hr) rfl rfl (Nat.le_of_ble_eq_true rfl) eX1_begin_7 (fun σ1 => ?_)
  refine zr_aloadn C 0 eX1_begin_10 rfl ?_
  refine zr_getR C ff_X1_12 rfl zo_157 rfl zf_157_0 eX1_begin_11 ?_
  refine zr_iloadn C 2 eX1_begin_14 rfl ?_
  refine zr_iconst C eX1_begin_15 rfl ?_
  refine zr_callVv C [.int (zI x2), .int (zI (-1))] zy_X2_begin zv_X2_begin lk_X1_63 zrm_5_3_1 zo_158 (by decide) rfl (fun r hr => zqJ_begin l G σ1 158 x2 (-1) zo_158 n2 w_m1 r hr) rfl rfl (Nat.le_of_ble_eq_true rfl) eX1_begin_16 (fun σ2 => ?_)
  refine zr_aloadn C 0 eX1_begin_19 rfl ?_
  refine zr_getR C ff_X1_12 rfl zo_157 rfl zf_157_0 eX1_begin_20 ?_
  refine zr_aloadn C 1 eX1_begin_23 rfl ?_
  refine zr_aloadn C 0 eX1_begin_24 rfl ?_
  refine zr_getR C ff_X1_23 rfl zo_157 rfl zf_157_1 eX1_begin_25 ?_
  refine zr_ldc (a := 2147483647) C eX1_begin_28 zq_X1_67 rfl ?_
  refine zr_callVv C [.ref (zad G o1), .ref (zad G 162), .int (zI 2147483647)] zy_X2_askLines zv_X2_askLines lk_X1_68 zrm_5_6_4 zo_158 (by decide) rfl (fun r hr => zqJ_askLines l G σ2 158 o1 162 2147483647 zo_158 h1 zo_162 w_2147483647 r hr) rfl rfl (Nat.le_of_ble_eq_true rfl) eX1_begin_30 (fun σ3 => ?_)
  refine zr_aloadn C 0 eX1_begin_33 rfl ?_
  refine zr_aloadn C 0 eX1_begin_34 rfl ?_
  refine zr_getR C ff_X1_12 rfl zo_157 rfl zf_157_0 eX1_begin_35 ?_
  refine zr_getI C ff_X1_72 zo_158 eX1_begin_38 (fun v4 nv4 => ?_)
  refine zr_putI C ff_X1_46 rfl zo_157 eX1_begin_41 (fun σ5 => ?_)
  exact zr_vret C eX1_begin_44
theorem zqF_priceOf (l : Launch) (G : Zg) (σ : Zm) (o1 : Nat) (o2 : Nat) (x3 : Int) (x4 : Int) (h1 : zin 294 o1 6) (h2 : zin 294 o2 3) (n3 : zw x3 = x3) (n4 : zw x4 = x4) (res : Int × Zm) (he : fF_priceOf σ o1 o2 x3 x4 = some res) : zM l yX1_priceOf cX1_priceOf 5 (some .int) 5 G 294 ztt σ [.ref (zad G 157), .ref (zad G o1), .ref (zad G o2), .int (zI x3), .int (zI x4)] (some (.int (zI res.1))) res.2 := by
  refine zM_of he (by decide +kernel) (Nat.le_of_ble_eq_true rfl) (lv := [(0, .ref (zad G 157)), (1, .ref (zad G o1)), (2, .ref (zad G o2)), (3, .int (zI x3)), (4, .int (zI x4))]) rfl (fun p e s m below meth c C => ?_)
  unfold fF_priceOf
  refine zr_aloadn C 0 eX1_priceOf_0 rfl ?_
  refine zr_getR C ff_X1_27 rfl zo_157 rfl zf_157_2 eX1_priceOf_1 ?_
  refine zr_aloadn C 2 eX1_priceOf_4 rfl ?_
  refine zr_iloadn C 3 eX1_priceOf_5 rfl ?_
  refine zr_callVv C [.ref (zad G o2), .int (zI x3)] zy_X3_takeForm zv_X3_takeForm lk_X1_59 zrm_5_10_1 zo_165 (by decide) rfl (fun r hr => zqL_takeForm l G σ 165 o2 x3 zo_165 h2 n3 r hr) rfl rfl (Nat.le_of_ble_eq_true rfl) eX1_priceOf_6 (fun σ1 => ?_)
  refine zr_aloadn C 0 eX1_priceOf_9 rfl ?_
  refine zr_getR C ff_X1_12 rfl zo_157 rfl zf_157_0 eX1_priceOf_10 ?_
  refine zr_aloadn C 0 eX1_priceOf_13 rfl ?_
  refine zr_getI C ff_X1_46 zo_157 eX1_priceOf_14 (fun v2 nv2 => ?_)
  refine zr_putI C ff_X1_72 rfl zo_158 eX1_priceOf_17 (fun σ3 => ?_)
  refine zr_aloadn C 0 eX1_priceOf_20 rfl ?_
  refine zr_getR C ff_X1_12 rfl zo_157 rfl zf_157_0 eX1_priceOf_21 ?_
  refine zr_aloadn C 1 eX1_priceOf_24 rfl ?_
  refine zr_aloadn C 0 eX1_priceOf_25 rfl ?_
  refine zr_getR C ff_X1_27 rfl zo_157 rfl zf_157_2 eX1_priceOf_26 ?_
  refine zr_iload C 4 eX1_priceOf_29 rfl ?_
  refine zr_callVv C [.ref (zad G o1), .ref (zad G 165), .int (zI x4)] zy_X2_askLines zv_X2_askLines lk_X1_68 zrm_5_6_4 zo_158 (by decide) rfl (fun r hr => zqJ_askLines l G σ3 158 o1 165 x4 zo_158 h1 zo_165 n4 r hr) rfl rfl (Nat.le_of_ble_eq_true rfl) eX1_priceOf_31 (fun σ4 => ?_)
  refine zr_aloadn C 0 eX1_priceOf_34 rfl ?_
  refine zr_getR C ff_X1_12 rfl zo_157 rfl zf_157_0 eX1_priceOf_35 ?_
  refine zr_aloadn C 1 eX1_priceOf_38 rfl ?_
  refine zr_aloadn C 0 eX1_priceOf_39 rfl ?_
  refine zr_getR C ff_X1_23 rfl zo_157 rfl zf_157_1 eX1_priceOf_40 ?_
  refine zr_aloadn C 0 eX1_priceOf_43 rfl ?_
  refine zr_getR C ff_X1_27 rfl zo_157 rfl zf_157_2 eX1_priceOf_44 ?_
  refine zr_iload C 4 eX1_priceOf_47 rfl ?_
  refine zr_callVv C [.ref (zad G o1), .ref (zad G 162), .ref (zad G 165), .int (zI x4)] zy_X2_askPairs zv_X2_askPairs lk_X1_75 zrm_5_7_4 zo_158 (by decide) rfl (fun r hr => zqJ_askPairs l G σ4 158 o1 162 165 x4 zo_158 h1 zo_162 zo_165 n4 r hr) rfl rfl (Nat.le_of_ble_eq_true rfl) eX1_priceOf_49 (fun σ5 => ?_)
  refine zr_aloadn C 0 eX1_priceOf_52 rfl ?_
  refine zr_getR C ff_X1_12 rfl zo_157 rfl zf_157_0 eX1_priceOf_53 ?_
  refine zr_getI C ff_X1_72 zo_158 eX1_priceOf_56 (fun v6 nv6 => ?_)
  exact zr_iret C eX1_priceOf_59
theorem wF_findCheapest_14 {G : Zg} {p : Program} {l : Launch} {e : Env} {s : State} {m : MethodId} {args : Array Value} {below : List Frame} {meth : Method} {c : Code} (C : zC G p s m args meth c cX1_findCheapest 6 RX1 none) {res : Int × Zm} : ∀ (n : Nat) (o1 : Nat) (o2 : Nat) (x3 : Int) (x4 : Int) (h1 : zin 294 o1 6) (h2 : zin 294 o2 3) (n3 : zw x3 = x3) (n4 : zw x4 = x4) (σ : Zm), zR G p l e (zrm 6) s m args below meth c 6 0 0 (zQm below args s G 294 ztt none res.2) 294 ztt res σ (fF_findCheapest_14 n o1 o2 x3 x4 σ) [(0, .ref (zad G 157)), (1, .ref (zad G o1)), (2, .ref (zad G o2)), (3, .int (zI x3)), (4, .int (zI x4))] 14 []
  | 0, _, _, _, _, _, _, _, _, _ => zr_none
  | n + 1, o1, o2, x3, x4, h1, h2, n3, n4, σ => by
    have ih := fun (o1 : Nat) (o2 : Nat) (x3 : Int) (x4 : Int) (h1 : zin 294 o1 6) (h2 : zin 294 o2 3) (n3 : zw x3 = x3) (n4 : zw x4 = x4) (σ : Zm) => wF_findCheapest_14 (l := l) (e := e) (below := below) C (res := res) n o1 o2 x3 x4 h1 h2 n3 n4 σ
    rw [fF_findCheapest_14]
    refine zr_letf (fun R0 hR0 => ?_)
    have ih : ∀ (o1 : Nat) (o2 : Nat) (x3 : Int) (x4 : Int) (h1 : zin 294 o1 6) (h2 : zin 294 o2 3) (n3 : zw x3 = x3) (n4 : zw x4 = x4) (σ : Zm), zR G p l e (zrm 6) s m args below meth c 6 0 0 (zQm below args s G 294 ztt none res.2) 294 ztt res σ (R0 o1 o2 x3 x4 σ) [(0, .ref (zad G 157)), (1, .ref (zad G o1)), (2, .ref (zad G o2)), (3, .int (zI x3)), (4, .int (zI x4))] 14 [] := by rw [hR0]; exact ih
    clear hR0
    refine zr_iload C 4 eX1_findCheapest_14 rfl ?_
    refine zr_sipush (a := 900) C eX1_findCheapest_16 rfl ?_
    refine zr_icmp_ge C eX1_findCheapest_19 n4 w_900 ?_ ?_
    · exact zr_vret C eX1_findCheapest_77
    refine zr_aloadn C 0 eX1_findCheapest_22 rfl ?_
    refine zr_getI C ff_X1_50 zo_157 eX1_findCheapest_23 (fun v3 nv3 => ?_)
    refine zr_iconst C eX1_findCheapest_26 rfl ?_
    refine zr_iloadn C 3 eX1_findCheapest_27 rfl ?_
    refine zr_mmax C lk_X1_79 zy_mmax zrm_6_2_0 (Nat.le_of_ble_eq_true rfl) w_0 n3 eX1_findCheapest_28 (fun v4 nv4 => ?_)
    refine zr_icmp_le C eX1_findCheapest_31 nv3 nv4 ?_ ?_
    · exact zr_vret C eX1_findCheapest_77
    refine zr_aloadn C 0 eX1_findCheapest_34 rfl ?_
    refine zr_aloadn C 1 eX1_findCheapest_35 rfl ?_
    refine zr_aloadn C 2 eX1_findCheapest_36 rfl ?_
    refine zr_iload C 4 eX1_findCheapest_37 rfl ?_
    refine zr_aloadn C 0 eX1_findCheapest_39 rfl ?_
    refine zr_getI C ff_X1_50 zo_157 eX1_findCheapest_40 (fun v5 nv5 => ?_)
    refine zr_iconst C eX1_findCheapest_43 rfl ?_
    refine zr_isub C eX1_findCheapest_44 ?_
    refine zr_callVi C [.ref (zad G o1), .ref (zad G o2), .int (zI x4), .int (zI (zw (v5 - 1)))] zy_X1_priceOf zv_X1_priceOf lk_X1_85 zrm_6_5_5 zo_157 (by decide) rfl (fun r hr => zqF_priceOf l G σ o1 o2 x4 (zw (v5 - 1)) h1 h2 n4 (zw_w (v5 - 1)) r hr) rfl (zs_i (zI_w (v5 - 1)).symm (zs_k (zs_k (zs_k rfl)))) (Nat.le_of_ble_eq_true rfl) eX1_findCheapest_45 (fun v7 nv7 σ6 => ?_)
    refine zr_istore (lv' := [(5, .int (zI v7)), (0, .ref (zad G 157)), (1, .ref (zad G o1)), (2, .ref (zad G o2)), (3, .int (zI x3)), (4, .int (zI x4))]) C eX1_findCheapest_48 (by decide) rfl ?_
    refine zr_iload C 0 eX1_findCheapest_50 rfl ?_
    refine zr_aloadn C 1 eX1_findCheapest_52 rfl ?_
    refine zr_getI C ff_X1_50 zo_157 eX1_findCheapest_53 (fun v8 nv8 => ?_)
    refine zr_icmp_ge C eX1_findCheapest_56 nv7 nv8 ?_ ?_
    · refine zr_iinc (lv' := [(4, .int (zI (x4 + 1))), (5, .int (zI v7)), (0, .ref (zad G 157)), (1, .ref (zad G o1)), (2, .ref (zad G o2)), (3, .int (zI x3))]) C 5 eX1_findCheapest_71 rfl (by decide) rfl ?_
      refine zr_goto C eX1_findCheapest_74 ?_
      refine zr_lv [2, 3, 4, 5, 0] rfl ?_
      exact zr_lve (zs_p (zs_p (zs_p (zs_p (zs_pi (zI_w (x4 + 1)).symm rfl))))) (ih o1 o2 x3 (zw (x4 + 1)) h1 h2 n3 (zw_w (x4 + 1)) _)
    refine zr_aloadn C 1 eX1_findCheapest_59 rfl ?_
    refine zr_iload C 0 eX1_findCheapest_60 rfl ?_
    refine zr_putI C ff_X1_50 rfl zo_157 eX1_findCheapest_62 (fun σ9 => ?_)
    refine zr_aloadn C 1 eX1_findCheapest_65 rfl ?_
    refine zr_iload C 5 eX1_findCheapest_66 rfl ?_
    refine zr_putI C ff_X1_53 rfl zo_157 eX1_findCheapest_68 (fun σ10 => ?_)
    refine zr_iinc (lv' := [(4, .int (zI (x4 + 1))), (5, .int (zI v7)), (0, .ref (zad G 157)), (1, .ref (zad G o1)), (2, .ref (zad G o2)), (3, .int (zI x3))]) C 5 eX1_findCheapest_71 rfl (by decide) rfl ?_
    refine zr_goto C eX1_findCheapest_74 ?_
    refine zr_lv [2, 3, 4, 5, 0] rfl ?_
    exact zr_lve (zs_p (zs_p (zs_p (zs_p (zs_pi (zI_w (x4 + 1)).symm rfl))))) (ih o1 o2 x3 (zw (x4 + 1)) h1 h2 n3 (zw_w (x4 + 1)) _)
theorem zqF_findCheapest (l : Launch) (G : Zg) (σ : Zm) (o1 : Nat) (o2 : Nat) (x3 : Int) (h1 : zin 294 o1 6) (h2 : zin 294 o2 3) (n3 : zw x3 = x3) (res : Int × Zm) (he : fF_findCheapest σ o1 o2 x3 = some res) : zM l yX1_findCheapest cX1_findCheapest 6 none 6 G 294 ztt σ [.ref (zad G 157), .ref (zad G o1), .ref (zad G o2), .int (zI x3)] none res.2 := by
  refine zM_of he (by decide +kernel) (Nat.le_of_ble_eq_true rfl) (lv := [(0, .ref (zad G 157)), (1, .ref (zad G o1)), (2, .ref (zad G o2)), (3, .int (zI x3))]) rfl (fun p e s m below meth c C => ?_)
  unfold fF_findCheapest
  refine zr_aloadn C 0 eX1_findCheapest_0 rfl ?_
  refine zr_ldc (a := 2147483647) C eX1_findCheapest_1 zq_X1_67 rfl ?_
  refine zr_putI C ff_X1_50 rfl zo_157 eX1_findCheapest_3 (fun σ1 => ?_)
  refine zr_aloadn C 0 eX1_findCheapest_6 rfl ?_
  refine zr_iconst C eX1_findCheapest_7 rfl ?_
  refine zr_putI C ff_X1_53 rfl zo_157 eX1_findCheapest_8 (fun σ2 => ?_)
  refine zr_iconst C eX1_findCheapest_11 rfl ?_
  refine zr_istore (lv' := [(4, .int (zI 0)), (0, .ref (zad G 157)), (1, .ref (zad G o1)), (2, .ref (zad G o2)), (3, .int (zI x3))]) C eX1_findCheapest_12 (by decide) rfl ?_
  refine zr_lv [1, 2, 3, 4, 0] rfl ?_
  refine wF_findCheapest_14 C 5000 o1 o2 x3 0 h1 h2 n3 w_0 σ2
theorem wF_findThree_3 {G : Zg} {p : Program} {l : Launch} {e : Env} {s : State} {m : MethodId} {args : Array Value} {below : List Frame} {meth : Method} {c : Code} (C : zC G p s m args meth c cX1_findThree 7 RX1 none) {res : Int × Zm} (K61 : Nat → Nat → Nat → Zm → Zr) (hK61 : ∀ (o1 : Nat) (o2 : Nat) (o3 : Nat) (h1 : zin 294 o1 6) (h2 : zin 294 o2 3) (h3 : zin 294 o3 3) (σ : Zm), zR G p l e (zrm 6) s m args below meth c 7 0 0 (zQm below args s G 294 ztt none res.2) 294 ztt res σ (K61 o1 o2 o3 σ) [(0, .ref (zad G 157)), (1, .ref (zad G o1)), (2, .ref (zad G o2)), (3, .ref (zad G o3))] 61 []) : ∀ (n : Nat) (o1 : Nat) (o2 : Nat) (o3 : Nat) (x4 : Int) (h1 : zin 294 o1 6) (h2 : zin 294 o2 3) (h3 : zin 294 o3 3) (n4 : zw x4 = x4) (σ : Zm), zR G p l e (zrm 6) s m args below meth c 7 0 0 (zQm below args s G 294 ztt none res.2) 294 ztt res σ (fF_findThree_3 n o1 o2 o3 x4 σ K61) [(0, .ref (zad G 157)), (1, .ref (zad G o1)), (2, .ref (zad G o2)), (3, .ref (zad G o3)), (4, .int (zI x4))] 3 []
  | 0, _, _, _, _, _, _, _, _, _ => zr_none
  | n + 1, o1, o2, o3, x4, h1, h2, h3, n4, σ => by
    have ih := fun (o1 : Nat) (o2 : Nat) (o3 : Nat) (x4 : Int) (h1 : zin 294 o1 6) (h2 : zin 294 o2 3) (h3 : zin 294 o3 3) (n4 : zw x4 = x4) (σ : Zm) => wF_findThree_3 (l := l) (e := e) (below := below) C K61 hK61 (res := res) n o1 o2 o3 x4 h1 h2 h3 n4 σ
    rw [fF_findThree_3]
    refine zr_letf (fun R0 hR0 => ?_)
    have ih : ∀ (o1 : Nat) (o2 : Nat) (o3 : Nat) (x4 : Int) (h1 : zin 294 o1 6) (h2 : zin 294 o2 3) (h3 : zin 294 o3 3) (n4 : zw x4 = x4) (σ : Zm), zR G p l e (zrm 6) s m args below meth c 7 0 0 (zQm below args s G 294 ztt none res.2) 294 ztt res σ (R0 o1 o2 o3 x4 σ) [(0, .ref (zad G 157)), (1, .ref (zad G o1)), (2, .ref (zad G o2)), (3, .ref (zad G o3)), (4, .int (zI x4))] 3 [] := by rw [hR0]; exact ih
    clear hR0
    refine zr_iload C 4 eX1_findThree_3 rfl ?_
    refine zr_bipush (a := 88) C eX1_findThree_5 rfl ?_
    refine zr_icmp_ge C eX1_findThree_7 n4 w_88 ?_ ?_
    · refine zr_lv [0, 1, 2, 3] rfl ?_
      exact hK61 o1 o2 o3 h1 h2 h3 _
    refine zr_aloadn C 0 eX1_findThree_10 rfl ?_
    refine zr_getR C ff_X1_40 rfl zo_157 rfl zf_157_6 eX1_findThree_11 ?_
    refine zr_iload C 4 eX1_findThree_14 rfl ?_
    refine zr_aloadn C 0 eX1_findThree_16 rfl ?_
    refine zr_aloadn C 1 eX1_findThree_17 rfl ?_
    refine zr_aloadn C 2 eX1_findThree_18 rfl ?_
    refine zr_iload C 4 eX1_findThree_19 rfl ?_
    refine zr_callSi C [.int (zI x4)] zy_X9_formOfThree zs_X9_formOfThree lk_X1_89 zrm_6_4_0 (fun r hr => zqX_formOfThree l G σ x4 n4 r hr) rfl rfl (Nat.le_of_ble_eq_true rfl) eX1_findThree_21 (fun v2 nv2 σ1 => ?_)
    refine zr_ldc (a := 2147483647) C eX1_findThree_24 zq_X1_67 rfl ?_
    refine zr_callVi C [.ref (zad G o1), .ref (zad G o2), .int (zI v2), .int (zI 2147483647)] zy_X1_priceOf zv_X1_priceOf lk_X1_85 zrm_6_5_5 zo_157 (by decide) rfl (fun r hr => zqF_priceOf l G σ1 o1 o2 v2 2147483647 h1 h2 nv2 w_2147483647 r hr) rfl rfl (Nat.le_of_ble_eq_true rfl) eX1_findThree_26 (fun v4 nv4 σ3 => ?_)
    refine zr_iast C zo_175 zn_175 n4 eX1_findThree_29 (fun σ5 => ?_)
    refine zr_aloadn C 0 eX1_findThree_30 rfl ?_
    refine zr_getR C ff_X1_43 rfl zo_157 rfl zf_157_7 eX1_findThree_31 ?_
    refine zr_iload C 4 eX1_findThree_34 rfl ?_
    refine zr_aloadn C 0 eX1_findThree_36 rfl ?_
    refine zr_aloadn C 1 eX1_findThree_37 rfl ?_
    refine zr_aloadn C 3 eX1_findThree_38 rfl ?_
    refine zr_iload C 4 eX1_findThree_39 rfl ?_
    refine zr_callSi C [.int (zI x4)] zy_X9_formOfThree zs_X9_formOfThree lk_X1_89 zrm_6_4_0 (fun r hr => zqX_formOfThree l G σ5 x4 n4 r hr) rfl rfl (Nat.le_of_ble_eq_true rfl) eX1_findThree_41 (fun v7 nv7 σ6 => ?_)
    refine zr_ldc (a := 2147483647) C eX1_findThree_44 zq_X1_67 rfl ?_
    refine zr_callVi C [.ref (zad G o1), .ref (zad G o3), .int (zI v7), .int (zI 2147483647)] zy_X1_priceOf zv_X1_priceOf lk_X1_85 zrm_6_5_5 zo_157 (by decide) rfl (fun r hr => zqF_priceOf l G σ6 o1 o3 v7 2147483647 h1 h3 nv7 w_2147483647 r hr) rfl rfl (Nat.le_of_ble_eq_true rfl) eX1_findThree_46 (fun v9 nv9 σ8 => ?_)
    refine zr_aloadn C 0 eX1_findThree_49 rfl ?_
    refine zr_getI C ff_X1_46 zo_157 eX1_findThree_50 (fun v10 nv10 => ?_)
    refine zr_isub C eX1_findThree_53 ?_
    refine zr_iast C zo_176 zn_176 n4 eX1_findThree_54 (fun σ11 => ?_)
    refine zr_iinc (lv' := [(4, .int (zI (x4 + 1))), (0, .ref (zad G 157)), (1, .ref (zad G o1)), (2, .ref (zad G o2)), (3, .ref (zad G o3))]) C 4 eX1_findThree_55 rfl (by decide) rfl ?_
    refine zr_goto C eX1_findThree_58 ?_
    refine zr_lv [1, 2, 3, 4, 0] rfl ?_
    exact zr_lve (zs_p (zs_p (zs_p (zs_p (zs_pi (zI_w (x4 + 1)).symm rfl))))) (ih o1 o2 o3 (zw (x4 + 1)) h1 h2 h3 (zw_w (x4 + 1)) _)
theorem wF_findThree_93 {G : Zg} {p : Program} {l : Launch} {e : Env} {s : State} {m : MethodId} {args : Array Value} {below : List Frame} {meth : Method} {c : Code} (C : zC G p s m args meth c cX1_findThree 7 RX1 none) {res : Int × Zm} (K222 : Nat → Nat → Nat → Int → Zm → Zr) (hK222 : ∀ (o1 : Nat) (o2 : Nat) (o3 : Nat) (x4 : Int) (h1 : zin 294 o1 6) (h2 : zin 294 o2 3) (h3 : zin 294 o3 3) (n4 : zw x4 = x4) (σ : Zm), zR G p l e (zrm 6) s m args below meth c 7 0 0 (zQm below args s G 294 ztt none res.2) 294 ztt res σ (K222 o1 o2 o3 x4 σ) [(0, .ref (zad G 157)), (1, .ref (zad G o1)), (2, .ref (zad G o2)), (3, .ref (zad G o3)), (4, .int (zI x4))] 222 []) : ∀ (n : Nat) (o1 : Nat) (o2 : Nat) (o3 : Nat) (x4 : Int) (x5 : Int) (h1 : zin 294 o1 6) (h2 : zin 294 o2 3) (h3 : zin 294 o3 3) (n4 : zw x4 = x4) (n5 : zw x5 = x5) (σ : Zm), zR G p l e (zrm 6) s m args below meth c 7 0 0 (zQm below args s G 294 ztt none res.2) 294 ztt res σ (fF_findThree_93 n o1 o2 o3 x4 x5 σ K222) [(0, .ref (zad G 157)), (1, .ref (zad G o1)), (2, .ref (zad G o2)), (3, .ref (zad G o3)), (4, .int (zI x4)), (5, .int (zI x5))] 93 []
  | 0, _, _, _, _, _, _, _, _, _, _, _ => zr_none
  | n + 1, o1, o2, o3, x4, x5, h1, h2, h3, n4, n5, σ => by
    have ih := fun (o1 : Nat) (o2 : Nat) (o3 : Nat) (x4 : Int) (x5 : Int) (h1 : zin 294 o1 6) (h2 : zin 294 o2 3) (h3 : zin 294 o3 3) (n4 : zw x4 = x4) (n5 : zw x5 = x5) (σ : Zm) => wF_findThree_93 (l := l) (e := e) (below := below) C K222 hK222 (res := res) n o1 o2 o3 x4 x5 h1 h2 h3 n4 n5 σ
    rw [fF_findThree_93]
    refine zr_letf (fun R0 hR0 => ?_)
    have ih : ∀ (o1 : Nat) (o2 : Nat) (o3 : Nat) (x4 : Int) (x5 : Int) (h1 : zin 294 o1 6) (h2 : zin 294 o2 3) (h3 : zin 294 o3 3) (n4 : zw x4 = x4) (n5 : zw x5 = x5) (σ : Zm), zR G p l e (zrm 6) s m args below meth c 7 0 0 (zQm below args s G 294 ztt none res.2) 294 ztt res σ (R0 o1 o2 o3 x4 x5 σ) [(0, .ref (zad G 157)), (1, .ref (zad G o1)), (2, .ref (zad G o2)), (3, .ref (zad G o3)), (4, .int (zI x4)), (5, .int (zI x5))] 93 [] := by rw [hR0]; exact ih
    clear hR0
    refine zr_iload C 5 eX1_findThree_93 rfl ?_
    refine zr_bipush (a := 88) C eX1_findThree_95 rfl ?_
    refine zr_icmp_ge C eX1_findThree_97 n5 w_88 ?_ ?_
    · refine zr_lv [0, 1, 2, 3, 4] rfl ?_
      exact hK222 o1 o2 o3 x4 h1 h2 h3 n4 _
    refine zr_aloadn C 0 eX1_findThree_100 rfl ?_
    refine zr_getR C ff_X1_40 rfl zo_157 rfl zf_157_6 eX1_findThree_101 ?_
    refine zr_iload C 4 eX1_findThree_104 rfl ?_
    refine zr_iald C zo_175 zn_175 n4 eX1_findThree_106 (fun v20 nv20 => ?_)
    refine zr_aloadn C 0 eX1_findThree_107 rfl ?_
    refine zr_getR C ff_X1_43 rfl zo_157 rfl zf_157_7 eX1_findThree_108 ?_
    refine zr_iload C 5 eX1_findThree_111 rfl ?_
    refine zr_iald C zo_176 zn_176 n5 eX1_findThree_113 (fun v21 nv21 => ?_)
    refine zr_iadd C eX1_findThree_114 ?_
    refine zr_st (show _ = .int (zI (zw (v20 + v21))) :: _ from congrArg (· :: _) (congrArg Value.int (zI_w (v20 + v21)).symm)) ?_
    refine zr_letw (P := fun z => .int (zI z) :: _) (zw_w (v20 + v21)) (fun v22 nv22 => ?_)
    refine zr_istore (lv' := [(6, .int (zI v22)), (0, .ref (zad G 157)), (1, .ref (zad G o1)), (2, .ref (zad G o2)), (3, .ref (zad G o3)), (4, .int (zI x4)), (5, .int (zI x5))]) C eX1_findThree_115 (by decide) rfl ?_
    refine zr_iload C 0 eX1_findThree_117 rfl ?_
    refine zr_aloadn C 1 eX1_findThree_119 rfl ?_
    refine zr_getI C ff_X1_50 zo_157 eX1_findThree_120 (fun v23 nv23 => ?_)
    refine zr_icmp_lt C eX1_findThree_123 nv22 nv23 ?_ ?_
    · refine zr_aloadn C 1 eX1_findThree_129 rfl ?_
      refine zr_getR C ff_X1_30 rfl zo_157 rfl zf_157_3 eX1_findThree_130 ?_
      refine zr_aloadn C 4 eX1_findThree_133 rfl ?_
      refine zr_iload C 6 eX1_findThree_134 rfl ?_
      refine zr_callSi C [.int (zI x5)] zy_X9_formOfThree zs_X9_formOfThree lk_X1_89 zrm_6_4_0 (fun r hr => zqX_formOfThree l G σ x5 n5 r hr) rfl rfl (Nat.le_of_ble_eq_true rfl) eX1_findThree_136 (fun v25 nv25 σ24 => ?_)
      refine zr_callVv C [.ref (zad G o3), .int (zI v25)] zy_X3_takeForm zv_X3_takeForm lk_X1_59 zrm_6_10_1 zo_168 (by decide) rfl (fun r hr => zqL_takeForm l G σ24 168 o3 v25 zo_168 h3 nv25 r hr) rfl rfl (Nat.le_of_ble_eq_true rfl) eX1_findThree_139 (fun σ26 => ?_)
      refine zr_aloadn C 1 eX1_findThree_142 rfl ?_
      refine zr_getR C ff_X1_12 rfl zo_157 rfl zf_157_0 eX1_findThree_143 ?_
      refine zr_iload C 0 eX1_findThree_146 rfl ?_
      refine zr_putI C ff_X1_72 rfl zo_158 eX1_findThree_148 (fun σ27 => ?_)
      refine zr_aloadn C 1 eX1_findThree_151 rfl ?_
      refine zr_getR C ff_X1_12 rfl zo_157 rfl zf_157_0 eX1_findThree_152 ?_
      refine zr_aloadn C 2 eX1_findThree_155 rfl ?_
      refine zr_aloadn C 1 eX1_findThree_156 rfl ?_
      refine zr_getR C ff_X1_27 rfl zo_157 rfl zf_157_2 eX1_findThree_157 ?_
      refine zr_aloadn C 1 eX1_findThree_160 rfl ?_
      refine zr_getR C ff_X1_30 rfl zo_157 rfl zf_157_3 eX1_findThree_161 ?_
      refine zr_aloadn C 1 eX1_findThree_164 rfl ?_
      refine zr_getI C ff_X1_50 zo_157 eX1_findThree_165 (fun v28 nv28 => ?_)
      refine zr_iconst C eX1_findThree_168 rfl ?_
      refine zr_isub C eX1_findThree_169 ?_
      refine zr_callVv C [.ref (zad G o1), .ref (zad G 165), .ref (zad G 168), .int (zI (zw (v28 - 1)))] zy_X2_askPairs zv_X2_askPairs lk_X1_75 zrm_6_7_4 zo_158 (by decide) rfl (fun r hr => zqJ_askPairs l G σ27 158 o1 165 168 (zw (v28 - 1)) zo_158 h1 zo_165 zo_168 (zw_w (v28 - 1)) r hr) rfl (zs_i (zI_w (v28 - 1)).symm (zs_k (zs_k (zs_k rfl)))) (Nat.le_of_ble_eq_true rfl) eX1_findThree_170 (fun σ29 => ?_)
      refine zr_aloadn C 1 eX1_findThree_173 rfl ?_
      refine zr_getR C ff_X1_12 rfl zo_157 rfl zf_157_0 eX1_findThree_174 ?_
      refine zr_getI C ff_X1_72 zo_158 eX1_findThree_177 (fun v30 nv30 => ?_)
      refine zr_aloadn C 1 eX1_findThree_180 rfl ?_
      refine zr_getI C ff_X1_50 zo_157 eX1_findThree_181 (fun v31 nv31 => ?_)
      refine zr_icmp_ge C eX1_findThree_184 nv30 nv31 ?_ ?_
      · refine zr_iinc (lv' := [(5, .int (zI (x5 + 1))), (6, .int (zI v22)), (0, .ref (zad G 157)), (1, .ref (zad G o1)), (2, .ref (zad G o2)), (3, .ref (zad G o3)), (4, .int (zI x4))]) C 6 eX1_findThree_216 rfl (by decide) rfl ?_
        refine zr_goto C eX1_findThree_219 ?_
        refine zr_lv [2, 3, 4, 5, 6, 0] rfl ?_
        exact zr_lve (zs_p (zs_p (zs_p (zs_p (zs_p (zs_pi (zI_w (x5 + 1)).symm rfl)))))) (ih o1 o2 o3 x4 (zw (x5 + 1)) h1 h2 h3 n4 (zw_w (x5 + 1)) _)
      refine zr_aloadn C 1 eX1_findThree_187 rfl ?_
      refine zr_aloadn C 1 eX1_findThree_188 rfl ?_
      refine zr_getR C ff_X1_12 rfl zo_157 rfl zf_157_0 eX1_findThree_189 ?_
      refine zr_getI C ff_X1_72 zo_158 eX1_findThree_192 (fun v32 nv32 => ?_)
      refine zr_putI C ff_X1_50 rfl zo_157 eX1_findThree_195 (fun σ33 => ?_)
      refine zr_aloadn C 1 eX1_findThree_198 rfl ?_
      refine zr_iload C 5 eX1_findThree_199 rfl ?_
      refine zr_callSi C [.int (zI x4)] zy_X9_formOfThree zs_X9_formOfThree lk_X1_89 zrm_6_4_0 (fun r hr => zqX_formOfThree l G σ33 x4 n4 r hr) rfl rfl (Nat.le_of_ble_eq_true rfl) eX1_findThree_201 (fun v35 nv35 σ34 => ?_)
      refine zr_putI C ff_X1_53 rfl zo_157 eX1_findThree_204 (fun σ36 => ?_)
      refine zr_aloadn C 1 eX1_findThree_207 rfl ?_
      refine zr_iload C 6 eX1_findThree_208 rfl ?_
      refine zr_callSi C [.int (zI x5)] zy_X9_formOfThree zs_X9_formOfThree lk_X1_89 zrm_6_4_0 (fun r hr => zqX_formOfThree l G σ36 x5 n5 r hr) rfl rfl (Nat.le_of_ble_eq_true rfl) eX1_findThree_210 (fun v38 nv38 σ37 => ?_)
      refine zr_putI C ff_X1_56 rfl zo_157 eX1_findThree_213 (fun σ39 => ?_)
      refine zr_iinc (lv' := [(5, .int (zI (x5 + 1))), (6, .int (zI v22)), (0, .ref (zad G 157)), (1, .ref (zad G o1)), (2, .ref (zad G o2)), (3, .ref (zad G o3)), (4, .int (zI x4))]) C 6 eX1_findThree_216 rfl (by decide) rfl ?_
      refine zr_goto C eX1_findThree_219 ?_
      refine zr_lv [2, 3, 4, 5, 6, 0] rfl ?_
      exact zr_lve (zs_p (zs_p (zs_p (zs_p (zs_p (zs_pi (zI_w (x5 + 1)).symm rfl)))))) (ih o1 o2 o3 x4 (zw (x5 + 1)) h1 h2 h3 n4 (zw_w (x5 + 1)) _)
    refine zr_goto C eX1_findThree_126 ?_
    refine zr_iinc (lv' := [(5, .int (zI (x5 + 1))), (6, .int (zI v22)), (0, .ref (zad G 157)), (1, .ref (zad G o1)), (2, .ref (zad G o2)), (3, .ref (zad G o3)), (4, .int (zI x4))]) C 6 eX1_findThree_216 rfl (by decide) rfl ?_
    refine zr_goto C eX1_findThree_219 ?_
    refine zr_lv [2, 3, 4, 5, 6, 0] rfl ?_
    exact zr_lve (zs_p (zs_p (zs_p (zs_p (zs_p (zs_pi (zI_w (x5 + 1)).symm rfl)))))) (ih o1 o2 o3 x4 (zw (x5 + 1)) h1 h2 h3 n4 (zw_w (x5 + 1)) _)
theorem wF_findThree_70 {G : Zg} {p : Program} {l : Launch} {e : Env} {s : State} {m : MethodId} {args : Array Value} {below : List Frame} {meth : Method} {c : Code} (C : zC G p s m args meth c cX1_findThree 7 RX1 none) {res : Int × Zm} : ∀ (n : Nat) (o1 : Nat) (o2 : Nat) (o3 : Nat) (x4 : Int) (h1 : zin 294 o1 6) (h2 : zin 294 o2 3) (h3 : zin 294 o3 3) (n4 : zw x4 = x4) (σ : Zm), zR G p l e (zrm 6) s m args below meth c 7 0 0 (zQm below args s G 294 ztt none res.2) 294 ztt res σ (fF_findThree_70 n o1 o2 o3 x4 σ) [(0, .ref (zad G 157)), (1, .ref (zad G o1)), (2, .ref (zad G o2)), (3, .ref (zad G o3)), (4, .int (zI x4))] 70 []
  | 0, _, _, _, _, _, _, _, _, _ => zr_none
  | n + 1, o1, o2, o3, x4, h1, h2, h3, n4, σ => by
    have ih := fun (o1 : Nat) (o2 : Nat) (o3 : Nat) (x4 : Int) (h1 : zin 294 o1 6) (h2 : zin 294 o2 3) (h3 : zin 294 o3 3) (n4 : zw x4 = x4) (σ : Zm) => wF_findThree_70 (l := l) (e := e) (below := below) C (res := res) n o1 o2 o3 x4 h1 h2 h3 n4 σ
    rw [fF_findThree_70]
    refine zr_letf (fun R0 hR0 => ?_)
    have ih : ∀ (o1 : Nat) (o2 : Nat) (o3 : Nat) (x4 : Int) (h1 : zin 294 o1 6) (h2 : zin 294 o2 3) (h3 : zin 294 o3 3) (n4 : zw x4 = x4) (σ : Zm), zR G p l e (zrm 6) s m args below meth c 7 0 0 (zQm below args s G 294 ztt none res.2) 294 ztt res σ (R0 o1 o2 o3 x4 σ) [(0, .ref (zad G 157)), (1, .ref (zad G o1)), (2, .ref (zad G o2)), (3, .ref (zad G o3)), (4, .int (zI x4))] 70 [] := by rw [hR0]; exact ih
    clear hR0
    refine zr_iload C 4 eX1_findThree_70 rfl ?_
    refine zr_bipush (a := 88) C eX1_findThree_72 rfl ?_
    refine zr_icmp_ge C eX1_findThree_74 n4 w_88 ?_ ?_
    · exact zr_vret C eX1_findThree_228
    refine zr_aloadn C 0 eX1_findThree_77 rfl ?_
    refine zr_getR C ff_X1_27 rfl zo_157 rfl zf_157_2 eX1_findThree_78 ?_
    refine zr_aloadn C 2 eX1_findThree_81 rfl ?_
    refine zr_iload C 4 eX1_findThree_82 rfl ?_
    refine zr_callSi C [.int (zI x4)] zy_X9_formOfThree zs_X9_formOfThree lk_X1_89 zrm_6_4_0 (fun r hr => zqX_formOfThree l G σ x4 n4 r hr) rfl rfl (Nat.le_of_ble_eq_true rfl) eX1_findThree_84 (fun v18 nv18 σ17 => ?_)
    refine zr_callVv C [.ref (zad G o2), .int (zI v18)] zy_X3_takeForm zv_X3_takeForm lk_X1_59 zrm_6_10_1 zo_165 (by decide) rfl (fun r hr => zqL_takeForm l G σ17 165 o2 v18 zo_165 h2 nv18 r hr) rfl rfl (Nat.le_of_ble_eq_true rfl) eX1_findThree_87 (fun σ19 => ?_)
    refine zr_iconst C eX1_findThree_90 rfl ?_
    refine zr_istore (lv' := [(5, .int (zI 0)), (0, .ref (zad G 157)), (1, .ref (zad G o1)), (2, .ref (zad G o2)), (3, .ref (zad G o3)), (4, .int (zI x4))]) C eX1_findThree_91 (by decide) rfl ?_
    refine zr_lv [1, 2, 3, 4, 5, 0] rfl ?_
    refine wF_findThree_93 C _ ?_ 5000 o1 o2 o3 x4 0 h1 h2 h3 n4 w_0 σ19
    intro o41 o42 o43 y44 ho41 ho42 ho43 ny44 σ40
    refine zr_iinc (lv' := [(4, .int (zI (y44 + 1))), (0, .ref (zad G 157)), (1, .ref (zad G o41)), (2, .ref (zad G o42)), (3, .ref (zad G o43))]) C 4 eX1_findThree_222 rfl (by decide) rfl ?_
    refine zr_goto C eX1_findThree_225 ?_
    refine zr_lv [1, 2, 3, 4, 0] rfl ?_
    exact zr_lve (zs_p (zs_p (zs_p (zs_p (zs_pi (zI_w (y44 + 1)).symm rfl))))) (ih o41 o42 o43 (zw (y44 + 1)) ho41 ho42 ho43 (zw_w (y44 + 1)) _)
theorem zqF_findThree (l : Launch) (G : Zg) (σ : Zm) (o1 : Nat) (o2 : Nat) (o3 : Nat) (h1 : zin 294 o1 6) (h2 : zin 294 o2 3) (h3 : zin 294 o3 3) (res : Int × Zm) (he : fF_findThree σ o1 o2 o3 = some res) : zM l yX1_findThree cX1_findThree 7 none 6 G 294 ztt σ [.ref (zad G 157), .ref (zad G o1), .ref (zad G o2), .ref (zad G o3)] none res.2 := by
  refine zM_of he (by decide +kernel) (Nat.le_of_ble_eq_true rfl) (lv := [(0, .ref (zad G 157)), (1, .ref (zad G o1)), (2, .ref (zad G o2)), (3, .ref (zad G o3))]) rfl (fun p e s m below meth c C => ?_)
  unfold fF_findThree
  refine zr_iconst C eX1_findThree_0 rfl ?_
  refine zr_istore (lv' := [(4, .int (zI 0)), (0, .ref (zad G 157)), (1, .ref (zad G o1)), (2, .ref (zad G o2)), (3, .ref (zad G o3))]) C eX1_findThree_1 (by decide) rfl ?_
  refine zr_lv [1, 2, 3, 4, 0] rfl ?_
  refine wF_findThree_3 C _ ?_ 5000 o1 o2 o3 0 h1 h2 h3 w_0 σ
  intro o13 o14 o15 ho13 ho14 ho15 σ12
  refine zr_aloadn C 0 eX1_findThree_61 rfl ?_
  refine zr_ldc (a := 2147483647) C eX1_findThree_62 zq_X1_67 rfl ?_
  refine zr_putI C ff_X1_50 rfl zo_157 eX1_findThree_64 (fun σ16 => ?_)
  refine zr_iconst C eX1_findThree_67 rfl ?_
  refine zr_istore (lv' := [(4, .int (zI 0)), (0, .ref (zad G 157)), (1, .ref (zad G o13)), (2, .ref (zad G o14)), (3, .ref (zad G o15))]) C eX1_findThree_68 (by decide) rfl ?_
  refine zr_lv [1, 2, 3, 4, 0] rfl ?_
  refine wF_findThree_70 C 5000 o13 o14 o15 0 ho13 ho14 ho15 w_0 σ16
theorem wF_singChanges_93 {G : Zg} {p : Program} {l : Launch} {e : Env} {s : State} {m : MethodId} {args : Array Value} {below : List Frame} {meth : Method} {c : Code} (C : zC G p s m args meth c cX1_singChanges 6 RX1 none) {res : Int × Zm} (R0 : Int → Int → Int → Int → Int → Zm → Zr) (ih : ∀ (x1 : Int) (x2 : Int) (x3 : Int) (x4 : Int) (x5 : Int) (n1 : zw x1 = x1) (n2 : zw x2 = x2) (n3 : zw x3 = x3) (n4 : zw x4 = x4) (n5 : zw x5 = x5) (σ : Zm), zR G p l e (zrm 0) s m args below meth c 6 0 0 (zQm below args s G 294 ztt none res.2) 294 ztt res σ (R0 x1 x2 x3 x4 x5 σ) [(0, .ref (zad G 157)), (1, .int (zI x1)), (2, .int (zI x2)), (3, .int (zI x3)), (4, .int (zI x4)), (5, .int (zI x5))] 10 []) (x1 : Int) (x2 : Int) (x3 : Int) (x4 : Int) (x5 : Int) (n1 : zw x1 = x1) (n2 : zw x2 = x2) (n3 : zw x3 = x3) (n4 : zw x4 = x4) (n5 : zw x5 = x5) (σ : Zm) : zR G p l e (zrm 0) s m args below meth c 6 0 0 (zQm below args s G 294 ztt none res.2) 294 ztt res σ (fF_singChanges_93 R0 x1 x2 x3 x4 x5 σ) [(0, .ref (zad G 157)), (1, .int (zI x1)), (2, .int (zI x2)), (3, .int (zI x3)), (4, .int (zI x4)), (5, .int (zI x5))] 93 [] := by
  unfold fF_singChanges_93
  refine zr_aloadn C 0 eX1_singChanges_93 rfl ?_
  refine zr_getR C ff_X1_33 rfl zo_157 rfl zf_157_4 eX1_singChanges_94 ?_
  refine zr_getR C ff_X1_100 rfl zo_171 rfl zf_171_1 eX1_singChanges_97 ?_
  refine zr_iload C 5 eX1_singChanges_100 rfl ?_
  refine zr_iald C zo_173 zn_173 n5 eX1_singChanges_102 (fun v3 nv3 => ?_)
  refine zr_if_eq C eX1_singChanges_103 nv3 ?_ ?_
  · refine zr_iinc (lv' := [(5, .int (zI (x5 + 1))), (0, .ref (zad G 157)), (1, .int (zI x1)), (2, .int (zI x2)), (3, .int (zI x3)), (4, .int (zI x4))]) C 5 eX1_singChanges_117 rfl (by decide) rfl ?_
    refine zr_goto C eX1_singChanges_120 ?_
    refine zr_lv [1, 2, 3, 4, 5, 0] rfl ?_
    exact zr_lve (zs_p (zs_p (zs_p (zs_p (zs_p (zs_pi (zI_w (x5 + 1)).symm rfl)))))) (ih x1 x2 x3 x4 (zw (x5 + 1)) n1 n2 n3 n4 (zw_w (x5 + 1)) _)
  refine zr_aloadn C 0 eX1_singChanges_106 rfl ?_
  refine zr_getR C ff_X1_33 rfl zo_157 rfl zf_157_4 eX1_singChanges_107 ?_
  refine zr_getR C ff_X1_103 rfl zo_171 rfl zf_171_0 eX1_singChanges_110 ?_
  refine zr_iload C 5 eX1_singChanges_113 rfl ?_
  refine zr_iloadn C 3 eX1_singChanges_115 rfl ?_
  refine zr_iast C zo_172 zn_172 n5 eX1_singChanges_116 (fun σ4 => ?_)
  refine zr_iinc (lv' := [(5, .int (zI (x5 + 1))), (0, .ref (zad G 157)), (1, .int (zI x1)), (2, .int (zI x2)), (3, .int (zI x3)), (4, .int (zI x4))]) C 5 eX1_singChanges_117 rfl (by decide) rfl ?_
  refine zr_goto C eX1_singChanges_120 ?_
  refine zr_lv [1, 2, 3, 4, 5, 0] rfl ?_
  exact zr_lve (zs_p (zs_p (zs_p (zs_p (zs_p (zs_pi (zI_w (x5 + 1)).symm rfl)))))) (ih x1 x2 x3 x4 (zw (x5 + 1)) n1 n2 n3 n4 (zw_w (x5 + 1)) _)
theorem wF_singChanges_53 {G : Zg} {p : Program} {l : Launch} {e : Env} {s : State} {m : MethodId} {args : Array Value} {below : List Frame} {meth : Method} {c : Code} (C : zC G p s m args meth c cX1_singChanges 6 RX1 none) {res : Int × Zm} (R0 : Int → Int → Int → Int → Int → Zm → Zr) (ih : ∀ (x1 : Int) (x2 : Int) (x3 : Int) (x4 : Int) (x5 : Int) (n1 : zw x1 = x1) (n2 : zw x2 = x2) (n3 : zw x3 = x3) (n4 : zw x4 = x4) (n5 : zw x5 = x5) (σ : Zm), zR G p l e (zrm 0) s m args below meth c 6 0 0 (zQm below args s G 294 ztt none res.2) 294 ztt res σ (R0 x1 x2 x3 x4 x5 σ) [(0, .ref (zad G 157)), (1, .int (zI x1)), (2, .int (zI x2)), (3, .int (zI x3)), (4, .int (zI x4)), (5, .int (zI x5))] 10 []) (x1 : Int) (x2 : Int) (x3 : Int) (x4 : Int) (x5 : Int) (n1 : zw x1 = x1) (n2 : zw x2 = x2) (n3 : zw x3 = x3) (n4 : zw x4 = x4) (n5 : zw x5 = x5) (σ : Zm) : zR G p l e (zrm 0) s m args below meth c 6 0 0 (zQm below args s G 294 ztt none res.2) 294 ztt res σ (fF_singChanges_53 R0 x1 x2 x3 x4 x5 σ) [(0, .ref (zad G 157)), (1, .int (zI x1)), (2, .int (zI x2)), (3, .int (zI x3)), (4, .int (zI x4)), (5, .int (zI x5))] 53 [] := by
  unfold fF_singChanges_53
  refine zr_aloadn C 0 eX1_singChanges_53 rfl ?_
  refine zr_getR C ff_X1_33 rfl zo_157 rfl zf_157_4 eX1_singChanges_54 ?_
  refine zr_getR C ff_X1_100 rfl zo_171 rfl zf_171_1 eX1_singChanges_57 ?_
  refine zr_iload C 5 eX1_singChanges_60 rfl ?_
  refine zr_iald C zo_173 zn_173 n5 eX1_singChanges_62 (fun v2 nv2 => ?_)
  refine zr_iconst C eX1_singChanges_63 rfl ?_
  refine zr_icmp_ne C eX1_singChanges_64 nv2 w_1 ?_ ?_
  · exact wF_singChanges_93 C R0 ih x1 x2 x3 x4 x5 n1 n2 n3 n4 n5 σ
  refine zr_iloadn C 2 eX1_singChanges_67 rfl ?_
  refine zr_iloadn C 1 eX1_singChanges_68 rfl ?_
  refine zr_icmp_ge C eX1_singChanges_69 n2 n1 ?_ ?_
  · exact wF_singChanges_93 C R0 ih x1 x2 x3 x4 x5 n1 n2 n3 n4 n5 σ
  refine zr_iloadn C 2 eX1_singChanges_72 rfl ?_
  refine zr_aloadn C 0 eX1_singChanges_73 rfl ?_
  refine zr_getR C ff_X1_36 rfl zo_157 rfl zf_157_5 eX1_singChanges_74 ?_
  refine zr_alen (A := 12) C zo_174 (by decide) zn_174 rfl eX1_singChanges_77 ?_
  refine zr_icmp_ge C eX1_singChanges_78 n2 w_12 ?_ ?_
  · exact wF_singChanges_93 C R0 ih x1 x2 x3 x4 x5 n1 n2 n3 n4 n5 σ
  refine zr_iloadn C 3 eX1_singChanges_81 rfl ?_
  refine zr_aloadn C 0 eX1_singChanges_82 rfl ?_
  refine zr_getR C ff_X1_36 rfl zo_157 rfl zf_157_5 eX1_singChanges_83 ?_
  refine zr_iloadn C 2 eX1_singChanges_86 rfl ?_
  refine zr_iald C zo_174 zn_174 n2 eX1_singChanges_87 (fun v5 nv5 => ?_)
  refine zr_iadd C eX1_singChanges_88 ?_
  refine zr_st (show _ = .int (zI (zw (x3 + v5))) :: _ from congrArg (· :: _) (congrArg Value.int (zI_w (x3 + v5)).symm)) ?_
  refine zr_letw (P := fun z => .int (zI z) :: _) (zw_w (x3 + v5)) (fun v6 nv6 => ?_)
  refine zr_istoren (lv' := [(3, .int (zI v6)), (0, .ref (zad G 157)), (1, .int (zI x1)), (2, .int (zI x2)), (4, .int (zI x4)), (5, .int (zI x5))]) C eX1_singChanges_89 (by decide) rfl ?_
  refine zr_iinc (lv' := [(2, .int (zI (x2 + 1))), (3, .int (zI v6)), (0, .ref (zad G 157)), (1, .int (zI x1)), (4, .int (zI x4)), (5, .int (zI x5))]) C 3 eX1_singChanges_90 rfl (by decide) rfl ?_
  refine zr_lv [2, 3, 0, 1, 4, 5] rfl ?_
  refine zr_lve (zs_p (zs_p (zs_pi (zI_w (x2 + 1)).symm (zs_p (zs_p (zs_p rfl)))))) ?_
  exact wF_singChanges_93 C R0 ih x1 (zw (x2 + 1)) v6 x4 x5 n1 (zw_w (x2 + 1)) nv6 n4 n5 σ
theorem wF_singChanges_10 {G : Zg} {p : Program} {l : Launch} {e : Env} {s : State} {m : MethodId} {args : Array Value} {below : List Frame} {meth : Method} {c : Code} (C : zC G p s m args meth c cX1_singChanges 6 RX1 none) {res : Int × Zm} : ∀ (n : Nat) (x1 : Int) (x2 : Int) (x3 : Int) (x4 : Int) (x5 : Int) (n1 : zw x1 = x1) (n2 : zw x2 = x2) (n3 : zw x3 = x3) (n4 : zw x4 = x4) (n5 : zw x5 = x5) (σ : Zm), zR G p l e (zrm 0) s m args below meth c 6 0 0 (zQm below args s G 294 ztt none res.2) 294 ztt res σ (fF_singChanges_10 n x1 x2 x3 x4 x5 σ) [(0, .ref (zad G 157)), (1, .int (zI x1)), (2, .int (zI x2)), (3, .int (zI x3)), (4, .int (zI x4)), (5, .int (zI x5))] 10 []
  | 0, _, _, _, _, _, _, _, _, _, _, _ => zr_none
  | n + 1, x1, x2, x3, x4, x5, n1, n2, n3, n4, n5, σ => by
    have ih := fun (x1 : Int) (x2 : Int) (x3 : Int) (x4 : Int) (x5 : Int) (n1 : zw x1 = x1) (n2 : zw x2 = x2) (n3 : zw x3 = x3) (n4 : zw x4 = x4) (n5 : zw x5 = x5) (σ : Zm) => wF_singChanges_10 (l := l) (e := e) (below := below) C (res := res) n x1 x2 x3 x4 x5 n1 n2 n3 n4 n5 σ
    rw [fF_singChanges_10]
    refine zr_letf (fun R0 hR0 => ?_)
    have ih : ∀ (x1 : Int) (x2 : Int) (x3 : Int) (x4 : Int) (x5 : Int) (n1 : zw x1 = x1) (n2 : zw x2 = x2) (n3 : zw x3 = x3) (n4 : zw x4 = x4) (n5 : zw x5 = x5) (σ : Zm), zR G p l e (zrm 0) s m args below meth c 6 0 0 (zQm below args s G 294 ztt none res.2) 294 ztt res σ (R0 x1 x2 x3 x4 x5 σ) [(0, .ref (zad G 157)), (1, .int (zI x1)), (2, .int (zI x2)), (3, .int (zI x3)), (4, .int (zI x4)), (5, .int (zI x5))] 10 [] := by rw [hR0]; exact ih
    clear hR0
    refine zr_iload C 5 eX1_singChanges_10 rfl ?_
    refine zr_bipush (a := 12) C eX1_singChanges_12 rfl ?_
    refine zr_icmp_ge C eX1_singChanges_14 n5 w_12 ?_ ?_
    · exact zr_vret C eX1_singChanges_123
    refine zr_aloadn C 0 eX1_singChanges_17 rfl ?_
    refine zr_getR C ff_X1_33 rfl zo_157 rfl zf_157_4 eX1_singChanges_18 ?_
    refine zr_getR C ff_X1_100 rfl zo_171 rfl zf_171_1 eX1_singChanges_21 ?_
    refine zr_iload C 5 eX1_singChanges_24 rfl ?_
    refine zr_iald C zo_173 zn_173 n5 eX1_singChanges_26 (fun v1 nv1 => ?_)
    refine zr_iconst C eX1_singChanges_27 rfl ?_
    refine zr_icmp_ne C eX1_singChanges_28 nv1 w_1 ?_ ?_
    · exact wF_singChanges_53 C R0 ih x1 x2 x3 x4 x5 n1 n2 n3 n4 n5 σ
    refine zr_iload C 4 eX1_singChanges_31 rfl ?_
    refine zr_if_ne C eX1_singChanges_33 n4 ?_ ?_
    · exact wF_singChanges_53 C R0 ih x1 x2 x3 x4 x5 n1 n2 n3 n4 n5 σ
    refine zr_aloadn C 0 eX1_singChanges_36 rfl ?_
    refine zr_getR C ff_X1_33 rfl zo_157 rfl zf_157_4 eX1_singChanges_37 ?_
    refine zr_getR C ff_X1_103 rfl zo_171 rfl zf_171_0 eX1_singChanges_40 ?_
    refine zr_iload C 5 eX1_singChanges_43 rfl ?_
    refine zr_iald C zo_172 zn_172 n5 eX1_singChanges_45 (fun v7 nv7 => ?_)
    refine zr_istoren (lv' := [(3, .int (zI v7)), (0, .ref (zad G 157)), (1, .int (zI x1)), (2, .int (zI x2)), (4, .int (zI x4)), (5, .int (zI x5))]) C eX1_singChanges_46 (by decide) rfl ?_
    refine zr_iconst C eX1_singChanges_47 rfl ?_
    refine zr_istore (lv' := [(4, .int (zI 1)), (3, .int (zI v7)), (0, .ref (zad G 157)), (1, .int (zI x1)), (2, .int (zI x2)), (5, .int (zI x5))]) C eX1_singChanges_48 (by decide) rfl ?_
    refine zr_goto C eX1_singChanges_50 ?_
    refine zr_lv [2, 3, 4, 1, 0, 5] rfl ?_
    exact wF_singChanges_93 C R0 ih x1 x2 v7 1 x5 n1 n2 nv7 w_1 n5 σ
theorem zqF_singChanges (l : Launch) (G : Zg) (σ : Zm) (x1 : Int) (n1 : zw x1 = x1) (res : Int × Zm) (he : fF_singChanges σ x1 = some res) : zM l yX1_singChanges cX1_singChanges 6 none 0 G 294 ztt σ [.ref (zad G 157), .int (zI x1)] none res.2 := by
  refine zM_of he (by decide +kernel) (Nat.le_of_ble_eq_true rfl) (lv := [(0, .ref (zad G 157)), (1, .int (zI x1))]) rfl (fun p e s m below meth c C => ?_)
  unfold fF_singChanges
  refine zr_iconst C eX1_singChanges_0 rfl ?_
  refine zr_istoren (lv' := [(2, .int (zI 0)), (0, .ref (zad G 157)), (1, .int (zI x1))]) C eX1_singChanges_1 (by decide) rfl ?_
  refine zr_iconst C eX1_singChanges_2 rfl ?_
  refine zr_istoren (lv' := [(3, .int (zI 0)), (2, .int (zI 0)), (0, .ref (zad G 157)), (1, .int (zI x1))]) C eX1_singChanges_3 (by decide) rfl ?_
  refine zr_iconst C eX1_singChanges_4 rfl ?_
  refine zr_istore (lv' := [(4, .int (zI 0)), (3, .int (zI 0)), (2, .int (zI 0)), (0, .ref (zad G 157)), (1, .int (zI x1))]) C eX1_singChanges_5 (by decide) rfl ?_
  refine zr_iconst C eX1_singChanges_7 rfl ?_
  refine zr_istore (lv' := [(5, .int (zI 0)), (4, .int (zI 0)), (3, .int (zI 0)), (2, .int (zI 0)), (0, .ref (zad G 157)), (1, .int (zI x1))]) C eX1_singChanges_8 (by decide) rfl ?_
  refine zr_lv [4, 5, 3, 2, 1, 0] rfl ?_
  refine wF_singChanges_10 C 5000 x1 0 0 0 0 n1 w_0 w_0 w_0 w_0 σ
theorem wF_shuffle_13 {G : Zg} {p : Program} {l : Launch} {e : Env} {s : State} {m : MethodId} {args : Array Value} {below : List Frame} {meth : Method} {c : Code} (C : zC G p s m args meth c cX1_shuffle 8 RX1 none) {res : Int × Zm} (K83 : Int → Int → Zm → Zr) (hK83 : ∀ (x2 : Int) (x3 : Int) (n2 : zw x2 = x2) (n3 : zw x3 = x3) (σ : Zm), zR G p l e (zrm 2) s m args below meth c 8 0 0 (zQm below args s G 294 ztt none res.2) 294 ztt res σ (K83 x2 x3 σ) [(0, .ref (zad G 157)), (2, .int (zI x2)), (3, .int (zI x3))] 83 []) : ∀ (n : Nat) (o1 : Nat) (x2 : Int) (x3 : Int) (x4 : Int) (h1 : zin 294 o1 3) (n2 : zw x2 = x2) (n3 : zw x3 = x3) (n4 : zw x4 = x4) (σ : Zm), zR G p l e (zrm 2) s m args below meth c 8 0 0 (zQm below args s G 294 ztt none res.2) 294 ztt res σ (fF_shuffle_13 n o1 x2 x3 x4 σ K83) [(0, .ref (zad G 157)), (1, .ref (zad G o1)), (2, .int (zI x2)), (3, .int (zI x3)), (4, .int (zI x4))] 13 []
  | 0, _, _, _, _, _, _, _, _, _ => zr_none
  | n + 1, o1, x2, x3, x4, h1, n2, n3, n4, σ => by
    have ih := fun (o1 : Nat) (x2 : Int) (x3 : Int) (x4 : Int) (h1 : zin 294 o1 3) (n2 : zw x2 = x2) (n3 : zw x3 = x3) (n4 : zw x4 = x4) (σ : Zm) => wF_shuffle_13 (l := l) (e := e) (below := below) C K83 hK83 (res := res) n o1 x2 x3 x4 h1 n2 n3 n4 σ
    rw [fF_shuffle_13]
    refine zr_letf (fun R0 hR0 => ?_)
    have ih : ∀ (o1 : Nat) (x2 : Int) (x3 : Int) (x4 : Int) (h1 : zin 294 o1 3) (n2 : zw x2 = x2) (n3 : zw x3 = x3) (n4 : zw x4 = x4) (σ : Zm), zR G p l e (zrm 2) s m args below meth c 8 0 0 (zQm below args s G 294 ztt none res.2) 294 ztt res σ (R0 o1 x2 x3 x4 σ) [(0, .ref (zad G 157)), (1, .ref (zad G o1)), (2, .int (zI x2)), (3, .int (zI x3)), (4, .int (zI x4))] 13 [] := by rw [hR0]; exact ih
    clear hR0
    refine zr_iload C 4 eX1_shuffle_13 rfl ?_
    refine zr_bipush (a := 12) C eX1_shuffle_15 rfl ?_
    refine zr_icmp_ge C eX1_shuffle_17 n4 w_12 ?_ ?_
    · refine zr_lv [0, 2, 3] rfl ?_
      exact hK83 x2 x3 n2 n3 _
    refine zr_aloadn C 1 eX1_shuffle_20 rfl ?_
    refine zr_iload C 4 eX1_shuffle_21 rfl ?_
    refine zr_callVi C [.int (zI x4)] zy_X3_noteAhead zv_X3_noteAhead lk_X1_97 zrm_2_3_1 h1 (by decide) rfl (fun r hr => zqL_noteAhead l G σ o1 x4 h1 n4 r hr) rfl rfl (Nat.le_of_ble_eq_true rfl) eX1_shuffle_23 (fun v3 nv3 σ2 => ?_)
    refine zr_istore (lv' := [(5, .int (zI v3)), (0, .ref (zad G 157)), (1, .ref (zad G o1)), (2, .int (zI x2)), (3, .int (zI x3)), (4, .int (zI x4))]) C eX1_shuffle_26 (by decide) rfl ?_
    refine zr_aloadn C 2 eX1_shuffle_28 rfl ?_
    refine zr_getR C ff_X1_100 rfl h1 rfl ((zk_3_1 h1).1) eX1_shuffle_29 ?_
    refine zr_iload C 5 eX1_shuffle_32 rfl ?_
    refine zr_iald C ((zk_3_1 h1).2) rfl n4 eX1_shuffle_34 (fun v4 nv4 => ?_)
    refine zr_iconst C eX1_shuffle_35 rfl ?_
    refine zr_icmp_ne C eX1_shuffle_36 nv4 w_1 ?_ ?_
    · refine zr_iinc (lv' := [(4, .int (zI (x4 + 1))), (5, .int (zI v3)), (0, .ref (zad G 157)), (1, .ref (zad G o1)), (2, .int (zI x2)), (3, .int (zI x3))]) C 5 eX1_shuffle_77 rfl (by decide) rfl ?_
      refine zr_goto C eX1_shuffle_80 ?_
      refine zr_lv [2, 3, 4, 5, 0] rfl ?_
      exact zr_lve (zs_p (zs_p (zs_p (zs_p (zs_pi (zI_w (x4 + 1)).symm rfl))))) (ih o1 x2 x3 (zw (x4 + 1)) h1 n2 n3 (zw_w (x4 + 1)) _)
    refine zr_iload C 0 eX1_shuffle_39 rfl ?_
    refine zr_if_lt C eX1_shuffle_41 nv3 ?_ ?_
    · refine zr_iinc (lv' := [(4, .int (zI (x4 + 1))), (5, .int (zI v3)), (0, .ref (zad G 157)), (1, .ref (zad G o1)), (2, .int (zI x2)), (3, .int (zI x3))]) C 5 eX1_shuffle_77 rfl (by decide) rfl ?_
      refine zr_goto C eX1_shuffle_80 ?_
      refine zr_lv [2, 3, 4, 5, 0] rfl ?_
      exact zr_lve (zs_p (zs_p (zs_p (zs_p (zs_pi (zI_w (x4 + 1)).symm rfl))))) (ih o1 x2 x3 (zw (x4 + 1)) h1 n2 n3 (zw_w (x4 + 1)) _)
    refine zr_iloadn C 4 eX1_shuffle_44 rfl ?_
    refine zr_aloadn C 1 eX1_shuffle_45 rfl ?_
    refine zr_getR C ff_X1_36 rfl zo_157 rfl zf_157_5 eX1_shuffle_46 ?_
    refine zr_alen (A := 12) C zo_174 (by decide) zn_174 rfl eX1_shuffle_49 ?_
    refine zr_icmp_ge C eX1_shuffle_50 n3 w_12 ?_ ?_
    · refine zr_iinc (lv' := [(4, .int (zI (x4 + 1))), (5, .int (zI v3)), (0, .ref (zad G 157)), (1, .ref (zad G o1)), (2, .int (zI x2)), (3, .int (zI x3))]) C 5 eX1_shuffle_77 rfl (by decide) rfl ?_
      refine zr_goto C eX1_shuffle_80 ?_
      refine zr_lv [2, 3, 4, 5, 0] rfl ?_
      exact zr_lve (zs_p (zs_p (zs_p (zs_p (zs_pi (zI_w (x4 + 1)).symm rfl))))) (ih o1 x2 x3 (zw (x4 + 1)) h1 n2 n3 (zw_w (x4 + 1)) _)
    refine zr_aloadn C 1 eX1_shuffle_53 rfl ?_
    refine zr_getR C ff_X1_36 rfl zo_157 rfl zf_157_5 eX1_shuffle_54 ?_
    refine zr_iloadn C 4 eX1_shuffle_57 rfl ?_
    refine zr_aloadn C 2 eX1_shuffle_58 rfl ?_
    refine zr_getR C ff_X1_103 rfl h1 rfl ((zk_3_0 h1).1) eX1_shuffle_59 ?_
    refine zr_iload C 5 eX1_shuffle_62 rfl ?_
    refine zr_iald C ((zk_3_0 h1).2) rfl n4 eX1_shuffle_64 (fun v5 nv5 => ?_)
    refine zr_aloadn C 2 eX1_shuffle_65 rfl ?_
    refine zr_getR C ff_X1_103 rfl h1 rfl ((zk_3_0 h1).1) eX1_shuffle_66 ?_
    refine zr_iload C 0 eX1_shuffle_69 rfl ?_
    refine zr_iald C ((zk_3_0 h1).2) rfl nv3 eX1_shuffle_71 (fun v6 nv6 => ?_)
    refine zr_isub C eX1_shuffle_72 ?_
    refine zr_iast C zo_174 zn_174 n3 eX1_shuffle_73 (fun σ7 => ?_)
    refine zr_iinc (lv' := [(3, .int (zI (x3 + 1))), (5, .int (zI v3)), (0, .ref (zad G 157)), (1, .ref (zad G o1)), (2, .int (zI x2)), (4, .int (zI x4))]) C 4 eX1_shuffle_74 rfl (by decide) rfl ?_
    refine zr_iinc (lv' := [(4, .int (zI (x4 + 1))), (3, .int (zI (x3 + 1))), (5, .int (zI v3)), (0, .ref (zad G 157)), (1, .ref (zad G o1)), (2, .int (zI x2))]) C 5 eX1_shuffle_77 rfl (by decide) rfl ?_
    refine zr_goto C eX1_shuffle_80 ?_
    refine zr_lv [3, 4, 5, 1, 0] rfl ?_
    exact zr_lve (zs_p (zs_p (zs_p (zs_pi (zI_w (x3 + 1)).symm (zs_pi (zI_w (x4 + 1)).symm rfl))))) (ih o1 x2 (zw (x3 + 1)) (zw (x4 + 1)) h1 n2 (zw_w (x3 + 1)) (zw_w (x4 + 1)) _)
theorem wF_shuffle_91 {G : Zg} {p : Program} {l : Launch} {e : Env} {s : State} {m : MethodId} {args : Array Value} {below : List Frame} {meth : Method} {c : Code} (C : zC G p s m args meth c cX1_shuffle 8 RX1 none) {res : Int × Zm} : ∀ (n : Nat) (x3 : Int) (x4 : Int) (x5 : Int) (n3 : zw x3 = x3) (n4 : zw x4 = x4) (n5 : zw x5 = x5) (σ : Zm), zR G p l e (zrm 2) s m args below meth c 8 0 0 (zQm below args s G 294 ztt none res.2) 294 ztt res σ (fF_shuffle_91 n x3 x4 x5 σ) [(0, .ref (zad G 157)), (3, .int (zI x3)), (4, .int (zI x4)), (5, .int (zI x5))] 91 []
  | 0, _, _, _, _, _, _, _ => zr_none
  | n + 1, x3, x4, x5, n3, n4, n5, σ => by
    have ih := fun (x3 : Int) (x4 : Int) (x5 : Int) (n3 : zw x3 = x3) (n4 : zw x4 = x4) (n5 : zw x5 = x5) (σ : Zm) => wF_shuffle_91 (l := l) (e := e) (below := below) C (res := res) n x3 x4 x5 n3 n4 n5 σ
    rw [fF_shuffle_91]
    refine zr_letf (fun R0 hR0 => ?_)
    have ih : ∀ (x3 : Int) (x4 : Int) (x5 : Int) (n3 : zw x3 = x3) (n4 : zw x4 = x4) (n5 : zw x5 = x5) (σ : Zm), zR G p l e (zrm 2) s m args below meth c 8 0 0 (zQm below args s G 294 ztt none res.2) 294 ztt res σ (R0 x3 x4 x5 σ) [(0, .ref (zad G 157)), (3, .int (zI x3)), (4, .int (zI x4)), (5, .int (zI x5))] 91 [] := by rw [hR0]; exact ih
    clear hR0
    refine zr_iload C 3 eX1_shuffle_91 rfl ?_
    refine zr_iconst C eX1_shuffle_93 rfl ?_
    refine zr_icmp_lt C eX1_shuffle_94 n5 w_1 ?_ ?_
    · refine zr_aloadn C 0 eX1_shuffle_161 rfl ?_
      refine zr_iloadn C 1 eX1_shuffle_162 rfl ?_
      refine zr_callVv C [.int (zI x3)] zy_X1_singChanges zv_X1_singChanges lk_X1_109 zrm_2_6_0 zo_157 (by decide) rfl (fun r hr => zqF_singChanges l G σ x3 n3 r hr) rfl rfl (Nat.le_of_ble_eq_true rfl) eX1_shuffle_163 (fun σ12 => ?_)
      exact zr_vret C eX1_shuffle_166
    refine zr_iload C 2 eX1_shuffle_97 rfl ?_
    refine zr_iload C 3 eX1_shuffle_99 rfl ?_
    refine zr_iconst C eX1_shuffle_101 rfl ?_
    refine zr_iadd C eX1_shuffle_102 ?_
    refine zr_callSi C [.int (zI x4), .int (zI (zw (x5 + 1)))] zy_J9_floorMod_7cf53 zs_J9_floorMod_7cf53 lk_X1_106 zrm_2_3_0 (fun r hr => qJ9_floorMod_7cf53 l G σ x4 (zw (x5 + 1)) n4 (zw_w (x5 + 1)) r hr) rfl (zs_i (zI_w (x5 + 1)).symm (zs_k rfl)) (Nat.le_of_ble_eq_true rfl) eX1_shuffle_103 (fun v14 nv14 σ13 => ?_)
    refine zr_istore (lv' := [(6, .int (zI v14)), (0, .ref (zad G 157)), (3, .int (zI x3)), (4, .int (zI x4)), (5, .int (zI x5))]) C eX1_shuffle_106 (by decide) rfl ?_
    refine zr_aloadn C 1 eX1_shuffle_108 rfl ?_
    refine zr_getR C ff_X1_36 rfl zo_157 rfl zf_157_5 eX1_shuffle_109 ?_
    refine zr_iload C 4 eX1_shuffle_112 rfl ?_
    refine zr_iald C zo_174 zn_174 n5 eX1_shuffle_114 (fun v15 nv15 => ?_)
    refine zr_istore (lv' := [(7, .int (zI v15)), (6, .int (zI v14)), (0, .ref (zad G 157)), (3, .int (zI x3)), (4, .int (zI x4)), (5, .int (zI x5))]) C eX1_shuffle_115 (by decide) rfl ?_
    refine zr_aloadn C 2 eX1_shuffle_117 rfl ?_
    refine zr_getR C ff_X1_36 rfl zo_157 rfl zf_157_5 eX1_shuffle_118 ?_
    refine zr_iload C 5 eX1_shuffle_121 rfl ?_
    refine zr_aloadn C 2 eX1_shuffle_123 rfl ?_
    refine zr_getR C ff_X1_36 rfl zo_157 rfl zf_157_5 eX1_shuffle_124 ?_
    refine zr_iload C 1 eX1_shuffle_127 rfl ?_
    refine zr_iald C zo_174 zn_174 nv14 eX1_shuffle_129 (fun v16 nv16 => ?_)
    refine zr_iast C zo_174 zn_174 n5 eX1_shuffle_130 (fun σ17 => ?_)
    refine zr_aloadn C 2 eX1_shuffle_131 rfl ?_
    refine zr_getR C ff_X1_36 rfl zo_157 rfl zf_157_5 eX1_shuffle_132 ?_
    refine zr_iload C 1 eX1_shuffle_135 rfl ?_
    refine zr_iload C 0 eX1_shuffle_137 rfl ?_
    refine zr_iast C zo_174 zn_174 nv14 eX1_shuffle_139 (fun σ18 => ?_)
    refine zr_iload C 4 eX1_shuffle_140 rfl ?_
    refine zr_sipush (a := 131) C eX1_shuffle_142 rfl ?_
    refine zr_imul C eX1_shuffle_145 ?_
    refine zr_bipush (a := 17) C eX1_shuffle_146 rfl ?_
    refine zr_iadd C eX1_shuffle_148 ?_
    refine zr_sipush (a := 30013) C eX1_shuffle_149 rfl ?_
    refine zr_iremc C eX1_shuffle_152 rfl w_30013 (by decide) ?_
    refine zr_st (show _ = .int (zI (zw (Int.tmod (zw ((x4 * 131) + 17)) 30013))) :: _ from congrArg (· :: _) (congrArg Value.int (zI_w (Int.tmod (zw ((x4 * 131) + 17)) 30013)).symm)) ?_
    refine zr_letw (P := fun z => .int (zI z) :: _) (zw_w (Int.tmod (zw ((x4 * 131) + 17)) 30013)) (fun v19 nv19 => ?_)
    refine zr_istore (lv' := [(4, .int (zI v19)), (7, .int (zI v15)), (6, .int (zI v14)), (0, .ref (zad G 157)), (3, .int (zI x3)), (5, .int (zI x5))]) C eX1_shuffle_153 (by decide) rfl ?_
    refine zr_iinc (lv' := [(5, .int (zI (x5 + (-1)))), (4, .int (zI v19)), (7, .int (zI v15)), (6, .int (zI v14)), (0, .ref (zad G 157)), (3, .int (zI x3))]) C 5 eX1_shuffle_155 rfl (by decide) rfl ?_
    refine zr_goto C eX1_shuffle_158 ?_
    refine zr_lv [4, 5, 1, 0] rfl ?_
    exact zr_lve (zs_p (zs_p (zs_p (zs_pi (zI_w (x5 + (-1))).symm rfl)))) (ih x3 v19 (zw (x5 + (-1))) n3 nv19 (zw_w (x5 + (-1))) _)
theorem zqF_shuffle (l : Launch) (G : Zg) (σ : Zm) (o1 : Nat) (x2 : Int) (h1 : zin 294 o1 3) (n2 : zw x2 = x2) (res : Int × Zm) (he : fF_shuffle σ o1 x2 = some res) : zM l yX1_shuffle cX1_shuffle 8 none 2 G 294 ztt σ [.ref (zad G 157), .ref (zad G o1), .int (zI x2)] none res.2 := by
  refine zM_of he (by decide +kernel) (Nat.le_of_ble_eq_true rfl) (lv := [(0, .ref (zad G 157)), (1, .ref (zad G o1)), (2, .int (zI x2))]) rfl (fun p e s m below meth c C => ?_)
  unfold fF_shuffle
  refine zr_aloadn C 0 eX1_shuffle_0 rfl ?_
  refine zr_getR C ff_X1_33 rfl zo_157 rfl zf_157_4 eX1_shuffle_1 ?_
  refine zr_aloadn C 1 eX1_shuffle_4 rfl ?_
  refine zr_callVv C [.ref (zad G o1)] zy_X3_take zv_X3_take lk_X1_93 zrm_2_3_1 zo_171 (by decide) rfl (fun r hr => zqL_take l G σ 171 o1 zo_171 h1 r hr) rfl rfl (Nat.le_of_ble_eq_true rfl) eX1_shuffle_5 (fun σ1 => ?_)
  refine zr_iconst C eX1_shuffle_8 rfl ?_
  refine zr_istoren (lv' := [(3, .int (zI 0)), (0, .ref (zad G 157)), (1, .ref (zad G o1)), (2, .int (zI x2))]) C eX1_shuffle_9 (by decide) rfl ?_
  refine zr_iconst C eX1_shuffle_10 rfl ?_
  refine zr_istore (lv' := [(4, .int (zI 0)), (3, .int (zI 0)), (0, .ref (zad G 157)), (1, .ref (zad G o1)), (2, .int (zI x2))]) C eX1_shuffle_11 (by decide) rfl ?_
  refine zr_lv [2, 3, 4, 1, 0] rfl ?_
  refine wF_shuffle_13 C _ ?_ 5000 o1 x2 0 0 h1 n2 w_0 w_0 σ1
  intro y9 y10 ny9 ny10 σ8
  refine zr_iloadn C 1 eX1_shuffle_83 rfl ?_
  refine zr_istore (lv' := [(4, .int (zI y9)), (0, .ref (zad G 157)), (2, .int (zI y9)), (3, .int (zI y10))]) C eX1_shuffle_84 (by decide) rfl ?_
  refine zr_iloadn C 3 eX1_shuffle_86 rfl ?_
  refine zr_iconst C eX1_shuffle_87 rfl ?_
  refine zr_isub C eX1_shuffle_88 ?_
  refine zr_st (show _ = .int (zI (zw (y10 - 1))) :: _ from congrArg (· :: _) (congrArg Value.int (zI_w (y10 - 1)).symm)) ?_
  refine zr_letw (P := fun z => .int (zI z) :: _) (zw_w (y10 - 1)) (fun v11 nv11 => ?_)
  refine zr_istore (lv' := [(5, .int (zI v11)), (4, .int (zI y9)), (0, .ref (zad G 157)), (2, .int (zI y9)), (3, .int (zI y10))]) C eX1_shuffle_89 (by decide) rfl ?_
  refine zr_lv [2, 4, 1, 0] rfl ?_
  refine wF_shuffle_91 C 5000 y10 y9 v11 ny10 ny9 nv11 σ8
