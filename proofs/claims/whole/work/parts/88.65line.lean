theorem lk_X3_9 : Cond.methodLink RX3 9 Lib.Math.max.name ∈ ztb := by decide +kernel
theorem ff_X3_21 : zF RX3 21 3 1 (.array .int) := Or.inl (by unfold zFd; decide +kernel)
theorem zk_3_1 {o : Nat} (h : zin 294 o 3) : zRF o 1 = o + 2 ∧ zin 294 (o + 2) 20 := by
  have h2 : ∀ o, o < 294 → zSH o = 3 → zRF o 1 = o + 2 ∧ (zSH (o + 2) = 20 ∧ o + 2 < 294) := by decide +kernel
  exact h2 o h.2 h.1
theorem ff_X3_15 : zF RX3 15 3 0 (.array .int) := Or.inl (by unfold zFd; decide +kernel)
theorem zk_3_0 {o : Nat} (h : zin 294 o 3) : zRF o 0 = o + 1 ∧ zin 294 (o + 1) 20 := by
  have h2 : ∀ o, o < 294 → zSH o = 3 → zRF o 0 = o + 1 ∧ (zSH (o + 1) = 20 ∧ o + 1 < 294) := by decide +kernel
  exact h2 o h.2 h.1
theorem lk_X3_28 : zL RX3 28 yX9_within := Or.inr ⟨"BrokenFugue", by decide +kernel⟩
theorem lk_X3_24 : zL RX3 24 yX3_fill := Or.inl (by decide +kernel)
theorem zy_X3_fill : zY yX3_fill cX3_fill 7 none 4 := by unfold zY; decide +kernel
theorem zv_X3_fill : zYv yX3_fill := by unfold zYv; decide +kernel
theorem zrm_2_7_1 : zRm (zrm 2) 0 0 7 1 := by unfold zRm; decide
theorem zrm_2_3_0 : zRm (zrm 2) 0 0 3 0 := by unfold zRm; decide
theorem lk_X3_32 : Cond.methodLink RX3 32 Lib.Math.min.name ∈ ztb := by decide +kernel
theorem w_m1 : zw (-1) = (-1) := by decide +kernel
theorem lk_X3_35 : Cond.methodLink RX3 35 arraycopyName ∈ ztb := by decide +kernel
theorem zy_acopy : Cond.native arraycopyName ∈ ztb ∧ Cond.static arraycopyName ∈ ztb ∧ Cond.initialized "java/lang/System" ∈ ztb := by decide +kernel
theorem zrm_1_21_0 : zRm (zrm 1) 0 0 21 0 := by unfold zRm; decide
theorem lk_X3_41 : zL RX3 41 yX3_take := Or.inl (by decide +kernel)
theorem zy_X3_take : zY yX3_take cX3_take 3 none 1 := by unfold zY; decide +kernel
theorem zv_X3_take : zYv yX3_take := by unfold zYv; decide +kernel
theorem zrm_2_3_1 : zRm (zrm 2) 0 0 3 1 := by unfold zRm; decide
theorem lk_X3_45 : zL RX3 45 yX9_isPitch := Or.inr ⟨"BrokenFugue", by decide +kernel⟩
theorem zy_X9_isPitch : zY yX9_isPitch cX9_isPitch 1 (some .boolean) 1 := by unfold zY; decide +kernel
theorem zs_X9_isPitch : Cond.static yX9_isPitch ∈ ztb := by decide +kernel
theorem zrm_2_1_1 : zRm (zrm 2) 0 0 1 1 := by unfold zRm; decide
theorem w_30 : zw 30 = 30 := by decide +kernel
theorem lk_X3_49 : zL RX3 49 yJ7_fill_53178 := Or.inl (by decide +kernel)
theorem zy_J7_fill_53178 : zY yJ7_fill_53178 cJ7_fill_53178 4 none 2 := by unfold zY; decide +kernel
theorem zs_J7_fill_53178 : Cond.static yJ7_fill_53178 ∈ ztb := by decide +kernel
theorem zrm_1_4_0 : zRm (zrm 1) 0 0 4 0 := by unfold zRm; decide
theorem eX3_fill_0 : zD cX3_fill 0 (.iload_n 1) 1 1 := ⟨by decide +kernel, rfl⟩
theorem eX3_fill_1 : zD cX3_fill 1 (.iload_n 2) 1 2 := ⟨by decide +kernel, rfl⟩
theorem eX3_fill_2 : zD cX3_fill 2 .iadd 1 3 := ⟨by decide +kernel, rfl⟩
theorem eX3_fill_3 : zD cX3_fill 3 (.istore 5) 2 5 := ⟨by decide +kernel, rfl⟩
theorem eX3_fill_5 : zD cX3_fill 5 (.iconst 0) 1 6 := ⟨by decide +kernel, rfl⟩
theorem eX3_fill_6 : zD cX3_fill 6 (.iload_n 1) 1 7 := ⟨by decide +kernel, rfl⟩
theorem eX3_fill_7 : zD cX3_fill 7 (.invokestatic 9) 3 10 := ⟨by decide +kernel, rfl⟩
theorem eX3_fill_10 : zD cX3_fill 10 (.istore 6) 2 12 := ⟨by decide +kernel, rfl⟩
theorem eX3_fill_12 : zD cX3_fill 12 (.iload 6) 2 14 := ⟨by decide +kernel, rfl⟩
theorem eX3_fill_14 : zD cX3_fill 14 (.iload 5) 2 16 := ⟨by decide +kernel, rfl⟩
theorem eX3_fill_16 : zDj cX3_fill 16 (.if_icmp .ge 36) 36 52 19 := ⟨by decide +kernel, rfl, by decide⟩
theorem eX3_fill_19 : zD cX3_fill 19 (.iload 6) 2 21 := ⟨by decide +kernel, rfl⟩
theorem eX3_fill_21 : zD cX3_fill 21 (.aload_n 0) 1 22 := ⟨by decide +kernel, rfl⟩
theorem eX3_fill_22 : zD cX3_fill 22 (.getfield 21) 3 25 := ⟨by decide +kernel, rfl⟩
theorem eX3_fill_25 : zD cX3_fill 25 .arraylength 1 26 := ⟨by decide +kernel, rfl⟩
theorem eX3_fill_26 : zDj cX3_fill 26 (.if_icmp .ge 26) 26 52 29 := ⟨by decide +kernel, rfl, by decide⟩
theorem eX3_fill_29 : zD cX3_fill 29 (.aload_n 0) 1 30 := ⟨by decide +kernel, rfl⟩
theorem eX3_fill_30 : zD cX3_fill 30 (.getfield 15) 3 33 := ⟨by decide +kernel, rfl⟩
theorem eX3_fill_33 : zD cX3_fill 33 (.iload 6) 2 35 := ⟨by decide +kernel, rfl⟩
theorem eX3_fill_35 : zD cX3_fill 35 (.iload_n 3) 1 36 := ⟨by decide +kernel, rfl⟩
theorem eX3_fill_36 : zD cX3_fill 36 .iastore 1 37 := ⟨by decide +kernel, rfl⟩
theorem eX3_fill_37 : zD cX3_fill 37 (.aload_n 0) 1 38 := ⟨by decide +kernel, rfl⟩
theorem eX3_fill_38 : zD cX3_fill 38 (.getfield 21) 3 41 := ⟨by decide +kernel, rfl⟩
theorem eX3_fill_41 : zD cX3_fill 41 (.iload 6) 2 43 := ⟨by decide +kernel, rfl⟩
theorem eX3_fill_43 : zD cX3_fill 43 (.iload 4) 2 45 := ⟨by decide +kernel, rfl⟩
theorem eX3_fill_45 : zD cX3_fill 45 .iastore 1 46 := ⟨by decide +kernel, rfl⟩
theorem eX3_fill_46 : zD cX3_fill 46 (.iinc 6 1) 3 49 := ⟨by decide +kernel, rfl⟩
theorem eX3_fill_49 : zDj cX3_fill 49 (.goto (-37)) (-37) 12 52 := ⟨by decide +kernel, rfl, by decide⟩
theorem eX3_fill_52 : zD cX3_fill 52 (.iload 5) 2 54 := ⟨by decide +kernel, rfl⟩
theorem eX3_fill_54 : zD cX3_fill 54 (.iconst 0) 1 55 := ⟨by decide +kernel, rfl⟩
theorem eX3_fill_55 : zD cX3_fill 55 (.aload_n 0) 1 56 := ⟨by decide +kernel, rfl⟩
theorem eX3_fill_56 : zD cX3_fill 56 (.getfield 21) 3 59 := ⟨by decide +kernel, rfl⟩
theorem eX3_fill_59 : zD cX3_fill 59 .arraylength 1 60 := ⟨by decide +kernel, rfl⟩
theorem eX3_fill_60 : zD cX3_fill 60 (.iconst 1) 1 61 := ⟨by decide +kernel, rfl⟩
theorem eX3_fill_61 : zD cX3_fill 61 .isub 1 62 := ⟨by decide +kernel, rfl⟩
theorem eX3_fill_62 : zD cX3_fill 62 (.invokestatic 28) 3 65 := ⟨by decide +kernel, rfl⟩
theorem eX3_fill_65 : zDj cX3_fill 65 (.ifCond .eq 22) 22 87 68 := ⟨by decide +kernel, rfl, by decide⟩
theorem eX3_fill_68 : zD cX3_fill 68 (.aload_n 0) 1 69 := ⟨by decide +kernel, rfl⟩
theorem eX3_fill_69 : zD cX3_fill 69 (.getfield 21) 3 72 := ⟨by decide +kernel, rfl⟩
theorem eX3_fill_72 : zD cX3_fill 72 (.iload 5) 2 74 := ⟨by decide +kernel, rfl⟩
theorem eX3_fill_74 : zD cX3_fill 74 .iaload 1 75 := ⟨by decide +kernel, rfl⟩
theorem eX3_fill_75 : zD cX3_fill 75 (.iconst 2) 1 76 := ⟨by decide +kernel, rfl⟩
theorem eX3_fill_76 : zDj cX3_fill 76 (.if_icmp .ne 11) 11 87 79 := ⟨by decide +kernel, rfl, by decide⟩
theorem eX3_fill_79 : zD cX3_fill 79 (.aload_n 0) 1 80 := ⟨by decide +kernel, rfl⟩
theorem eX3_fill_80 : zD cX3_fill 80 (.getfield 21) 3 83 := ⟨by decide +kernel, rfl⟩
theorem eX3_fill_83 : zD cX3_fill 83 (.iload 5) 2 85 := ⟨by decide +kernel, rfl⟩
theorem eX3_fill_85 : zD cX3_fill 85 (.iconst 1) 1 86 := ⟨by decide +kernel, rfl⟩
theorem eX3_fill_86 : zD cX3_fill 86 .iastore 1 87 := ⟨by decide +kernel, rfl⟩
theorem eX3_fill_87 : zD cX3_fill 87 .return_ 1 88 := ⟨by decide +kernel, rfl⟩
theorem eX3_sing_0 : zD cX3_sing 0 (.aload_n 0) 1 1 := ⟨by decide +kernel, rfl⟩
theorem eX3_sing_1 : zD cX3_sing 1 (.iload_n 1) 1 2 := ⟨by decide +kernel, rfl⟩
theorem eX3_sing_2 : zD cX3_sing 2 (.iload_n 3) 1 3 := ⟨by decide +kernel, rfl⟩
theorem eX3_sing_3 : zD cX3_sing 3 (.iload_n 2) 1 4 := ⟨by decide +kernel, rfl⟩
theorem eX3_sing_4 : zD cX3_sing 4 (.iconst 2) 1 5 := ⟨by decide +kernel, rfl⟩
theorem eX3_sing_5 : zD cX3_sing 5 (.invokevirtual 24) 3 8 := ⟨by decide +kernel, rfl⟩
theorem eX3_sing_8 : zD cX3_sing 8 (.iload_n 1) 1 9 := ⟨by decide +kernel, rfl⟩
theorem eX3_sing_9 : zD cX3_sing 9 (.iconst 0) 1 10 := ⟨by decide +kernel, rfl⟩
theorem eX3_sing_10 : zD cX3_sing 10 (.aload_n 0) 1 11 := ⟨by decide +kernel, rfl⟩
theorem eX3_sing_11 : zD cX3_sing 11 (.getfield 21) 3 14 := ⟨by decide +kernel, rfl⟩
theorem eX3_sing_14 : zD cX3_sing 14 .arraylength 1 15 := ⟨by decide +kernel, rfl⟩
theorem eX3_sing_15 : zD cX3_sing 15 (.iconst 1) 1 16 := ⟨by decide +kernel, rfl⟩
theorem eX3_sing_16 : zD cX3_sing 16 .isub 1 17 := ⟨by decide +kernel, rfl⟩
theorem eX3_sing_17 : zD cX3_sing 17 (.invokestatic 28) 3 20 := ⟨by decide +kernel, rfl⟩
theorem eX3_sing_20 : zDj cX3_sing 20 (.ifCond .eq 10) 10 30 23 := ⟨by decide +kernel, rfl, by decide⟩
theorem eX3_sing_23 : zD cX3_sing 23 (.aload_n 0) 1 24 := ⟨by decide +kernel, rfl⟩
theorem eX3_sing_24 : zD cX3_sing 24 (.getfield 21) 3 27 := ⟨by decide +kernel, rfl⟩
theorem eX3_sing_27 : zD cX3_sing 27 (.iload_n 1) 1 28 := ⟨by decide +kernel, rfl⟩
theorem eX3_sing_28 : zD cX3_sing 28 (.iconst 1) 1 29 := ⟨by decide +kernel, rfl⟩
theorem eX3_sing_29 : zD cX3_sing 29 .iastore 1 30 := ⟨by decide +kernel, rfl⟩
theorem eX3_sing_30 : zD cX3_sing 30 .return_ 1 31 := ⟨by decide +kernel, rfl⟩
theorem eX3_silence_0 : zD cX3_silence 0 (.aload_n 0) 1 1 := ⟨by decide +kernel, rfl⟩
theorem eX3_silence_1 : zD cX3_silence 1 (.iload_n 1) 1 2 := ⟨by decide +kernel, rfl⟩
theorem eX3_silence_2 : zD cX3_silence 2 (.iload_n 2) 1 3 := ⟨by decide +kernel, rfl⟩
theorem eX3_silence_3 : zD cX3_silence 3 (.iconst 0) 1 4 := ⟨by decide +kernel, rfl⟩
theorem eX3_silence_4 : zD cX3_silence 4 (.iconst 0) 1 5 := ⟨by decide +kernel, rfl⟩
theorem eX3_silence_5 : zD cX3_silence 5 (.invokevirtual 24) 3 8 := ⟨by decide +kernel, rfl⟩
theorem eX3_silence_8 : zD cX3_silence 8 .return_ 1 9 := ⟨by decide +kernel, rfl⟩
theorem eX3_beats_0 : zD cX3_beats 0 (.aload_n 0) 1 1 := ⟨by decide +kernel, rfl⟩
theorem eX3_beats_1 : zD cX3_beats 1 (.getfield 21) 3 4 := ⟨by decide +kernel, rfl⟩
theorem eX3_beats_4 : zD cX3_beats 4 .arraylength 1 5 := ⟨by decide +kernel, rfl⟩
theorem eX3_beats_5 : zD cX3_beats 5 (.istore_n 1) 1 6 := ⟨by decide +kernel, rfl⟩
theorem eX3_beats_6 : zD cX3_beats 6 (.iload_n 1) 1 7 := ⟨by decide +kernel, rfl⟩
theorem eX3_beats_7 : zDj cX3_beats 7 (.ifCond .le 22) 22 29 10 := ⟨by decide +kernel, rfl, by decide⟩
theorem eX3_beats_10 : zD cX3_beats 10 (.aload_n 0) 1 11 := ⟨by decide +kernel, rfl⟩
theorem eX3_beats_11 : zD cX3_beats 11 (.getfield 21) 3 14 := ⟨by decide +kernel, rfl⟩
theorem eX3_beats_14 : zD cX3_beats 14 (.iload_n 1) 1 15 := ⟨by decide +kernel, rfl⟩
theorem eX3_beats_15 : zD cX3_beats 15 (.iconst 1) 1 16 := ⟨by decide +kernel, rfl⟩
theorem eX3_beats_16 : zD cX3_beats 16 .isub 1 17 := ⟨by decide +kernel, rfl⟩
theorem eX3_beats_17 : zD cX3_beats 17 .iaload 1 18 := ⟨by decide +kernel, rfl⟩
theorem eX3_beats_18 : zDj cX3_beats 18 (.ifCond .eq 5) 5 23 21 := ⟨by decide +kernel, rfl, by decide⟩
theorem eX3_beats_21 : zD cX3_beats 21 (.iload_n 1) 1 22 := ⟨by decide +kernel, rfl⟩
theorem eX3_beats_22 : zD cX3_beats 22 .ireturn 1 23 := ⟨by decide +kernel, rfl⟩
theorem eX3_beats_23 : zD cX3_beats 23 (.iinc 1 (-1)) 3 26 := ⟨by decide +kernel, rfl⟩
theorem eX3_beats_26 : zDj cX3_beats 26 (.goto (-20)) (-20) 6 29 := ⟨by decide +kernel, rfl, by decide⟩
theorem eX3_beats_29 : zD cX3_beats 29 (.iconst 0) 1 30 := ⟨by decide +kernel, rfl⟩
theorem eX3_beats_30 : zD cX3_beats 30 .ireturn 1 31 := ⟨by decide +kernel, rfl⟩
theorem eX3_noteAhead_0 : zD cX3_noteAhead 0 (.iload_n 1) 1 1 := ⟨by decide +kernel, rfl⟩
theorem eX3_noteAhead_1 : zD cX3_noteAhead 1 (.aload_n 0) 1 2 := ⟨by decide +kernel, rfl⟩
theorem eX3_noteAhead_2 : zD cX3_noteAhead 2 (.getfield 21) 3 5 := ⟨by decide +kernel, rfl⟩
theorem eX3_noteAhead_5 : zD cX3_noteAhead 5 .arraylength 1 6 := ⟨by decide +kernel, rfl⟩
theorem eX3_noteAhead_6 : zD cX3_noteAhead 6 (.invokestatic 32) 3 9 := ⟨by decide +kernel, rfl⟩
theorem eX3_noteAhead_9 : zD cX3_noteAhead 9 (.iconst 1) 1 10 := ⟨by decide +kernel, rfl⟩
theorem eX3_noteAhead_10 : zD cX3_noteAhead 10 .isub 1 11 := ⟨by decide +kernel, rfl⟩
theorem eX3_noteAhead_11 : zD cX3_noteAhead 11 (.istore_n 2) 1 12 := ⟨by decide +kernel, rfl⟩
theorem eX3_noteAhead_12 : zD cX3_noteAhead 12 (.iload_n 2) 1 13 := ⟨by decide +kernel, rfl⟩
theorem eX3_noteAhead_13 : zDj cX3_noteAhead 13 (.ifCond .lt 21) 21 34 16 := ⟨by decide +kernel, rfl, by decide⟩
theorem eX3_noteAhead_16 : zD cX3_noteAhead 16 (.aload_n 0) 1 17 := ⟨by decide +kernel, rfl⟩
theorem eX3_noteAhead_17 : zD cX3_noteAhead 17 (.getfield 21) 3 20 := ⟨by decide +kernel, rfl⟩
theorem eX3_noteAhead_20 : zD cX3_noteAhead 20 (.iload_n 2) 1 21 := ⟨by decide +kernel, rfl⟩
theorem eX3_noteAhead_21 : zD cX3_noteAhead 21 .iaload 1 22 := ⟨by decide +kernel, rfl⟩
theorem eX3_noteAhead_22 : zD cX3_noteAhead 22 (.iconst 1) 1 23 := ⟨by decide +kernel, rfl⟩
theorem eX3_noteAhead_23 : zDj cX3_noteAhead 23 (.if_icmp .ne 5) 5 28 26 := ⟨by decide +kernel, rfl, by decide⟩
theorem eX3_noteAhead_26 : zD cX3_noteAhead 26 (.iload_n 2) 1 27 := ⟨by decide +kernel, rfl⟩
theorem eX3_noteAhead_27 : zD cX3_noteAhead 27 .ireturn 1 28 := ⟨by decide +kernel, rfl⟩
theorem eX3_noteAhead_28 : zD cX3_noteAhead 28 (.iinc 2 (-1)) 3 31 := ⟨by decide +kernel, rfl⟩
theorem eX3_noteAhead_31 : zDj cX3_noteAhead 31 (.goto (-19)) (-19) 12 34 := ⟨by decide +kernel, rfl, by decide⟩
theorem eX3_noteAhead_34 : zD cX3_noteAhead 34 (.iconst (-1)) 1 35 := ⟨by decide +kernel, rfl⟩
theorem eX3_noteAhead_35 : zD cX3_noteAhead 35 .ireturn 1 36 := ⟨by decide +kernel, rfl⟩
theorem eX3_restsAhead_0 : zD cX3_restsAhead 0 (.iconst 0) 1 1 := ⟨by decide +kernel, rfl⟩
theorem eX3_restsAhead_1 : zD cX3_restsAhead 1 (.istore_n 2) 1 2 := ⟨by decide +kernel, rfl⟩
theorem eX3_restsAhead_2 : zD cX3_restsAhead 2 (.iload_n 1) 1 3 := ⟨by decide +kernel, rfl⟩
theorem eX3_restsAhead_3 : zD cX3_restsAhead 3 (.aload_n 0) 1 4 := ⟨by decide +kernel, rfl⟩
theorem eX3_restsAhead_4 : zD cX3_restsAhead 4 (.getfield 21) 3 7 := ⟨by decide +kernel, rfl⟩
theorem eX3_restsAhead_7 : zD cX3_restsAhead 7 .arraylength 1 8 := ⟨by decide +kernel, rfl⟩
theorem eX3_restsAhead_8 : zD cX3_restsAhead 8 (.invokestatic 32) 3 11 := ⟨by decide +kernel, rfl⟩
theorem eX3_restsAhead_11 : zD cX3_restsAhead 11 (.iconst 1) 1 12 := ⟨by decide +kernel, rfl⟩
theorem eX3_restsAhead_12 : zD cX3_restsAhead 12 .isub 1 13 := ⟨by decide +kernel, rfl⟩
theorem eX3_restsAhead_13 : zD cX3_restsAhead 13 (.istore_n 3) 1 14 := ⟨by decide +kernel, rfl⟩
theorem eX3_restsAhead_14 : zD cX3_restsAhead 14 (.iload_n 3) 1 15 := ⟨by decide +kernel, rfl⟩
theorem eX3_restsAhead_15 : zDj cX3_restsAhead 15 (.ifCond .lt 21) 21 36 18 := ⟨by decide +kernel, rfl, by decide⟩
theorem eX3_restsAhead_18 : zD cX3_restsAhead 18 (.aload_n 0) 1 19 := ⟨by decide +kernel, rfl⟩
theorem eX3_restsAhead_19 : zD cX3_restsAhead 19 (.getfield 21) 3 22 := ⟨by decide +kernel, rfl⟩
theorem eX3_restsAhead_22 : zD cX3_restsAhead 22 (.iload_n 3) 1 23 := ⟨by decide +kernel, rfl⟩
theorem eX3_restsAhead_23 : zD cX3_restsAhead 23 .iaload 1 24 := ⟨by decide +kernel, rfl⟩
theorem eX3_restsAhead_24 : zDj cX3_restsAhead 24 (.ifCond .ne 12) 12 36 27 := ⟨by decide +kernel, rfl, by decide⟩
theorem eX3_restsAhead_27 : zD cX3_restsAhead 27 (.iinc 2 1) 3 30 := ⟨by decide +kernel, rfl⟩
theorem eX3_restsAhead_30 : zD cX3_restsAhead 30 (.iinc 3 (-1)) 3 33 := ⟨by decide +kernel, rfl⟩
theorem eX3_restsAhead_33 : zDj cX3_restsAhead 33 (.goto (-19)) (-19) 14 36 := ⟨by decide +kernel, rfl, by decide⟩
theorem eX3_restsAhead_36 : zD cX3_restsAhead 36 (.iload_n 2) 1 37 := ⟨by decide +kernel, rfl⟩
theorem eX3_restsAhead_37 : zD cX3_restsAhead 37 .ireturn 1 38 := ⟨by decide +kernel, rfl⟩
theorem eX3_sounds_0 : zD cX3_sounds 0 (.iload_n 1) 1 1 := ⟨by decide +kernel, rfl⟩
theorem eX3_sounds_1 : zD cX3_sounds 1 (.iconst 0) 1 2 := ⟨by decide +kernel, rfl⟩
theorem eX3_sounds_2 : zD cX3_sounds 2 (.aload_n 0) 1 3 := ⟨by decide +kernel, rfl⟩
theorem eX3_sounds_3 : zD cX3_sounds 3 (.getfield 21) 3 6 := ⟨by decide +kernel, rfl⟩
theorem eX3_sounds_6 : zD cX3_sounds 6 .arraylength 1 7 := ⟨by decide +kernel, rfl⟩
theorem eX3_sounds_7 : zD cX3_sounds 7 (.iconst 1) 1 8 := ⟨by decide +kernel, rfl⟩
theorem eX3_sounds_8 : zD cX3_sounds 8 .isub 1 9 := ⟨by decide +kernel, rfl⟩
theorem eX3_sounds_9 : zD cX3_sounds 9 (.invokestatic 28) 3 12 := ⟨by decide +kernel, rfl⟩
theorem eX3_sounds_12 : zDj cX3_sounds 12 (.ifCond .eq 16) 16 28 15 := ⟨by decide +kernel, rfl, by decide⟩
theorem eX3_sounds_15 : zD cX3_sounds 15 (.aload_n 0) 1 16 := ⟨by decide +kernel, rfl⟩
theorem eX3_sounds_16 : zD cX3_sounds 16 (.getfield 21) 3 19 := ⟨by decide +kernel, rfl⟩
theorem eX3_sounds_19 : zD cX3_sounds 19 (.iload_n 1) 1 20 := ⟨by decide +kernel, rfl⟩
theorem eX3_sounds_20 : zD cX3_sounds 20 .iaload 1 21 := ⟨by decide +kernel, rfl⟩
theorem eX3_sounds_21 : zDj cX3_sounds 21 (.ifCond .eq 7) 7 28 24 := ⟨by decide +kernel, rfl, by decide⟩
theorem eX3_sounds_24 : zD cX3_sounds 24 (.iconst 1) 1 25 := ⟨by decide +kernel, rfl⟩
theorem eX3_sounds_25 : zDj cX3_sounds 25 (.goto 4) 4 29 28 := ⟨by decide +kernel, rfl, by decide⟩
theorem eX3_sounds_28 : zD cX3_sounds 28 (.iconst 0) 1 29 := ⟨by decide +kernel, rfl⟩
theorem eX3_sounds_29 : zD cX3_sounds 29 .ireturn 1 30 := ⟨by decide +kernel, rfl⟩
theorem eX3_take_0 : zD cX3_take 0 (.aload_n 0) 1 1 := ⟨by decide +kernel, rfl⟩
theorem eX3_take_1 : zD cX3_take 1 (.getfield 21) 3 4 := ⟨by decide +kernel, rfl⟩
theorem eX3_take_4 : zD cX3_take 4 .arraylength 1 5 := ⟨by decide +kernel, rfl⟩
theorem eX3_take_5 : zD cX3_take 5 (.aload_n 1) 1 6 := ⟨by decide +kernel, rfl⟩
theorem eX3_take_6 : zD cX3_take 6 (.getfield 21) 3 9 := ⟨by decide +kernel, rfl⟩
theorem eX3_take_9 : zD cX3_take 9 .arraylength 1 10 := ⟨by decide +kernel, rfl⟩
theorem eX3_take_10 : zD cX3_take 10 (.invokestatic 32) 3 13 := ⟨by decide +kernel, rfl⟩
theorem eX3_take_13 : zD cX3_take 13 (.istore_n 2) 1 14 := ⟨by decide +kernel, rfl⟩
theorem eX3_take_14 : zD cX3_take 14 (.aload_n 1) 1 15 := ⟨by decide +kernel, rfl⟩
theorem eX3_take_15 : zD cX3_take 15 (.getfield 15) 3 18 := ⟨by decide +kernel, rfl⟩
theorem eX3_take_18 : zD cX3_take 18 (.iconst 0) 1 19 := ⟨by decide +kernel, rfl⟩
theorem eX3_take_19 : zD cX3_take 19 (.aload_n 0) 1 20 := ⟨by decide +kernel, rfl⟩
theorem eX3_take_20 : zD cX3_take 20 (.getfield 15) 3 23 := ⟨by decide +kernel, rfl⟩
theorem eX3_take_23 : zD cX3_take 23 (.iconst 0) 1 24 := ⟨by decide +kernel, rfl⟩
theorem eX3_take_24 : zD cX3_take 24 (.iload_n 2) 1 25 := ⟨by decide +kernel, rfl⟩
theorem eX3_take_25 : zD cX3_take 25 (.invokestatic 35) 3 28 := ⟨by decide +kernel, rfl⟩
theorem eX3_take_28 : zD cX3_take 28 (.aload_n 1) 1 29 := ⟨by decide +kernel, rfl⟩
theorem eX3_take_29 : zD cX3_take 29 (.getfield 21) 3 32 := ⟨by decide +kernel, rfl⟩
theorem eX3_take_32 : zD cX3_take 32 (.iconst 0) 1 33 := ⟨by decide +kernel, rfl⟩
theorem eX3_take_33 : zD cX3_take 33 (.aload_n 0) 1 34 := ⟨by decide +kernel, rfl⟩
theorem eX3_take_34 : zD cX3_take 34 (.getfield 21) 3 37 := ⟨by decide +kernel, rfl⟩
theorem eX3_take_37 : zD cX3_take 37 (.iconst 0) 1 38 := ⟨by decide +kernel, rfl⟩
theorem eX3_take_38 : zD cX3_take 38 (.iload_n 2) 1 39 := ⟨by decide +kernel, rfl⟩
theorem eX3_take_39 : zD cX3_take 39 (.invokestatic 35) 3 42 := ⟨by decide +kernel, rfl⟩
theorem eX3_take_42 : zD cX3_take 42 .return_ 1 43 := ⟨by decide +kernel, rfl⟩
theorem eX3_isLike_0 : zD cX3_isLike 0 (.iconst 0) 1 1 := ⟨by decide +kernel, rfl⟩
theorem eX3_isLike_1 : zD cX3_isLike 1 (.istore_n 3) 1 2 := ⟨by decide +kernel, rfl⟩
theorem eX3_isLike_2 : zD cX3_isLike 2 (.iload_n 3) 1 3 := ⟨by decide +kernel, rfl⟩
theorem eX3_isLike_3 : zD cX3_isLike 3 (.iload_n 2) 1 4 := ⟨by decide +kernel, rfl⟩
theorem eX3_isLike_4 : zDj cX3_isLike 4 (.if_icmp .ge 59) 59 63 7 := ⟨by decide +kernel, rfl, by decide⟩
theorem eX3_isLike_7 : zD cX3_isLike 7 (.iload_n 3) 1 8 := ⟨by decide +kernel, rfl⟩
theorem eX3_isLike_8 : zD cX3_isLike 8 (.aload_n 0) 1 9 := ⟨by decide +kernel, rfl⟩
theorem eX3_isLike_9 : zD cX3_isLike 9 (.getfield 21) 3 12 := ⟨by decide +kernel, rfl⟩
theorem eX3_isLike_12 : zD cX3_isLike 12 .arraylength 1 13 := ⟨by decide +kernel, rfl⟩
theorem eX3_isLike_13 : zDj cX3_isLike 13 (.if_icmp .ge 50) 50 63 16 := ⟨by decide +kernel, rfl, by decide⟩
theorem eX3_isLike_16 : zD cX3_isLike 16 (.iload_n 3) 1 17 := ⟨by decide +kernel, rfl⟩
theorem eX3_isLike_17 : zD cX3_isLike 17 (.aload_n 1) 1 18 := ⟨by decide +kernel, rfl⟩
theorem eX3_isLike_18 : zD cX3_isLike 18 (.getfield 21) 3 21 := ⟨by decide +kernel, rfl⟩
theorem eX3_isLike_21 : zD cX3_isLike 21 .arraylength 1 22 := ⟨by decide +kernel, rfl⟩
theorem eX3_isLike_22 : zDj cX3_isLike 22 (.if_icmp .ge 41) 41 63 25 := ⟨by decide +kernel, rfl, by decide⟩
theorem eX3_isLike_25 : zD cX3_isLike 25 (.aload_n 0) 1 26 := ⟨by decide +kernel, rfl⟩
theorem eX3_isLike_26 : zD cX3_isLike 26 (.getfield 21) 3 29 := ⟨by decide +kernel, rfl⟩
theorem eX3_isLike_29 : zD cX3_isLike 29 (.iload_n 3) 1 30 := ⟨by decide +kernel, rfl⟩
theorem eX3_isLike_30 : zD cX3_isLike 30 .iaload 1 31 := ⟨by decide +kernel, rfl⟩
theorem eX3_isLike_31 : zD cX3_isLike 31 (.aload_n 1) 1 32 := ⟨by decide +kernel, rfl⟩
theorem eX3_isLike_32 : zD cX3_isLike 32 (.getfield 21) 3 35 := ⟨by decide +kernel, rfl⟩
theorem eX3_isLike_35 : zD cX3_isLike 35 (.iload_n 3) 1 36 := ⟨by decide +kernel, rfl⟩
theorem eX3_isLike_36 : zD cX3_isLike 36 .iaload 1 37 := ⟨by decide +kernel, rfl⟩
theorem eX3_isLike_37 : zDj cX3_isLike 37 (.if_icmp .ne 18) 18 55 40 := ⟨by decide +kernel, rfl, by decide⟩
theorem eX3_isLike_40 : zD cX3_isLike 40 (.aload_n 0) 1 41 := ⟨by decide +kernel, rfl⟩
theorem eX3_isLike_41 : zD cX3_isLike 41 (.getfield 15) 3 44 := ⟨by decide +kernel, rfl⟩
theorem eX3_isLike_44 : zD cX3_isLike 44 (.iload_n 3) 1 45 := ⟨by decide +kernel, rfl⟩
theorem eX3_isLike_45 : zD cX3_isLike 45 .iaload 1 46 := ⟨by decide +kernel, rfl⟩
theorem eX3_isLike_46 : zD cX3_isLike 46 (.aload_n 1) 1 47 := ⟨by decide +kernel, rfl⟩
theorem eX3_isLike_47 : zD cX3_isLike 47 (.getfield 15) 3 50 := ⟨by decide +kernel, rfl⟩
theorem eX3_isLike_50 : zD cX3_isLike 50 (.iload_n 3) 1 51 := ⟨by decide +kernel, rfl⟩
theorem eX3_isLike_51 : zD cX3_isLike 51 .iaload 1 52 := ⟨by decide +kernel, rfl⟩
theorem eX3_isLike_52 : zDj cX3_isLike 52 (.if_icmp .eq 5) 5 57 55 := ⟨by decide +kernel, rfl, by decide⟩
theorem eX3_isLike_55 : zD cX3_isLike 55 (.iconst 0) 1 56 := ⟨by decide +kernel, rfl⟩
theorem eX3_isLike_56 : zD cX3_isLike 56 .ireturn 1 57 := ⟨by decide +kernel, rfl⟩
theorem eX3_isLike_57 : zD cX3_isLike 57 (.iinc 3 1) 3 60 := ⟨by decide +kernel, rfl⟩
theorem eX3_isLike_60 : zDj cX3_isLike 60 (.goto (-58)) (-58) 2 63 := ⟨by decide +kernel, rfl, by decide⟩
theorem eX3_isLike_63 : zD cX3_isLike 63 (.iconst 1) 1 64 := ⟨by decide +kernel, rfl⟩
theorem eX3_isLike_64 : zD cX3_isLike 64 .ireturn 1 65 := ⟨by decide +kernel, rfl⟩
theorem eX3_takeOverturned_0 : zD cX3_takeOverturned 0 (.aload_n 0) 1 1 := ⟨by decide +kernel, rfl⟩
theorem eX3_takeOverturned_1 : zD cX3_takeOverturned 1 (.aload_n 1) 1 2 := ⟨by decide +kernel, rfl⟩
theorem eX3_takeOverturned_2 : zD cX3_takeOverturned 2 (.invokevirtual 41) 3 5 := ⟨by decide +kernel, rfl⟩
theorem eX3_takeOverturned_5 : zD cX3_takeOverturned 5 (.iconst 1) 1 6 := ⟨by decide +kernel, rfl⟩
theorem eX3_takeOverturned_6 : zD cX3_takeOverturned 6 (.istore_n 3) 1 7 := ⟨by decide +kernel, rfl⟩
theorem eX3_takeOverturned_7 : zD cX3_takeOverturned 7 (.iconst 0) 1 8 := ⟨by decide +kernel, rfl⟩
theorem eX3_takeOverturned_8 : zD cX3_takeOverturned 8 (.istore 4) 2 10 := ⟨by decide +kernel, rfl⟩
theorem eX3_takeOverturned_10 : zD cX3_takeOverturned 10 (.iload 4) 2 12 := ⟨by decide +kernel, rfl⟩
theorem eX3_takeOverturned_12 : zD cX3_takeOverturned 12 (.aload_n 0) 1 13 := ⟨by decide +kernel, rfl⟩
theorem eX3_takeOverturned_13 : zD cX3_takeOverturned 13 (.getfield 21) 3 16 := ⟨by decide +kernel, rfl⟩
theorem eX3_takeOverturned_16 : zD cX3_takeOverturned 16 .arraylength 1 17 := ⟨by decide +kernel, rfl⟩
theorem eX3_takeOverturned_17 : zDj cX3_takeOverturned 17 (.if_icmp .ge 58) 58 75 20 := ⟨by decide +kernel, rfl, by decide⟩
theorem eX3_takeOverturned_20 : zD cX3_takeOverturned 20 (.aload_n 0) 1 21 := ⟨by decide +kernel, rfl⟩
theorem eX3_takeOverturned_21 : zD cX3_takeOverturned 21 (.getfield 21) 3 24 := ⟨by decide +kernel, rfl⟩
theorem eX3_takeOverturned_24 : zD cX3_takeOverturned 24 (.iload 4) 2 26 := ⟨by decide +kernel, rfl⟩
theorem eX3_takeOverturned_26 : zD cX3_takeOverturned 26 .iaload 1 27 := ⟨by decide +kernel, rfl⟩
theorem eX3_takeOverturned_27 : zDj cX3_takeOverturned 27 (.ifCond .eq 42) 42 69 30 := ⟨by decide +kernel, rfl, by decide⟩
theorem eX3_takeOverturned_30 : zD cX3_takeOverturned 30 (.aload_n 0) 1 31 := ⟨by decide +kernel, rfl⟩
theorem eX3_takeOverturned_31 : zD cX3_takeOverturned 31 (.getfield 15) 3 34 := ⟨by decide +kernel, rfl⟩
theorem eX3_takeOverturned_34 : zD cX3_takeOverturned 34 (.iload 4) 2 36 := ⟨by decide +kernel, rfl⟩
theorem eX3_takeOverturned_36 : zD cX3_takeOverturned 36 (.iload_n 2) 1 37 := ⟨by decide +kernel, rfl⟩
theorem eX3_takeOverturned_37 : zD cX3_takeOverturned 37 (.aload_n 0) 1 38 := ⟨by decide +kernel, rfl⟩
theorem eX3_takeOverturned_38 : zD cX3_takeOverturned 38 (.getfield 15) 3 41 := ⟨by decide +kernel, rfl⟩
theorem eX3_takeOverturned_41 : zD cX3_takeOverturned 41 (.iload 4) 2 43 := ⟨by decide +kernel, rfl⟩
theorem eX3_takeOverturned_43 : zD cX3_takeOverturned 43 .iaload 1 44 := ⟨by decide +kernel, rfl⟩
theorem eX3_takeOverturned_44 : zD cX3_takeOverturned 44 .isub 1 45 := ⟨by decide +kernel, rfl⟩
theorem eX3_takeOverturned_45 : zD cX3_takeOverturned 45 .iastore 1 46 := ⟨by decide +kernel, rfl⟩
theorem eX3_takeOverturned_46 : zD cX3_takeOverturned 46 (.iload_n 3) 1 47 := ⟨by decide +kernel, rfl⟩
theorem eX3_takeOverturned_47 : zDj cX3_takeOverturned 47 (.ifCond .eq 20) 20 67 50 := ⟨by decide +kernel, rfl, by decide⟩
theorem eX3_takeOverturned_50 : zD cX3_takeOverturned 50 (.aload_n 0) 1 51 := ⟨by decide +kernel, rfl⟩
theorem eX3_takeOverturned_51 : zD cX3_takeOverturned 51 (.getfield 15) 3 54 := ⟨by decide +kernel, rfl⟩
theorem eX3_takeOverturned_54 : zD cX3_takeOverturned 54 (.iload 4) 2 56 := ⟨by decide +kernel, rfl⟩
theorem eX3_takeOverturned_56 : zD cX3_takeOverturned 56 .iaload 1 57 := ⟨by decide +kernel, rfl⟩
theorem eX3_takeOverturned_57 : zD cX3_takeOverturned 57 (.invokestatic 45) 3 60 := ⟨by decide +kernel, rfl⟩
theorem eX3_takeOverturned_60 : zDj cX3_takeOverturned 60 (.ifCond .eq 7) 7 67 63 := ⟨by decide +kernel, rfl, by decide⟩
theorem eX3_takeOverturned_63 : zD cX3_takeOverturned 63 (.iconst 1) 1 64 := ⟨by decide +kernel, rfl⟩
theorem eX3_takeOverturned_64 : zDj cX3_takeOverturned 64 (.goto 4) 4 68 67 := ⟨by decide +kernel, rfl, by decide⟩
theorem eX3_takeOverturned_67 : zD cX3_takeOverturned 67 (.iconst 0) 1 68 := ⟨by decide +kernel, rfl⟩
theorem eX3_takeOverturned_68 : zD cX3_takeOverturned 68 (.istore_n 3) 1 69 := ⟨by decide +kernel, rfl⟩
theorem eX3_takeOverturned_69 : zD cX3_takeOverturned 69 (.iinc 4 1) 3 72 := ⟨by decide +kernel, rfl⟩
theorem eX3_takeOverturned_72 : zDj cX3_takeOverturned 72 (.goto (-62)) (-62) 10 75 := ⟨by decide +kernel, rfl, by decide⟩
theorem eX3_takeOverturned_75 : zD cX3_takeOverturned 75 (.iload_n 3) 1 76 := ⟨by decide +kernel, rfl⟩
theorem eX3_takeOverturned_76 : zD cX3_takeOverturned 76 .ireturn 1 77 := ⟨by decide +kernel, rfl⟩
theorem eX3_takeForm_0 : zD cX3_takeForm 0 (.bipush 30) 2 2 := ⟨by decide +kernel, rfl⟩
theorem eX3_takeForm_2 : zD cX3_takeForm 2 (.iload_n 2) 1 3 := ⟨by decide +kernel, rfl⟩
theorem eX3_takeForm_3 : zD cX3_takeForm 3 (.bipush 25) 2 5 := ⟨by decide +kernel, rfl⟩
theorem eX3_takeForm_5 : zD cX3_takeForm 5 .irem 1 6 := ⟨by decide +kernel, rfl⟩
theorem eX3_takeForm_6 : zD cX3_takeForm 6 .iadd 1 7 := ⟨by decide +kernel, rfl⟩
theorem eX3_takeForm_7 : zD cX3_takeForm 7 (.bipush 12) 2 9 := ⟨by decide +kernel, rfl⟩
theorem eX3_takeForm_9 : zD cX3_takeForm 9 .isub 1 10 := ⟨by decide +kernel, rfl⟩
theorem eX3_takeForm_10 : zD cX3_takeForm 10 (.istore_n 3) 1 11 := ⟨by decide +kernel, rfl⟩
theorem eX3_takeForm_11 : zD cX3_takeForm 11 (.iload_n 2) 1 12 := ⟨by decide +kernel, rfl⟩
theorem eX3_takeForm_12 : zD cX3_takeForm 12 (.bipush 25) 2 14 := ⟨by decide +kernel, rfl⟩
theorem eX3_takeForm_14 : zD cX3_takeForm 14 .idiv 1 15 := ⟨by decide +kernel, rfl⟩
theorem eX3_takeForm_15 : zD cX3_takeForm 15 (.bipush 9) 2 17 := ⟨by decide +kernel, rfl⟩
theorem eX3_takeForm_17 : zD cX3_takeForm 17 .irem 1 18 := ⟨by decide +kernel, rfl⟩
theorem eX3_takeForm_18 : zD cX3_takeForm 18 (.istore 4) 2 20 := ⟨by decide +kernel, rfl⟩
theorem eX3_takeForm_20 : zD cX3_takeForm 20 (.iload_n 2) 1 21 := ⟨by decide +kernel, rfl⟩
theorem eX3_takeForm_21 : zD cX3_takeForm 21 (.sipush 225) 3 24 := ⟨by decide +kernel, rfl⟩
theorem eX3_takeForm_24 : zD cX3_takeForm 24 .idiv 1 25 := ⟨by decide +kernel, rfl⟩
theorem eX3_takeForm_25 : zD cX3_takeForm 25 (.iconst 2) 1 26 := ⟨by decide +kernel, rfl⟩
theorem eX3_takeForm_26 : zD cX3_takeForm 26 .irem 1 27 := ⟨by decide +kernel, rfl⟩
theorem eX3_takeForm_27 : zD cX3_takeForm 27 (.iconst 1) 1 28 := ⟨by decide +kernel, rfl⟩
theorem eX3_takeForm_28 : zDj cX3_takeForm 28 (.if_icmp .ne 7) 7 35 31 := ⟨by decide +kernel, rfl, by decide⟩
theorem eX3_takeForm_31 : zD cX3_takeForm 31 (.iconst (-1)) 1 32 := ⟨by decide +kernel, rfl⟩
theorem eX3_takeForm_32 : zDj cX3_takeForm 32 (.goto 4) 4 36 35 := ⟨by decide +kernel, rfl, by decide⟩
theorem eX3_takeForm_35 : zD cX3_takeForm 35 (.iconst 1) 1 36 := ⟨by decide +kernel, rfl⟩
theorem eX3_takeForm_36 : zD cX3_takeForm 36 (.istore 5) 2 38 := ⟨by decide +kernel, rfl⟩
theorem eX3_takeForm_38 : zD cX3_takeForm 38 (.iconst 1) 1 39 := ⟨by decide +kernel, rfl⟩
theorem eX3_takeForm_39 : zD cX3_takeForm 39 (.iload_n 2) 1 40 := ⟨by decide +kernel, rfl⟩
theorem eX3_takeForm_40 : zD cX3_takeForm 40 (.sipush 450) 3 43 := ⟨by decide +kernel, rfl⟩
theorem eX3_takeForm_43 : zD cX3_takeForm 43 .idiv 1 44 := ⟨by decide +kernel, rfl⟩
theorem eX3_takeForm_44 : zD cX3_takeForm 44 .iadd 1 45 := ⟨by decide +kernel, rfl⟩
theorem eX3_takeForm_45 : zD cX3_takeForm 45 (.istore 6) 2 47 := ⟨by decide +kernel, rfl⟩
theorem eX3_takeForm_47 : zD cX3_takeForm 47 (.aload_n 0) 1 48 := ⟨by decide +kernel, rfl⟩
theorem eX3_takeForm_48 : zD cX3_takeForm 48 (.getfield 21) 3 51 := ⟨by decide +kernel, rfl⟩
theorem eX3_takeForm_51 : zD cX3_takeForm 51 (.iconst 0) 1 52 := ⟨by decide +kernel, rfl⟩
theorem eX3_takeForm_52 : zD cX3_takeForm 52 (.invokestatic 49) 3 55 := ⟨by decide +kernel, rfl⟩
theorem eX3_takeForm_55 : zD cX3_takeForm 55 (.iconst 0) 1 56 := ⟨by decide +kernel, rfl⟩
theorem eX3_takeForm_56 : zD cX3_takeForm 56 (.istore 7) 2 58 := ⟨by decide +kernel, rfl⟩
theorem eX3_takeForm_58 : zD cX3_takeForm 58 (.iload 7) 2 60 := ⟨by decide +kernel, rfl⟩
theorem eX3_takeForm_60 : zD cX3_takeForm 60 (.aload_n 1) 1 61 := ⟨by decide +kernel, rfl⟩
theorem eX3_takeForm_61 : zD cX3_takeForm 61 (.getfield 21) 3 64 := ⟨by decide +kernel, rfl⟩
theorem eX3_takeForm_64 : zD cX3_takeForm 64 .arraylength 1 65 := ⟨by decide +kernel, rfl⟩
theorem eX3_takeForm_65 : zDj cX3_takeForm 65 (.if_icmp .ge 109) 109 174 68 := ⟨by decide +kernel, rfl, by decide⟩
theorem eX3_takeForm_68 : zD cX3_takeForm 68 (.aload_n 1) 1 69 := ⟨by decide +kernel, rfl⟩
theorem eX3_takeForm_69 : zD cX3_takeForm 69 (.getfield 21) 3 72 := ⟨by decide +kernel, rfl⟩
theorem eX3_takeForm_72 : zD cX3_takeForm 72 (.iload 7) 2 74 := ⟨by decide +kernel, rfl⟩
theorem eX3_takeForm_74 : zD cX3_takeForm 74 .iaload 1 75 := ⟨by decide +kernel, rfl⟩
theorem eX3_takeForm_75 : zDj cX3_takeForm 75 (.ifCond .ne 6) 6 81 78 := ⟨by decide +kernel, rfl, by decide⟩
theorem eX3_takeForm_78 : zDj cX3_takeForm 78 (.goto 90) 90 168 81 := ⟨by decide +kernel, rfl, by decide⟩
theorem eX3_takeForm_81 : zD cX3_takeForm 81 (.iconst 0) 1 82 := ⟨by decide +kernel, rfl⟩
theorem eX3_takeForm_82 : zD cX3_takeForm 82 (.istore 8) 2 84 := ⟨by decide +kernel, rfl⟩
theorem eX3_takeForm_84 : zD cX3_takeForm 84 (.iload 8) 2 86 := ⟨by decide +kernel, rfl⟩
theorem eX3_takeForm_86 : zD cX3_takeForm 86 (.iload 6) 2 88 := ⟨by decide +kernel, rfl⟩
theorem eX3_takeForm_88 : zDj cX3_takeForm 88 (.if_icmp .ge 80) 80 168 91 := ⟨by decide +kernel, rfl, by decide⟩
theorem eX3_takeForm_91 : zD cX3_takeForm 91 (.iload 4) 2 93 := ⟨by decide +kernel, rfl⟩
theorem eX3_takeForm_93 : zD cX3_takeForm 93 (.iload 6) 2 95 := ⟨by decide +kernel, rfl⟩
theorem eX3_takeForm_95 : zD cX3_takeForm 95 (.iload 7) 2 97 := ⟨by decide +kernel, rfl⟩
theorem eX3_takeForm_97 : zD cX3_takeForm 97 .imul 1 98 := ⟨by decide +kernel, rfl⟩
theorem eX3_takeForm_98 : zD cX3_takeForm 98 .iadd 1 99 := ⟨by decide +kernel, rfl⟩
theorem eX3_takeForm_99 : zD cX3_takeForm 99 (.iload 8) 2 101 := ⟨by decide +kernel, rfl⟩
theorem eX3_takeForm_101 : zD cX3_takeForm 101 .iadd 1 102 := ⟨by decide +kernel, rfl⟩
theorem eX3_takeForm_102 : zD cX3_takeForm 102 (.istore 9) 2 104 := ⟨by decide +kernel, rfl⟩
theorem eX3_takeForm_104 : zD cX3_takeForm 104 (.iload 9) 2 106 := ⟨by decide +kernel, rfl⟩
theorem eX3_takeForm_106 : zD cX3_takeForm 106 (.iconst 0) 1 107 := ⟨by decide +kernel, rfl⟩
theorem eX3_takeForm_107 : zD cX3_takeForm 107 (.aload_n 0) 1 108 := ⟨by decide +kernel, rfl⟩
theorem eX3_takeForm_108 : zD cX3_takeForm 108 (.getfield 21) 3 111 := ⟨by decide +kernel, rfl⟩
theorem eX3_takeForm_111 : zD cX3_takeForm 111 .arraylength 1 112 := ⟨by decide +kernel, rfl⟩
theorem eX3_takeForm_112 : zD cX3_takeForm 112 (.iconst 1) 1 113 := ⟨by decide +kernel, rfl⟩
theorem eX3_takeForm_113 : zD cX3_takeForm 113 .isub 1 114 := ⟨by decide +kernel, rfl⟩
theorem eX3_takeForm_114 : zD cX3_takeForm 114 (.invokestatic 28) 3 117 := ⟨by decide +kernel, rfl⟩
theorem eX3_takeForm_117 : zDj cX3_takeForm 117 (.ifCond .eq 45) 45 162 120 := ⟨by decide +kernel, rfl, by decide⟩
theorem eX3_takeForm_120 : zD cX3_takeForm 120 (.aload_n 0) 1 121 := ⟨by decide +kernel, rfl⟩
theorem eX3_takeForm_121 : zD cX3_takeForm 121 (.getfield 21) 3 124 := ⟨by decide +kernel, rfl⟩
theorem eX3_takeForm_124 : zD cX3_takeForm 124 (.iload 9) 2 126 := ⟨by decide +kernel, rfl⟩
theorem eX3_takeForm_126 : zD cX3_takeForm 126 (.iload 8) 2 128 := ⟨by decide +kernel, rfl⟩
theorem eX3_takeForm_128 : zDj cX3_takeForm 128 (.ifCond .ne 13) 13 141 131 := ⟨by decide +kernel, rfl, by decide⟩
theorem eX3_takeForm_131 : zD cX3_takeForm 131 (.aload_n 1) 1 132 := ⟨by decide +kernel, rfl⟩
theorem eX3_takeForm_132 : zD cX3_takeForm 132 (.getfield 21) 3 135 := ⟨by decide +kernel, rfl⟩
theorem eX3_takeForm_135 : zD cX3_takeForm 135 (.iload 7) 2 137 := ⟨by decide +kernel, rfl⟩
theorem eX3_takeForm_137 : zD cX3_takeForm 137 .iaload 1 138 := ⟨by decide +kernel, rfl⟩
theorem eX3_takeForm_138 : zDj cX3_takeForm 138 (.goto 4) 4 142 141 := ⟨by decide +kernel, rfl, by decide⟩
theorem eX3_takeForm_141 : zD cX3_takeForm 141 (.iconst 2) 1 142 := ⟨by decide +kernel, rfl⟩
theorem eX3_takeForm_142 : zD cX3_takeForm 142 .iastore 1 143 := ⟨by decide +kernel, rfl⟩
theorem eX3_takeForm_143 : zD cX3_takeForm 143 (.aload_n 0) 1 144 := ⟨by decide +kernel, rfl⟩
theorem eX3_takeForm_144 : zD cX3_takeForm 144 (.getfield 15) 3 147 := ⟨by decide +kernel, rfl⟩
theorem eX3_takeForm_147 : zD cX3_takeForm 147 (.iload 9) 2 149 := ⟨by decide +kernel, rfl⟩
theorem eX3_takeForm_149 : zD cX3_takeForm 149 (.iload_n 3) 1 150 := ⟨by decide +kernel, rfl⟩
theorem eX3_takeForm_150 : zD cX3_takeForm 150 (.iload 5) 2 152 := ⟨by decide +kernel, rfl⟩
theorem eX3_takeForm_152 : zD cX3_takeForm 152 (.aload_n 1) 1 153 := ⟨by decide +kernel, rfl⟩
theorem eX3_takeForm_153 : zD cX3_takeForm 153 (.getfield 15) 3 156 := ⟨by decide +kernel, rfl⟩
theorem eX3_takeForm_156 : zD cX3_takeForm 156 (.iload 7) 2 158 := ⟨by decide +kernel, rfl⟩
theorem eX3_takeForm_158 : zD cX3_takeForm 158 .iaload 1 159 := ⟨by decide +kernel, rfl⟩
theorem eX3_takeForm_159 : zD cX3_takeForm 159 .imul 1 160 := ⟨by decide +kernel, rfl⟩
theorem eX3_takeForm_160 : zD cX3_takeForm 160 .iadd 1 161 := ⟨by decide +kernel, rfl⟩
theorem eX3_takeForm_161 : zD cX3_takeForm 161 .iastore 1 162 := ⟨by decide +kernel, rfl⟩
theorem eX3_takeForm_162 : zD cX3_takeForm 162 (.iinc 8 1) 3 165 := ⟨by decide +kernel, rfl⟩
theorem eX3_takeForm_165 : zDj cX3_takeForm 165 (.goto (-81)) (-81) 84 168 := ⟨by decide +kernel, rfl, by decide⟩
theorem eX3_takeForm_168 : zD cX3_takeForm 168 (.iinc 7 1) 3 171 := ⟨by decide +kernel, rfl⟩
theorem eX3_takeForm_171 : zDj cX3_takeForm 171 (.goto (-113)) (-113) 58 174 := ⟨by decide +kernel, rfl, by decide⟩
theorem eX3_takeForm_174 : zD cX3_takeForm 174 .return_ 1 175 := ⟨by decide +kernel, rfl⟩
theorem wL_fill_12 {G : Zg} {p : Program} {l : Launch} {e : Env} {s : State} {m : MethodId} {args : Array Value} {below : List Frame} {meth : Method} {c : Code} (C : zC G p s m args meth c cX3_fill 7 RX3 none) {res : Int × Zm} (K52 : Nat → Int → Zm → Zr) (hK52 : ∀ (o0 : Nat) (x5 : Int) (h0 : zin 294 o0 3) (n5 : zw x5 = x5) (σ : Zm), zR G p l e (zrm 1) s m args below meth c 7 0 0 (zQm below args s G 294 ztt none res.2) 294 ztt res σ (K52 o0 x5 σ) [(0, .ref (zad G o0)), (5, .int (zI x5))] 52 []) : ∀ (n : Nat) (o0 : Nat) (x3 : Int) (x4 : Int) (x5 : Int) (x6 : Int) (h0 : zin 294 o0 3) (n3 : zw x3 = x3) (n4 : zw x4 = x4) (n5 : zw x5 = x5) (n6 : zw x6 = x6) (σ : Zm), zR G p l e (zrm 1) s m args below meth c 7 0 0 (zQm below args s G 294 ztt none res.2) 294 ztt res σ (fL_fill_12 n o0 x3 x4 x5 x6 σ K52) [(0, .ref (zad G o0)), (3, .int (zI x3)), (4, .int (zI x4)), (5, .int (zI x5)), (6, .int (zI x6))] 12 []
  | 0, _, _, _, _, _, _, _, _, _, _, _ => zr_none
  | n + 1, o0, x3, x4, x5, x6, h0, n3, n4, n5, n6, σ => by
    have ih := fun (o0 : Nat) (x3 : Int) (x4 : Int) (x5 : Int) (x6 : Int) (h0 : zin 294 o0 3) (n3 : zw x3 = x3) (n4 : zw x4 = x4) (n5 : zw x5 = x5) (n6 : zw x6 = x6) (σ : Zm) => wL_fill_12 (l := l) (e := e) (below := below) C K52 hK52 (res := res) n o0 x3 x4 x5 x6 h0 n3 n4 n5 n6 σ
    rw [fL_fill_12]
    refine zr_letf (fun R0 hR0 => ?_)
    have ih : ∀ (o0 : Nat) (x3 : Int) (x4 : Int) (x5 : Int) (x6 : Int) (h0 : zin 294 o0 3) (n3 : zw x3 = x3) (n4 : zw x4 = x4) (n5 : zw x5 = x5) (n6 : zw x6 = x6) (σ : Zm), zR G p l e (zrm 1) s m args below meth c 7 0 0 (zQm below args s G 294 ztt none res.2) 294 ztt res σ (R0 o0 x3 x4 x5 x6 σ) [(0, .ref (zad G o0)), (3, .int (zI x3)), (4, .int (zI x4)), (5, .int (zI x5)), (6, .int (zI x6))] 12 [] := by rw [hR0]; exact ih
    clear hR0
    refine zr_iload C 4 eX3_fill_12 rfl ?_
    refine zr_iload C 3 eX3_fill_14 rfl ?_
    refine zr_icmp_ge C eX3_fill_16 n6 n5 ?_ ?_
    · refine zr_lv [0, 3] rfl ?_
      exact hK52 o0 x5 h0 n5 _
    refine zr_iload C 4 eX3_fill_19 rfl ?_
    refine zr_aloadn C 0 eX3_fill_21 rfl ?_
    refine zr_getR C ff_X3_21 rfl h0 rfl ((zk_3_1 h0).1) eX3_fill_22 ?_
    refine zr_alen (A := ((zLN (o0 + 2) : Nat) : Int)) C ((zk_3_1 h0).2) (by decide) rfl rfl eX3_fill_25 ?_
    refine zr_icmp_ge C eX3_fill_26 n6 (zw_LN _) ?_ ?_
    · refine zr_lv [0, 3] rfl ?_
      exact hK52 o0 x5 h0 n5 _
    refine zr_aloadn C 0 eX3_fill_29 rfl ?_
    refine zr_getR C ff_X3_15 rfl h0 rfl ((zk_3_0 h0).1) eX3_fill_30 ?_
    refine zr_iload C 4 eX3_fill_33 rfl ?_
    refine zr_iloadn C 1 eX3_fill_35 rfl ?_
    refine zr_iast C ((zk_3_0 h0).2) rfl n6 eX3_fill_36 (fun σ3 => ?_)
    refine zr_aloadn C 0 eX3_fill_37 rfl ?_
    refine zr_getR C ff_X3_21 rfl h0 rfl ((zk_3_1 h0).1) eX3_fill_38 ?_
    refine zr_iload C 4 eX3_fill_41 rfl ?_
    refine zr_iload C 2 eX3_fill_43 rfl ?_
    refine zr_iast C ((zk_3_1 h0).2) rfl n6 eX3_fill_45 (fun σ4 => ?_)
    refine zr_iinc (lv' := [(6, .int (zI (x6 + 1))), (0, .ref (zad G o0)), (3, .int (zI x3)), (4, .int (zI x4)), (5, .int (zI x5))]) C 4 eX3_fill_46 rfl (by decide) rfl ?_
    refine zr_goto C eX3_fill_49 ?_
    refine zr_lv [1, 2, 3, 4, 0] rfl ?_
    exact zr_lve (zs_p (zs_p (zs_p (zs_p (zs_pi (zI_w (x6 + 1)).symm rfl))))) (ih o0 x3 x4 x5 (zw (x6 + 1)) h0 n3 n4 n5 (zw_w (x6 + 1)) _)
theorem wL_fill_52 {G : Zg} {p : Program} {l : Launch} {e : Env} {s : State} {m : MethodId} {args : Array Value} {below : List Frame} {meth : Method} {c : Code} (C : zC G p s m args meth c cX3_fill 7 RX3 none) {res : Int × Zm} (o0 : Nat) (x5 : Int) (h0 : zin 294 o0 3) (n5 : zw x5 = x5) (σ : Zm) : zR G p l e (zrm 1) s m args below meth c 7 0 0 (zQm below args s G 294 ztt none res.2) 294 ztt res σ (fL_fill_52 o0 x5 σ) [(0, .ref (zad G o0)), (5, .int (zI x5))] 52 [] := by
  unfold fL_fill_52
  refine zr_iload C 1 eX3_fill_52 rfl ?_
  refine zr_iconst C eX3_fill_54 rfl ?_
  refine zr_aloadn C 0 eX3_fill_55 rfl ?_
  refine zr_getR C ff_X3_21 rfl h0 rfl ((zk_3_1 h0).1) eX3_fill_56 ?_
  refine zr_alen (A := ((zLN (o0 + 2) : Nat) : Int)) C ((zk_3_1 h0).2) (by decide) rfl rfl eX3_fill_59 ?_
  refine zr_iconst C eX3_fill_60 rfl ?_
  refine zr_isub C eX3_fill_61 ?_
  refine zr_callSi C [.int (zI x5), .int (zI 0), .int (zI (zw (((zLN (o0 + 2) : Nat) : Int) - 1)))] zy_X9_within zs_X9_within lk_X3_28 zrm_1_3_0 (fun r hr => zqX_within l G σ x5 0 (zw (((zLN (o0 + 2) : Nat) : Int) - 1)) n5 w_0 (zw_w (((zLN (o0 + 2) : Nat) : Int) - 1)) r hr) rfl (zs_i (zI_w (((zLN (o0 + 2) : Nat) : Int) - 1)).symm (zs_k (zs_k rfl))) (Nat.le_of_ble_eq_true rfl) eX3_fill_62 (fun v9 nv9 σ8 => ?_)
  refine zr_if_eq C eX3_fill_65 nv9 ?_ ?_
  · exact zr_vret C eX3_fill_87
  refine zr_aloadn C 0 eX3_fill_68 rfl ?_
  refine zr_getR C ff_X3_21 rfl h0 rfl ((zk_3_1 h0).1) eX3_fill_69 ?_
  refine zr_iload C 1 eX3_fill_72 rfl ?_
  refine zr_iald C ((zk_3_1 h0).2) rfl n5 eX3_fill_74 (fun v10 nv10 => ?_)
  refine zr_iconst C eX3_fill_75 rfl ?_
  refine zr_icmp_ne C eX3_fill_76 nv10 w_2 ?_ ?_
  · exact zr_vret C eX3_fill_87
  refine zr_aloadn C 0 eX3_fill_79 rfl ?_
  refine zr_getR C ff_X3_21 rfl h0 rfl ((zk_3_1 h0).1) eX3_fill_80 ?_
  refine zr_iload C 1 eX3_fill_83 rfl ?_
  refine zr_iconst C eX3_fill_85 rfl ?_
  refine zr_iast C ((zk_3_1 h0).2) rfl n5 eX3_fill_86 (fun σ11 => ?_)
  exact zr_vret C eX3_fill_87
theorem zqL_fill (l : Launch) (G : Zg) (σ : Zm) (o0 : Nat) (x1 : Int) (x2 : Int) (x3 : Int) (x4 : Int) (h0 : zin 294 o0 3) (n1 : zw x1 = x1) (n2 : zw x2 = x2) (n3 : zw x3 = x3) (n4 : zw x4 = x4) (res : Int × Zm) (he : fL_fill σ o0 x1 x2 x3 x4 = some res) : zM l yX3_fill cX3_fill 7 none 1 G 294 ztt σ [.ref (zad G o0), .int (zI x1), .int (zI x2), .int (zI x3), .int (zI x4)] none res.2 := by
  refine zM_of he (by decide +kernel) (Nat.le_of_ble_eq_true rfl) (lv := [(0, .ref (zad G o0)), (1, .int (zI x1)), (2, .int (zI x2)), (3, .int (zI x3)), (4, .int (zI x4))]) rfl (fun p e s m below meth c C => ?_)
  unfold fL_fill
  refine zr_iloadn C 1 eX3_fill_0 rfl ?_
  refine zr_iloadn C 2 eX3_fill_1 rfl ?_
  refine zr_iadd C eX3_fill_2 ?_
  refine zr_st (show _ = .int (zI (zw (x1 + x2))) :: _ from congrArg (· :: _) (congrArg Value.int (zI_w (x1 + x2)).symm)) ?_
  refine zr_letw (P := fun z => .int (zI z) :: _) (zw_w (x1 + x2)) (fun v1 nv1 => ?_)
  refine zr_istore (lv' := [(5, .int (zI v1)), (0, .ref (zad G o0)), (1, .int (zI x1)), (2, .int (zI x2)), (3, .int (zI x3)), (4, .int (zI x4))]) C eX3_fill_3 (by decide) rfl ?_
  refine zr_iconst C eX3_fill_5 rfl ?_
  refine zr_iloadn C 2 eX3_fill_6 rfl ?_
  refine zr_mmax C lk_X3_9 zy_mmax zrm_1_2_0 (Nat.le_of_ble_eq_true rfl) w_0 n1 eX3_fill_7 (fun v2 nv2 => ?_)
  refine zr_istore (lv' := [(6, .int (zI v2)), (5, .int (zI v1)), (0, .ref (zad G o0)), (1, .int (zI x1)), (2, .int (zI x2)), (3, .int (zI x3)), (4, .int (zI x4))]) C eX3_fill_10 (by decide) rfl ?_
  refine zr_lv [2, 5, 6, 1, 0] rfl ?_
  refine wL_fill_12 C _ ?_ 5000 o0 x3 x4 v1 v2 h0 n3 n4 nv1 nv2 σ
  intro o6 y7 ho6 ny7 σ5
  exact wL_fill_52 C o6 y7 ho6 ny7 σ5
theorem zqL_sing (l : Launch) (G : Zg) (σ : Zm) (o0 : Nat) (x1 : Int) (x2 : Int) (x3 : Int) (h0 : zin 294 o0 3) (n1 : zw x1 = x1) (n2 : zw x2 = x2) (n3 : zw x3 = x3) (res : Int × Zm) (he : fL_sing σ o0 x1 x2 x3 = some res) : zM l yX3_sing cX3_sing 4 none 2 G 294 ztt σ [.ref (zad G o0), .int (zI x1), .int (zI x2), .int (zI x3)] none res.2 := by
  refine zM_of he (by decide +kernel) (Nat.le_of_ble_eq_true rfl) (lv := [(0, .ref (zad G o0)), (1, .int (zI x1)), (2, .int (zI x2)), (3, .int (zI x3))]) rfl (fun p e s m below meth c C => ?_)
  unfold fL_sing
  refine zr_aloadn C 0 eX3_sing_0 rfl ?_
  refine zr_iloadn C 1 eX3_sing_1 rfl ?_
  refine zr_iloadn C 3 eX3_sing_2 rfl ?_
  refine zr_iloadn C 2 eX3_sing_3 rfl ?_
  refine zr_iconst C eX3_sing_4 rfl ?_
  refine zr_callVv C [.int (zI x1), .int (zI x3), .int (zI x2), .int (zI 2)] zy_X3_fill zv_X3_fill lk_X3_24 zrm_2_7_1 h0 (by decide) rfl (fun r hr => zqL_fill l G σ o0 x1 x3 x2 2 h0 n1 n3 n2 w_2 r hr) rfl rfl (Nat.le_of_ble_eq_true rfl) eX3_sing_5 (fun σ1 => ?_)
  refine zr_iloadn C 1 eX3_sing_8 rfl ?_
  refine zr_iconst C eX3_sing_9 rfl ?_
  refine zr_aloadn C 0 eX3_sing_10 rfl ?_
  refine zr_getR C ff_X3_21 rfl h0 rfl ((zk_3_1 h0).1) eX3_sing_11 ?_
  refine zr_alen (A := ((zLN (o0 + 2) : Nat) : Int)) C ((zk_3_1 h0).2) (by decide) rfl rfl eX3_sing_14 ?_
  refine zr_iconst C eX3_sing_15 rfl ?_
  refine zr_isub C eX3_sing_16 ?_
  refine zr_callSi C [.int (zI x1), .int (zI 0), .int (zI (zw (((zLN (o0 + 2) : Nat) : Int) - 1)))] zy_X9_within zs_X9_within lk_X3_28 zrm_2_3_0 (fun r hr => zqX_within l G σ1 x1 0 (zw (((zLN (o0 + 2) : Nat) : Int) - 1)) n1 w_0 (zw_w (((zLN (o0 + 2) : Nat) : Int) - 1)) r hr) rfl (zs_i (zI_w (((zLN (o0 + 2) : Nat) : Int) - 1)).symm (zs_k (zs_k rfl))) (Nat.le_of_ble_eq_true rfl) eX3_sing_17 (fun v3 nv3 σ2 => ?_)
  refine zr_if_eq C eX3_sing_20 nv3 ?_ ?_
  · exact zr_vret C eX3_sing_30
  refine zr_aloadn C 0 eX3_sing_23 rfl ?_
  refine zr_getR C ff_X3_21 rfl h0 rfl ((zk_3_1 h0).1) eX3_sing_24 ?_
  refine zr_iloadn C 1 eX3_sing_27 rfl ?_
  refine zr_iconst C eX3_sing_28 rfl ?_
  refine zr_iast C ((zk_3_1 h0).2) rfl n1 eX3_sing_29 (fun σ4 => ?_)
  exact zr_vret C eX3_sing_30
theorem zqL_silence (l : Launch) (G : Zg) (σ : Zm) (o0 : Nat) (x1 : Int) (x2 : Int) (h0 : zin 294 o0 3) (n1 : zw x1 = x1) (n2 : zw x2 = x2) (res : Int × Zm) (he : fL_silence σ o0 x1 x2 = some res) : zM l yX3_silence cX3_silence 3 none 2 G 294 ztt σ [.ref (zad G o0), .int (zI x1), .int (zI x2)] none res.2 := by
  refine zM_of he (by decide +kernel) (Nat.le_of_ble_eq_true rfl) (lv := [(0, .ref (zad G o0)), (1, .int (zI x1)), (2, .int (zI x2))]) rfl (fun p e s m below meth c C => ?_)
  unfold fL_silence
  refine zr_aloadn C 0 eX3_silence_0 rfl ?_
  refine zr_iloadn C 1 eX3_silence_1 rfl ?_
  refine zr_iloadn C 2 eX3_silence_2 rfl ?_
  refine zr_iconst C eX3_silence_3 rfl ?_
  refine zr_iconst C eX3_silence_4 rfl ?_
  refine zr_callVv C [.int (zI x1), .int (zI x2), .int (zI 0), .int (zI 0)] zy_X3_fill zv_X3_fill lk_X3_24 zrm_2_7_1 h0 (by decide) rfl (fun r hr => zqL_fill l G σ o0 x1 x2 0 0 h0 n1 n2 w_0 w_0 r hr) rfl rfl (Nat.le_of_ble_eq_true rfl) eX3_silence_5 (fun σ1 => ?_)
  exact zr_vret C eX3_silence_8
theorem wL_beats_6 {G : Zg} {p : Program} {l : Launch} {e : Env} {s : State} {m : MethodId} {args : Array Value} {below : List Frame} {meth : Method} {c : Code} (C : zC G p s m args meth c cX3_beats 2 RX3 (some .int)) {res : Int × Zm} : ∀ (n : Nat) (o0 : Nat) (x1 : Int) (h0 : zin 294 o0 3) (n1 : zw x1 = x1) (σ : Zm), zR G p l e (zrm 0) s m args below meth c 2 0 0 (zQm below args s G 294 ztt (some (.int (zI res.1))) res.2) 294 ztt res σ (fL_beats_6 n o0 x1 σ) [(0, .ref (zad G o0)), (1, .int (zI x1))] 6 []
  | 0, _, _, _, _, _ => zr_none
  | n + 1, o0, x1, h0, n1, σ => by
    have ih := fun (o0 : Nat) (x1 : Int) (h0 : zin 294 o0 3) (n1 : zw x1 = x1) (σ : Zm) => wL_beats_6 (l := l) (e := e) (below := below) C (res := res) n o0 x1 h0 n1 σ
    rw [fL_beats_6]
    refine zr_letf (fun R0 hR0 => ?_)
    have ih : ∀ (o0 : Nat) (x1 : Int) (h0 : zin 294 o0 3) (n1 : zw x1 = x1) (σ : Zm), zR G p l e (zrm 0) s m args below meth c 2 0 0 (zQm below args s G 294 ztt (some (.int (zI res.1))) res.2) 294 ztt res σ (R0 o0 x1 σ) [(0, .ref (zad G o0)), (1, .int (zI x1))] 6 [] := by rw [hR0]; exact ih
    clear hR0
    refine zr_iloadn C 1 eX3_beats_6 rfl ?_
    refine zr_if_le C eX3_beats_7 n1 ?_ ?_
    · refine zr_iconst C eX3_beats_29 rfl ?_
      exact zr_iret C eX3_beats_30
    refine zr_aloadn C 0 eX3_beats_10 rfl ?_
    refine zr_getR C ff_X3_21 rfl h0 rfl ((zk_3_1 h0).1) eX3_beats_11 ?_
    refine zr_iloadn C 1 eX3_beats_14 rfl ?_
    refine zr_iconst C eX3_beats_15 rfl ?_
    refine zr_isub C eX3_beats_16 ?_
    refine zr_iald C ((zk_3_1 h0).2) rfl rfl eX3_beats_17 (fun v1 nv1 => ?_)
    refine zr_if_eq C eX3_beats_18 nv1 ?_ ?_
    · refine zr_iinc (lv' := [(1, .int (zI (x1 + (-1)))), (0, .ref (zad G o0))]) C 1 eX3_beats_23 rfl (by decide) rfl ?_
      refine zr_goto C eX3_beats_26 ?_
      refine zr_lv [1, 0] rfl ?_
      exact zr_lve (zs_p (zs_pi (zI_w (x1 + (-1))).symm rfl)) (ih o0 (zw (x1 + (-1))) h0 (zw_w (x1 + (-1))) _)
    refine zr_iloadn C 1 eX3_beats_21 rfl ?_
    exact zr_iret C eX3_beats_22
theorem zqL_beats (l : Launch) (G : Zg) (σ : Zm) (o0 : Nat) (h0 : zin 294 o0 3) (res : Int × Zm) (he : fL_beats σ o0 = some res) : zM l yX3_beats cX3_beats 2 (some .int) 0 G 294 ztt σ [.ref (zad G o0)] (some (.int (zI res.1))) res.2 := by
  refine zM_of he (by decide +kernel) (Nat.le_of_ble_eq_true rfl) (lv := [(0, .ref (zad G o0))]) rfl (fun p e s m below meth c C => ?_)
  unfold fL_beats
  refine zr_aloadn C 0 eX3_beats_0 rfl ?_
  refine zr_getR C ff_X3_21 rfl h0 rfl ((zk_3_1 h0).1) eX3_beats_1 ?_
  refine zr_alen (A := ((zLN (o0 + 2) : Nat) : Int)) C ((zk_3_1 h0).2) (by decide) rfl rfl eX3_beats_4 ?_
  refine zr_istoren (lv' := [(1, .int (zI ((zLN (o0 + 2) : Nat) : Int))), (0, .ref (zad G o0))]) C eX3_beats_5 (by decide) rfl ?_
  refine zr_lv [1, 0] rfl ?_
  refine wL_beats_6 C 5000 o0 ((zLN (o0 + 2) : Nat) : Int) h0 ((zw_LN _)) σ
theorem wL_noteAhead_12 {G : Zg} {p : Program} {l : Launch} {e : Env} {s : State} {m : MethodId} {args : Array Value} {below : List Frame} {meth : Method} {c : Code} (C : zC G p s m args meth c cX3_noteAhead 3 RX3 (some .int)) {res : Int × Zm} : ∀ (n : Nat) (o0 : Nat) (x2 : Int) (h0 : zin 294 o0 3) (n2 : zw x2 = x2) (σ : Zm), zR G p l e (zrm 1) s m args below meth c 3 0 0 (zQm below args s G 294 ztt (some (.int (zI res.1))) res.2) 294 ztt res σ (fL_noteAhead_12 n o0 x2 σ) [(0, .ref (zad G o0)), (2, .int (zI x2))] 12 []
  | 0, _, _, _, _, _ => zr_none
  | n + 1, o0, x2, h0, n2, σ => by
    have ih := fun (o0 : Nat) (x2 : Int) (h0 : zin 294 o0 3) (n2 : zw x2 = x2) (σ : Zm) => wL_noteAhead_12 (l := l) (e := e) (below := below) C (res := res) n o0 x2 h0 n2 σ
    rw [fL_noteAhead_12]
    refine zr_letf (fun R0 hR0 => ?_)
    have ih : ∀ (o0 : Nat) (x2 : Int) (h0 : zin 294 o0 3) (n2 : zw x2 = x2) (σ : Zm), zR G p l e (zrm 1) s m args below meth c 3 0 0 (zQm below args s G 294 ztt (some (.int (zI res.1))) res.2) 294 ztt res σ (R0 o0 x2 σ) [(0, .ref (zad G o0)), (2, .int (zI x2))] 12 [] := by rw [hR0]; exact ih
    clear hR0
    refine zr_iloadn C 1 eX3_noteAhead_12 rfl ?_
    refine zr_if_lt C eX3_noteAhead_13 n2 ?_ ?_
    · refine zr_iconst C eX3_noteAhead_34 rfl ?_
      exact zr_iret C eX3_noteAhead_35
    refine zr_aloadn C 0 eX3_noteAhead_16 rfl ?_
    refine zr_getR C ff_X3_21 rfl h0 rfl ((zk_3_1 h0).1) eX3_noteAhead_17 ?_
    refine zr_iloadn C 1 eX3_noteAhead_20 rfl ?_
    refine zr_iald C ((zk_3_1 h0).2) rfl n2 eX3_noteAhead_21 (fun v3 nv3 => ?_)
    refine zr_iconst C eX3_noteAhead_22 rfl ?_
    refine zr_icmp_ne C eX3_noteAhead_23 nv3 w_1 ?_ ?_
    · refine zr_iinc (lv' := [(2, .int (zI (x2 + (-1)))), (0, .ref (zad G o0))]) C 1 eX3_noteAhead_28 rfl (by decide) rfl ?_
      refine zr_goto C eX3_noteAhead_31 ?_
      refine zr_lv [1, 0] rfl ?_
      exact zr_lve (zs_p (zs_pi (zI_w (x2 + (-1))).symm rfl)) (ih o0 (zw (x2 + (-1))) h0 (zw_w (x2 + (-1))) _)
    refine zr_iloadn C 1 eX3_noteAhead_26 rfl ?_
    exact zr_iret C eX3_noteAhead_27
theorem zqL_noteAhead (l : Launch) (G : Zg) (σ : Zm) (o0 : Nat) (x1 : Int) (h0 : zin 294 o0 3) (n1 : zw x1 = x1) (res : Int × Zm) (he : fL_noteAhead σ o0 x1 = some res) : zM l yX3_noteAhead cX3_noteAhead 3 (some .int) 1 G 294 ztt σ [.ref (zad G o0), .int (zI x1)] (some (.int (zI res.1))) res.2 := by
  refine zM_of he (by decide +kernel) (Nat.le_of_ble_eq_true rfl) (lv := [(0, .ref (zad G o0)), (1, .int (zI x1))]) rfl (fun p e s m below meth c C => ?_)
  unfold fL_noteAhead
  refine zr_iloadn C 1 eX3_noteAhead_0 rfl ?_
  refine zr_aloadn C 0 eX3_noteAhead_1 rfl ?_
  refine zr_getR C ff_X3_21 rfl h0 rfl ((zk_3_1 h0).1) eX3_noteAhead_2 ?_
  refine zr_alen (A := ((zLN (o0 + 2) : Nat) : Int)) C ((zk_3_1 h0).2) (by decide) rfl rfl eX3_noteAhead_5 ?_
  refine zr_mmin C lk_X3_32 zy_mmin zrm_1_2_0 (Nat.le_of_ble_eq_true rfl) n1 (zw_LN _) eX3_noteAhead_6 (fun v1 nv1 => ?_)
  refine zr_iconst C eX3_noteAhead_9 rfl ?_
  refine zr_isub C eX3_noteAhead_10 ?_
  refine zr_st (show _ = .int (zI (zw (v1 - 1))) :: _ from congrArg (· :: _) (congrArg Value.int (zI_w (v1 - 1)).symm)) ?_
  refine zr_letw (P := fun z => .int (zI z) :: _) (zw_w (v1 - 1)) (fun v2 nv2 => ?_)
  refine zr_istoren (lv' := [(2, .int (zI v2)), (0, .ref (zad G o0)), (1, .int (zI x1))]) C eX3_noteAhead_11 (by decide) rfl ?_
  refine zr_lv [1, 0] rfl ?_
  refine wL_noteAhead_12 C 5000 o0 v2 h0 nv2 σ
theorem wL_restsAhead_14 {G : Zg} {p : Program} {l : Launch} {e : Env} {s : State} {m : MethodId} {args : Array Value} {below : List Frame} {meth : Method} {c : Code} (C : zC G p s m args meth c cX3_restsAhead 4 RX3 (some .int)) {res : Int × Zm} : ∀ (n : Nat) (o0 : Nat) (x2 : Int) (x3 : Int) (h0 : zin 294 o0 3) (n2 : zw x2 = x2) (n3 : zw x3 = x3) (σ : Zm), zR G p l e (zrm 1) s m args below meth c 4 0 0 (zQm below args s G 294 ztt (some (.int (zI res.1))) res.2) 294 ztt res σ (fL_restsAhead_14 n o0 x2 x3 σ) [(0, .ref (zad G o0)), (2, .int (zI x2)), (3, .int (zI x3))] 14 []
  | 0, _, _, _, _, _, _, _ => zr_none
  | n + 1, o0, x2, x3, h0, n2, n3, σ => by
    have ih := fun (o0 : Nat) (x2 : Int) (x3 : Int) (h0 : zin 294 o0 3) (n2 : zw x2 = x2) (n3 : zw x3 = x3) (σ : Zm) => wL_restsAhead_14 (l := l) (e := e) (below := below) C (res := res) n o0 x2 x3 h0 n2 n3 σ
    rw [fL_restsAhead_14]
    refine zr_letf (fun R0 hR0 => ?_)
    have ih : ∀ (o0 : Nat) (x2 : Int) (x3 : Int) (h0 : zin 294 o0 3) (n2 : zw x2 = x2) (n3 : zw x3 = x3) (σ : Zm), zR G p l e (zrm 1) s m args below meth c 4 0 0 (zQm below args s G 294 ztt (some (.int (zI res.1))) res.2) 294 ztt res σ (R0 o0 x2 x3 σ) [(0, .ref (zad G o0)), (2, .int (zI x2)), (3, .int (zI x3))] 14 [] := by rw [hR0]; exact ih
    clear hR0
    refine zr_iloadn C 2 eX3_restsAhead_14 rfl ?_
    refine zr_if_lt C eX3_restsAhead_15 n3 ?_ ?_
    · refine zr_iloadn C 1 eX3_restsAhead_36 rfl ?_
      exact zr_iret C eX3_restsAhead_37
    refine zr_aloadn C 0 eX3_restsAhead_18 rfl ?_
    refine zr_getR C ff_X3_21 rfl h0 rfl ((zk_3_1 h0).1) eX3_restsAhead_19 ?_
    refine zr_iloadn C 2 eX3_restsAhead_22 rfl ?_
    refine zr_iald C ((zk_3_1 h0).2) rfl n3 eX3_restsAhead_23 (fun v3 nv3 => ?_)
    refine zr_if_ne C eX3_restsAhead_24 nv3 ?_ ?_
    · refine zr_iloadn C 1 eX3_restsAhead_36 rfl ?_
      exact zr_iret C eX3_restsAhead_37
    refine zr_iinc (lv' := [(2, .int (zI (x2 + 1))), (0, .ref (zad G o0)), (3, .int (zI x3))]) C 1 eX3_restsAhead_27 rfl (by decide) rfl ?_
    refine zr_iinc (lv' := [(3, .int (zI (x3 + (-1)))), (2, .int (zI (x2 + 1))), (0, .ref (zad G o0))]) C 2 eX3_restsAhead_30 rfl (by decide) rfl ?_
    refine zr_goto C eX3_restsAhead_33 ?_
    refine zr_lv [2, 1, 0] rfl ?_
    exact zr_lve (zs_p (zs_pi (zI_w (x2 + 1)).symm (zs_pi (zI_w (x3 + (-1))).symm rfl))) (ih o0 (zw (x2 + 1)) (zw (x3 + (-1))) h0 (zw_w (x2 + 1)) (zw_w (x3 + (-1))) _)
theorem zqL_restsAhead (l : Launch) (G : Zg) (σ : Zm) (o0 : Nat) (x1 : Int) (h0 : zin 294 o0 3) (n1 : zw x1 = x1) (res : Int × Zm) (he : fL_restsAhead σ o0 x1 = some res) : zM l yX3_restsAhead cX3_restsAhead 4 (some .int) 1 G 294 ztt σ [.ref (zad G o0), .int (zI x1)] (some (.int (zI res.1))) res.2 := by
  refine zM_of he (by decide +kernel) (Nat.le_of_ble_eq_true rfl) (lv := [(0, .ref (zad G o0)), (1, .int (zI x1))]) rfl (fun p e s m below meth c C => ?_)
  unfold fL_restsAhead
  refine zr_iconst C eX3_restsAhead_0 rfl ?_
  refine zr_istoren (lv' := [(2, .int (zI 0)), (0, .ref (zad G o0)), (1, .int (zI x1))]) C eX3_restsAhead_1 (by decide) rfl ?_
  refine zr_iloadn C 2 eX3_restsAhead_2 rfl ?_
  refine zr_aloadn C 1 eX3_restsAhead_3 rfl ?_
  refine zr_getR C ff_X3_21 rfl h0 rfl ((zk_3_1 h0).1) eX3_restsAhead_4 ?_
  refine zr_alen (A := ((zLN (o0 + 2) : Nat) : Int)) C ((zk_3_1 h0).2) (by decide) rfl rfl eX3_restsAhead_7 ?_
  refine zr_mmin C lk_X3_32 zy_mmin zrm_1_2_0 (Nat.le_of_ble_eq_true rfl) n1 (zw_LN _) eX3_restsAhead_8 (fun v1 nv1 => ?_)
  refine zr_iconst C eX3_restsAhead_11 rfl ?_
  refine zr_isub C eX3_restsAhead_12 ?_
  refine zr_st (show _ = .int (zI (zw (v1 - 1))) :: _ from congrArg (· :: _) (congrArg Value.int (zI_w (v1 - 1)).symm)) ?_
  refine zr_letw (P := fun z => .int (zI z) :: _) (zw_w (v1 - 1)) (fun v2 nv2 => ?_)
  refine zr_istoren (lv' := [(3, .int (zI v2)), (2, .int (zI 0)), (0, .ref (zad G o0)), (1, .int (zI x1))]) C eX3_restsAhead_13 (by decide) rfl ?_
  refine zr_lv [2, 1, 0] rfl ?_
  refine wL_restsAhead_14 C 5000 o0 0 v2 h0 w_0 nv2 σ
theorem zqL_sounds (l : Launch) (G : Zg) (σ : Zm) (o0 : Nat) (x1 : Int) (h0 : zin 294 o0 3) (n1 : zw x1 = x1) (res : Int × Zm) (he : fL_sounds σ o0 x1 = some res) : zM l yX3_sounds cX3_sounds 2 (some .boolean) 1 G 294 ztt σ [.ref (zad G o0), .int (zI x1)] (some (.int (zI res.1))) res.2 := by
  refine zM_of he (by decide +kernel) (Nat.le_of_ble_eq_true rfl) (lv := [(0, .ref (zad G o0)), (1, .int (zI x1))]) rfl (fun p e s m below meth c C => ?_)
  unfold fL_sounds
  refine zr_iloadn C 1 eX3_sounds_0 rfl ?_
  refine zr_iconst C eX3_sounds_1 rfl ?_
  refine zr_aloadn C 0 eX3_sounds_2 rfl ?_
  refine zr_getR C ff_X3_21 rfl h0 rfl ((zk_3_1 h0).1) eX3_sounds_3 ?_
  refine zr_alen (A := ((zLN (o0 + 2) : Nat) : Int)) C ((zk_3_1 h0).2) (by decide) rfl rfl eX3_sounds_6 ?_
  refine zr_iconst C eX3_sounds_7 rfl ?_
  refine zr_isub C eX3_sounds_8 ?_
  refine zr_callSi C [.int (zI x1), .int (zI 0), .int (zI (zw (((zLN (o0 + 2) : Nat) : Int) - 1)))] zy_X9_within zs_X9_within lk_X3_28 zrm_1_3_0 (fun r hr => zqX_within l G σ x1 0 (zw (((zLN (o0 + 2) : Nat) : Int) - 1)) n1 w_0 (zw_w (((zLN (o0 + 2) : Nat) : Int) - 1)) r hr) rfl (zs_i (zI_w (((zLN (o0 + 2) : Nat) : Int) - 1)).symm (zs_k (zs_k rfl))) (Nat.le_of_ble_eq_true rfl) eX3_sounds_9 (fun v2 nv2 σ1 => ?_)
  refine zr_if_eq C eX3_sounds_12 nv2 ?_ ?_
  · refine zr_iconst C eX3_sounds_28 rfl ?_
    exact zr_zret C eX3_sounds_29 (Or.inl rfl)
  refine zr_aloadn C 0 eX3_sounds_15 rfl ?_
  refine zr_getR C ff_X3_21 rfl h0 rfl ((zk_3_1 h0).1) eX3_sounds_16 ?_
  refine zr_iloadn C 1 eX3_sounds_19 rfl ?_
  refine zr_iald C ((zk_3_1 h0).2) rfl n1 eX3_sounds_20 (fun v3 nv3 => ?_)
  refine zr_if_eq C eX3_sounds_21 nv3 ?_ ?_
  · refine zr_iconst C eX3_sounds_28 rfl ?_
    exact zr_zret C eX3_sounds_29 (Or.inl rfl)
  refine zr_iconst C eX3_sounds_24 rfl ?_
  refine zr_goto C eX3_sounds_25 ?_
  exact zr_zret C eX3_sounds_29 (Or.inr rfl)
theorem zqL_take (l : Launch) (G : Zg) (σ : Zm) (o0 : Nat) (o1 : Nat) (h0 : zin 294 o0 3) (h1 : zin 294 o1 3) (res : Int × Zm) (he : fL_take σ o0 o1 = some res) : zM l yX3_take cX3_take 3 none 1 G 294 ztt σ [.ref (zad G o0), .ref (zad G o1)] none res.2 := by
  refine zM_of he (by decide +kernel) (Nat.le_of_ble_eq_true rfl) (lv := [(0, .ref (zad G o0)), (1, .ref (zad G o1))]) rfl (fun p e s m below meth c C => ?_)
  unfold fL_take
  refine zr_aloadn C 0 eX3_take_0 rfl ?_
  refine zr_getR C ff_X3_21 rfl h0 rfl ((zk_3_1 h0).1) eX3_take_1 ?_
  refine zr_alen (A := ((zLN (o0 + 2) : Nat) : Int)) C ((zk_3_1 h0).2) (by decide) rfl rfl eX3_take_4 ?_
  refine zr_aloadn C 1 eX3_take_5 rfl ?_
  refine zr_getR C ff_X3_21 rfl h1 rfl ((zk_3_1 h1).1) eX3_take_6 ?_
  refine zr_alen (A := ((zLN (o1 + 2) : Nat) : Int)) C ((zk_3_1 h1).2) (by decide) rfl rfl eX3_take_9 ?_
  refine zr_mmin C lk_X3_32 zy_mmin zrm_1_2_0 (Nat.le_of_ble_eq_true rfl) (zw_LN _) (zw_LN _) eX3_take_10 (fun v1 nv1 => ?_)
  refine zr_istoren (lv' := [(2, .int (zI v1)), (0, .ref (zad G o0)), (1, .ref (zad G o1))]) C eX3_take_13 (by decide) rfl ?_
  refine zr_aloadn C 2 eX3_take_14 rfl ?_
  refine zr_getR C ff_X3_15 rfl h1 rfl ((zk_3_0 h1).1) eX3_take_15 ?_
  refine zr_iconst C eX3_take_18 rfl ?_
  refine zr_aloadn C 1 eX3_take_19 rfl ?_
  refine zr_getR C ff_X3_15 rfl h0 rfl ((zk_3_0 h0).1) eX3_take_20 ?_
  refine zr_iconst C eX3_take_23 rfl ?_
  refine zr_iloadn C 0 eX3_take_24 rfl ?_
  refine zr_acopy C lk_X3_35 zy_acopy zrm_1_21_0 (by exact Nat.le_of_ble_eq_true rfl) ((zk_3_0 h1).2) ((zk_3_0 h0).2) rfl rfl w_0 w_0 nv1 eX3_take_25 (fun σ2 => ?_)
  refine zr_aloadn C 2 eX3_take_28 rfl ?_
  refine zr_getR C ff_X3_21 rfl h1 rfl ((zk_3_1 h1).1) eX3_take_29 ?_
  refine zr_iconst C eX3_take_32 rfl ?_
  refine zr_aloadn C 1 eX3_take_33 rfl ?_
  refine zr_getR C ff_X3_21 rfl h0 rfl ((zk_3_1 h0).1) eX3_take_34 ?_
  refine zr_iconst C eX3_take_37 rfl ?_
  refine zr_iloadn C 0 eX3_take_38 rfl ?_
  refine zr_acopy C lk_X3_35 zy_acopy zrm_1_21_0 (by exact Nat.le_of_ble_eq_true rfl) ((zk_3_1 h1).2) ((zk_3_1 h0).2) rfl rfl w_0 w_0 nv1 eX3_take_39 (fun σ3 => ?_)
  exact zr_vret C eX3_take_42
theorem wL_isLike_2 {G : Zg} {p : Program} {l : Launch} {e : Env} {s : State} {m : MethodId} {args : Array Value} {below : List Frame} {meth : Method} {c : Code} (C : zC G p s m args meth c cX3_isLike 4 RX3 (some .boolean)) {res : Int × Zm} : ∀ (n : Nat) (o0 : Nat) (o1 : Nat) (x2 : Int) (x3 : Int) (h0 : zin 294 o0 3) (h1 : zin 294 o1 3) (n2 : zw x2 = x2) (n3 : zw x3 = x3) (σ : Zm), zR G p l e (zrm 0) s m args below meth c 4 0 0 (zQm below args s G 294 ztt (some (.int (zI res.1))) res.2) 294 ztt res σ (fL_isLike_2 n o0 o1 x2 x3 σ) [(0, .ref (zad G o0)), (1, .ref (zad G o1)), (2, .int (zI x2)), (3, .int (zI x3))] 2 []
  | 0, _, _, _, _, _, _, _, _, _ => zr_none
  | n + 1, o0, o1, x2, x3, h0, h1, n2, n3, σ => by
    have ih := fun (o0 : Nat) (o1 : Nat) (x2 : Int) (x3 : Int) (h0 : zin 294 o0 3) (h1 : zin 294 o1 3) (n2 : zw x2 = x2) (n3 : zw x3 = x3) (σ : Zm) => wL_isLike_2 (l := l) (e := e) (below := below) C (res := res) n o0 o1 x2 x3 h0 h1 n2 n3 σ
    rw [fL_isLike_2]
    refine zr_letf (fun R0 hR0 => ?_)
    have ih : ∀ (o0 : Nat) (o1 : Nat) (x2 : Int) (x3 : Int) (h0 : zin 294 o0 3) (h1 : zin 294 o1 3) (n2 : zw x2 = x2) (n3 : zw x3 = x3) (σ : Zm), zR G p l e (zrm 0) s m args below meth c 4 0 0 (zQm below args s G 294 ztt (some (.int (zI res.1))) res.2) 294 ztt res σ (R0 o0 o1 x2 x3 σ) [(0, .ref (zad G o0)), (1, .ref (zad G o1)), (2, .int (zI x2)), (3, .int (zI x3))] 2 [] := by rw [hR0]; exact ih
    clear hR0
    refine zr_iloadn C 3 eX3_isLike_2 rfl ?_
    refine zr_iloadn C 2 eX3_isLike_3 rfl ?_
    refine zr_icmp_ge C eX3_isLike_4 n3 n2 ?_ ?_
    · refine zr_iconst C eX3_isLike_63 rfl ?_
      exact zr_zret C eX3_isLike_64 (Or.inr rfl)
    refine zr_iloadn C 3 eX3_isLike_7 rfl ?_
    refine zr_aloadn C 0 eX3_isLike_8 rfl ?_
    refine zr_getR C ff_X3_21 rfl h0 rfl ((zk_3_1 h0).1) eX3_isLike_9 ?_
    refine zr_alen (A := ((zLN (o0 + 2) : Nat) : Int)) C ((zk_3_1 h0).2) (by decide) rfl rfl eX3_isLike_12 ?_
    refine zr_icmp_ge C eX3_isLike_13 n3 (zw_LN _) ?_ ?_
    · refine zr_iconst C eX3_isLike_63 rfl ?_
      exact zr_zret C eX3_isLike_64 (Or.inr rfl)
    refine zr_iloadn C 3 eX3_isLike_16 rfl ?_
    refine zr_aloadn C 1 eX3_isLike_17 rfl ?_
    refine zr_getR C ff_X3_21 rfl h1 rfl ((zk_3_1 h1).1) eX3_isLike_18 ?_
    refine zr_alen (A := ((zLN (o1 + 2) : Nat) : Int)) C ((zk_3_1 h1).2) (by decide) rfl rfl eX3_isLike_21 ?_
    refine zr_icmp_ge C eX3_isLike_22 n3 (zw_LN _) ?_ ?_
    · refine zr_iconst C eX3_isLike_63 rfl ?_
      exact zr_zret C eX3_isLike_64 (Or.inr rfl)
    refine zr_aloadn C 0 eX3_isLike_25 rfl ?_
    refine zr_getR C ff_X3_21 rfl h0 rfl ((zk_3_1 h0).1) eX3_isLike_26 ?_
    refine zr_iloadn C 3 eX3_isLike_29 rfl ?_
    refine zr_iald C ((zk_3_1 h0).2) rfl n3 eX3_isLike_30 (fun v1 nv1 => ?_)
    refine zr_aloadn C 1 eX3_isLike_31 rfl ?_
    refine zr_getR C ff_X3_21 rfl h1 rfl ((zk_3_1 h1).1) eX3_isLike_32 ?_
    refine zr_iloadn C 3 eX3_isLike_35 rfl ?_
    refine zr_iald C ((zk_3_1 h1).2) rfl n3 eX3_isLike_36 (fun v2 nv2 => ?_)
    refine zr_icmp_ne C eX3_isLike_37 nv1 nv2 ?_ ?_
    · refine zr_iconst C eX3_isLike_55 rfl ?_
      exact zr_zret C eX3_isLike_56 (Or.inl rfl)
    refine zr_aloadn C 0 eX3_isLike_40 rfl ?_
    refine zr_getR C ff_X3_15 rfl h0 rfl ((zk_3_0 h0).1) eX3_isLike_41 ?_
    refine zr_iloadn C 3 eX3_isLike_44 rfl ?_
    refine zr_iald C ((zk_3_0 h0).2) rfl n3 eX3_isLike_45 (fun v3 nv3 => ?_)
    refine zr_aloadn C 1 eX3_isLike_46 rfl ?_
    refine zr_getR C ff_X3_15 rfl h1 rfl ((zk_3_0 h1).1) eX3_isLike_47 ?_
    refine zr_iloadn C 3 eX3_isLike_50 rfl ?_
    refine zr_iald C ((zk_3_0 h1).2) rfl n3 eX3_isLike_51 (fun v4 nv4 => ?_)
    refine zr_icmp_eq C eX3_isLike_52 nv3 nv4 ?_ ?_
    · refine zr_iinc (lv' := [(3, .int (zI (x3 + 1))), (0, .ref (zad G o0)), (1, .ref (zad G o1)), (2, .int (zI x2))]) C 3 eX3_isLike_57 rfl (by decide) rfl ?_
      refine zr_goto C eX3_isLike_60 ?_
      refine zr_lv [1, 2, 3, 0] rfl ?_
      exact zr_lve (zs_p (zs_p (zs_p (zs_pi (zI_w (x3 + 1)).symm rfl)))) (ih o0 o1 x2 (zw (x3 + 1)) h0 h1 n2 (zw_w (x3 + 1)) _)
    refine zr_iconst C eX3_isLike_55 rfl ?_
    exact zr_zret C eX3_isLike_56 (Or.inl rfl)
theorem zqL_isLike (l : Launch) (G : Zg) (σ : Zm) (o0 : Nat) (o1 : Nat) (x2 : Int) (h0 : zin 294 o0 3) (h1 : zin 294 o1 3) (n2 : zw x2 = x2) (res : Int × Zm) (he : fL_isLike σ o0 o1 x2 = some res) : zM l yX3_isLike cX3_isLike 4 (some .boolean) 0 G 294 ztt σ [.ref (zad G o0), .ref (zad G o1), .int (zI x2)] (some (.int (zI res.1))) res.2 := by
  refine zM_of he (by decide +kernel) (Nat.le_of_ble_eq_true rfl) (lv := [(0, .ref (zad G o0)), (1, .ref (zad G o1)), (2, .int (zI x2))]) rfl (fun p e s m below meth c C => ?_)
  unfold fL_isLike
  refine zr_iconst C eX3_isLike_0 rfl ?_
  refine zr_istoren (lv' := [(3, .int (zI 0)), (0, .ref (zad G o0)), (1, .ref (zad G o1)), (2, .int (zI x2))]) C eX3_isLike_1 (by decide) rfl ?_
  refine zr_lv [1, 2, 3, 0] rfl ?_
  refine wL_isLike_2 C 5000 o0 o1 x2 0 h0 h1 n2 w_0 σ
theorem wL_takeOverturned_10 {G : Zg} {p : Program} {l : Launch} {e : Env} {s : State} {m : MethodId} {args : Array Value} {below : List Frame} {meth : Method} {c : Code} (C : zC G p s m args meth c cX3_takeOverturned 5 RX3 (some .boolean)) {res : Int × Zm} : ∀ (n : Nat) (o0 : Nat) (x2 : Int) (x3 : Int) (x4 : Int) (h0 : zin 294 o0 3) (n2 : zw x2 = x2) (n3 : zw x3 = x3) (n4 : zw x4 = x4) (σ : Zm), zR G p l e (zrm 2) s m args below meth c 5 0 0 (zQm below args s G 294 ztt (some (.int (zI res.1))) res.2) 294 ztt res σ (fL_takeOverturned_10 n o0 x2 x3 x4 σ) [(0, .ref (zad G o0)), (2, .int (zI x2)), (3, .int (zI x3)), (4, .int (zI x4))] 10 []
  | 0, _, _, _, _, _, _, _, _, _ => zr_none
  | n + 1, o0, x2, x3, x4, h0, n2, n3, n4, σ => by
    have ih := fun (o0 : Nat) (x2 : Int) (x3 : Int) (x4 : Int) (h0 : zin 294 o0 3) (n2 : zw x2 = x2) (n3 : zw x3 = x3) (n4 : zw x4 = x4) (σ : Zm) => wL_takeOverturned_10 (l := l) (e := e) (below := below) C (res := res) n o0 x2 x3 x4 h0 n2 n3 n4 σ
    rw [fL_takeOverturned_10]
    refine zr_letf (fun R0 hR0 => ?_)
    have ih : ∀ (o0 : Nat) (x2 : Int) (x3 : Int) (x4 : Int) (h0 : zin 294 o0 3) (n2 : zw x2 = x2) (n3 : zw x3 = x3) (n4 : zw x4 = x4) (σ : Zm), zR G p l e (zrm 2) s m args below meth c 5 0 0 (zQm below args s G 294 ztt (some (.int (zI res.1))) res.2) 294 ztt res σ (R0 o0 x2 x3 x4 σ) [(0, .ref (zad G o0)), (2, .int (zI x2)), (3, .int (zI x3)), (4, .int (zI x4))] 10 [] := by rw [hR0]; exact ih
    clear hR0
    refine zr_iload C 3 eX3_takeOverturned_10 rfl ?_
    refine zr_aloadn C 0 eX3_takeOverturned_12 rfl ?_
    refine zr_getR C ff_X3_21 rfl h0 rfl ((zk_3_1 h0).1) eX3_takeOverturned_13 ?_
    refine zr_alen (A := ((zLN (o0 + 2) : Nat) : Int)) C ((zk_3_1 h0).2) (by decide) rfl rfl eX3_takeOverturned_16 ?_
    refine zr_icmp_ge C eX3_takeOverturned_17 n4 (zw_LN _) ?_ ?_
    · refine zr_iloadn C 2 eX3_takeOverturned_75 rfl ?_
      exact zr_zretg C eX3_takeOverturned_76
    refine zr_aloadn C 0 eX3_takeOverturned_20 rfl ?_
    refine zr_getR C ff_X3_21 rfl h0 rfl ((zk_3_1 h0).1) eX3_takeOverturned_21 ?_
    refine zr_iload C 3 eX3_takeOverturned_24 rfl ?_
    refine zr_iald C ((zk_3_1 h0).2) rfl n4 eX3_takeOverturned_26 (fun v2 nv2 => ?_)
    refine zr_if_eq C eX3_takeOverturned_27 nv2 ?_ ?_
    · refine zr_iinc (lv' := [(4, .int (zI (x4 + 1))), (0, .ref (zad G o0)), (2, .int (zI x2)), (3, .int (zI x3))]) C 3 eX3_takeOverturned_69 rfl (by decide) rfl ?_
      refine zr_goto C eX3_takeOverturned_72 ?_
      refine zr_lv [1, 2, 3, 0] rfl ?_
      exact zr_lve (zs_p (zs_p (zs_p (zs_pi (zI_w (x4 + 1)).symm rfl)))) (ih o0 x2 x3 (zw (x4 + 1)) h0 n2 n3 (zw_w (x4 + 1)) _)
    refine zr_aloadn C 0 eX3_takeOverturned_30 rfl ?_
    refine zr_getR C ff_X3_15 rfl h0 rfl ((zk_3_0 h0).1) eX3_takeOverturned_31 ?_
    refine zr_iload C 3 eX3_takeOverturned_34 rfl ?_
    refine zr_iloadn C 1 eX3_takeOverturned_36 rfl ?_
    refine zr_aloadn C 0 eX3_takeOverturned_37 rfl ?_
    refine zr_getR C ff_X3_15 rfl h0 rfl ((zk_3_0 h0).1) eX3_takeOverturned_38 ?_
    refine zr_iload C 3 eX3_takeOverturned_41 rfl ?_
    refine zr_iald C ((zk_3_0 h0).2) rfl n4 eX3_takeOverturned_43 (fun v3 nv3 => ?_)
    refine zr_isub C eX3_takeOverturned_44 ?_
    refine zr_iast C ((zk_3_0 h0).2) rfl n4 eX3_takeOverturned_45 (fun σ4 => ?_)
    refine zr_iloadn C 2 eX3_takeOverturned_46 rfl ?_
    refine zr_if_eq C eX3_takeOverturned_47 n3 ?_ ?_
    · refine zr_iconst C eX3_takeOverturned_67 rfl ?_
      refine zr_istoren (lv' := [(3, .int (zI 0)), (0, .ref (zad G o0)), (2, .int (zI x2)), (4, .int (zI x4))]) C eX3_takeOverturned_68 (by decide) rfl ?_
      refine zr_iinc (lv' := [(4, .int (zI (x4 + 1))), (3, .int (zI 0)), (0, .ref (zad G o0)), (2, .int (zI x2))]) C 3 eX3_takeOverturned_69 rfl (by decide) rfl ?_
      refine zr_goto C eX3_takeOverturned_72 ?_
      refine zr_lv [2, 3, 1, 0] rfl ?_
      exact zr_lve (zs_p (zs_p (zs_p (zs_pi (zI_w (x4 + 1)).symm rfl)))) (ih o0 x2 0 (zw (x4 + 1)) h0 n2 w_0 (zw_w (x4 + 1)) _)
    refine zr_aloadn C 0 eX3_takeOverturned_50 rfl ?_
    refine zr_getR C ff_X3_15 rfl h0 rfl ((zk_3_0 h0).1) eX3_takeOverturned_51 ?_
    refine zr_iload C 3 eX3_takeOverturned_54 rfl ?_
    refine zr_iald C ((zk_3_0 h0).2) rfl n4 eX3_takeOverturned_56 (fun v5 nv5 => ?_)
    refine zr_callSi C [.int (zI v5)] zy_X9_isPitch zs_X9_isPitch lk_X3_45 zrm_2_1_1 (fun r hr => zqX_isPitch l G σ4 v5 nv5 r hr) rfl rfl (Nat.le_of_ble_eq_true rfl) eX3_takeOverturned_57 (fun v7 nv7 σ6 => ?_)
    refine zr_if_eq C eX3_takeOverturned_60 nv7 ?_ ?_
    · refine zr_iconst C eX3_takeOverturned_67 rfl ?_
      refine zr_istoren (lv' := [(3, .int (zI 0)), (0, .ref (zad G o0)), (2, .int (zI x2)), (4, .int (zI x4))]) C eX3_takeOverturned_68 (by decide) rfl ?_
      refine zr_iinc (lv' := [(4, .int (zI (x4 + 1))), (3, .int (zI 0)), (0, .ref (zad G o0)), (2, .int (zI x2))]) C 3 eX3_takeOverturned_69 rfl (by decide) rfl ?_
      refine zr_goto C eX3_takeOverturned_72 ?_
      refine zr_lv [2, 3, 1, 0] rfl ?_
      exact zr_lve (zs_p (zs_p (zs_p (zs_pi (zI_w (x4 + 1)).symm rfl)))) (ih o0 x2 0 (zw (x4 + 1)) h0 n2 w_0 (zw_w (x4 + 1)) _)
    refine zr_iconst C eX3_takeOverturned_63 rfl ?_
    refine zr_goto C eX3_takeOverturned_64 ?_
    refine zr_istoren (lv' := [(3, .int (zI 1)), (0, .ref (zad G o0)), (2, .int (zI x2)), (4, .int (zI x4))]) C eX3_takeOverturned_68 (by decide) rfl ?_
    refine zr_iinc (lv' := [(4, .int (zI (x4 + 1))), (3, .int (zI 1)), (0, .ref (zad G o0)), (2, .int (zI x2))]) C 3 eX3_takeOverturned_69 rfl (by decide) rfl ?_
    refine zr_goto C eX3_takeOverturned_72 ?_
    refine zr_lv [2, 3, 1, 0] rfl ?_
    exact zr_lve (zs_p (zs_p (zs_p (zs_pi (zI_w (x4 + 1)).symm rfl)))) (ih o0 x2 1 (zw (x4 + 1)) h0 n2 w_1 (zw_w (x4 + 1)) _)
theorem zqL_takeOverturned (l : Launch) (G : Zg) (σ : Zm) (o0 : Nat) (o1 : Nat) (x2 : Int) (h0 : zin 294 o0 3) (h1 : zin 294 o1 3) (n2 : zw x2 = x2) (res : Int × Zm) (he : fL_takeOverturned σ o0 o1 x2 = some res) : zM l yX3_takeOverturned cX3_takeOverturned 5 (some .boolean) 2 G 294 ztt σ [.ref (zad G o0), .ref (zad G o1), .int (zI x2)] (some (.int (zI res.1))) res.2 := by
  refine zM_of he (by decide +kernel) (Nat.le_of_ble_eq_true rfl) (lv := [(0, .ref (zad G o0)), (1, .ref (zad G o1)), (2, .int (zI x2))]) rfl (fun p e s m below meth c C => ?_)
  unfold fL_takeOverturned
  refine zr_aloadn C 0 eX3_takeOverturned_0 rfl ?_
  refine zr_aloadn C 1 eX3_takeOverturned_1 rfl ?_
  refine zr_callVv C [.ref (zad G o1)] zy_X3_take zv_X3_take lk_X3_41 zrm_2_3_1 h0 (by decide) rfl (fun r hr => zqL_take l G σ o0 o1 h0 h1 r hr) rfl rfl (Nat.le_of_ble_eq_true rfl) eX3_takeOverturned_2 (fun σ1 => ?_)
  refine zr_iconst C eX3_takeOverturned_5 rfl ?_
  refine zr_istoren (lv' := [(3, .int (zI 1)), (0, .ref (zad G o0)), (1, .ref (zad G o1)), (2, .int (zI x2))]) C eX3_takeOverturned_6 (by decide) rfl ?_
  refine zr_iconst C eX3_takeOverturned_7 rfl ?_
  refine zr_istore (lv' := [(4, .int (zI 0)), (3, .int (zI 1)), (0, .ref (zad G o0)), (1, .ref (zad G o1)), (2, .int (zI x2))]) C eX3_takeOverturned_8 (by decide) rfl ?_
  refine zr_lv [2, 4, 1, 0] rfl ?_
  refine wL_takeOverturned_10 C 5000 o0 x2 1 0 h0 n2 w_1 w_0 σ1
theorem wL_takeForm_143 {G : Zg} {p : Program} {l : Launch} {e : Env} {s : State} {m : MethodId} {args : Array Value} {below : List Frame} {meth : Method} {c : Code} (C : zC G p s m args meth c cX3_takeForm 10 RX3 none) {res : Int × Zm} (R0 : Nat → Nat → Int → Int → Int → Int → Int → Int → Zm → Zr) (K168 : Nat → Nat → Int → Int → Int → Int → Int → Zm → Zr) (ih : ∀ (o0 : Nat) (o1 : Nat) (x3 : Int) (x4 : Int) (x5 : Int) (x6 : Int) (x7 : Int) (x8 : Int) (h0 : zin 294 o0 3) (h1 : zin 294 o1 3) (n3 : zw x3 = x3) (n4 : zw x4 = x4) (n5 : zw x5 = x5) (n6 : zw x6 = x6) (n7 : zw x7 = x7) (n8 : zw x8 = x8) (σ : Zm), zR G p l e (zrm 1) s m args below meth c 10 0 0 (zQm below args s G 294 ztt none res.2) 294 ztt res σ (R0 o0 o1 x3 x4 x5 x6 x7 x8 σ) [(0, .ref (zad G o0)), (1, .ref (zad G o1)), (3, .int (zI x3)), (4, .int (zI x4)), (5, .int (zI x5)), (6, .int (zI x6)), (7, .int (zI x7)), (8, .int (zI x8))] 84 []) (hK168 : ∀ (o0 : Nat) (o1 : Nat) (x3 : Int) (x4 : Int) (x5 : Int) (x6 : Int) (x7 : Int) (h0 : zin 294 o0 3) (h1 : zin 294 o1 3) (n3 : zw x3 = x3) (n4 : zw x4 = x4) (n5 : zw x5 = x5) (n6 : zw x6 = x6) (n7 : zw x7 = x7) (σ : Zm), zR G p l e (zrm 1) s m args below meth c 10 0 0 (zQm below args s G 294 ztt none res.2) 294 ztt res σ (K168 o0 o1 x3 x4 x5 x6 x7 σ) [(0, .ref (zad G o0)), (1, .ref (zad G o1)), (3, .int (zI x3)), (4, .int (zI x4)), (5, .int (zI x5)), (6, .int (zI x6)), (7, .int (zI x7))] 168 []) (o0 : Nat) (o1 : Nat) (x3 : Int) (x4 : Int) (x5 : Int) (x6 : Int) (x7 : Int) (x8 : Int) (x9 : Int) (h0 : zin 294 o0 3) (h1 : zin 294 o1 3) (n3 : zw x3 = x3) (n4 : zw x4 = x4) (n5 : zw x5 = x5) (n6 : zw x6 = x6) (n7 : zw x7 = x7) (n8 : zw x8 = x8) (n9 : zw x9 = x9) (σ : Zm) : zR G p l e (zrm 1) s m args below meth c 10 0 0 (zQm below args s G 294 ztt none res.2) 294 ztt res σ (fL_takeForm_143 R0 K168 o0 o1 x3 x4 x5 x6 x7 x8 x9 σ) [(0, .ref (zad G o0)), (1, .ref (zad G o1)), (3, .int (zI x3)), (4, .int (zI x4)), (5, .int (zI x5)), (6, .int (zI x6)), (7, .int (zI x7)), (8, .int (zI x8)), (9, .int (zI x9))] 143 [] := by
  unfold fL_takeForm_143
  refine zr_aloadn C 0 eX3_takeForm_143 rfl ?_
  refine zr_getR C ff_X3_15 rfl h0 rfl ((zk_3_0 h0).1) eX3_takeForm_144 ?_
  refine zr_iload C 8 eX3_takeForm_147 rfl ?_
  refine zr_iloadn C 2 eX3_takeForm_149 rfl ?_
  refine zr_iload C 4 eX3_takeForm_150 rfl ?_
  refine zr_aloadn C 1 eX3_takeForm_152 rfl ?_
  refine zr_getR C ff_X3_15 rfl h1 rfl ((zk_3_0 h1).1) eX3_takeForm_153 ?_
  refine zr_iload C 6 eX3_takeForm_156 rfl ?_
  refine zr_iald C ((zk_3_0 h1).2) rfl n7 eX3_takeForm_158 (fun v10 nv10 => ?_)
  refine zr_imul C eX3_takeForm_159 ?_
  refine zr_iadd C eX3_takeForm_160 ?_
  refine zr_iast C ((zk_3_0 h0).2) rfl n9 eX3_takeForm_161 (fun σ11 => ?_)
  refine zr_iinc (lv' := [(8, .int (zI (x8 + 1))), (0, .ref (zad G o0)), (1, .ref (zad G o1)), (3, .int (zI x3)), (4, .int (zI x4)), (5, .int (zI x5)), (6, .int (zI x6)), (7, .int (zI x7)), (9, .int (zI x9))]) C 7 eX3_takeForm_162 rfl (by decide) rfl ?_
  refine zr_goto C eX3_takeForm_165 ?_
  refine zr_lv [1, 2, 3, 4, 5, 6, 7, 0] rfl ?_
  exact zr_lve (zs_p (zs_p (zs_p (zs_p (zs_p (zs_p (zs_p (zs_pi (zI_w (x8 + 1)).symm rfl)))))))) (ih o0 o1 x3 x4 x5 x6 x7 (zw (x8 + 1)) h0 h1 n3 n4 n5 n6 n7 (zw_w (x8 + 1)) _)
theorem wL_takeForm_84 {G : Zg} {p : Program} {l : Launch} {e : Env} {s : State} {m : MethodId} {args : Array Value} {below : List Frame} {meth : Method} {c : Code} (C : zC G p s m args meth c cX3_takeForm 10 RX3 none) {res : Int × Zm} (K168 : Nat → Nat → Int → Int → Int → Int → Int → Zm → Zr) (hK168 : ∀ (o0 : Nat) (o1 : Nat) (x3 : Int) (x4 : Int) (x5 : Int) (x6 : Int) (x7 : Int) (h0 : zin 294 o0 3) (h1 : zin 294 o1 3) (n3 : zw x3 = x3) (n4 : zw x4 = x4) (n5 : zw x5 = x5) (n6 : zw x6 = x6) (n7 : zw x7 = x7) (σ : Zm), zR G p l e (zrm 1) s m args below meth c 10 0 0 (zQm below args s G 294 ztt none res.2) 294 ztt res σ (K168 o0 o1 x3 x4 x5 x6 x7 σ) [(0, .ref (zad G o0)), (1, .ref (zad G o1)), (3, .int (zI x3)), (4, .int (zI x4)), (5, .int (zI x5)), (6, .int (zI x6)), (7, .int (zI x7))] 168 []) : ∀ (n : Nat) (o0 : Nat) (o1 : Nat) (x3 : Int) (x4 : Int) (x5 : Int) (x6 : Int) (x7 : Int) (x8 : Int) (h0 : zin 294 o0 3) (h1 : zin 294 o1 3) (n3 : zw x3 = x3) (n4 : zw x4 = x4) (n5 : zw x5 = x5) (n6 : zw x6 = x6) (n7 : zw x7 = x7) (n8 : zw x8 = x8) (σ : Zm), zR G p l e (zrm 1) s m args below meth c 10 0 0 (zQm below args s G 294 ztt none res.2) 294 ztt res σ (fL_takeForm_84 n o0 o1 x3 x4 x5 x6 x7 x8 σ K168) [(0, .ref (zad G o0)), (1, .ref (zad G o1)), (3, .int (zI x3)), (4, .int (zI x4)), (5, .int (zI x5)), (6, .int (zI x6)), (7, .int (zI x7)), (8, .int (zI x8))] 84 []
  | 0, _, _, _, _, _, _, _, _, _, _, _, _, _, _, _, _, _ => zr_none
  | n + 1, o0, o1, x3, x4, x5, x6, x7, x8, h0, h1, n3, n4, n5, n6, n7, n8, σ => by
    have ih := fun (o0 : Nat) (o1 : Nat) (x3 : Int) (x4 : Int) (x5 : Int) (x6 : Int) (x7 : Int) (x8 : Int) (h0 : zin 294 o0 3) (h1 : zin 294 o1 3) (n3 : zw x3 = x3) (n4 : zw x4 = x4) (n5 : zw x5 = x5) (n6 : zw x6 = x6) (n7 : zw x7 = x7) (n8 : zw x8 = x8) (σ : Zm) => wL_takeForm_84 (l := l) (e := e) (below := below) C K168 hK168 (res := res) n o0 o1 x3 x4 x5 x6 x7 x8 h0 h1 n3 n4 n5 n6 n7 n8 σ
    rw [fL_takeForm_84]
    refine zr_letf (fun R0 hR0 => ?_)
    have ih : ∀ (o0 : Nat) (o1 : Nat) (x3 : Int) (x4 : Int) (x5 : Int) (x6 : Int) (x7 : Int) (x8 : Int) (h0 : zin 294 o0 3) (h1 : zin 294 o1 3) (n3 : zw x3 = x3) (n4 : zw x4 = x4) (n5 : zw x5 = x5) (n6 : zw x6 = x6) (n7 : zw x7 = x7) (n8 : zw x8 = x8) (σ : Zm), zR G p l e (zrm 1) s m args below meth c 10 0 0 (zQm below args s G 294 ztt none res.2) 294 ztt res σ (R0 o0 o1 x3 x4 x5 x6 x7 x8 σ) [(0, .ref (zad G o0)), (1, .ref (zad G o1)), (3, .int (zI x3)), (4, .int (zI x4)), (5, .int (zI x5)), (6, .int (zI x6)), (7, .int (zI x7)), (8, .int (zI x8))] 84 [] := by rw [hR0]; exact ih
    clear hR0
    refine zr_iload C 7 eX3_takeForm_84 rfl ?_
    refine zr_iload C 5 eX3_takeForm_86 rfl ?_
    refine zr_icmp_ge C eX3_takeForm_88 n8 n6 ?_ ?_
    · refine zr_lv [0, 1, 2, 3, 4, 5, 6] rfl ?_
      exact hK168 o0 o1 x3 x4 x5 x6 x7 h0 h1 n3 n4 n5 n6 n7 _
    refine zr_iload C 3 eX3_takeForm_91 rfl ?_
    refine zr_iload C 5 eX3_takeForm_93 rfl ?_
    refine zr_iload C 6 eX3_takeForm_95 rfl ?_
    refine zr_imul C eX3_takeForm_97 ?_
    refine zr_iadd C eX3_takeForm_98 ?_
    refine zr_iload C 7 eX3_takeForm_99 rfl ?_
    refine zr_iadd C eX3_takeForm_101 ?_
    refine zr_st (show _ = .int (zI (zw ((x4 + (x6 * x7)) + x8))) :: _ from congrArg (· :: _) (congrArg Value.int (zI_w ((x4 + (x6 * x7)) + x8)).symm)) ?_
    refine zr_letw (P := fun z => .int (zI z) :: _) (zw_w ((x4 + (x6 * x7)) + x8)) (fun v6 nv6 => ?_)
    refine zr_istore (lv' := [(9, .int (zI v6)), (0, .ref (zad G o0)), (1, .ref (zad G o1)), (3, .int (zI x3)), (4, .int (zI x4)), (5, .int (zI x5)), (6, .int (zI x6)), (7, .int (zI x7)), (8, .int (zI x8))]) C eX3_takeForm_102 (by decide) rfl ?_
    refine zr_iload C 0 eX3_takeForm_104 rfl ?_
    refine zr_iconst C eX3_takeForm_106 rfl ?_
    refine zr_aloadn C 1 eX3_takeForm_107 rfl ?_
    refine zr_getR C ff_X3_21 rfl h0 rfl ((zk_3_1 h0).1) eX3_takeForm_108 ?_
    refine zr_alen (A := ((zLN (o0 + 2) : Nat) : Int)) C ((zk_3_1 h0).2) (by decide) rfl rfl eX3_takeForm_111 ?_
    refine zr_iconst C eX3_takeForm_112 rfl ?_
    refine zr_isub C eX3_takeForm_113 ?_
    refine zr_callSi C [.int (zI v6), .int (zI 0), .int (zI (zw (((zLN (o0 + 2) : Nat) : Int) - 1)))] zy_X9_within zs_X9_within lk_X3_28 zrm_1_3_0 (fun r hr => zqX_within l G σ v6 0 (zw (((zLN (o0 + 2) : Nat) : Int) - 1)) nv6 w_0 (zw_w (((zLN (o0 + 2) : Nat) : Int) - 1)) r hr) rfl (zs_i (zI_w (((zLN (o0 + 2) : Nat) : Int) - 1)).symm (zs_k (zs_k rfl))) (Nat.le_of_ble_eq_true rfl) eX3_takeForm_114 (fun v8 nv8 σ7 => ?_)
    refine zr_if_eq C eX3_takeForm_117 nv8 ?_ ?_
    · refine zr_iinc (lv' := [(8, .int (zI (x8 + 1))), (9, .int (zI v6)), (0, .ref (zad G o0)), (1, .ref (zad G o1)), (3, .int (zI x3)), (4, .int (zI x4)), (5, .int (zI x5)), (6, .int (zI x6)), (7, .int (zI x7))]) C 8 eX3_takeForm_162 rfl (by decide) rfl ?_
      refine zr_goto C eX3_takeForm_165 ?_
      refine zr_lv [2, 3, 4, 5, 6, 7, 8, 0] rfl ?_
      exact zr_lve (zs_p (zs_p (zs_p (zs_p (zs_p (zs_p (zs_p (zs_pi (zI_w (x8 + 1)).symm rfl)))))))) (ih o0 o1 x3 x4 x5 x6 x7 (zw (x8 + 1)) h0 h1 n3 n4 n5 n6 n7 (zw_w (x8 + 1)) _)
    refine zr_aloadn C 1 eX3_takeForm_120 rfl ?_
    refine zr_getR C ff_X3_21 rfl h0 rfl ((zk_3_1 h0).1) eX3_takeForm_121 ?_
    refine zr_iload C 0 eX3_takeForm_124 rfl ?_
    refine zr_iload C 8 eX3_takeForm_126 rfl ?_
    refine zr_if_ne C eX3_takeForm_128 n8 ?_ ?_
    · refine zr_iconst C eX3_takeForm_141 rfl ?_
      refine zr_iast C ((zk_3_1 h0).2) rfl nv6 eX3_takeForm_142 (fun σ9 => ?_)
      refine zr_lv [1, 2, 3, 4, 5, 6, 7, 8, 0] rfl ?_
      exact wL_takeForm_143 C R0 K168 ih hK168 o0 o1 x3 x4 x5 x6 x7 x8 v6 h0 h1 n3 n4 n5 n6 n7 n8 nv6 σ9
    refine zr_aloadn C 2 eX3_takeForm_131 rfl ?_
    refine zr_getR C ff_X3_21 rfl h1 rfl ((zk_3_1 h1).1) eX3_takeForm_132 ?_
    refine zr_iload C 7 eX3_takeForm_135 rfl ?_
    refine zr_iald C ((zk_3_1 h1).2) rfl n7 eX3_takeForm_137 (fun v12 nv12 => ?_)
    refine zr_goto C eX3_takeForm_138 ?_
    refine zr_iast C ((zk_3_1 h0).2) rfl nv6 eX3_takeForm_142 (fun σ13 => ?_)
    refine zr_lv [1, 2, 3, 4, 5, 6, 7, 8, 0] rfl ?_
    exact wL_takeForm_143 C R0 K168 ih hK168 o0 o1 x3 x4 x5 x6 x7 x8 v6 h0 h1 n3 n4 n5 n6 n7 n8 nv6 σ13
theorem wL_takeForm_58 {G : Zg} {p : Program} {l : Launch} {e : Env} {s : State} {m : MethodId} {args : Array Value} {below : List Frame} {meth : Method} {c : Code} (C : zC G p s m args meth c cX3_takeForm 10 RX3 none) {res : Int × Zm} : ∀ (n : Nat) (o0 : Nat) (o1 : Nat) (x3 : Int) (x4 : Int) (x5 : Int) (x6 : Int) (x7 : Int) (h0 : zin 294 o0 3) (h1 : zin 294 o1 3) (n3 : zw x3 = x3) (n4 : zw x4 = x4) (n5 : zw x5 = x5) (n6 : zw x6 = x6) (n7 : zw x7 = x7) (σ : Zm), zR G p l e (zrm 1) s m args below meth c 10 0 0 (zQm below args s G 294 ztt none res.2) 294 ztt res σ (fL_takeForm_58 n o0 o1 x3 x4 x5 x6 x7 σ) [(0, .ref (zad G o0)), (1, .ref (zad G o1)), (3, .int (zI x3)), (4, .int (zI x4)), (5, .int (zI x5)), (6, .int (zI x6)), (7, .int (zI x7))] 58 []
  | 0, _, _, _, _, _, _, _, _, _, _, _, _, _, _, _ => zr_none
  | n + 1, o0, o1, x3, x4, x5, x6, x7, h0, h1, n3, n4, n5, n6, n7, σ => by
    have ih := fun (o0 : Nat) (o1 : Nat) (x3 : Int) (x4 : Int) (x5 : Int) (x6 : Int) (x7 : Int) (h0 : zin 294 o0 3) (h1 : zin 294 o1 3) (n3 : zw x3 = x3) (n4 : zw x4 = x4) (n5 : zw x5 = x5) (n6 : zw x6 = x6) (n7 : zw x7 = x7) (σ : Zm) => wL_takeForm_58 (l := l) (e := e) (below := below) C (res := res) n o0 o1 x3 x4 x5 x6 x7 h0 h1 n3 n4 n5 n6 n7 σ
    rw [fL_takeForm_58]
    refine zr_letf (fun R0 hR0 => ?_)
    have ih : ∀ (o0 : Nat) (o1 : Nat) (x3 : Int) (x4 : Int) (x5 : Int) (x6 : Int) (x7 : Int) (h0 : zin 294 o0 3) (h1 : zin 294 o1 3) (n3 : zw x3 = x3) (n4 : zw x4 = x4) (n5 : zw x5 = x5) (n6 : zw x6 = x6) (n7 : zw x7 = x7) (σ : Zm), zR G p l e (zrm 1) s m args below meth c 10 0 0 (zQm below args s G 294 ztt none res.2) 294 ztt res σ (R0 o0 o1 x3 x4 x5 x6 x7 σ) [(0, .ref (zad G o0)), (1, .ref (zad G o1)), (3, .int (zI x3)), (4, .int (zI x4)), (5, .int (zI x5)), (6, .int (zI x6)), (7, .int (zI x7))] 58 [] := by rw [hR0]; exact ih
    clear hR0
    refine zr_iload C 6 eX3_takeForm_58 rfl ?_
    refine zr_aloadn C 1 eX3_takeForm_60 rfl ?_
    refine zr_getR C ff_X3_21 rfl h1 rfl ((zk_3_1 h1).1) eX3_takeForm_61 ?_
    refine zr_alen (A := ((zLN (o1 + 2) : Nat) : Int)) C ((zk_3_1 h1).2) (by decide) rfl rfl eX3_takeForm_64 ?_
    refine zr_icmp_ge C eX3_takeForm_65 n7 (zw_LN _) ?_ ?_
    · exact zr_vret C eX3_takeForm_174
    refine zr_aloadn C 1 eX3_takeForm_68 rfl ?_
    refine zr_getR C ff_X3_21 rfl h1 rfl ((zk_3_1 h1).1) eX3_takeForm_69 ?_
    refine zr_iload C 6 eX3_takeForm_72 rfl ?_
    refine zr_iald C ((zk_3_1 h1).2) rfl n7 eX3_takeForm_74 (fun v5 nv5 => ?_)
    refine zr_if_ne C eX3_takeForm_75 nv5 ?_ ?_
    · refine zr_iconst C eX3_takeForm_81 rfl ?_
      refine zr_istore (lv' := [(8, .int (zI 0)), (0, .ref (zad G o0)), (1, .ref (zad G o1)), (3, .int (zI x3)), (4, .int (zI x4)), (5, .int (zI x5)), (6, .int (zI x6)), (7, .int (zI x7))]) C eX3_takeForm_82 (by decide) rfl ?_
      refine zr_lv [1, 2, 3, 4, 5, 6, 7, 0] rfl ?_
      refine wL_takeForm_84 C _ ?_ 5000 o0 o1 x3 x4 x5 x6 x7 0 h0 h1 n3 n4 n5 n6 n7 w_0 σ
      intro o15 o16 y17 y18 y19 y20 y21 ho15 ho16 ny17 ny18 ny19 ny20 ny21 σ14
      refine zr_iinc (lv' := [(7, .int (zI (y21 + 1))), (0, .ref (zad G o15)), (1, .ref (zad G o16)), (3, .int (zI y17)), (4, .int (zI y18)), (5, .int (zI y19)), (6, .int (zI y20))]) C 6 eX3_takeForm_168 rfl (by decide) rfl ?_
      refine zr_goto C eX3_takeForm_171 ?_
      refine zr_lv [1, 2, 3, 4, 5, 6, 0] rfl ?_
      exact zr_lve (zs_p (zs_p (zs_p (zs_p (zs_p (zs_p (zs_pi (zI_w (y21 + 1)).symm rfl))))))) (ih o15 o16 y17 y18 y19 y20 (zw (y21 + 1)) ho15 ho16 ny17 ny18 ny19 ny20 (zw_w (y21 + 1)) _)
    refine zr_goto C eX3_takeForm_78 ?_
    refine zr_iinc (lv' := [(7, .int (zI (x7 + 1))), (0, .ref (zad G o0)), (1, .ref (zad G o1)), (3, .int (zI x3)), (4, .int (zI x4)), (5, .int (zI x5)), (6, .int (zI x6))]) C 6 eX3_takeForm_168 rfl (by decide) rfl ?_
    refine zr_goto C eX3_takeForm_171 ?_
    refine zr_lv [1, 2, 3, 4, 5, 6, 0] rfl ?_
    exact zr_lve (zs_p (zs_p (zs_p (zs_p (zs_p (zs_p (zs_pi (zI_w (x7 + 1)).symm rfl))))))) (ih o0 o1 x3 x4 x5 x6 (zw (x7 + 1)) h0 h1 n3 n4 n5 n6 (zw_w (x7 + 1)) _)
theorem wL_takeForm_38 {G : Zg} {p : Program} {l : Launch} {e : Env} {s : State} {m : MethodId} {args : Array Value} {below : List Frame} {meth : Method} {c : Code} (C : zC G p s m args meth c cX3_takeForm 10 RX3 none) {res : Int × Zm} (o0 : Nat) (o1 : Nat) (x2 : Int) (x3 : Int) (x4 : Int) (x5 : Int) (h0 : zin 294 o0 3) (h1 : zin 294 o1 3) (n2 : zw x2 = x2) (n3 : zw x3 = x3) (n4 : zw x4 = x4) (n5 : zw x5 = x5) (σ : Zm) : zR G p l e (zrm 1) s m args below meth c 10 0 0 (zQm below args s G 294 ztt none res.2) 294 ztt res σ (fL_takeForm_38 o0 o1 x2 x3 x4 x5 σ) [(0, .ref (zad G o0)), (1, .ref (zad G o1)), (2, .int (zI x2)), (3, .int (zI x3)), (4, .int (zI x4)), (5, .int (zI x5))] 38 [] := by
  unfold fL_takeForm_38
  refine zr_iconst C eX3_takeForm_38 rfl ?_
  refine zr_iloadn C 2 eX3_takeForm_39 rfl ?_
  refine zr_sipush (a := 450) C eX3_takeForm_40 rfl ?_
  refine zr_idivc C eX3_takeForm_43 n2 w_450 (by decide) ?_
  refine zr_iadd C eX3_takeForm_44 ?_
  refine zr_st (show _ = .int (zI (zw (1 + (Int.tdiv x2 450)))) :: _ from congrArg (· :: _) (congrArg Value.int (zI_w (1 + (Int.tdiv x2 450))).symm)) ?_
  refine zr_letw (P := fun z => .int (zI z) :: _) (zw_w (1 + (Int.tdiv x2 450))) (fun v3 nv3 => ?_)
  refine zr_istore (lv' := [(6, .int (zI v3)), (0, .ref (zad G o0)), (1, .ref (zad G o1)), (2, .int (zI x2)), (3, .int (zI x3)), (4, .int (zI x4)), (5, .int (zI x5))]) C eX3_takeForm_45 (by decide) rfl ?_
  refine zr_aloadn C 1 eX3_takeForm_47 rfl ?_
  refine zr_getR C ff_X3_21 rfl h0 rfl ((zk_3_1 h0).1) eX3_takeForm_48 ?_
  refine zr_iconst C eX3_takeForm_51 rfl ?_
  refine zr_callSv C [.ref (zad G (o0 + 2)), .int (zI 0)] zy_J7_fill_53178 zs_J7_fill_53178 lk_X3_49 zrm_1_4_0 (fun r hr => qJ7_fill_53178 l G σ (o0 + 2) 0 ((zk_3_1 h0).2) w_0 r hr) rfl rfl (Nat.le_of_ble_eq_true rfl) eX3_takeForm_52 (fun σ4 => ?_)
  refine zr_iconst C eX3_takeForm_55 rfl ?_
  refine zr_istore (lv' := [(7, .int (zI 0)), (6, .int (zI v3)), (0, .ref (zad G o0)), (1, .ref (zad G o1)), (2, .int (zI x2)), (3, .int (zI x3)), (4, .int (zI x4)), (5, .int (zI x5))]) C eX3_takeForm_56 (by decide) rfl ?_
  refine zr_lv [2, 3, 5, 6, 7, 1, 0] rfl ?_
  refine wL_takeForm_58 C 5000 o0 o1 x3 x4 x5 v3 0 h0 h1 n3 n4 n5 nv3 w_0 σ4
theorem zqL_takeForm (l : Launch) (G : Zg) (σ : Zm) (o0 : Nat) (o1 : Nat) (x2 : Int) (h0 : zin 294 o0 3) (h1 : zin 294 o1 3) (n2 : zw x2 = x2) (res : Int × Zm) (he : fL_takeForm σ o0 o1 x2 = some res) : zM l yX3_takeForm cX3_takeForm 10 none 1 G 294 ztt σ [.ref (zad G o0), .ref (zad G o1), .int (zI x2)] none res.2 := by
  refine zM_of he (by decide +kernel) (Nat.le_of_ble_eq_true rfl) (lv := [(0, .ref (zad G o0)), (1, .ref (zad G o1)), (2, .int (zI x2))]) rfl (fun p e s m below meth c C => ?_)
  unfold fL_takeForm
  refine zr_bipush (a := 30) C eX3_takeForm_0 rfl ?_
  refine zr_iloadn C 2 eX3_takeForm_2 rfl ?_
  refine zr_bipush (a := 25) C eX3_takeForm_3 rfl ?_
  refine zr_iremc C eX3_takeForm_5 n2 w_25 (by decide) ?_
  refine zr_iadd C eX3_takeForm_6 ?_
  refine zr_bipush (a := 12) C eX3_takeForm_7 rfl ?_
  refine zr_isub C eX3_takeForm_9 ?_
  refine zr_st (show _ = .int (zI (zw ((30 + (Int.tmod x2 25)) - 12))) :: _ from congrArg (· :: _) (congrArg Value.int (zI_w ((30 + (Int.tmod x2 25)) - 12)).symm)) ?_
  refine zr_letw (P := fun z => .int (zI z) :: _) (zw_w ((30 + (Int.tmod x2 25)) - 12)) (fun v1 nv1 => ?_)
  refine zr_istoren (lv' := [(3, .int (zI v1)), (0, .ref (zad G o0)), (1, .ref (zad G o1)), (2, .int (zI x2))]) C eX3_takeForm_10 (by decide) rfl ?_
  refine zr_iloadn C 3 eX3_takeForm_11 rfl ?_
  refine zr_bipush (a := 25) C eX3_takeForm_12 rfl ?_
  refine zr_idivc C eX3_takeForm_14 n2 w_25 (by decide) ?_
  refine zr_bipush (a := 9) C eX3_takeForm_15 rfl ?_
  refine zr_iremc C eX3_takeForm_17 rfl w_9 (by decide) ?_
  refine zr_st (show _ = .int (zI (zw (Int.tmod (zw (Int.tdiv x2 25)) 9))) :: _ from congrArg (· :: _) (congrArg Value.int (zI_w (Int.tmod (zw (Int.tdiv x2 25)) 9)).symm)) ?_
  refine zr_letw (P := fun z => .int (zI z) :: _) (zw_w (Int.tmod (zw (Int.tdiv x2 25)) 9)) (fun v2 nv2 => ?_)
  refine zr_istore (lv' := [(4, .int (zI v2)), (3, .int (zI v1)), (0, .ref (zad G o0)), (1, .ref (zad G o1)), (2, .int (zI x2))]) C eX3_takeForm_18 (by decide) rfl ?_
  refine zr_iloadn C 4 eX3_takeForm_20 rfl ?_
  refine zr_sipush (a := 225) C eX3_takeForm_21 rfl ?_
  refine zr_idivc C eX3_takeForm_24 n2 w_225 (by decide) ?_
  refine zr_iconst C eX3_takeForm_25 rfl ?_
  refine zr_iremc C eX3_takeForm_26 rfl w_2 (by decide) ?_
  refine zr_iconst C eX3_takeForm_27 rfl ?_
  refine zr_icmp_ne C eX3_takeForm_28 rfl w_1 ?_ ?_
  · refine zr_iconst C eX3_takeForm_35 rfl ?_
    refine zr_istore (lv' := [(5, .int (zI 1)), (4, .int (zI v2)), (3, .int (zI v1)), (0, .ref (zad G o0)), (1, .ref (zad G o1)), (2, .int (zI x2))]) C eX3_takeForm_36 (by decide) rfl ?_
    refine zr_lv [3, 4, 5, 2, 1, 0] rfl ?_
    exact wL_takeForm_38 C o0 o1 x2 v1 v2 1 h0 h1 n2 nv1 nv2 w_1 σ
  refine zr_iconst C eX3_takeForm_31 rfl ?_
  refine zr_goto C eX3_takeForm_32 ?_
  refine zr_istore (lv' := [(5, .int (zI (-1))), (4, .int (zI v2)), (3, .int (zI v1)), (0, .ref (zad G o0)), (1, .ref (zad G o1)), (2, .int (zI x2))]) C eX3_takeForm_36 (by decide) rfl ?_
  refine zr_lv [3, 4, 5, 2, 1, 0] rfl ?_
  exact wL_takeForm_38 C o0 o1 x2 v1 v2 (-1) h0 h1 n2 nv1 nv2 w_m1 σ
