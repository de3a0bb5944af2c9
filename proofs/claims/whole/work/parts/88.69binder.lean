theorem zo_210 : zin 294 210 0 := by unfold zin; decide +kernel
theorem ff_X0_18 : zF RX0 18 0 1 (.array .int) := Or.inl (by unfold zFd; decide +kernel)
theorem zf_210_1 : zRF 210 1 = 215 := by decide +kernel
theorem zo_215 : zin 294 215 20 := by unfold zin; decide +kernel
theorem lk_X0_28 : zL RX0 28 yJ7_fill_53178 := Or.inl (by decide +kernel)
theorem zrm_3_4_0 : zRm (zrm 3) 0 0 4 0 := by unfold zRm; decide
theorem ff_X0_22 : zF RX0 22 0 2 (.array .int) := Or.inl (by unfold zFd; decide +kernel)
theorem zf_210_2 : zRF 210 2 = 216 := by decide +kernel
theorem zo_216 : zin 294 216 20 := by unfold zin; decide +kernel
theorem ff_X0_34 : zF RX0 34 7 10 .int := Or.inr ⟨"BrokenFugue", by unfold zFn; decide +kernel⟩
theorem ff_X0_12 : zF RX0 12 0 0 (.object "BrokenFugue$Judge") := Or.inl (by unfold zFd; decide +kernel)
theorem zf_210_0 : zRF 210 0 = 211 := by decide +kernel
theorem zo_211 : zin 294 211 2 := by unfold zin; decide +kernel
theorem ff_X0_40 : zF RX0 40 7 6 (.array .int) := Or.inr ⟨"BrokenFugue", by unfold zFn; decide +kernel⟩
theorem lk_X0_43 : zL RX0 43 yX2_setPages := Or.inl (by decide +kernel)
theorem zy_X2_setPages : zY yX2_setPages cX2_setPages 7 none 3 := by unfold zY; decide +kernel
theorem zv_X2_setPages : zYv yX2_setPages := by unfold zYv; decide +kernel
theorem zrm_3_7_1 : zRm (zrm 3) 0 0 7 1 := by unfold zRm; decide
theorem lk_X0_47 : zL RX0 47 yX2_asksAny := Or.inl (by decide +kernel)
theorem zy_X2_asksAny : zY yX2_asksAny cX2_asksAny 5 (some .boolean) 2 := by unfold zY; decide +kernel
theorem zv_X2_asksAny : zYv yX2_asksAny := by unfold zYv; decide +kernel
theorem zrm_3_5_2 : zRm (zrm 3) 0 0 5 2 := by unfold zRm; decide
theorem zn_216 : zLN 216 = 8 := by decide +kernel
theorem zn_215 : zLN 215 = 8 := by decide +kernel
theorem ff_X0_25 : zF RX0 25 0 3 (.array .int) := Or.inl (by unfold zFd; decide +kernel)
theorem zf_210_3 : zRF 210 3 = 217 := by decide +kernel
theorem zo_217 : zin 294 217 20 := by unfold zin; decide +kernel
theorem zn_217 : zLN 217 = 2048 := by decide +kernel
theorem lk_X0_51 : zL RX0 51 yX9_within := Or.inr ⟨"BrokenFugue", by decide +kernel⟩
theorem lk_X0_55 : zL RX0 55 yJ6_bitCount_0f7a4 := Or.inl (by decide +kernel)
theorem zy_J6_bitCount_0f7a4 : zY yJ6_bitCount_0f7a4 cJ6_bitCount_0f7a4 1 (some .int) 1 := by unfold zY; decide +kernel
theorem zs_J6_bitCount_0f7a4 : Cond.static yJ6_bitCount_0f7a4 ∈ ztb := by decide +kernel
theorem lk_X0_61 : zL RX0 61 yX0_waysTo := Or.inl (by decide +kernel)
theorem zy_X0_waysTo : zY yX0_waysTo cX0_waysTo 6 (some .int) 3 := by unfold zY; decide +kernel
theorem zv_X0_waysTo : zYv yX0_waysTo := by unfold zYv; decide +kernel
theorem zrm_1_6_0 : zRm (zrm 1) 0 0 6 0 := by unfold zRm; decide
theorem eX0_link_0 : zD cX0_link 0 (.aload_n 0) 1 1 := ⟨by decide +kernel, rfl⟩
theorem eX0_link_1 : zD cX0_link 1 (.getfield 18) 3 4 := ⟨by decide +kernel, rfl⟩
theorem eX0_link_4 : zD cX0_link 4 (.iconst 0) 1 5 := ⟨by decide +kernel, rfl⟩
theorem eX0_link_5 : zD cX0_link 5 (.invokestatic 28) 3 8 := ⟨by decide +kernel, rfl⟩
theorem eX0_link_8 : zD cX0_link 8 (.aload_n 0) 1 9 := ⟨by decide +kernel, rfl⟩
theorem eX0_link_9 : zD cX0_link 9 (.getfield 22) 3 12 := ⟨by decide +kernel, rfl⟩
theorem eX0_link_12 : zD cX0_link 12 (.iconst 0) 1 13 := ⟨by decide +kernel, rfl⟩
theorem eX0_link_13 : zD cX0_link 13 (.invokestatic 28) 3 16 := ⟨by decide +kernel, rfl⟩
theorem eX0_link_16 : zD cX0_link 16 (.iconst 0) 1 17 := ⟨by decide +kernel, rfl⟩
theorem eX0_link_17 : zD cX0_link 17 (.istore_n 3) 1 18 := ⟨by decide +kernel, rfl⟩
theorem eX0_link_18 : zD cX0_link 18 (.iload_n 3) 1 19 := ⟨by decide +kernel, rfl⟩
theorem eX0_link_19 : zD cX0_link 19 (.aload_n 2) 1 20 := ⟨by decide +kernel, rfl⟩
theorem eX0_link_20 : zD cX0_link 20 (.getfield 34) 3 23 := ⟨by decide +kernel, rfl⟩
theorem eX0_link_23 : zDj cX0_link 23 (.if_icmp .ge 126) 126 149 26 := ⟨by decide +kernel, rfl, by decide⟩
theorem eX0_link_26 : zD cX0_link 26 (.iload_n 3) 1 27 := ⟨by decide +kernel, rfl⟩
theorem eX0_link_27 : zD cX0_link 27 (.bipush 8) 2 29 := ⟨by decide +kernel, rfl⟩
theorem eX0_link_29 : zDj cX0_link 29 (.if_icmp .ge 120) 120 149 32 := ⟨by decide +kernel, rfl, by decide⟩
theorem eX0_link_32 : zD cX0_link 32 (.iconst 0) 1 33 := ⟨by decide +kernel, rfl⟩
theorem eX0_link_33 : zD cX0_link 33 (.istore 4) 2 35 := ⟨by decide +kernel, rfl⟩
theorem eX0_link_35 : zD cX0_link 35 (.iload 4) 2 37 := ⟨by decide +kernel, rfl⟩
theorem eX0_link_37 : zD cX0_link 37 (.aload_n 2) 1 38 := ⟨by decide +kernel, rfl⟩
theorem eX0_link_38 : zD cX0_link 38 (.getfield 34) 3 41 := ⟨by decide +kernel, rfl⟩
theorem eX0_link_41 : zDj cX0_link 41 (.if_icmp .ge 102) 102 143 44 := ⟨by decide +kernel, rfl, by decide⟩
theorem eX0_link_44 : zD cX0_link 44 (.iload 4) 2 46 := ⟨by decide +kernel, rfl⟩
theorem eX0_link_46 : zD cX0_link 46 (.bipush 8) 2 48 := ⟨by decide +kernel, rfl⟩
theorem eX0_link_48 : zDj cX0_link 48 (.if_icmp .ge 95) 95 143 51 := ⟨by decide +kernel, rfl, by decide⟩
theorem eX0_link_51 : zD cX0_link 51 (.iload_n 3) 1 52 := ⟨by decide +kernel, rfl⟩
theorem eX0_link_52 : zD cX0_link 52 (.iload 4) 2 54 := ⟨by decide +kernel, rfl⟩
theorem eX0_link_54 : zDj cX0_link 54 (.if_icmp .ne 6) 6 60 57 := ⟨by decide +kernel, rfl, by decide⟩
theorem eX0_link_57 : zDj cX0_link 57 (.goto 80) 80 137 60 := ⟨by decide +kernel, rfl, by decide⟩
theorem eX0_link_60 : zD cX0_link 60 (.aload_n 0) 1 61 := ⟨by decide +kernel, rfl⟩
theorem eX0_link_61 : zD cX0_link 61 (.getfield 12) 3 64 := ⟨by decide +kernel, rfl⟩
theorem eX0_link_64 : zD cX0_link 64 (.aload_n 2) 1 65 := ⟨by decide +kernel, rfl⟩
theorem eX0_link_65 : zD cX0_link 65 (.getfield 40) 3 68 := ⟨by decide +kernel, rfl⟩
theorem eX0_link_68 : zD cX0_link 68 (.iload_n 3) 1 69 := ⟨by decide +kernel, rfl⟩
theorem eX0_link_69 : zD cX0_link 69 (.iload 4) 2 71 := ⟨by decide +kernel, rfl⟩
theorem eX0_link_71 : zD cX0_link 71 (.invokevirtual 43) 3 74 := ⟨by decide +kernel, rfl⟩
theorem eX0_link_74 : zD cX0_link 74 (.aload_n 0) 1 75 := ⟨by decide +kernel, rfl⟩
theorem eX0_link_75 : zD cX0_link 75 (.getfield 12) 3 78 := ⟨by decide +kernel, rfl⟩
theorem eX0_link_78 : zD cX0_link 78 (.aload_n 1) 1 79 := ⟨by decide +kernel, rfl⟩
theorem eX0_link_79 : zD cX0_link 79 (.iconst 2) 1 80 := ⟨by decide +kernel, rfl⟩
theorem eX0_link_80 : zD cX0_link 80 (.invokevirtual 47) 3 83 := ⟨by decide +kernel, rfl⟩
theorem eX0_link_83 : zDj cX0_link 83 (.ifCond .eq 16) 16 99 86 := ⟨by decide +kernel, rfl, by decide⟩
theorem eX0_link_86 : zD cX0_link 86 (.aload_n 0) 1 87 := ⟨by decide +kernel, rfl⟩
theorem eX0_link_87 : zD cX0_link 87 (.getfield 18) 3 90 := ⟨by decide +kernel, rfl⟩
theorem eX0_link_90 : zD cX0_link 90 (.iload 4) 2 92 := ⟨by decide +kernel, rfl⟩
theorem eX0_link_92 : zD cX0_link 92 .dup2 1 93 := ⟨by decide +kernel, rfl⟩
theorem eX0_link_93 : zD cX0_link 93 .iaload 1 94 := ⟨by decide +kernel, rfl⟩
theorem eX0_link_94 : zD cX0_link 94 (.iconst 1) 1 95 := ⟨by decide +kernel, rfl⟩
theorem eX0_link_95 : zD cX0_link 95 (.iload_n 3) 1 96 := ⟨by decide +kernel, rfl⟩
theorem eX0_link_96 : zD cX0_link 96 .ishl 1 97 := ⟨by decide +kernel, rfl⟩
theorem eX0_link_97 : zD cX0_link 97 .ior 1 98 := ⟨by decide +kernel, rfl⟩
theorem eX0_link_98 : zD cX0_link 98 .iastore 1 99 := ⟨by decide +kernel, rfl⟩
theorem eX0_link_99 : zD cX0_link 99 (.aload_n 0) 1 100 := ⟨by decide +kernel, rfl⟩
theorem eX0_link_100 : zD cX0_link 100 (.getfield 12) 3 103 := ⟨by decide +kernel, rfl⟩
theorem eX0_link_103 : zD cX0_link 103 (.aload_n 1) 1 104 := ⟨by decide +kernel, rfl⟩
theorem eX0_link_104 : zD cX0_link 104 (.iconst 3) 1 105 := ⟨by decide +kernel, rfl⟩
theorem eX0_link_105 : zD cX0_link 105 (.invokevirtual 47) 3 108 := ⟨by decide +kernel, rfl⟩
theorem eX0_link_108 : zDj cX0_link 108 (.ifCond .eq 29) 29 137 111 := ⟨by decide +kernel, rfl, by decide⟩
theorem eX0_link_111 : zD cX0_link 111 (.aload_n 0) 1 112 := ⟨by decide +kernel, rfl⟩
theorem eX0_link_112 : zD cX0_link 112 (.getfield 22) 3 115 := ⟨by decide +kernel, rfl⟩
theorem eX0_link_115 : zD cX0_link 115 (.iload_n 3) 1 116 := ⟨by decide +kernel, rfl⟩
theorem eX0_link_116 : zD cX0_link 116 .dup2 1 117 := ⟨by decide +kernel, rfl⟩
theorem eX0_link_117 : zD cX0_link 117 .iaload 1 118 := ⟨by decide +kernel, rfl⟩
theorem eX0_link_118 : zD cX0_link 118 (.iconst 1) 1 119 := ⟨by decide +kernel, rfl⟩
theorem eX0_link_119 : zD cX0_link 119 (.iload 4) 2 121 := ⟨by decide +kernel, rfl⟩
theorem eX0_link_121 : zD cX0_link 121 .ishl 1 122 := ⟨by decide +kernel, rfl⟩
theorem eX0_link_122 : zD cX0_link 122 .ior 1 123 := ⟨by decide +kernel, rfl⟩
theorem eX0_link_123 : zD cX0_link 123 .iastore 1 124 := ⟨by decide +kernel, rfl⟩
theorem eX0_link_124 : zD cX0_link 124 (.aload_n 0) 1 125 := ⟨by decide +kernel, rfl⟩
theorem eX0_link_125 : zD cX0_link 125 (.getfield 22) 3 128 := ⟨by decide +kernel, rfl⟩
theorem eX0_link_128 : zD cX0_link 128 (.iload 4) 2 130 := ⟨by decide +kernel, rfl⟩
theorem eX0_link_130 : zD cX0_link 130 .dup2 1 131 := ⟨by decide +kernel, rfl⟩
theorem eX0_link_131 : zD cX0_link 131 .iaload 1 132 := ⟨by decide +kernel, rfl⟩
theorem eX0_link_132 : zD cX0_link 132 (.iconst 1) 1 133 := ⟨by decide +kernel, rfl⟩
theorem eX0_link_133 : zD cX0_link 133 (.iload_n 3) 1 134 := ⟨by decide +kernel, rfl⟩
theorem eX0_link_134 : zD cX0_link 134 .ishl 1 135 := ⟨by decide +kernel, rfl⟩
theorem eX0_link_135 : zD cX0_link 135 .ior 1 136 := ⟨by decide +kernel, rfl⟩
theorem eX0_link_136 : zD cX0_link 136 .iastore 1 137 := ⟨by decide +kernel, rfl⟩
theorem eX0_link_137 : zD cX0_link 137 (.iinc 4 1) 3 140 := ⟨by decide +kernel, rfl⟩
theorem eX0_link_140 : zDj cX0_link 140 (.goto (-105)) (-105) 35 143 := ⟨by decide +kernel, rfl, by decide⟩
theorem eX0_link_143 : zD cX0_link 143 (.iinc 3 1) 3 146 := ⟨by decide +kernel, rfl⟩
theorem eX0_link_146 : zDj cX0_link 146 (.goto (-128)) (-128) 18 149 := ⟨by decide +kernel, rfl, by decide⟩
theorem eX0_link_149 : zD cX0_link 149 .return_ 1 150 := ⟨by decide +kernel, rfl⟩
theorem eX0_waysTo_0 : zD cX0_waysTo 0 (.aload_n 0) 1 1 := ⟨by decide +kernel, rfl⟩
theorem eX0_waysTo_1 : zD cX0_waysTo 1 (.getfield 18) 3 4 := ⟨by decide +kernel, rfl⟩
theorem eX0_waysTo_4 : zD cX0_waysTo 4 (.iload_n 3) 1 5 := ⟨by decide +kernel, rfl⟩
theorem eX0_waysTo_5 : zD cX0_waysTo 5 .iaload 1 6 := ⟨by decide +kernel, rfl⟩
theorem eX0_waysTo_6 : zD cX0_waysTo 6 (.iload_n 2) 1 7 := ⟨by decide +kernel, rfl⟩
theorem eX0_waysTo_7 : zD cX0_waysTo 7 (.iconst (-1)) 1 8 := ⟨by decide +kernel, rfl⟩
theorem eX0_waysTo_8 : zD cX0_waysTo 8 .ixor 1 9 := ⟨by decide +kernel, rfl⟩
theorem eX0_waysTo_9 : zD cX0_waysTo 9 .iand 1 10 := ⟨by decide +kernel, rfl⟩
theorem eX0_waysTo_10 : zDj cX0_waysTo 10 (.ifCond .eq 5) 5 15 13 := ⟨by decide +kernel, rfl, by decide⟩
theorem eX0_waysTo_13 : zD cX0_waysTo 13 (.iconst 0) 1 14 := ⟨by decide +kernel, rfl⟩
theorem eX0_waysTo_14 : zD cX0_waysTo 14 .ireturn 1 15 := ⟨by decide +kernel, rfl⟩
theorem eX0_waysTo_15 : zD cX0_waysTo 15 (.iload_n 2) 1 16 := ⟨by decide +kernel, rfl⟩
theorem eX0_waysTo_16 : zDj cX0_waysTo 16 (.ifCond .ne 5) 5 21 19 := ⟨by decide +kernel, rfl, by decide⟩
theorem eX0_waysTo_19 : zD cX0_waysTo 19 (.iconst 1) 1 20 := ⟨by decide +kernel, rfl⟩
theorem eX0_waysTo_20 : zD cX0_waysTo 20 .ireturn 1 21 := ⟨by decide +kernel, rfl⟩
theorem eX0_waysTo_21 : zD cX0_waysTo 21 (.iconst 0) 1 22 := ⟨by decide +kernel, rfl⟩
theorem eX0_waysTo_22 : zD cX0_waysTo 22 (.istore 4) 2 24 := ⟨by decide +kernel, rfl⟩
theorem eX0_waysTo_24 : zD cX0_waysTo 24 (.iconst 0) 1 25 := ⟨by decide +kernel, rfl⟩
theorem eX0_waysTo_25 : zD cX0_waysTo 25 (.istore 5) 2 27 := ⟨by decide +kernel, rfl⟩
theorem eX0_waysTo_27 : zD cX0_waysTo 27 (.iload 5) 2 29 := ⟨by decide +kernel, rfl⟩
theorem eX0_waysTo_29 : zD cX0_waysTo 29 (.iload_n 1) 1 30 := ⟨by decide +kernel, rfl⟩
theorem eX0_waysTo_30 : zDj cX0_waysTo 30 (.if_icmp .ge 54) 54 84 33 := ⟨by decide +kernel, rfl, by decide⟩
theorem eX0_waysTo_33 : zD cX0_waysTo 33 (.iload_n 2) 1 34 := ⟨by decide +kernel, rfl⟩
theorem eX0_waysTo_34 : zD cX0_waysTo 34 (.iload 5) 2 36 := ⟨by decide +kernel, rfl⟩
theorem eX0_waysTo_36 : zD cX0_waysTo 36 .ishr 1 37 := ⟨by decide +kernel, rfl⟩
theorem eX0_waysTo_37 : zD cX0_waysTo 37 (.iconst 1) 1 38 := ⟨by decide +kernel, rfl⟩
theorem eX0_waysTo_38 : zD cX0_waysTo 38 .iand 1 39 := ⟨by decide +kernel, rfl⟩
theorem eX0_waysTo_39 : zD cX0_waysTo 39 (.iconst 1) 1 40 := ⟨by decide +kernel, rfl⟩
theorem eX0_waysTo_40 : zDj cX0_waysTo 40 (.if_icmp .ne 38) 38 78 43 := ⟨by decide +kernel, rfl, by decide⟩
theorem eX0_waysTo_43 : zD cX0_waysTo 43 (.aload_n 0) 1 44 := ⟨by decide +kernel, rfl⟩
theorem eX0_waysTo_44 : zD cX0_waysTo 44 (.getfield 22) 3 47 := ⟨by decide +kernel, rfl⟩
theorem eX0_waysTo_47 : zD cX0_waysTo 47 (.iload_n 3) 1 48 := ⟨by decide +kernel, rfl⟩
theorem eX0_waysTo_48 : zD cX0_waysTo 48 .iaload 1 49 := ⟨by decide +kernel, rfl⟩
theorem eX0_waysTo_49 : zD cX0_waysTo 49 (.iload_n 2) 1 50 := ⟨by decide +kernel, rfl⟩
theorem eX0_waysTo_50 : zD cX0_waysTo 50 .iand 1 51 := ⟨by decide +kernel, rfl⟩
theorem eX0_waysTo_51 : zD cX0_waysTo 51 (.iconst 1) 1 52 := ⟨by decide +kernel, rfl⟩
theorem eX0_waysTo_52 : zD cX0_waysTo 52 (.iload 5) 2 54 := ⟨by decide +kernel, rfl⟩
theorem eX0_waysTo_54 : zD cX0_waysTo 54 .ishl 1 55 := ⟨by decide +kernel, rfl⟩
theorem eX0_waysTo_55 : zD cX0_waysTo 55 (.iconst (-1)) 1 56 := ⟨by decide +kernel, rfl⟩
theorem eX0_waysTo_56 : zD cX0_waysTo 56 .ixor 1 57 := ⟨by decide +kernel, rfl⟩
theorem eX0_waysTo_57 : zD cX0_waysTo 57 .iand 1 58 := ⟨by decide +kernel, rfl⟩
theorem eX0_waysTo_58 : zDj cX0_waysTo 58 (.ifCond .ne 20) 20 78 61 := ⟨by decide +kernel, rfl, by decide⟩
theorem eX0_waysTo_61 : zD cX0_waysTo 61 (.iload 4) 2 63 := ⟨by decide +kernel, rfl⟩
theorem eX0_waysTo_63 : zD cX0_waysTo 63 (.aload_n 0) 1 64 := ⟨by decide +kernel, rfl⟩
theorem eX0_waysTo_64 : zD cX0_waysTo 64 (.getfield 25) 3 67 := ⟨by decide +kernel, rfl⟩
theorem eX0_waysTo_67 : zD cX0_waysTo 67 (.iload_n 2) 1 68 := ⟨by decide +kernel, rfl⟩
theorem eX0_waysTo_68 : zD cX0_waysTo 68 (.bipush 8) 2 70 := ⟨by decide +kernel, rfl⟩
theorem eX0_waysTo_70 : zD cX0_waysTo 70 .imul 1 71 := ⟨by decide +kernel, rfl⟩
theorem eX0_waysTo_71 : zD cX0_waysTo 71 (.iload 5) 2 73 := ⟨by decide +kernel, rfl⟩
theorem eX0_waysTo_73 : zD cX0_waysTo 73 .iadd 1 74 := ⟨by decide +kernel, rfl⟩
theorem eX0_waysTo_74 : zD cX0_waysTo 74 .iaload 1 75 := ⟨by decide +kernel, rfl⟩
theorem eX0_waysTo_75 : zD cX0_waysTo 75 .iadd 1 76 := ⟨by decide +kernel, rfl⟩
theorem eX0_waysTo_76 : zD cX0_waysTo 76 (.istore 4) 2 78 := ⟨by decide +kernel, rfl⟩
theorem eX0_waysTo_78 : zD cX0_waysTo 78 (.iinc 5 1) 3 81 := ⟨by decide +kernel, rfl⟩
theorem eX0_waysTo_81 : zDj cX0_waysTo 81 (.goto (-54)) (-54) 27 84 := ⟨by decide +kernel, rfl, by decide⟩
theorem eX0_waysTo_84 : zD cX0_waysTo 84 (.iload 4) 2 86 := ⟨by decide +kernel, rfl⟩
theorem eX0_waysTo_86 : zD cX0_waysTo 86 .ireturn 1 87 := ⟨by decide +kernel, rfl⟩
theorem eX0_count_0 : zD cX0_count 0 (.iload_n 1) 1 1 := ⟨by decide +kernel, rfl⟩
theorem eX0_count_1 : zD cX0_count 1 (.iconst 1) 1 2 := ⟨by decide +kernel, rfl⟩
theorem eX0_count_2 : zD cX0_count 2 (.bipush 8) 2 4 := ⟨by decide +kernel, rfl⟩
theorem eX0_count_4 : zD cX0_count 4 (.invokestatic 51) 3 7 := ⟨by decide +kernel, rfl⟩
theorem eX0_count_7 : zDj cX0_count 7 (.ifCond .ne 5) 5 12 10 := ⟨by decide +kernel, rfl, by decide⟩
theorem eX0_count_10 : zD cX0_count 10 (.iconst 1) 1 11 := ⟨by decide +kernel, rfl⟩
theorem eX0_count_11 : zD cX0_count 11 .ireturn 1 12 := ⟨by decide +kernel, rfl⟩
theorem eX0_count_12 : zD cX0_count 12 (.iconst 1) 1 13 := ⟨by decide +kernel, rfl⟩
theorem eX0_count_13 : zD cX0_count 13 (.iload_n 1) 1 14 := ⟨by decide +kernel, rfl⟩
theorem eX0_count_14 : zD cX0_count 14 .ishl 1 15 := ⟨by decide +kernel, rfl⟩
theorem eX0_count_15 : zD cX0_count 15 (.iconst 1) 1 16 := ⟨by decide +kernel, rfl⟩
theorem eX0_count_16 : zD cX0_count 16 .isub 1 17 := ⟨by decide +kernel, rfl⟩
theorem eX0_count_17 : zD cX0_count 17 (.istore 4) 2 19 := ⟨by decide +kernel, rfl⟩
theorem eX0_count_19 : zD cX0_count 19 (.iconst 0) 1 20 := ⟨by decide +kernel, rfl⟩
theorem eX0_count_20 : zD cX0_count 20 (.istore 5) 2 22 := ⟨by decide +kernel, rfl⟩
theorem eX0_count_22 : zD cX0_count 22 (.iconst 1) 1 23 := ⟨by decide +kernel, rfl⟩
theorem eX0_count_23 : zD cX0_count 23 (.istore 6) 2 25 := ⟨by decide +kernel, rfl⟩
theorem eX0_count_25 : zD cX0_count 25 (.iload 6) 2 27 := ⟨by decide +kernel, rfl⟩
theorem eX0_count_27 : zD cX0_count 27 (.iload 4) 2 29 := ⟨by decide +kernel, rfl⟩
theorem eX0_count_29 : zDj cX0_count 29 (.if_icmp .gt 138) 138 167 32 := ⟨by decide +kernel, rfl, by decide⟩
theorem eX0_count_32 : zD cX0_count 32 (.iload 6) 2 34 := ⟨by decide +kernel, rfl⟩
theorem eX0_count_34 : zD cX0_count 34 (.invokestatic 55) 3 37 := ⟨by decide +kernel, rfl⟩
theorem eX0_count_37 : zD cX0_count 37 (.iconst 1) 1 38 := ⟨by decide +kernel, rfl⟩
theorem eX0_count_38 : zD cX0_count 38 .isub 1 39 := ⟨by decide +kernel, rfl⟩
theorem eX0_count_39 : zD cX0_count 39 (.iload_n 3) 1 40 := ⟨by decide +kernel, rfl⟩
theorem eX0_count_40 : zDj cX0_count 40 (.if_icmp .ne 7) 7 47 43 := ⟨by decide +kernel, rfl, by decide⟩
theorem eX0_count_43 : zD cX0_count 43 (.iconst 1) 1 44 := ⟨by decide +kernel, rfl⟩
theorem eX0_count_44 : zDj cX0_count 44 (.goto 4) 4 48 47 := ⟨by decide +kernel, rfl, by decide⟩
theorem eX0_count_47 : zD cX0_count 47 (.iconst 0) 1 48 := ⟨by decide +kernel, rfl⟩
theorem eX0_count_48 : zD cX0_count 48 (.istore 7) 2 50 := ⟨by decide +kernel, rfl⟩
theorem eX0_count_50 : zD cX0_count 50 (.iconst 0) 1 51 := ⟨by decide +kernel, rfl⟩
theorem eX0_count_51 : zD cX0_count 51 (.istore 8) 2 53 := ⟨by decide +kernel, rfl⟩
theorem eX0_count_53 : zD cX0_count 53 (.iload 8) 2 55 := ⟨by decide +kernel, rfl⟩
theorem eX0_count_55 : zD cX0_count 55 (.iload_n 1) 1 56 := ⟨by decide +kernel, rfl⟩
theorem eX0_count_56 : zDj cX0_count 56 (.if_icmp .ge 105) 105 161 59 := ⟨by decide +kernel, rfl, by decide⟩
theorem eX0_count_59 : zD cX0_count 59 (.iload 6) 2 61 := ⟨by decide +kernel, rfl⟩
theorem eX0_count_61 : zD cX0_count 61 (.iload 8) 2 63 := ⟨by decide +kernel, rfl⟩
theorem eX0_count_63 : zD cX0_count 63 .ishr 1 64 := ⟨by decide +kernel, rfl⟩
theorem eX0_count_64 : zD cX0_count 64 (.iconst 1) 1 65 := ⟨by decide +kernel, rfl⟩
theorem eX0_count_65 : zD cX0_count 65 .iand 1 66 := ⟨by decide +kernel, rfl⟩
theorem eX0_count_66 : zD cX0_count 66 (.iconst 1) 1 67 := ⟨by decide +kernel, rfl⟩
theorem eX0_count_67 : zDj cX0_count 67 (.if_icmp .ne 18) 18 85 70 := ⟨by decide +kernel, rfl, by decide⟩
theorem eX0_count_70 : zD cX0_count 70 (.iload 7) 2 72 := ⟨by decide +kernel, rfl⟩
theorem eX0_count_72 : zDj cX0_count 72 (.ifCond .eq 9) 9 81 75 := ⟨by decide +kernel, rfl, by decide⟩
theorem eX0_count_75 : zD cX0_count 75 (.iload 8) 2 77 := ⟨by decide +kernel, rfl⟩
theorem eX0_count_77 : zD cX0_count 77 (.iload_n 2) 1 78 := ⟨by decide +kernel, rfl⟩
theorem eX0_count_78 : zDj cX0_count 78 (.if_icmp .ne 7) 7 85 81 := ⟨by decide +kernel, rfl, by decide⟩
theorem eX0_count_81 : zD cX0_count 81 (.iconst 1) 1 82 := ⟨by decide +kernel, rfl⟩
theorem eX0_count_82 : zDj cX0_count 82 (.goto 4) 4 86 85 := ⟨by decide +kernel, rfl, by decide⟩
theorem eX0_count_85 : zD cX0_count 85 (.iconst 0) 1 86 := ⟨by decide +kernel, rfl⟩
theorem eX0_count_86 : zD cX0_count 86 (.istore 9) 2 88 := ⟨by decide +kernel, rfl⟩
theorem eX0_count_88 : zD cX0_count 88 (.aload_n 0) 1 89 := ⟨by decide +kernel, rfl⟩
theorem eX0_count_89 : zD cX0_count 89 (.getfield 25) 3 92 := ⟨by decide +kernel, rfl⟩
theorem eX0_count_92 : zD cX0_count 92 (.iload 6) 2 94 := ⟨by decide +kernel, rfl⟩
theorem eX0_count_94 : zD cX0_count 94 (.bipush 8) 2 96 := ⟨by decide +kernel, rfl⟩
theorem eX0_count_96 : zD cX0_count 96 .imul 1 97 := ⟨by decide +kernel, rfl⟩
theorem eX0_count_97 : zD cX0_count 97 (.iload 8) 2 99 := ⟨by decide +kernel, rfl⟩
theorem eX0_count_99 : zD cX0_count 99 .iadd 1 100 := ⟨by decide +kernel, rfl⟩
theorem eX0_count_100 : zD cX0_count 100 (.iload 9) 2 102 := ⟨by decide +kernel, rfl⟩
theorem eX0_count_102 : zDj cX0_count 102 (.ifCond .eq 22) 22 124 105 := ⟨by decide +kernel, rfl, by decide⟩
theorem eX0_count_105 : zD cX0_count 105 (.aload_n 0) 1 106 := ⟨by decide +kernel, rfl⟩
theorem eX0_count_106 : zD cX0_count 106 (.iload_n 1) 1 107 := ⟨by decide +kernel, rfl⟩
theorem eX0_count_107 : zD cX0_count 107 (.iload 6) 2 109 := ⟨by decide +kernel, rfl⟩
theorem eX0_count_109 : zD cX0_count 109 (.iconst 1) 1 110 := ⟨by decide +kernel, rfl⟩
theorem eX0_count_110 : zD cX0_count 110 (.iload 8) 2 112 := ⟨by decide +kernel, rfl⟩
theorem eX0_count_112 : zD cX0_count 112 .ishl 1 113 := ⟨by decide +kernel, rfl⟩
theorem eX0_count_113 : zD cX0_count 113 (.iconst (-1)) 1 114 := ⟨by decide +kernel, rfl⟩
theorem eX0_count_114 : zD cX0_count 114 .ixor 1 115 := ⟨by decide +kernel, rfl⟩
theorem eX0_count_115 : zD cX0_count 115 .iand 1 116 := ⟨by decide +kernel, rfl⟩
theorem eX0_count_116 : zD cX0_count 116 (.iload 8) 2 118 := ⟨by decide +kernel, rfl⟩
theorem eX0_count_118 : zD cX0_count 118 (.invokevirtual 61) 3 121 := ⟨by decide +kernel, rfl⟩
theorem eX0_count_121 : zDj cX0_count 121 (.goto 4) 4 125 124 := ⟨by decide +kernel, rfl, by decide⟩
theorem eX0_count_124 : zD cX0_count 124 (.iconst 0) 1 125 := ⟨by decide +kernel, rfl⟩
theorem eX0_count_125 : zD cX0_count 125 .iastore 1 126 := ⟨by decide +kernel, rfl⟩
theorem eX0_count_126 : zD cX0_count 126 (.iload 5) 2 128 := ⟨by decide +kernel, rfl⟩
theorem eX0_count_128 : zD cX0_count 128 (.iload 6) 2 130 := ⟨by decide +kernel, rfl⟩
theorem eX0_count_130 : zD cX0_count 130 (.iload 4) 2 132 := ⟨by decide +kernel, rfl⟩
theorem eX0_count_132 : zDj cX0_count 132 (.if_icmp .ne 19) 19 151 135 := ⟨by decide +kernel, rfl, by decide⟩
theorem eX0_count_135 : zD cX0_count 135 (.aload_n 0) 1 136 := ⟨by decide +kernel, rfl⟩
theorem eX0_count_136 : zD cX0_count 136 (.getfield 25) 3 139 := ⟨by decide +kernel, rfl⟩
theorem eX0_count_139 : zD cX0_count 139 (.iload 6) 2 141 := ⟨by decide +kernel, rfl⟩
theorem eX0_count_141 : zD cX0_count 141 (.bipush 8) 2 143 := ⟨by decide +kernel, rfl⟩
theorem eX0_count_143 : zD cX0_count 143 .imul 1 144 := ⟨by decide +kernel, rfl⟩
theorem eX0_count_144 : zD cX0_count 144 (.iload 8) 2 146 := ⟨by decide +kernel, rfl⟩
theorem eX0_count_146 : zD cX0_count 146 .iadd 1 147 := ⟨by decide +kernel, rfl⟩
theorem eX0_count_147 : zD cX0_count 147 .iaload 1 148 := ⟨by decide +kernel, rfl⟩
theorem eX0_count_148 : zDj cX0_count 148 (.goto 4) 4 152 151 := ⟨by decide +kernel, rfl, by decide⟩
theorem eX0_count_151 : zD cX0_count 151 (.iconst 0) 1 152 := ⟨by decide +kernel, rfl⟩
theorem eX0_count_152 : zD cX0_count 152 .iadd 1 153 := ⟨by decide +kernel, rfl⟩
theorem eX0_count_153 : zD cX0_count 153 (.istore 5) 2 155 := ⟨by decide +kernel, rfl⟩
theorem eX0_count_155 : zD cX0_count 155 (.iinc 8 1) 3 158 := ⟨by decide +kernel, rfl⟩
theorem eX0_count_158 : zDj cX0_count 158 (.goto (-105)) (-105) 53 161 := ⟨by decide +kernel, rfl, by decide⟩
theorem eX0_count_161 : zD cX0_count 161 (.iinc 6 1) 3 164 := ⟨by decide +kernel, rfl⟩
theorem eX0_count_164 : zDj cX0_count 164 (.goto (-139)) (-139) 25 167 := ⟨by decide +kernel, rfl, by decide⟩
theorem eX0_count_167 : zD cX0_count 167 (.iload 5) 2 169 := ⟨by decide +kernel, rfl⟩
theorem eX0_count_169 : zD cX0_count 169 .ireturn 1 170 := ⟨by decide +kernel, rfl⟩
theorem wB_link_99 {G : Zg} {p : Program} {l : Launch} {e : Env} {s : State} {m : MethodId} {args : Array Value} {below : List Frame} {meth : Method} {c : Code} (C : zC G p s m args meth c cX0_link 5 RX0 none) {res : Int × Zm} (R0 : Nat → Nat → Int → Int → Zm → Zr) (K143 : Nat → Nat → Int → Zm → Zr) (ih : ∀ (o1 : Nat) (o2 : Nat) (x3 : Int) (x4 : Int) (h1 : zin 294 o1 6) (h2 : zin 294 o2 7) (n3 : zw x3 = x3) (n4 : zw x4 = x4) (σ : Zm), zR G p l e (zrm 3) s m args below meth c 5 0 0 (zQm below args s G 294 ztt none res.2) 294 ztt res σ (R0 o1 o2 x3 x4 σ) [(0, .ref (zad G 210)), (1, .ref (zad G o1)), (2, .ref (zad G o2)), (3, .int (zI x3)), (4, .int (zI x4))] 35 []) (hK143 : ∀ (o1 : Nat) (o2 : Nat) (x3 : Int) (h1 : zin 294 o1 6) (h2 : zin 294 o2 7) (n3 : zw x3 = x3) (σ : Zm), zR G p l e (zrm 3) s m args below meth c 5 0 0 (zQm below args s G 294 ztt none res.2) 294 ztt res σ (K143 o1 o2 x3 σ) [(0, .ref (zad G 210)), (1, .ref (zad G o1)), (2, .ref (zad G o2)), (3, .int (zI x3))] 143 []) (o1 : Nat) (o2 : Nat) (x3 : Int) (x4 : Int) (h1 : zin 294 o1 6) (h2 : zin 294 o2 7) (n3 : zw x3 = x3) (n4 : zw x4 = x4) (σ : Zm) : zR G p l e (zrm 3) s m args below meth c 5 0 0 (zQm below args s G 294 ztt none res.2) 294 ztt res σ (fB_link_99 R0 K143 o1 o2 x3 x4 σ) [(0, .ref (zad G 210)), (1, .ref (zad G o1)), (2, .ref (zad G o2)), (3, .int (zI x3)), (4, .int (zI x4))] 99 [] := by
  unfold fB_link_99
  refine zr_aloadn C 0 eX0_link_99 rfl ?_
  refine zr_getR C ff_X0_12 rfl zo_210 rfl zf_210_0 eX0_link_100 ?_
  refine zr_aloadn C 1 eX0_link_103 rfl ?_
  refine zr_iconst C eX0_link_104 rfl ?_
  refine zr_callVi C [.ref (zad G o1), .int (zI 3)] zy_X2_asksAny zv_X2_asksAny lk_X0_47 zrm_3_5_2 zo_211 (by decide) rfl (fun r hr => zqJ_asksAny l G σ 211 o1 3 zo_211 h1 w_3 r hr) rfl rfl (Nat.le_of_ble_eq_true rfl) eX0_link_105 (fun v9 nv9 σ8 => ?_)
  refine zr_if_eq C eX0_link_108 nv9 ?_ ?_
  · refine zr_iinc (lv' := [(4, .int (zI (x4 + 1))), (0, .ref (zad G 210)), (1, .ref (zad G o1)), (2, .ref (zad G o2)), (3, .int (zI x3))]) C 4 eX0_link_137 rfl (by decide) rfl ?_
    refine zr_goto C eX0_link_140 ?_
    refine zr_lv [1, 2, 3, 4, 0] rfl ?_
    exact zr_lve (zs_p (zs_p (zs_p (zs_p (zs_pi (zI_w (x4 + 1)).symm rfl))))) (ih o1 o2 x3 (zw (x4 + 1)) h1 h2 n3 (zw_w (x4 + 1)) _)
  refine zr_aloadn C 0 eX0_link_111 rfl ?_
  refine zr_getR C ff_X0_22 rfl zo_210 rfl zf_210_2 eX0_link_112 ?_
  refine zr_iloadn C 3 eX0_link_115 rfl ?_
  refine zr_dup2 C eX0_link_116 rfl rfl ?_
  refine zr_iald C zo_216 zn_216 n3 eX0_link_117 (fun v10 nv10 => ?_)
  refine zr_iconst C eX0_link_118 rfl ?_
  refine zr_iload C 4 eX0_link_119 rfl ?_
  refine zr_ishl C eX0_link_121 ?_
  refine zr_ior C eX0_link_122 ?_
  refine zr_iast C zo_216 zn_216 n3 eX0_link_123 (fun σ11 => ?_)
  refine zr_aloadn C 0 eX0_link_124 rfl ?_
  refine zr_getR C ff_X0_22 rfl zo_210 rfl zf_210_2 eX0_link_125 ?_
  refine zr_iload C 4 eX0_link_128 rfl ?_
  refine zr_dup2 C eX0_link_130 rfl rfl ?_
  refine zr_iald C zo_216 zn_216 n4 eX0_link_131 (fun v12 nv12 => ?_)
  refine zr_iconst C eX0_link_132 rfl ?_
  refine zr_iloadn C 3 eX0_link_133 rfl ?_
  refine zr_ishl C eX0_link_134 ?_
  refine zr_ior C eX0_link_135 ?_
  refine zr_iast C zo_216 zn_216 n4 eX0_link_136 (fun σ13 => ?_)
  refine zr_iinc (lv' := [(4, .int (zI (x4 + 1))), (0, .ref (zad G 210)), (1, .ref (zad G o1)), (2, .ref (zad G o2)), (3, .int (zI x3))]) C 4 eX0_link_137 rfl (by decide) rfl ?_
  refine zr_goto C eX0_link_140 ?_
  refine zr_lv [1, 2, 3, 4, 0] rfl ?_
  exact zr_lve (zs_p (zs_p (zs_p (zs_p (zs_pi (zI_w (x4 + 1)).symm rfl))))) (ih o1 o2 x3 (zw (x4 + 1)) h1 h2 n3 (zw_w (x4 + 1)) _)
theorem wB_link_35 {G : Zg} {p : Program} {l : Launch} {e : Env} {s : State} {m : MethodId} {args : Array Value} {below : List Frame} {meth : Method} {c : Code} (C : zC G p s m args meth c cX0_link 5 RX0 none) {res : Int × Zm} (K143 : Nat → Nat → Int → Zm → Zr) (hK143 : ∀ (o1 : Nat) (o2 : Nat) (x3 : Int) (h1 : zin 294 o1 6) (h2 : zin 294 o2 7) (n3 : zw x3 = x3) (σ : Zm), zR G p l e (zrm 3) s m args below meth c 5 0 0 (zQm below args s G 294 ztt none res.2) 294 ztt res σ (K143 o1 o2 x3 σ) [(0, .ref (zad G 210)), (1, .ref (zad G o1)), (2, .ref (zad G o2)), (3, .int (zI x3))] 143 []) : ∀ (n : Nat) (o1 : Nat) (o2 : Nat) (x3 : Int) (x4 : Int) (h1 : zin 294 o1 6) (h2 : zin 294 o2 7) (n3 : zw x3 = x3) (n4 : zw x4 = x4) (σ : Zm), zR G p l e (zrm 3) s m args below meth c 5 0 0 (zQm below args s G 294 ztt none res.2) 294 ztt res σ (fB_link_35 n o1 o2 x3 x4 σ K143) [(0, .ref (zad G 210)), (1, .ref (zad G o1)), (2, .ref (zad G o2)), (3, .int (zI x3)), (4, .int (zI x4))] 35 []
  | 0, _, _, _, _, _, _, _, _, _ => zr_none
  | n + 1, o1, o2, x3, x4, h1, h2, n3, n4, σ => by
    have ih := fun (o1 : Nat) (o2 : Nat) (x3 : Int) (x4 : Int) (h1 : zin 294 o1 6) (h2 : zin 294 o2 7) (n3 : zw x3 = x3) (n4 : zw x4 = x4) (σ : Zm) => wB_link_35 (l := l) (e := e) (below := below) C K143 hK143 (res := res) n o1 o2 x3 x4 h1 h2 n3 n4 σ
    rw [fB_link_35]
    refine zr_letf (fun R0 hR0 => ?_)
    have ih : ∀ (o1 : Nat) (o2 : Nat) (x3 : Int) (x4 : Int) (h1 : zin 294 o1 6) (h2 : zin 294 o2 7) (n3 : zw x3 = x3) (n4 : zw x4 = x4) (σ : Zm), zR G p l e (zrm 3) s m args below meth c 5 0 0 (zQm below args s G 294 ztt none res.2) 294 ztt res σ (R0 o1 o2 x3 x4 σ) [(0, .ref (zad G 210)), (1, .ref (zad G o1)), (2, .ref (zad G o2)), (3, .int (zI x3)), (4, .int (zI x4))] 35 [] := by rw [hR0]; exact ih
    clear hR0
    refine zr_iload C 4 eX0_link_35 rfl ?_
    refine zr_aloadn C 2 eX0_link_37 rfl ?_
    refine zr_getI C ff_X0_34 h2 eX0_link_38 (fun v4 nv4 => ?_)
    refine zr_icmp_ge C eX0_link_41 n4 nv4 ?_ ?_
    · refine zr_lv [0, 1, 2, 3] rfl ?_
      exact hK143 o1 o2 x3 h1 h2 n3 _
    refine zr_iload C 4 eX0_link_44 rfl ?_
    refine zr_bipush (a := 8) C eX0_link_46 rfl ?_
    refine zr_icmp_ge C eX0_link_48 n4 w_8 ?_ ?_
    · refine zr_lv [0, 1, 2, 3] rfl ?_
      exact hK143 o1 o2 x3 h1 h2 n3 _
    refine zr_iloadn C 3 eX0_link_51 rfl ?_
    refine zr_iload C 4 eX0_link_52 rfl ?_
    refine zr_icmp_ne C eX0_link_54 n3 n4 ?_ ?_
    · refine zr_aloadn C 0 eX0_link_60 rfl ?_
      refine zr_getR C ff_X0_12 rfl zo_210 rfl zf_210_0 eX0_link_61 ?_
      refine zr_aloadn C 2 eX0_link_64 rfl ?_
      refine zr_getR C ff_X0_40 rfl h2 rfl ((zk_7_6 h2).1) eX0_link_65 ?_
      refine zr_iloadn C 3 eX0_link_68 rfl ?_
      refine zr_iload C 4 eX0_link_69 rfl ?_
      refine zr_callVv C [.ref (zad G (o2 + 7)), .int (zI x3), .int (zI x4)] zy_X2_setPages zv_X2_setPages lk_X0_43 zrm_3_7_1 zo_211 (by decide) rfl (fun r hr => zqJ_setPages l G σ 211 (o2 + 7) x3 x4 zo_211 ((zk_7_6 h2).2) n3 n4 r hr) rfl rfl (Nat.le_of_ble_eq_true rfl) eX0_link_71 (fun σ5 => ?_)
      refine zr_aloadn C 0 eX0_link_74 rfl ?_
      refine zr_getR C ff_X0_12 rfl zo_210 rfl zf_210_0 eX0_link_75 ?_
      refine zr_aloadn C 1 eX0_link_78 rfl ?_
      refine zr_iconst C eX0_link_79 rfl ?_
      refine zr_callVi C [.ref (zad G o1), .int (zI 2)] zy_X2_asksAny zv_X2_asksAny lk_X0_47 zrm_3_5_2 zo_211 (by decide) rfl (fun r hr => zqJ_asksAny l G σ5 211 o1 2 zo_211 h1 w_2 r hr) rfl rfl (Nat.le_of_ble_eq_true rfl) eX0_link_80 (fun v7 nv7 σ6 => ?_)
      refine zr_if_eq C eX0_link_83 nv7 ?_ ?_
      · exact wB_link_99 C R0 K143 ih hK143 o1 o2 x3 x4 h1 h2 n3 n4 σ6
      refine zr_aloadn C 0 eX0_link_86 rfl ?_
      refine zr_getR C ff_X0_18 rfl zo_210 rfl zf_210_1 eX0_link_87 ?_
      refine zr_iload C 4 eX0_link_90 rfl ?_
      refine zr_dup2 C eX0_link_92 rfl rfl ?_
      refine zr_iald C zo_215 zn_215 n4 eX0_link_93 (fun v14 nv14 => ?_)
      refine zr_iconst C eX0_link_94 rfl ?_
      refine zr_iloadn C 3 eX0_link_95 rfl ?_
      refine zr_ishl C eX0_link_96 ?_
      refine zr_ior C eX0_link_97 ?_
      refine zr_iast C zo_215 zn_215 n4 eX0_link_98 (fun σ15 => ?_)
      exact wB_link_99 C R0 K143 ih hK143 o1 o2 x3 x4 h1 h2 n3 n4 σ15
    refine zr_goto C eX0_link_57 ?_
    refine zr_iinc (lv' := [(4, .int (zI (x4 + 1))), (0, .ref (zad G 210)), (1, .ref (zad G o1)), (2, .ref (zad G o2)), (3, .int (zI x3))]) C 4 eX0_link_137 rfl (by decide) rfl ?_
    refine zr_goto C eX0_link_140 ?_
    refine zr_lv [1, 2, 3, 4, 0] rfl ?_
    exact zr_lve (zs_p (zs_p (zs_p (zs_p (zs_pi (zI_w (x4 + 1)).symm rfl))))) (ih o1 o2 x3 (zw (x4 + 1)) h1 h2 n3 (zw_w (x4 + 1)) _)
theorem wB_link_18 {G : Zg} {p : Program} {l : Launch} {e : Env} {s : State} {m : MethodId} {args : Array Value} {below : List Frame} {meth : Method} {c : Code} (C : zC G p s m args meth c cX0_link 5 RX0 none) {res : Int × Zm} : ∀ (n : Nat) (o1 : Nat) (o2 : Nat) (x3 : Int) (h1 : zin 294 o1 6) (h2 : zin 294 o2 7) (n3 : zw x3 = x3) (σ : Zm), zR G p l e (zrm 3) s m args below meth c 5 0 0 (zQm below args s G 294 ztt none res.2) 294 ztt res σ (fB_link_18 n o1 o2 x3 σ) [(0, .ref (zad G 210)), (1, .ref (zad G o1)), (2, .ref (zad G o2)), (3, .int (zI x3))] 18 []
  | 0, _, _, _, _, _, _, _ => zr_none
  | n + 1, o1, o2, x3, h1, h2, n3, σ => by
    have ih := fun (o1 : Nat) (o2 : Nat) (x3 : Int) (h1 : zin 294 o1 6) (h2 : zin 294 o2 7) (n3 : zw x3 = x3) (σ : Zm) => wB_link_18 (l := l) (e := e) (below := below) C (res := res) n o1 o2 x3 h1 h2 n3 σ
    rw [fB_link_18]
    refine zr_letf (fun R0 hR0 => ?_)
    have ih : ∀ (o1 : Nat) (o2 : Nat) (x3 : Int) (h1 : zin 294 o1 6) (h2 : zin 294 o2 7) (n3 : zw x3 = x3) (σ : Zm), zR G p l e (zrm 3) s m args below meth c 5 0 0 (zQm below args s G 294 ztt none res.2) 294 ztt res σ (R0 o1 o2 x3 σ) [(0, .ref (zad G 210)), (1, .ref (zad G o1)), (2, .ref (zad G o2)), (3, .int (zI x3))] 18 [] := by rw [hR0]; exact ih
    clear hR0
    refine zr_iloadn C 3 eX0_link_18 rfl ?_
    refine zr_aloadn C 2 eX0_link_19 rfl ?_
    refine zr_getI C ff_X0_34 h2 eX0_link_20 (fun v3 nv3 => ?_)
    refine zr_icmp_ge C eX0_link_23 n3 nv3 ?_ ?_
    · exact zr_vret C eX0_link_149
    refine zr_iloadn C 3 eX0_link_26 rfl ?_
    refine zr_bipush (a := 8) C eX0_link_27 rfl ?_
    refine zr_icmp_ge C eX0_link_29 n3 w_8 ?_ ?_
    · exact zr_vret C eX0_link_149
    refine zr_iconst C eX0_link_32 rfl ?_
    refine zr_istore (lv' := [(4, .int (zI 0)), (0, .ref (zad G 210)), (1, .ref (zad G o1)), (2, .ref (zad G o2)), (3, .int (zI x3))]) C eX0_link_33 (by decide) rfl ?_
    refine zr_lv [1, 2, 3, 4, 0] rfl ?_
    refine wB_link_35 C _ ?_ 5000 o1 o2 x3 0 h1 h2 n3 w_0 σ
    intro o17 o18 y19 ho17 ho18 ny19 σ16
    refine zr_iinc (lv' := [(3, .int (zI (y19 + 1))), (0, .ref (zad G 210)), (1, .ref (zad G o17)), (2, .ref (zad G o18))]) C 3 eX0_link_143 rfl (by decide) rfl ?_
    refine zr_goto C eX0_link_146 ?_
    refine zr_lv [1, 2, 3, 0] rfl ?_
    exact zr_lve (zs_p (zs_p (zs_p (zs_pi (zI_w (y19 + 1)).symm rfl)))) (ih o17 o18 (zw (y19 + 1)) ho17 ho18 (zw_w (y19 + 1)) _)
theorem zqB_link (l : Launch) (G : Zg) (σ : Zm) (o1 : Nat) (o2 : Nat) (h1 : zin 294 o1 6) (h2 : zin 294 o2 7) (res : Int × Zm) (he : fB_link σ o1 o2 = some res) : zM l yX0_link cX0_link 5 none 3 G 294 ztt σ [.ref (zad G 210), .ref (zad G o1), .ref (zad G o2)] none res.2 := by
  refine zM_of he (by decide +kernel) (Nat.le_of_ble_eq_true rfl) (lv := [(0, .ref (zad G 210)), (1, .ref (zad G o1)), (2, .ref (zad G o2))]) rfl (fun p e s m below meth c C => ?_)
  unfold fB_link
  refine zr_aloadn C 0 eX0_link_0 rfl ?_
  refine zr_getR C ff_X0_18 rfl zo_210 rfl zf_210_1 eX0_link_1 ?_
  refine zr_iconst C eX0_link_4 rfl ?_
  refine zr_callSv C [.ref (zad G 215), .int (zI 0)] zy_J7_fill_53178 zs_J7_fill_53178 lk_X0_28 zrm_3_4_0 (fun r hr => qJ7_fill_53178 l G σ 215 0 zo_215 w_0 r hr) rfl rfl (Nat.le_of_ble_eq_true rfl) eX0_link_5 (fun σ1 => ?_)
  refine zr_aloadn C 0 eX0_link_8 rfl ?_
  refine zr_getR C ff_X0_22 rfl zo_210 rfl zf_210_2 eX0_link_9 ?_
  refine zr_iconst C eX0_link_12 rfl ?_
  refine zr_callSv C [.ref (zad G 216), .int (zI 0)] zy_J7_fill_53178 zs_J7_fill_53178 lk_X0_28 zrm_3_4_0 (fun r hr => qJ7_fill_53178 l G σ1 216 0 zo_216 w_0 r hr) rfl rfl (Nat.le_of_ble_eq_true rfl) eX0_link_13 (fun σ2 => ?_)
  refine zr_iconst C eX0_link_16 rfl ?_
  refine zr_istoren (lv' := [(3, .int (zI 0)), (0, .ref (zad G 210)), (1, .ref (zad G o1)), (2, .ref (zad G o2))]) C eX0_link_17 (by decide) rfl ?_
  refine zr_lv [1, 2, 3, 0] rfl ?_
  refine wB_link_18 C 5000 o1 o2 0 h1 h2 w_0 σ2
theorem wB_waysTo_27 {G : Zg} {p : Program} {l : Launch} {e : Env} {s : State} {m : MethodId} {args : Array Value} {below : List Frame} {meth : Method} {c : Code} (C : zC G p s m args meth c cX0_waysTo 6 RX0 (some .int)) {res : Int × Zm} : ∀ (n : Nat) (x1 : Int) (x2 : Int) (x3 : Int) (x4 : Int) (x5 : Int) (n1 : zw x1 = x1) (n2 : zw x2 = x2) (n3 : zw x3 = x3) (n4 : zw x4 = x4) (n5 : zw x5 = x5) (σ : Zm), zR G p l e (zrm 0) s m args below meth c 6 0 0 (zQm below args s G 294 ztt (some (.int (zI res.1))) res.2) 294 ztt res σ (fB_waysTo_27 n x1 x2 x3 x4 x5 σ) [(0, .ref (zad G 210)), (1, .int (zI x1)), (2, .int (zI x2)), (3, .int (zI x3)), (4, .int (zI x4)), (5, .int (zI x5))] 27 []
  | 0, _, _, _, _, _, _, _, _, _, _, _ => zr_none
  | n + 1, x1, x2, x3, x4, x5, n1, n2, n3, n4, n5, σ => by
    have ih := fun (x1 : Int) (x2 : Int) (x3 : Int) (x4 : Int) (x5 : Int) (n1 : zw x1 = x1) (n2 : zw x2 = x2) (n3 : zw x3 = x3) (n4 : zw x4 = x4) (n5 : zw x5 = x5) (σ : Zm) => wB_waysTo_27 (l := l) (e := e) (below := below) C (res := res) n x1 x2 x3 x4 x5 n1 n2 n3 n4 n5 σ
    rw [fB_waysTo_27]
    refine zr_letf (fun R0 hR0 => ?_)
    have ih : ∀ (x1 : Int) (x2 : Int) (x3 : Int) (x4 : Int) (x5 : Int) (n1 : zw x1 = x1) (n2 : zw x2 = x2) (n3 : zw x3 = x3) (n4 : zw x4 = x4) (n5 : zw x5 = x5) (σ : Zm), zR G p l e (zrm 0) s m args below meth c 6 0 0 (zQm below args s G 294 ztt (some (.int (zI res.1))) res.2) 294 ztt res σ (R0 x1 x2 x3 x4 x5 σ) [(0, .ref (zad G 210)), (1, .int (zI x1)), (2, .int (zI x2)), (3, .int (zI x3)), (4, .int (zI x4)), (5, .int (zI x5))] 27 [] := by rw [hR0]; exact ih
    clear hR0
    refine zr_iload C 5 eX0_waysTo_27 rfl ?_
    refine zr_iloadn C 1 eX0_waysTo_29 rfl ?_
    refine zr_icmp_ge C eX0_waysTo_30 n5 n1 ?_ ?_
    · refine zr_iload C 4 eX0_waysTo_84 rfl ?_
      exact zr_iret C eX0_waysTo_86
    refine zr_iloadn C 2 eX0_waysTo_33 rfl ?_
    refine zr_iload C 5 eX0_waysTo_34 rfl ?_
    refine zr_ishr C eX0_waysTo_36 ?_
    refine zr_iconst C eX0_waysTo_37 rfl ?_
    refine zr_iand C eX0_waysTo_38 ?_
    refine zr_iconst C eX0_waysTo_39 rfl ?_
    refine zr_icmp_ne C eX0_waysTo_40 (zw_n _) w_1 ?_ ?_
    · refine zr_iinc (lv' := [(5, .int (zI (x5 + 1))), (0, .ref (zad G 210)), (1, .int (zI x1)), (2, .int (zI x2)), (3, .int (zI x3)), (4, .int (zI x4))]) C 5 eX0_waysTo_78 rfl (by decide) rfl ?_
      refine zr_goto C eX0_waysTo_81 ?_
      refine zr_lv [1, 2, 3, 4, 5, 0] rfl ?_
      exact zr_lve (zs_p (zs_p (zs_p (zs_p (zs_p (zs_pi (zI_w (x5 + 1)).symm rfl)))))) (ih x1 x2 x3 x4 (zw (x5 + 1)) n1 n2 n3 n4 (zw_w (x5 + 1)) _)
    refine zr_aloadn C 0 eX0_waysTo_43 rfl ?_
    refine zr_getR C ff_X0_22 rfl zo_210 rfl zf_210_2 eX0_waysTo_44 ?_
    refine zr_iloadn C 3 eX0_waysTo_47 rfl ?_
    refine zr_iald C zo_216 zn_216 n3 eX0_waysTo_48 (fun v2 nv2 => ?_)
    refine zr_iloadn C 2 eX0_waysTo_49 rfl ?_
    refine zr_iand C eX0_waysTo_50 ?_
    refine zr_iconst C eX0_waysTo_51 rfl ?_
    refine zr_iload C 5 eX0_waysTo_52 rfl ?_
    refine zr_ishl C eX0_waysTo_54 ?_
    refine zr_iconst C eX0_waysTo_55 rfl ?_
    refine zr_ixor C eX0_waysTo_56 ?_
    refine zr_iand C eX0_waysTo_57 ?_
    refine zr_if_ne C eX0_waysTo_58 (zw_n _) ?_ ?_
    · refine zr_iinc (lv' := [(5, .int (zI (x5 + 1))), (0, .ref (zad G 210)), (1, .int (zI x1)), (2, .int (zI x2)), (3, .int (zI x3)), (4, .int (zI x4))]) C 5 eX0_waysTo_78 rfl (by decide) rfl ?_
      refine zr_goto C eX0_waysTo_81 ?_
      refine zr_lv [1, 2, 3, 4, 5, 0] rfl ?_
      exact zr_lve (zs_p (zs_p (zs_p (zs_p (zs_p (zs_pi (zI_w (x5 + 1)).symm rfl)))))) (ih x1 x2 x3 x4 (zw (x5 + 1)) n1 n2 n3 n4 (zw_w (x5 + 1)) _)
    refine zr_iload C 4 eX0_waysTo_61 rfl ?_
    refine zr_aloadn C 0 eX0_waysTo_63 rfl ?_
    refine zr_getR C ff_X0_25 rfl zo_210 rfl zf_210_3 eX0_waysTo_64 ?_
    refine zr_iloadn C 2 eX0_waysTo_67 rfl ?_
    refine zr_bipush (a := 8) C eX0_waysTo_68 rfl ?_
    refine zr_imul C eX0_waysTo_70 ?_
    refine zr_iload C 5 eX0_waysTo_71 rfl ?_
    refine zr_iadd C eX0_waysTo_73 ?_
    refine zr_iald C zo_217 zn_217 rfl eX0_waysTo_74 (fun v3 nv3 => ?_)
    refine zr_iadd C eX0_waysTo_75 ?_
    refine zr_st (show _ = .int (zI (zw (x4 + v3))) :: _ from congrArg (· :: _) (congrArg Value.int (zI_w (x4 + v3)).symm)) ?_
    refine zr_letw (P := fun z => .int (zI z) :: _) (zw_w (x4 + v3)) (fun v4 nv4 => ?_)
    refine zr_istore (lv' := [(4, .int (zI v4)), (0, .ref (zad G 210)), (1, .int (zI x1)), (2, .int (zI x2)), (3, .int (zI x3)), (5, .int (zI x5))]) C eX0_waysTo_76 (by decide) rfl ?_
    refine zr_iinc (lv' := [(5, .int (zI (x5 + 1))), (4, .int (zI v4)), (0, .ref (zad G 210)), (1, .int (zI x1)), (2, .int (zI x2)), (3, .int (zI x3))]) C 5 eX0_waysTo_78 rfl (by decide) rfl ?_
    refine zr_goto C eX0_waysTo_81 ?_
    refine zr_lv [2, 3, 4, 5, 1, 0] rfl ?_
    exact zr_lve (zs_p (zs_p (zs_p (zs_p (zs_p (zs_pi (zI_w (x5 + 1)).symm rfl)))))) (ih x1 x2 x3 v4 (zw (x5 + 1)) n1 n2 n3 nv4 (zw_w (x5 + 1)) _)
theorem zqB_waysTo (l : Launch) (G : Zg) (σ : Zm) (x1 : Int) (x2 : Int) (x3 : Int) (n1 : zw x1 = x1) (n2 : zw x2 = x2) (n3 : zw x3 = x3) (res : Int × Zm) (he : fB_waysTo σ x1 x2 x3 = some res) : zM l yX0_waysTo cX0_waysTo 6 (some .int) 0 G 294 ztt σ [.ref (zad G 210), .int (zI x1), .int (zI x2), .int (zI x3)] (some (.int (zI res.1))) res.2 := by
  refine zM_of he (by decide +kernel) (Nat.le_of_ble_eq_true rfl) (lv := [(0, .ref (zad G 210)), (1, .int (zI x1)), (2, .int (zI x2)), (3, .int (zI x3))]) rfl (fun p e s m below meth c C => ?_)
  unfold fB_waysTo
  refine zr_aloadn C 0 eX0_waysTo_0 rfl ?_
  refine zr_getR C ff_X0_18 rfl zo_210 rfl zf_210_1 eX0_waysTo_1 ?_
  refine zr_iloadn C 3 eX0_waysTo_4 rfl ?_
  refine zr_iald C zo_215 zn_215 n3 eX0_waysTo_5 (fun v1 nv1 => ?_)
  refine zr_iloadn C 2 eX0_waysTo_6 rfl ?_
  refine zr_iconst C eX0_waysTo_7 rfl ?_
  refine zr_ixor C eX0_waysTo_8 ?_
  refine zr_iand C eX0_waysTo_9 ?_
  refine zr_if_eq C eX0_waysTo_10 (zw_n _) ?_ ?_
  · refine zr_iloadn C 2 eX0_waysTo_15 rfl ?_
    refine zr_if_ne C eX0_waysTo_16 n2 ?_ ?_
    · refine zr_iconst C eX0_waysTo_21 rfl ?_
      refine zr_istore (lv' := [(4, .int (zI 0)), (0, .ref (zad G 210)), (1, .int (zI x1)), (2, .int (zI x2)), (3, .int (zI x3))]) C eX0_waysTo_22 (by decide) rfl ?_
      refine zr_iconst C eX0_waysTo_24 rfl ?_
      refine zr_istore (lv' := [(5, .int (zI 0)), (4, .int (zI 0)), (0, .ref (zad G 210)), (1, .int (zI x1)), (2, .int (zI x2)), (3, .int (zI x3))]) C eX0_waysTo_25 (by decide) rfl ?_
      refine zr_lv [2, 3, 4, 5, 1, 0] rfl ?_
      refine wB_waysTo_27 C 5000 x1 x2 x3 0 0 n1 n2 n3 w_0 w_0 σ
    refine zr_iconst C eX0_waysTo_19 rfl ?_
    exact zr_iret C eX0_waysTo_20
  refine zr_iconst C eX0_waysTo_13 rfl ?_
  exact zr_iret C eX0_waysTo_14
theorem wB_count_126 {G : Zg} {p : Program} {l : Launch} {e : Env} {s : State} {m : MethodId} {args : Array Value} {below : List Frame} {meth : Method} {c : Code} (C : zC G p s m args meth c cX0_count 10 RX0 (some .int)) {res : Int × Zm} (R0 : Int → Int → Int → Int → Int → Int → Int → Int → Zm → Zr) (K161 : Int → Int → Int → Int → Int → Int → Zm → Zr) (ih : ∀ (x1 : Int) (x2 : Int) (x3 : Int) (x4 : Int) (x5 : Int) (x6 : Int) (x7 : Int) (x8 : Int) (n1 : zw x1 = x1) (n2 : zw x2 = x2) (n3 : zw x3 = x3) (n4 : zw x4 = x4) (n5 : zw x5 = x5) (n6 : zw x6 = x6) (n7 : zw x7 = x7) (n8 : zw x8 = x8) (σ : Zm), zR G p l e (zrm 1) s m args below meth c 10 0 0 (zQm below args s G 294 ztt (some (.int (zI res.1))) res.2) 294 ztt res σ (R0 x1 x2 x3 x4 x5 x6 x7 x8 σ) [(0, .ref (zad G 210)), (1, .int (zI x1)), (2, .int (zI x2)), (3, .int (zI x3)), (4, .int (zI x4)), (5, .int (zI x5)), (6, .int (zI x6)), (7, .int (zI x7)), (8, .int (zI x8))] 53 []) (hK161 : ∀ (x1 : Int) (x2 : Int) (x3 : Int) (x4 : Int) (x5 : Int) (x6 : Int) (n1 : zw x1 = x1) (n2 : zw x2 = x2) (n3 : zw x3 = x3) (n4 : zw x4 = x4) (n5 : zw x5 = x5) (n6 : zw x6 = x6) (σ : Zm), zR G p l e (zrm 1) s m args below meth c 10 0 0 (zQm below args s G 294 ztt (some (.int (zI res.1))) res.2) 294 ztt res σ (K161 x1 x2 x3 x4 x5 x6 σ) [(0, .ref (zad G 210)), (1, .int (zI x1)), (2, .int (zI x2)), (3, .int (zI x3)), (4, .int (zI x4)), (5, .int (zI x5)), (6, .int (zI x6))] 161 []) (x1 : Int) (x2 : Int) (x3 : Int) (x4 : Int) (x5 : Int) (x6 : Int) (x7 : Int) (x8 : Int) (n1 : zw x1 = x1) (n2 : zw x2 = x2) (n3 : zw x3 = x3) (n4 : zw x4 = x4) (n5 : zw x5 = x5) (n6 : zw x6 = x6) (n7 : zw x7 = x7) (n8 : zw x8 = x8) (σ : Zm) : zR G p l e (zrm 1) s m args below meth c 10 0 0 (zQm below args s G 294 ztt (some (.int (zI res.1))) res.2) 294 ztt res σ (fB_count_126 R0 K161 x1 x2 x3 x4 x5 x6 x7 x8 σ) [(0, .ref (zad G 210)), (1, .int (zI x1)), (2, .int (zI x2)), (3, .int (zI x3)), (4, .int (zI x4)), (5, .int (zI x5)), (6, .int (zI x6)), (7, .int (zI x7)), (8, .int (zI x8))] 126 [] := by
  unfold fB_count_126
  refine zr_iload C 5 eX0_count_126 rfl ?_
  refine zr_iload C 6 eX0_count_128 rfl ?_
  refine zr_iload C 4 eX0_count_130 rfl ?_
  refine zr_icmp_ne C eX0_count_132 n6 n4 ?_ ?_
  · refine zr_iconst C eX0_count_151 rfl ?_
    refine zr_iadd C eX0_count_152 ?_
    refine zr_st (show _ = .int (zI (zw (x5 + 0))) :: _ from congrArg (· :: _) (congrArg Value.int (zI_w (x5 + 0)).symm)) ?_
    refine zr_letw (P := fun z => .int (zI z) :: _) (zw_w (x5 + 0)) (fun v7 nv7 => ?_)
    refine zr_istore (lv' := [(5, .int (zI v7)), (0, .ref (zad G 210)), (1, .int (zI x1)), (2, .int (zI x2)), (3, .int (zI x3)), (4, .int (zI x4)), (6, .int (zI x6)), (7, .int (zI x7)), (8, .int (zI x8))]) C eX0_count_153 (by decide) rfl ?_
    refine zr_iinc (lv' := [(8, .int (zI (x8 + 1))), (5, .int (zI v7)), (0, .ref (zad G 210)), (1, .int (zI x1)), (2, .int (zI x2)), (3, .int (zI x3)), (4, .int (zI x4)), (6, .int (zI x6)), (7, .int (zI x7))]) C 8 eX0_count_155 rfl (by decide) rfl ?_
    refine zr_goto C eX0_count_158 ?_
    refine zr_lv [2, 3, 4, 5, 6, 1, 7, 8, 0] rfl ?_
    exact zr_lve (zs_p (zs_p (zs_p (zs_p (zs_p (zs_p (zs_p (zs_p (zs_pi (zI_w (x8 + 1)).symm rfl))))))))) (ih x1 x2 x3 x4 v7 x6 x7 (zw (x8 + 1)) n1 n2 n3 n4 nv7 n6 n7 (zw_w (x8 + 1)) _)
  refine zr_aloadn C 0 eX0_count_135 rfl ?_
  refine zr_getR C ff_X0_25 rfl zo_210 rfl zf_210_3 eX0_count_136 ?_
  refine zr_iload C 6 eX0_count_139 rfl ?_
  refine zr_bipush (a := 8) C eX0_count_141 rfl ?_
  refine zr_imul C eX0_count_143 ?_
  refine zr_iload C 8 eX0_count_144 rfl ?_
  refine zr_iadd C eX0_count_146 ?_
  refine zr_iald C zo_217 zn_217 rfl eX0_count_147 (fun v8 nv8 => ?_)
  refine zr_goto C eX0_count_148 ?_
  refine zr_iadd C eX0_count_152 ?_
  refine zr_st (show _ = .int (zI (zw (x5 + v8))) :: _ from congrArg (· :: _) (congrArg Value.int (zI_w (x5 + v8)).symm)) ?_
  refine zr_letw (P := fun z => .int (zI z) :: _) (zw_w (x5 + v8)) (fun v9 nv9 => ?_)
  refine zr_istore (lv' := [(5, .int (zI v9)), (0, .ref (zad G 210)), (1, .int (zI x1)), (2, .int (zI x2)), (3, .int (zI x3)), (4, .int (zI x4)), (6, .int (zI x6)), (7, .int (zI x7)), (8, .int (zI x8))]) C eX0_count_153 (by decide) rfl ?_
  refine zr_iinc (lv' := [(8, .int (zI (x8 + 1))), (5, .int (zI v9)), (0, .ref (zad G 210)), (1, .int (zI x1)), (2, .int (zI x2)), (3, .int (zI x3)), (4, .int (zI x4)), (6, .int (zI x6)), (7, .int (zI x7))]) C 8 eX0_count_155 rfl (by decide) rfl ?_
  refine zr_goto C eX0_count_158 ?_
  refine zr_lv [2, 3, 4, 5, 6, 1, 7, 8, 0] rfl ?_
  exact zr_lve (zs_p (zs_p (zs_p (zs_p (zs_p (zs_p (zs_p (zs_p (zs_pi (zI_w (x8 + 1)).symm rfl))))))))) (ih x1 x2 x3 x4 v9 x6 x7 (zw (x8 + 1)) n1 n2 n3 n4 nv9 n6 n7 (zw_w (x8 + 1)) _)
theorem wB_count_88 {G : Zg} {p : Program} {l : Launch} {e : Env} {s : State} {m : MethodId} {args : Array Value} {below : List Frame} {meth : Method} {c : Code} (C : zC G p s m args meth c cX0_count 10 RX0 (some .int)) {res : Int × Zm} (R0 : Int → Int → Int → Int → Int → Int → Int → Int → Zm → Zr) (K161 : Int → Int → Int → Int → Int → Int → Zm → Zr) (ih : ∀ (x1 : Int) (x2 : Int) (x3 : Int) (x4 : Int) (x5 : Int) (x6 : Int) (x7 : Int) (x8 : Int) (n1 : zw x1 = x1) (n2 : zw x2 = x2) (n3 : zw x3 = x3) (n4 : zw x4 = x4) (n5 : zw x5 = x5) (n6 : zw x6 = x6) (n7 : zw x7 = x7) (n8 : zw x8 = x8) (σ : Zm), zR G p l e (zrm 1) s m args below meth c 10 0 0 (zQm below args s G 294 ztt (some (.int (zI res.1))) res.2) 294 ztt res σ (R0 x1 x2 x3 x4 x5 x6 x7 x8 σ) [(0, .ref (zad G 210)), (1, .int (zI x1)), (2, .int (zI x2)), (3, .int (zI x3)), (4, .int (zI x4)), (5, .int (zI x5)), (6, .int (zI x6)), (7, .int (zI x7)), (8, .int (zI x8))] 53 []) (hK161 : ∀ (x1 : Int) (x2 : Int) (x3 : Int) (x4 : Int) (x5 : Int) (x6 : Int) (n1 : zw x1 = x1) (n2 : zw x2 = x2) (n3 : zw x3 = x3) (n4 : zw x4 = x4) (n5 : zw x5 = x5) (n6 : zw x6 = x6) (σ : Zm), zR G p l e (zrm 1) s m args below meth c 10 0 0 (zQm below args s G 294 ztt (some (.int (zI res.1))) res.2) 294 ztt res σ (K161 x1 x2 x3 x4 x5 x6 σ) [(0, .ref (zad G 210)), (1, .int (zI x1)), (2, .int (zI x2)), (3, .int (zI x3)), (4, .int (zI x4)), (5, .int (zI x5)), (6, .int (zI x6))] 161 []) (x1 : Int) (x2 : Int) (x3 : Int) (x4 : Int) (x5 : Int) (x6 : Int) (x7 : Int) (x8 : Int) (x9 : Int) (n1 : zw x1 = x1) (n2 : zw x2 = x2) (n3 : zw x3 = x3) (n4 : zw x4 = x4) (n5 : zw x5 = x5) (n6 : zw x6 = x6) (n7 : zw x7 = x7) (n8 : zw x8 = x8) (n9 : zw x9 = x9) (σ : Zm) : zR G p l e (zrm 1) s m args below meth c 10 0 0 (zQm below args s G 294 ztt (some (.int (zI res.1))) res.2) 294 ztt res σ (fB_count_88 R0 K161 x1 x2 x3 x4 x5 x6 x7 x8 x9 σ) [(0, .ref (zad G 210)), (1, .int (zI x1)), (2, .int (zI x2)), (3, .int (zI x3)), (4, .int (zI x4)), (5, .int (zI x5)), (6, .int (zI x6)), (7, .int (zI x7)), (8, .int (zI x8)), (9, .int (zI x9))] 88 [] := by
  unfold fB_count_88
  refine zr_aloadn C 0 eX0_count_88 rfl ?_
  refine zr_getR C ff_X0_25 rfl zo_210 rfl zf_210_3 eX0_count_89 ?_
  refine zr_iload C 6 eX0_count_92 rfl ?_
  refine zr_bipush (a := 8) C eX0_count_94 rfl ?_
  refine zr_imul C eX0_count_96 ?_
  refine zr_iload C 8 eX0_count_97 rfl ?_
  refine zr_iadd C eX0_count_99 ?_
  refine zr_iload C 9 eX0_count_100 rfl ?_
  refine zr_if_eq C eX0_count_102 n9 ?_ ?_
  · refine zr_iconst C eX0_count_124 rfl ?_
    refine zr_iast C zo_217 zn_217 rfl eX0_count_125 (fun σ6 => ?_)
    refine zr_lv [0, 1, 2, 3, 4, 5, 6, 7, 8] rfl ?_
    exact wB_count_126 C R0 K161 ih hK161 x1 x2 x3 x4 x5 x6 x7 x8 n1 n2 n3 n4 n5 n6 n7 n8 σ6
  refine zr_aloadn C 0 eX0_count_105 rfl ?_
  refine zr_iloadn C 1 eX0_count_106 rfl ?_
  refine zr_iload C 6 eX0_count_107 rfl ?_
  refine zr_iconst C eX0_count_109 rfl ?_
  refine zr_iload C 8 eX0_count_110 rfl ?_
  refine zr_ishl C eX0_count_112 ?_
  refine zr_iconst C eX0_count_113 rfl ?_
  refine zr_ixor C eX0_count_114 ?_
  refine zr_iand C eX0_count_115 ?_
  refine zr_iload C 8 eX0_count_116 rfl ?_
  refine zr_callVi C [.int (zI x1), .int (zI (zand x6 (zxor (zshl 1 x8) (-1)))), .int (zI x8)] zy_X0_waysTo zv_X0_waysTo lk_X0_61 zrm_1_6_0 zo_210 (by decide) rfl (fun r hr => zqB_waysTo l G σ x1 (zand x6 (zxor (zshl 1 x8) (-1))) x8 n1 (zw_n _) n8 r hr) rfl rfl (Nat.le_of_ble_eq_true rfl) eX0_count_118 (fun v11 nv11 σ10 => ?_)
  refine zr_goto C eX0_count_121 ?_
  refine zr_iast C zo_217 zn_217 rfl eX0_count_125 (fun σ12 => ?_)
  refine zr_lv [0, 1, 2, 3, 4, 5, 6, 7, 8] rfl ?_
  exact wB_count_126 C R0 K161 ih hK161 x1 x2 x3 x4 x5 x6 x7 x8 n1 n2 n3 n4 n5 n6 n7 n8 σ12
theorem wB_count_85 {G : Zg} {p : Program} {l : Launch} {e : Env} {s : State} {m : MethodId} {args : Array Value} {below : List Frame} {meth : Method} {c : Code} (C : zC G p s m args meth c cX0_count 10 RX0 (some .int)) {res : Int × Zm} (R0 : Int → Int → Int → Int → Int → Int → Int → Int → Zm → Zr) (K161 : Int → Int → Int → Int → Int → Int → Zm → Zr) (ih : ∀ (x1 : Int) (x2 : Int) (x3 : Int) (x4 : Int) (x5 : Int) (x6 : Int) (x7 : Int) (x8 : Int) (n1 : zw x1 = x1) (n2 : zw x2 = x2) (n3 : zw x3 = x3) (n4 : zw x4 = x4) (n5 : zw x5 = x5) (n6 : zw x6 = x6) (n7 : zw x7 = x7) (n8 : zw x8 = x8) (σ : Zm), zR G p l e (zrm 1) s m args below meth c 10 0 0 (zQm below args s G 294 ztt (some (.int (zI res.1))) res.2) 294 ztt res σ (R0 x1 x2 x3 x4 x5 x6 x7 x8 σ) [(0, .ref (zad G 210)), (1, .int (zI x1)), (2, .int (zI x2)), (3, .int (zI x3)), (4, .int (zI x4)), (5, .int (zI x5)), (6, .int (zI x6)), (7, .int (zI x7)), (8, .int (zI x8))] 53 []) (hK161 : ∀ (x1 : Int) (x2 : Int) (x3 : Int) (x4 : Int) (x5 : Int) (x6 : Int) (n1 : zw x1 = x1) (n2 : zw x2 = x2) (n3 : zw x3 = x3) (n4 : zw x4 = x4) (n5 : zw x5 = x5) (n6 : zw x6 = x6) (σ : Zm), zR G p l e (zrm 1) s m args below meth c 10 0 0 (zQm below args s G 294 ztt (some (.int (zI res.1))) res.2) 294 ztt res σ (K161 x1 x2 x3 x4 x5 x6 σ) [(0, .ref (zad G 210)), (1, .int (zI x1)), (2, .int (zI x2)), (3, .int (zI x3)), (4, .int (zI x4)), (5, .int (zI x5)), (6, .int (zI x6))] 161 []) (x1 : Int) (x2 : Int) (x3 : Int) (x4 : Int) (x5 : Int) (x6 : Int) (x7 : Int) (x8 : Int) (n1 : zw x1 = x1) (n2 : zw x2 = x2) (n3 : zw x3 = x3) (n4 : zw x4 = x4) (n5 : zw x5 = x5) (n6 : zw x6 = x6) (n7 : zw x7 = x7) (n8 : zw x8 = x8) (σ : Zm) : zR G p l e (zrm 1) s m args below meth c 10 0 0 (zQm below args s G 294 ztt (some (.int (zI res.1))) res.2) 294 ztt res σ (fB_count_85 R0 K161 x1 x2 x3 x4 x5 x6 x7 x8 σ) [(0, .ref (zad G 210)), (1, .int (zI x1)), (2, .int (zI x2)), (3, .int (zI x3)), (4, .int (zI x4)), (5, .int (zI x5)), (6, .int (zI x6)), (7, .int (zI x7)), (8, .int (zI x8))] 85 [] := by
  unfold fB_count_85
  refine zr_iconst C eX0_count_85 rfl ?_
  refine zr_istore (lv' := [(9, .int (zI 0)), (0, .ref (zad G 210)), (1, .int (zI x1)), (2, .int (zI x2)), (3, .int (zI x3)), (4, .int (zI x4)), (5, .int (zI x5)), (6, .int (zI x6)), (7, .int (zI x7)), (8, .int (zI x8))]) C eX0_count_86 (by decide) rfl ?_
  refine zr_lv [1, 2, 3, 4, 5, 6, 7, 8, 9, 0] rfl ?_
  exact wB_count_88 C R0 K161 ih hK161 x1 x2 x3 x4 x5 x6 x7 x8 0 n1 n2 n3 n4 n5 n6 n7 n8 w_0 σ
theorem wB_count_81 {G : Zg} {p : Program} {l : Launch} {e : Env} {s : State} {m : MethodId} {args : Array Value} {below : List Frame} {meth : Method} {c : Code} (C : zC G p s m args meth c cX0_count 10 RX0 (some .int)) {res : Int × Zm} (R0 : Int → Int → Int → Int → Int → Int → Int → Int → Zm → Zr) (K161 : Int → Int → Int → Int → Int → Int → Zm → Zr) (ih : ∀ (x1 : Int) (x2 : Int) (x3 : Int) (x4 : Int) (x5 : Int) (x6 : Int) (x7 : Int) (x8 : Int) (n1 : zw x1 = x1) (n2 : zw x2 = x2) (n3 : zw x3 = x3) (n4 : zw x4 = x4) (n5 : zw x5 = x5) (n6 : zw x6 = x6) (n7 : zw x7 = x7) (n8 : zw x8 = x8) (σ : Zm), zR G p l e (zrm 1) s m args below meth c 10 0 0 (zQm below args s G 294 ztt (some (.int (zI res.1))) res.2) 294 ztt res σ (R0 x1 x2 x3 x4 x5 x6 x7 x8 σ) [(0, .ref (zad G 210)), (1, .int (zI x1)), (2, .int (zI x2)), (3, .int (zI x3)), (4, .int (zI x4)), (5, .int (zI x5)), (6, .int (zI x6)), (7, .int (zI x7)), (8, .int (zI x8))] 53 []) (hK161 : ∀ (x1 : Int) (x2 : Int) (x3 : Int) (x4 : Int) (x5 : Int) (x6 : Int) (n1 : zw x1 = x1) (n2 : zw x2 = x2) (n3 : zw x3 = x3) (n4 : zw x4 = x4) (n5 : zw x5 = x5) (n6 : zw x6 = x6) (σ : Zm), zR G p l e (zrm 1) s m args below meth c 10 0 0 (zQm below args s G 294 ztt (some (.int (zI res.1))) res.2) 294 ztt res σ (K161 x1 x2 x3 x4 x5 x6 σ) [(0, .ref (zad G 210)), (1, .int (zI x1)), (2, .int (zI x2)), (3, .int (zI x3)), (4, .int (zI x4)), (5, .int (zI x5)), (6, .int (zI x6))] 161 []) (x1 : Int) (x2 : Int) (x3 : Int) (x4 : Int) (x5 : Int) (x6 : Int) (x7 : Int) (x8 : Int) (n1 : zw x1 = x1) (n2 : zw x2 = x2) (n3 : zw x3 = x3) (n4 : zw x4 = x4) (n5 : zw x5 = x5) (n6 : zw x6 = x6) (n7 : zw x7 = x7) (n8 : zw x8 = x8) (σ : Zm) : zR G p l e (zrm 1) s m args below meth c 10 0 0 (zQm below args s G 294 ztt (some (.int (zI res.1))) res.2) 294 ztt res σ (fB_count_81 R0 K161 x1 x2 x3 x4 x5 x6 x7 x8 σ) [(0, .ref (zad G 210)), (1, .int (zI x1)), (2, .int (zI x2)), (3, .int (zI x3)), (4, .int (zI x4)), (5, .int (zI x5)), (6, .int (zI x6)), (7, .int (zI x7)), (8, .int (zI x8))] 81 [] := by
  unfold fB_count_81
  refine zr_iconst C eX0_count_81 rfl ?_
  refine zr_goto C eX0_count_82 ?_
  refine zr_istore (lv' := [(9, .int (zI 1)), (0, .ref (zad G 210)), (1, .int (zI x1)), (2, .int (zI x2)), (3, .int (zI x3)), (4, .int (zI x4)), (5, .int (zI x5)), (6, .int (zI x6)), (7, .int (zI x7)), (8, .int (zI x8))]) C eX0_count_86 (by decide) rfl ?_
  refine zr_lv [1, 2, 3, 4, 5, 6, 7, 8, 9, 0] rfl ?_
  exact wB_count_88 C R0 K161 ih hK161 x1 x2 x3 x4 x5 x6 x7 x8 1 n1 n2 n3 n4 n5 n6 n7 n8 w_1 σ
theorem wB_count_53 {G : Zg} {p : Program} {l : Launch} {e : Env} {s : State} {m : MethodId} {args : Array Value} {below : List Frame} {meth : Method} {c : Code} (C : zC G p s m args meth c cX0_count 10 RX0 (some .int)) {res : Int × Zm} (K161 : Int → Int → Int → Int → Int → Int → Zm → Zr) (hK161 : ∀ (x1 : Int) (x2 : Int) (x3 : Int) (x4 : Int) (x5 : Int) (x6 : Int) (n1 : zw x1 = x1) (n2 : zw x2 = x2) (n3 : zw x3 = x3) (n4 : zw x4 = x4) (n5 : zw x5 = x5) (n6 : zw x6 = x6) (σ : Zm), zR G p l e (zrm 1) s m args below meth c 10 0 0 (zQm below args s G 294 ztt (some (.int (zI res.1))) res.2) 294 ztt res σ (K161 x1 x2 x3 x4 x5 x6 σ) [(0, .ref (zad G 210)), (1, .int (zI x1)), (2, .int (zI x2)), (3, .int (zI x3)), (4, .int (zI x4)), (5, .int (zI x5)), (6, .int (zI x6))] 161 []) : ∀ (n : Nat) (x1 : Int) (x2 : Int) (x3 : Int) (x4 : Int) (x5 : Int) (x6 : Int) (x7 : Int) (x8 : Int) (n1 : zw x1 = x1) (n2 : zw x2 = x2) (n3 : zw x3 = x3) (n4 : zw x4 = x4) (n5 : zw x5 = x5) (n6 : zw x6 = x6) (n7 : zw x7 = x7) (n8 : zw x8 = x8) (σ : Zm), zR G p l e (zrm 1) s m args below meth c 10 0 0 (zQm below args s G 294 ztt (some (.int (zI res.1))) res.2) 294 ztt res σ (fB_count_53 n x1 x2 x3 x4 x5 x6 x7 x8 σ K161) [(0, .ref (zad G 210)), (1, .int (zI x1)), (2, .int (zI x2)), (3, .int (zI x3)), (4, .int (zI x4)), (5, .int (zI x5)), (6, .int (zI x6)), (7, .int (zI x7)), (8, .int (zI x8))] 53 []
  | 0, _, _, _, _, _, _, _, _, _, _, _, _, _, _, _, _, _ => zr_none
  | n + 1, x1, x2, x3, x4, x5, x6, x7, x8, n1, n2, n3, n4, n5, n6, n7, n8, σ => by
    have ih := fun (x1 : Int) (x2 : Int) (x3 : Int) (x4 : Int) (x5 : Int) (x6 : Int) (x7 : Int) (x8 : Int) (n1 : zw x1 = x1) (n2 : zw x2 = x2) (n3 : zw x3 = x3) (n4 : zw x4 = x4) (n5 : zw x5 = x5) (n6 : zw x6 = x6) (n7 : zw x7 = x7) (n8 : zw x8 = x8) (σ : Zm) => wB_count_53 (l := l) (e := e) (below := below) C K161 hK161 (res := res) n x1 x2 x3 x4 x5 x6 x7 x8 n1 n2 n3 n4 n5 n6 n7 n8 σ
    rw [fB_count_53]
    refine zr_letf (fun R0 hR0 => ?_)
    have ih : ∀ (x1 : Int) (x2 : Int) (x3 : Int) (x4 : Int) (x5 : Int) (x6 : Int) (x7 : Int) (x8 : Int) (n1 : zw x1 = x1) (n2 : zw x2 = x2) (n3 : zw x3 = x3) (n4 : zw x4 = x4) (n5 : zw x5 = x5) (n6 : zw x6 = x6) (n7 : zw x7 = x7) (n8 : zw x8 = x8) (σ : Zm), zR G p l e (zrm 1) s m args below meth c 10 0 0 (zQm below args s G 294 ztt (some (.int (zI res.1))) res.2) 294 ztt res σ (R0 x1 x2 x3 x4 x5 x6 x7 x8 σ) [(0, .ref (zad G 210)), (1, .int (zI x1)), (2, .int (zI x2)), (3, .int (zI x3)), (4, .int (zI x4)), (5, .int (zI x5)), (6, .int (zI x6)), (7, .int (zI x7)), (8, .int (zI x8))] 53 [] := by rw [hR0]; exact ih
    clear hR0
    refine zr_iload C 8 eX0_count_53 rfl ?_
    refine zr_iloadn C 1 eX0_count_55 rfl ?_
    refine zr_icmp_ge C eX0_count_56 n8 n1 ?_ ?_
    · refine zr_lv [0, 1, 2, 3, 4, 5, 6] rfl ?_
      exact hK161 x1 x2 x3 x4 x5 x6 n1 n2 n3 n4 n5 n6 _
    refine zr_iload C 6 eX0_count_59 rfl ?_
    refine zr_iload C 8 eX0_count_61 rfl ?_
    refine zr_ishr C eX0_count_63 ?_
    refine zr_iconst C eX0_count_64 rfl ?_
    refine zr_iand C eX0_count_65 ?_
    refine zr_iconst C eX0_count_66 rfl ?_
    refine zr_icmp_ne C eX0_count_67 (zw_n _) w_1 ?_ ?_
    · exact wB_count_85 C R0 K161 ih hK161 x1 x2 x3 x4 x5 x6 x7 x8 n1 n2 n3 n4 n5 n6 n7 n8 σ
    refine zr_iload C 7 eX0_count_70 rfl ?_
    refine zr_if_eq C eX0_count_72 n7 ?_ ?_
    · exact wB_count_81 C R0 K161 ih hK161 x1 x2 x3 x4 x5 x6 x7 x8 n1 n2 n3 n4 n5 n6 n7 n8 σ
    refine zr_iload C 8 eX0_count_75 rfl ?_
    refine zr_iloadn C 2 eX0_count_77 rfl ?_
    refine zr_icmp_ne C eX0_count_78 n8 n2 ?_ ?_
    · exact wB_count_85 C R0 K161 ih hK161 x1 x2 x3 x4 x5 x6 x7 x8 n1 n2 n3 n4 n5 n6 n7 n8 σ
    exact wB_count_81 C R0 K161 ih hK161 x1 x2 x3 x4 x5 x6 x7 x8 n1 n2 n3 n4 n5 n6 n7 n8 σ
theorem wB_count_25 {G : Zg} {p : Program} {l : Launch} {e : Env} {s : State} {m : MethodId} {args : Array Value} {below : List Frame} {meth : Method} {c : Code} (C : zC G p s m args meth c cX0_count 10 RX0 (some .int)) {res : Int × Zm} : ∀ (n : Nat) (x1 : Int) (x2 : Int) (x3 : Int) (x4 : Int) (x5 : Int) (x6 : Int) (n1 : zw x1 = x1) (n2 : zw x2 = x2) (n3 : zw x3 = x3) (n4 : zw x4 = x4) (n5 : zw x5 = x5) (n6 : zw x6 = x6) (σ : Zm), zR G p l e (zrm 1) s m args below meth c 10 0 0 (zQm below args s G 294 ztt (some (.int (zI res.1))) res.2) 294 ztt res σ (fB_count_25 n x1 x2 x3 x4 x5 x6 σ) [(0, .ref (zad G 210)), (1, .int (zI x1)), (2, .int (zI x2)), (3, .int (zI x3)), (4, .int (zI x4)), (5, .int (zI x5)), (6, .int (zI x6))] 25 []
  | 0, _, _, _, _, _, _, _, _, _, _, _, _, _ => zr_none
  | n + 1, x1, x2, x3, x4, x5, x6, n1, n2, n3, n4, n5, n6, σ => by
    have ih := fun (x1 : Int) (x2 : Int) (x3 : Int) (x4 : Int) (x5 : Int) (x6 : Int) (n1 : zw x1 = x1) (n2 : zw x2 = x2) (n3 : zw x3 = x3) (n4 : zw x4 = x4) (n5 : zw x5 = x5) (n6 : zw x6 = x6) (σ : Zm) => wB_count_25 (l := l) (e := e) (below := below) C (res := res) n x1 x2 x3 x4 x5 x6 n1 n2 n3 n4 n5 n6 σ
    rw [fB_count_25]
    refine zr_letf (fun R0 hR0 => ?_)
    have ih : ∀ (x1 : Int) (x2 : Int) (x3 : Int) (x4 : Int) (x5 : Int) (x6 : Int) (n1 : zw x1 = x1) (n2 : zw x2 = x2) (n3 : zw x3 = x3) (n4 : zw x4 = x4) (n5 : zw x5 = x5) (n6 : zw x6 = x6) (σ : Zm), zR G p l e (zrm 1) s m args below meth c 10 0 0 (zQm below args s G 294 ztt (some (.int (zI res.1))) res.2) 294 ztt res σ (R0 x1 x2 x3 x4 x5 x6 σ) [(0, .ref (zad G 210)), (1, .int (zI x1)), (2, .int (zI x2)), (3, .int (zI x3)), (4, .int (zI x4)), (5, .int (zI x5)), (6, .int (zI x6))] 25 [] := by rw [hR0]; exact ih
    clear hR0
    refine zr_iload C 6 eX0_count_25 rfl ?_
    refine zr_iload C 4 eX0_count_27 rfl ?_
    refine zr_icmp_gt C eX0_count_29 n6 n4 ?_ ?_
    · refine zr_iload C 5 eX0_count_167 rfl ?_
      exact zr_iret C eX0_count_169
    refine zr_iload C 6 eX0_count_32 rfl ?_
    refine zr_callSi C [.int (zI x6)] zy_J6_bitCount_0f7a4 zs_J6_bitCount_0f7a4 lk_X0_55 zrm_1_1_0 (fun r hr => qJ6_bitCount_0f7a4 l G σ x6 n6 r hr) rfl rfl (Nat.le_of_ble_eq_true rfl) eX0_count_34 (fun v5 nv5 σ4 => ?_)
    refine zr_iconst C eX0_count_37 rfl ?_
    refine zr_isub C eX0_count_38 ?_
    refine zr_iloadn C 3 eX0_count_39 rfl ?_
    refine zr_icmp_ne C eX0_count_40 rfl n3 ?_ ?_
    · refine zr_iconst C eX0_count_47 rfl ?_
      refine zr_istore (lv' := [(7, .int (zI 0)), (0, .ref (zad G 210)), (1, .int (zI x1)), (2, .int (zI x2)), (3, .int (zI x3)), (4, .int (zI x4)), (5, .int (zI x5)), (6, .int (zI x6))]) C eX0_count_48 (by decide) rfl ?_
      refine zr_iconst C eX0_count_50 rfl ?_
      refine zr_istore (lv' := [(8, .int (zI 0)), (7, .int (zI 0)), (0, .ref (zad G 210)), (1, .int (zI x1)), (2, .int (zI x2)), (3, .int (zI x3)), (4, .int (zI x4)), (5, .int (zI x5)), (6, .int (zI x6))]) C eX0_count_51 (by decide) rfl ?_
      refine zr_lv [2, 3, 4, 5, 6, 7, 8, 1, 0] rfl ?_
      refine wB_count_53 C _ ?_ 5000 x1 x2 x3 x4 x5 x6 0 0 n1 n2 n3 n4 n5 n6 w_0 w_0 σ4
      intro y14 y15 y16 y17 y18 y19 ny14 ny15 ny16 ny17 ny18 ny19 σ13
      refine zr_iinc (lv' := [(6, .int (zI (y19 + 1))), (0, .ref (zad G 210)), (1, .int (zI y14)), (2, .int (zI y15)), (3, .int (zI y16)), (4, .int (zI y17)), (5, .int (zI y18))]) C 6 eX0_count_161 rfl (by decide) rfl ?_
      refine zr_goto C eX0_count_164 ?_
      refine zr_lv [1, 2, 3, 4, 5, 6, 0] rfl ?_
      exact zr_lve (zs_p (zs_p (zs_p (zs_p (zs_p (zs_p (zs_pi (zI_w (y19 + 1)).symm rfl))))))) (ih y14 y15 y16 y17 y18 (zw (y19 + 1)) ny14 ny15 ny16 ny17 ny18 (zw_w (y19 + 1)) _)
    refine zr_iconst C eX0_count_43 rfl ?_
    refine zr_goto C eX0_count_44 ?_
    refine zr_istore (lv' := [(7, .int (zI 1)), (0, .ref (zad G 210)), (1, .int (zI x1)), (2, .int (zI x2)), (3, .int (zI x3)), (4, .int (zI x4)), (5, .int (zI x5)), (6, .int (zI x6))]) C eX0_count_48 (by decide) rfl ?_
    refine zr_iconst C eX0_count_50 rfl ?_
    refine zr_istore (lv' := [(8, .int (zI 0)), (7, .int (zI 1)), (0, .ref (zad G 210)), (1, .int (zI x1)), (2, .int (zI x2)), (3, .int (zI x3)), (4, .int (zI x4)), (5, .int (zI x5)), (6, .int (zI x6))]) C eX0_count_51 (by decide) rfl ?_
    refine zr_lv [2, 3, 4, 5, 6, 7, 8, 1, 0] rfl ?_
    refine wB_count_53 C _ ?_ 5000 x1 x2 x3 x4 x5 x6 1 0 n1 n2 n3 n4 n5 n6 w_1 w_0 σ4
    intro y21 y22 y23 y24 y25 y26 ny21 ny22 ny23 ny24 ny25 ny26 σ20
    refine zr_iinc (lv' := [(6, .int (zI (y26 + 1))), (0, .ref (zad G 210)), (1, .int (zI y21)), (2, .int (zI y22)), (3, .int (zI y23)), (4, .int (zI y24)), (5, .int (zI y25))]) C 6 eX0_count_161 rfl (by decide) rfl ?_
    refine zr_goto C eX0_count_164 ?_
    refine zr_lv [1, 2, 3, 4, 5, 6, 0] rfl ?_
    exact zr_lve (zs_p (zs_p (zs_p (zs_p (zs_p (zs_p (zs_pi (zI_w (y26 + 1)).symm rfl))))))) (ih y21 y22 y23 y24 y25 (zw (y26 + 1)) ny21 ny22 ny23 ny24 ny25 (zw_w (y26 + 1)) _)
theorem zqB_count (l : Launch) (G : Zg) (σ : Zm) (x1 : Int) (x2 : Int) (x3 : Int) (n1 : zw x1 = x1) (n2 : zw x2 = x2) (n3 : zw x3 = x3) (res : Int × Zm) (he : fB_count σ x1 x2 x3 = some res) : zM l yX0_count cX0_count 10 (some .int) 1 G 294 ztt σ [.ref (zad G 210), .int (zI x1), .int (zI x2), .int (zI x3)] (some (.int (zI res.1))) res.2 := by
  refine zM_of he (by decide +kernel) (Nat.le_of_ble_eq_true rfl) (lv := [(0, .ref (zad G 210)), (1, .int (zI x1)), (2, .int (zI x2)), (3, .int (zI x3))]) rfl (fun p e s m below meth c C => ?_)
  unfold fB_count
  refine zr_iloadn C 1 eX0_count_0 rfl ?_
  refine zr_iconst C eX0_count_1 rfl ?_
  refine zr_bipush (a := 8) C eX0_count_2 rfl ?_
  refine zr_callSi C [.int (zI x1), .int (zI 1), .int (zI 8)] zy_X9_within zs_X9_within lk_X0_51 zrm_1_3_0 (fun r hr => zqX_within l G σ x1 1 8 n1 w_1 w_8 r hr) rfl rfl (Nat.le_of_ble_eq_true rfl) eX0_count_4 (fun v2 nv2 σ1 => ?_)
  refine zr_if_ne C eX0_count_7 nv2 ?_ ?_
  · refine zr_iconst C eX0_count_12 rfl ?_
    refine zr_iloadn C 1 eX0_count_13 rfl ?_
    refine zr_ishl C eX0_count_14 ?_
    refine zr_iconst C eX0_count_15 rfl ?_
    refine zr_isub C eX0_count_16 ?_
    refine zr_st (show _ = .int (zI (zw ((zshl 1 x1) - 1))) :: _ from congrArg (· :: _) (congrArg Value.int (zI_w ((zshl 1 x1) - 1)).symm)) ?_
    refine zr_letw (P := fun z => .int (zI z) :: _) (zw_w ((zshl 1 x1) - 1)) (fun v3 nv3 => ?_)
    refine zr_istore (lv' := [(4, .int (zI v3)), (0, .ref (zad G 210)), (1, .int (zI x1)), (2, .int (zI x2)), (3, .int (zI x3))]) C eX0_count_17 (by decide) rfl ?_
    refine zr_iconst C eX0_count_19 rfl ?_
    refine zr_istore (lv' := [(5, .int (zI 0)), (4, .int (zI v3)), (0, .ref (zad G 210)), (1, .int (zI x1)), (2, .int (zI x2)), (3, .int (zI x3))]) C eX0_count_20 (by decide) rfl ?_
    refine zr_iconst C eX0_count_22 rfl ?_
    refine zr_istore (lv' := [(6, .int (zI 1)), (5, .int (zI 0)), (4, .int (zI v3)), (0, .ref (zad G 210)), (1, .int (zI x1)), (2, .int (zI x2)), (3, .int (zI x3))]) C eX0_count_23 (by decide) rfl ?_
    refine zr_lv [3, 4, 5, 6, 2, 1, 0] rfl ?_
    refine wB_count_25 C 5000 x1 x2 x3 v3 0 1 n1 n2 n3 nv3 w_0 w_1 σ1
  refine zr_iconst C eX0_count_10 rfl ?_
  exact zr_iret C eX0_count_11
