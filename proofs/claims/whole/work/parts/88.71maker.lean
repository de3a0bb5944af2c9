theorem zo_177 : zin 294 177 4 := by unfold zin; decide +kernel
theorem ff_X4_20 : zF RX4 20 4 1 (.array (.object "BrokenFugue$Line")) := Or.inl (by unfold zFd; decide +kernel)
theorem zf_177_1 : zRF 177 1 = 182 := by decide +kernel
theorem zo_182 : zin 294 182 23 := by unfold zin; decide +kernel
theorem zn_182 : zLN 182 = 4 := by decide +kernel
theorem ff_X4_58 : zF RX4 58 7 0 (.array (.object "BrokenFugue$Line")) := Or.inr ⟨"BrokenFugue", by unfold zFn; decide +kernel⟩
theorem lk_X4_61 : zL RX4 61 yX3_take := Or.inl (by decide +kernel)
theorem ff_X4_36 : zF RX4 36 4 5 .int := Or.inl (by unfold zFd; decide +kernel)
theorem ff_X4_43 : zF RX4 43 4 7 .int := Or.inl (by unfold zFd; decide +kernel)
theorem lk_X4_65 : zL RX4 65 yX3_beats := Or.inl (by decide +kernel)
theorem ff_X4_40 : zF RX4 40 4 6 .int := Or.inl (by unfold zFd; decide +kernel)
theorem ff_X4_69 : zF RX4 69 3 0 (.array .int) := Or.inr ⟨"BrokenFugue", by unfold zFn; decide +kernel⟩
theorem lk_X4_72 : Cond.methodLink RX4 72 Lib.Math.max.name ∈ ztb := by decide +kernel
theorem ff_X4_46 : zF RX4 46 4 8 .int := Or.inl (by unfold zFd; decide +kernel)
theorem lk_X4_78 : Cond.methodLink RX4 78 Lib.Math.min.name ∈ ztb := by decide +kernel
theorem ff_X4_49 : zF RX4 49 4 9 .int := Or.inl (by unfold zFd; decide +kernel)
theorem ff_X4_12 : zF RX4 12 4 0 (.object "BrokenFugue$Judge") := Or.inl (by unfold zFd; decide +kernel)
theorem zf_177_0 : zRF 177 0 = 178 := by decide +kernel
theorem zo_178 : zin 294 178 2 := by unfold zin; decide +kernel
theorem ff_X4_81 : zF RX4 81 7 7 .int := Or.inr ⟨"BrokenFugue", by unfold zFn; decide +kernel⟩
theorem lk_X4_84 : zL RX4 84 yX2_begin := Or.inl (by decide +kernel)
theorem lk_X4_119 : zL RX4 119 yX3_sing := Or.inl (by decide +kernel)
theorem zy_X3_sing : zY yX3_sing cX3_sing 4 none 3 := by unfold zY; decide +kernel
theorem zv_X3_sing : zYv yX3_sing := by unfold zYv; decide +kernel
theorem zrm_3_4_2 : zRm (zrm 3) 0 0 4 2 := by unfold zRm; decide
theorem ff_X4_106 : zF RX4 106 2 6 .int := Or.inr ⟨"BrokenFugue", by unfold zFn; decide +kernel⟩
theorem lk_X4_123 : zL RX4 123 yX2_askPair := Or.inl (by decide +kernel)
theorem ff_X4_26 : zF RX4 26 4 2 (.array (.array .int)) := Or.inl (by unfold zFd; decide +kernel)
theorem zf_177_2 : zRF 177 2 = 183 := by decide +kernel
theorem zo_183 : zin 294 183 25 := by unfold zin; decide +kernel
theorem zn_183 : zLN 183 = 6 := by decide +kernel
theorem ze_25 {o : Nat} (h : zin 294 o 25) {N : Nat} (hN : zLN o = N) {j : Int} (hj : 0 ≤ j ∧ j < (N : Int)) : zin 294 (zRF o j.toNat) 20 := by
  have h2 : ∀ o, o < 294 → zSH o = 25 → ∀ k, k < zLN o → (zSH (zRF o k) = 20 ∧ zRF o k < 294) := by decide +kernel
  exact h2 o h.2 h.1 j.toNat (by omega)
theorem zle_183 {j : Int} (hj : 0 ≤ j ∧ j < 6) : zLN (zRF 183 j.toNat) = 225 := by
  have h2 : ∀ k, k < 6 → zLN (zRF 183 k) = 225 := by decide +kernel
  exact h2 j.toNat (by omega)
theorem zq_X4_98 : Cond.constant RX4 98 (2147483647) ∈ ztb := by decide +kernel
theorem lk_X4_88 : zL RX4 88 yJ7_fill_53178 := Or.inl (by decide +kernel)
theorem zrm_5_4_0 : zRm (zrm 5) 0 0 4 0 := by unfold zRm; decide
theorem lk_X4_99 : zL RX4 99 yX4_singAt := Or.inl (by decide +kernel)
theorem zy_X4_singAt : zY yX4_singAt cX4_singAt 3 none 2 := by unfold zY; decide +kernel
theorem zv_X4_singAt : zYv yX4_singAt := by unfold zYv; decide +kernel
theorem zrm_5_3_3 : zRm (zrm 5) 0 0 3 3 := by unfold zRm; decide
theorem lk_X4_102 : zL RX4 102 yX4_pairPrice := Or.inl (by decide +kernel)
theorem zy_X4_pairPrice : zY yX4_pairPrice cX4_pairPrice 4 (some .int) 2 := by unfold zY; decide +kernel
theorem zv_X4_pairPrice : zYv yX4_pairPrice := by unfold zYv; decide +kernel
theorem zrm_5_4_4 : zRm (zrm 5) 0 0 4 4 := by unfold zRm; decide
theorem lk_X4_109 : zL RX4 109 yX6_has := Or.inl (by decide +kernel)
theorem zrm_5_3_0 : zRm (zrm 5) 0 0 3 0 := by unfold zRm; decide
theorem ff_X4_29 : zF RX4 29 4 3 (.array (.array .int)) := Or.inl (by unfold zFd; decide +kernel)
theorem zf_177_3 : zRF 177 3 = 190 := by decide +kernel
theorem zo_190 : zin 294 190 25 := by unfold zin; decide +kernel
theorem zn_190 : zLN 190 = 6 := by decide +kernel
theorem zle_190 {j : Int} (hj : 0 ≤ j ∧ j < 6) : zLN (zRF 190 j.toNat) = 225 := by
  have h2 : ∀ k, k < 6 → zLN (zRF 190 k) = 225 := by decide +kernel
  exact h2 j.toNat (by omega)
theorem lk_X4_115 : zL RX4 115 yX2_askLine := Or.inl (by decide +kernel)
theorem zrm_5_6_3 : zRm (zrm 5) 0 0 6 3 := by unfold zRm; decide
theorem lk_X4_94 : zL RX4 94 yX4_solveNote := Or.inl (by decide +kernel)
theorem zy_X4_solveNote : zY yX4_solveNote cX4_solveNote 10 none 2 := by unfold zY; decide +kernel
theorem zv_X4_solveNote : zYv yX4_solveNote := by unfold zYv; decide +kernel
theorem zrm_6_10_5 : zRm (zrm 6) 0 0 10 5 := by unfold zRm; decide
theorem ff_X4_52 : zF RX4 52 4 10 .int := Or.inl (by unfold zFd; decide +kernel)
theorem ff_X4_32 : zF RX4 32 4 4 (.array .int) := Or.inl (by unfold zFd; decide +kernel)
theorem zf_177_4 : zRF 177 4 = 197 := by decide +kernel
theorem zo_197 : zin 294 197 20 := by unfold zin; decide +kernel
theorem zn_197 : zLN 197 = 5 := by decide +kernel
theorem eX4_begin_0 : zD cX4_begin 0 (.iconst 0) 1 1 := ⟨by decide +kernel, rfl⟩
theorem eX4_begin_1 : zD cX4_begin 1 (.istore 5) 2 3 := ⟨by decide +kernel, rfl⟩
theorem eX4_begin_3 : zD cX4_begin 3 (.iload 5) 2 5 := ⟨by decide +kernel, rfl⟩
theorem eX4_begin_5 : zD cX4_begin 5 (.iconst 4) 1 6 := ⟨by decide +kernel, rfl⟩
theorem eX4_begin_6 : zDj cX4_begin 6 (.if_icmp .ge 30) 30 36 9 := ⟨by decide +kernel, rfl, by decide⟩
theorem eX4_begin_9 : zD cX4_begin 9 (.aload_n 0) 1 10 := ⟨by decide +kernel, rfl⟩
theorem eX4_begin_10 : zD cX4_begin 10 (.getfield 20) 3 13 := ⟨by decide +kernel, rfl⟩
theorem eX4_begin_13 : zD cX4_begin 13 (.iload 5) 2 15 := ⟨by decide +kernel, rfl⟩
theorem eX4_begin_15 : zD cX4_begin 15 .aaload 1 16 := ⟨by decide +kernel, rfl⟩
theorem eX4_begin_16 : zD cX4_begin 16 (.aload_n 1) 1 17 := ⟨by decide +kernel, rfl⟩
theorem eX4_begin_17 : zD cX4_begin 17 (.getfield 58) 3 20 := ⟨by decide +kernel, rfl⟩
theorem eX4_begin_20 : zD cX4_begin 20 (.iload_n 2) 1 21 := ⟨by decide +kernel, rfl⟩
theorem eX4_begin_21 : zD cX4_begin 21 (.iconst 4) 1 22 := ⟨by decide +kernel, rfl⟩
theorem eX4_begin_22 : zD cX4_begin 22 .imul 1 23 := ⟨by decide +kernel, rfl⟩
theorem eX4_begin_23 : zD cX4_begin 23 (.iload 5) 2 25 := ⟨by decide +kernel, rfl⟩
theorem eX4_begin_25 : zD cX4_begin 25 .iadd 1 26 := ⟨by decide +kernel, rfl⟩
theorem eX4_begin_26 : zD cX4_begin 26 .aaload 1 27 := ⟨by decide +kernel, rfl⟩
theorem eX4_begin_27 : zD cX4_begin 27 (.invokevirtual 61) 3 30 := ⟨by decide +kernel, rfl⟩
theorem eX4_begin_30 : zD cX4_begin 30 (.iinc 5 1) 3 33 := ⟨by decide +kernel, rfl⟩
theorem eX4_begin_33 : zDj cX4_begin 33 (.goto (-30)) (-30) 3 36 := ⟨by decide +kernel, rfl, by decide⟩
theorem eX4_begin_36 : zD cX4_begin 36 (.aload_n 0) 1 37 := ⟨by decide +kernel, rfl⟩
theorem eX4_begin_37 : zD cX4_begin 37 (.iload_n 3) 1 38 := ⟨by decide +kernel, rfl⟩
theorem eX4_begin_38 : zD cX4_begin 38 (.putfield 36) 3 41 := ⟨by decide +kernel, rfl⟩
theorem eX4_begin_41 : zD cX4_begin 41 (.aload_n 0) 1 42 := ⟨by decide +kernel, rfl⟩
theorem eX4_begin_42 : zD cX4_begin 42 (.iload 4) 2 44 := ⟨by decide +kernel, rfl⟩
theorem eX4_begin_44 : zD cX4_begin 44 (.putfield 43) 3 47 := ⟨by decide +kernel, rfl⟩
theorem eX4_begin_47 : zD cX4_begin 47 (.aload_n 0) 1 48 := ⟨by decide +kernel, rfl⟩
theorem eX4_begin_48 : zD cX4_begin 48 (.aload_n 0) 1 49 := ⟨by decide +kernel, rfl⟩
theorem eX4_begin_49 : zD cX4_begin 49 (.getfield 20) 3 52 := ⟨by decide +kernel, rfl⟩
theorem eX4_begin_52 : zD cX4_begin 52 (.aload_n 0) 1 53 := ⟨by decide +kernel, rfl⟩
theorem eX4_begin_53 : zD cX4_begin 53 (.getfield 36) 3 56 := ⟨by decide +kernel, rfl⟩
theorem eX4_begin_56 : zD cX4_begin 56 .aaload 1 57 := ⟨by decide +kernel, rfl⟩
theorem eX4_begin_57 : zD cX4_begin 57 (.invokevirtual 65) 3 60 := ⟨by decide +kernel, rfl⟩
theorem eX4_begin_60 : zD cX4_begin 60 (.putfield 40) 3 63 := ⟨by decide +kernel, rfl⟩
theorem eX4_begin_63 : zD cX4_begin 63 (.aload_n 0) 1 64 := ⟨by decide +kernel, rfl⟩
theorem eX4_begin_64 : zD cX4_begin 64 (.getfield 40) 3 67 := ⟨by decide +kernel, rfl⟩
theorem eX4_begin_67 : zD cX4_begin 67 (.iconst 1) 1 68 := ⟨by decide +kernel, rfl⟩
theorem eX4_begin_68 : zDj cX4_begin 68 (.if_icmp .ge 7) 7 75 71 := ⟨by decide +kernel, rfl, by decide⟩
theorem eX4_begin_71 : zD cX4_begin 71 (.iconst 0) 1 72 := ⟨by decide +kernel, rfl⟩
theorem eX4_begin_72 : zDj cX4_begin 72 (.goto 22) 22 94 75 := ⟨by decide +kernel, rfl, by decide⟩
theorem eX4_begin_75 : zD cX4_begin 75 (.aload_n 0) 1 76 := ⟨by decide +kernel, rfl⟩
theorem eX4_begin_76 : zD cX4_begin 76 (.getfield 20) 3 79 := ⟨by decide +kernel, rfl⟩
theorem eX4_begin_79 : zD cX4_begin 79 (.aload_n 0) 1 80 := ⟨by decide +kernel, rfl⟩
theorem eX4_begin_80 : zD cX4_begin 80 (.getfield 36) 3 83 := ⟨by decide +kernel, rfl⟩
theorem eX4_begin_83 : zD cX4_begin 83 .aaload 1 84 := ⟨by decide +kernel, rfl⟩
theorem eX4_begin_84 : zD cX4_begin 84 (.getfield 69) 3 87 := ⟨by decide +kernel, rfl⟩
theorem eX4_begin_87 : zD cX4_begin 87 (.aload_n 0) 1 88 := ⟨by decide +kernel, rfl⟩
theorem eX4_begin_88 : zD cX4_begin 88 (.getfield 40) 3 91 := ⟨by decide +kernel, rfl⟩
theorem eX4_begin_91 : zD cX4_begin 91 (.iconst 1) 1 92 := ⟨by decide +kernel, rfl⟩
theorem eX4_begin_92 : zD cX4_begin 92 .isub 1 93 := ⟨by decide +kernel, rfl⟩
theorem eX4_begin_93 : zD cX4_begin 93 .iaload 1 94 := ⟨by decide +kernel, rfl⟩
theorem eX4_begin_94 : zD cX4_begin 94 (.istore 5) 2 96 := ⟨by decide +kernel, rfl⟩
theorem eX4_begin_96 : zD cX4_begin 96 (.aload_n 0) 1 97 := ⟨by decide +kernel, rfl⟩
theorem eX4_begin_97 : zD cX4_begin 97 (.iconst 0) 1 98 := ⟨by decide +kernel, rfl⟩
theorem eX4_begin_98 : zD cX4_begin 98 (.iload 5) 2 100 := ⟨by decide +kernel, rfl⟩
theorem eX4_begin_100 : zD cX4_begin 100 (.bipush 7) 2 102 := ⟨by decide +kernel, rfl⟩
theorem eX4_begin_102 : zD cX4_begin 102 .isub 1 103 := ⟨by decide +kernel, rfl⟩
theorem eX4_begin_103 : zD cX4_begin 103 (.invokestatic 72) 3 106 := ⟨by decide +kernel, rfl⟩
theorem eX4_begin_106 : zD cX4_begin 106 (.putfield 46) 3 109 := ⟨by decide +kernel, rfl⟩
theorem eX4_begin_109 : zD cX4_begin 109 (.aload_n 0) 1 110 := ⟨by decide +kernel, rfl⟩
theorem eX4_begin_110 : zD cX4_begin 110 (.bipush 60) 2 112 := ⟨by decide +kernel, rfl⟩
theorem eX4_begin_112 : zD cX4_begin 112 (.iload 5) 2 114 := ⟨by decide +kernel, rfl⟩
theorem eX4_begin_114 : zD cX4_begin 114 (.bipush 7) 2 116 := ⟨by decide +kernel, rfl⟩
theorem eX4_begin_116 : zD cX4_begin 116 .iadd 1 117 := ⟨by decide +kernel, rfl⟩
theorem eX4_begin_117 : zD cX4_begin 117 (.invokestatic 78) 3 120 := ⟨by decide +kernel, rfl⟩
theorem eX4_begin_120 : zD cX4_begin 120 (.aload_n 0) 1 121 := ⟨by decide +kernel, rfl⟩
theorem eX4_begin_121 : zD cX4_begin 121 (.getfield 46) 3 124 := ⟨by decide +kernel, rfl⟩
theorem eX4_begin_124 : zD cX4_begin 124 .isub 1 125 := ⟨by decide +kernel, rfl⟩
theorem eX4_begin_125 : zD cX4_begin 125 (.iconst 1) 1 126 := ⟨by decide +kernel, rfl⟩
theorem eX4_begin_126 : zD cX4_begin 126 .iadd 1 127 := ⟨by decide +kernel, rfl⟩
theorem eX4_begin_127 : zD cX4_begin 127 (.putfield 49) 3 130 := ⟨by decide +kernel, rfl⟩
theorem eX4_begin_130 : zD cX4_begin 130 (.aload_n 0) 1 131 := ⟨by decide +kernel, rfl⟩
theorem eX4_begin_131 : zD cX4_begin 131 (.getfield 12) 3 134 := ⟨by decide +kernel, rfl⟩
theorem eX4_begin_134 : zD cX4_begin 134 (.aload_n 1) 1 135 := ⟨by decide +kernel, rfl⟩
theorem eX4_begin_135 : zD cX4_begin 135 (.getfield 81) 3 138 := ⟨by decide +kernel, rfl⟩
theorem eX4_begin_138 : zD cX4_begin 138 (.iconst (-1)) 1 139 := ⟨by decide +kernel, rfl⟩
theorem eX4_begin_139 : zD cX4_begin 139 (.invokevirtual 84) 3 142 := ⟨by decide +kernel, rfl⟩
theorem eX4_begin_142 : zD cX4_begin 142 .return_ 1 143 := ⟨by decide +kernel, rfl⟩
theorem eX4_singAt_0 : zD cX4_singAt 0 (.iload_n 1) 1 1 := ⟨by decide +kernel, rfl⟩
theorem eX4_singAt_1 : zDj cX4_singAt 1 (.ifCond .lt 28) 28 29 4 := ⟨by decide +kernel, rfl, by decide⟩
theorem eX4_singAt_4 : zD cX4_singAt 4 (.aload_n 0) 1 5 := ⟨by decide +kernel, rfl⟩
theorem eX4_singAt_5 : zD cX4_singAt 5 (.getfield 20) 3 8 := ⟨by decide +kernel, rfl⟩
theorem eX4_singAt_8 : zD cX4_singAt 8 (.aload_n 0) 1 9 := ⟨by decide +kernel, rfl⟩
theorem eX4_singAt_9 : zD cX4_singAt 9 (.getfield 36) 3 12 := ⟨by decide +kernel, rfl⟩
theorem eX4_singAt_12 : zD cX4_singAt 12 .aaload 1 13 := ⟨by decide +kernel, rfl⟩
theorem eX4_singAt_13 : zD cX4_singAt 13 (.aload_n 0) 1 14 := ⟨by decide +kernel, rfl⟩
theorem eX4_singAt_14 : zD cX4_singAt 14 (.getfield 40) 3 17 := ⟨by decide +kernel, rfl⟩
theorem eX4_singAt_17 : zD cX4_singAt 17 (.iload_n 1) 1 18 := ⟨by decide +kernel, rfl⟩
theorem eX4_singAt_18 : zD cX4_singAt 18 .iadd 1 19 := ⟨by decide +kernel, rfl⟩
theorem eX4_singAt_19 : zD cX4_singAt 19 (.aload_n 0) 1 20 := ⟨by decide +kernel, rfl⟩
theorem eX4_singAt_20 : zD cX4_singAt 20 (.getfield 46) 3 23 := ⟨by decide +kernel, rfl⟩
theorem eX4_singAt_23 : zD cX4_singAt 23 (.iload_n 2) 1 24 := ⟨by decide +kernel, rfl⟩
theorem eX4_singAt_24 : zD cX4_singAt 24 .iadd 1 25 := ⟨by decide +kernel, rfl⟩
theorem eX4_singAt_25 : zD cX4_singAt 25 (.iconst 1) 1 26 := ⟨by decide +kernel, rfl⟩
theorem eX4_singAt_26 : zD cX4_singAt 26 (.invokevirtual 119) 3 29 := ⟨by decide +kernel, rfl⟩
theorem eX4_singAt_29 : zD cX4_singAt 29 .return_ 1 30 := ⟨by decide +kernel, rfl⟩
theorem eX4_pairPrice_0 : zD cX4_pairPrice 0 (.aload_n 0) 1 1 := ⟨by decide +kernel, rfl⟩
theorem eX4_pairPrice_1 : zD cX4_pairPrice 1 (.getfield 12) 3 4 := ⟨by decide +kernel, rfl⟩
theorem eX4_pairPrice_4 : zD cX4_pairPrice 4 (.iconst 0) 1 5 := ⟨by decide +kernel, rfl⟩
theorem eX4_pairPrice_5 : zD cX4_pairPrice 5 (.putfield 106) 3 8 := ⟨by decide +kernel, rfl⟩
theorem eX4_pairPrice_8 : zD cX4_pairPrice 8 (.iconst 0) 1 9 := ⟨by decide +kernel, rfl⟩
theorem eX4_pairPrice_9 : zD cX4_pairPrice 9 (.istore_n 3) 1 10 := ⟨by decide +kernel, rfl⟩
theorem eX4_pairPrice_10 : zD cX4_pairPrice 10 (.iload_n 3) 1 11 := ⟨by decide +kernel, rfl⟩
theorem eX4_pairPrice_11 : zD cX4_pairPrice 11 (.iconst 4) 1 12 := ⟨by decide +kernel, rfl⟩
theorem eX4_pairPrice_12 : zDj cX4_pairPrice 12 (.if_icmp .ge 52) 52 64 15 := ⟨by decide +kernel, rfl, by decide⟩
theorem eX4_pairPrice_15 : zD cX4_pairPrice 15 (.iload_n 3) 1 16 := ⟨by decide +kernel, rfl⟩
theorem eX4_pairPrice_16 : zD cX4_pairPrice 16 (.aload_n 0) 1 17 := ⟨by decide +kernel, rfl⟩
theorem eX4_pairPrice_17 : zD cX4_pairPrice 17 (.getfield 36) 3 20 := ⟨by decide +kernel, rfl⟩
theorem eX4_pairPrice_20 : zDj cX4_pairPrice 20 (.if_icmp .eq 38) 38 58 23 := ⟨by decide +kernel, rfl, by decide⟩
theorem eX4_pairPrice_23 : zD cX4_pairPrice 23 (.aload_n 0) 1 24 := ⟨by decide +kernel, rfl⟩
theorem eX4_pairPrice_24 : zD cX4_pairPrice 24 (.getfield 12) 3 27 := ⟨by decide +kernel, rfl⟩
theorem eX4_pairPrice_27 : zD cX4_pairPrice 27 (.aload_n 1) 1 28 := ⟨by decide +kernel, rfl⟩
theorem eX4_pairPrice_28 : zD cX4_pairPrice 28 (.aload_n 0) 1 29 := ⟨by decide +kernel, rfl⟩
theorem eX4_pairPrice_29 : zD cX4_pairPrice 29 (.getfield 20) 3 32 := ⟨by decide +kernel, rfl⟩
theorem eX4_pairPrice_32 : zD cX4_pairPrice 32 (.aload_n 0) 1 33 := ⟨by decide +kernel, rfl⟩
theorem eX4_pairPrice_33 : zD cX4_pairPrice 33 (.getfield 36) 3 36 := ⟨by decide +kernel, rfl⟩
theorem eX4_pairPrice_36 : zD cX4_pairPrice 36 (.iload_n 3) 1 37 := ⟨by decide +kernel, rfl⟩
theorem eX4_pairPrice_37 : zD cX4_pairPrice 37 (.invokestatic 78) 3 40 := ⟨by decide +kernel, rfl⟩
theorem eX4_pairPrice_40 : zD cX4_pairPrice 40 .aaload 1 41 := ⟨by decide +kernel, rfl⟩
theorem eX4_pairPrice_41 : zD cX4_pairPrice 41 (.aload_n 0) 1 42 := ⟨by decide +kernel, rfl⟩
theorem eX4_pairPrice_42 : zD cX4_pairPrice 42 (.getfield 20) 3 45 := ⟨by decide +kernel, rfl⟩
theorem eX4_pairPrice_45 : zD cX4_pairPrice 45 (.aload_n 0) 1 46 := ⟨by decide +kernel, rfl⟩
theorem eX4_pairPrice_46 : zD cX4_pairPrice 46 (.getfield 36) 3 49 := ⟨by decide +kernel, rfl⟩
theorem eX4_pairPrice_49 : zD cX4_pairPrice 49 (.iload_n 3) 1 50 := ⟨by decide +kernel, rfl⟩
theorem eX4_pairPrice_50 : zD cX4_pairPrice 50 (.invokestatic 72) 3 53 := ⟨by decide +kernel, rfl⟩
theorem eX4_pairPrice_53 : zD cX4_pairPrice 53 .aaload 1 54 := ⟨by decide +kernel, rfl⟩
theorem eX4_pairPrice_54 : zD cX4_pairPrice 54 (.iload_n 2) 1 55 := ⟨by decide +kernel, rfl⟩
theorem eX4_pairPrice_55 : zD cX4_pairPrice 55 (.invokevirtual 123) 3 58 := ⟨by decide +kernel, rfl⟩
theorem eX4_pairPrice_58 : zD cX4_pairPrice 58 (.iinc 3 1) 3 61 := ⟨by decide +kernel, rfl⟩
theorem eX4_pairPrice_61 : zDj cX4_pairPrice 61 (.goto (-51)) (-51) 10 64 := ⟨by decide +kernel, rfl, by decide⟩
theorem eX4_pairPrice_64 : zD cX4_pairPrice 64 (.aload_n 0) 1 65 := ⟨by decide +kernel, rfl⟩
theorem eX4_pairPrice_65 : zD cX4_pairPrice 65 (.getfield 12) 3 68 := ⟨by decide +kernel, rfl⟩
theorem eX4_pairPrice_68 : zD cX4_pairPrice 68 (.getfield 106) 3 71 := ⟨by decide +kernel, rfl⟩
theorem eX4_pairPrice_71 : zD cX4_pairPrice 71 .ireturn 1 72 := ⟨by decide +kernel, rfl⟩
theorem eX4_solveNote_0 : zD cX4_solveNote 0 (.aload_n 0) 1 1 := ⟨by decide +kernel, rfl⟩
theorem eX4_solveNote_1 : zD cX4_solveNote 1 (.getfield 20) 3 4 := ⟨by decide +kernel, rfl⟩
theorem eX4_solveNote_4 : zD cX4_solveNote 4 (.aload_n 0) 1 5 := ⟨by decide +kernel, rfl⟩
theorem eX4_solveNote_5 : zD cX4_solveNote 5 (.getfield 36) 3 8 := ⟨by decide +kernel, rfl⟩
theorem eX4_solveNote_8 : zD cX4_solveNote 8 .aaload 1 9 := ⟨by decide +kernel, rfl⟩
theorem eX4_solveNote_9 : zD cX4_solveNote 9 (.astore_n 3) 1 10 := ⟨by decide +kernel, rfl⟩
theorem eX4_solveNote_10 : zD cX4_solveNote 10 (.aload_n 0) 1 11 := ⟨by decide +kernel, rfl⟩
theorem eX4_solveNote_11 : zD cX4_solveNote 11 (.getfield 40) 3 14 := ⟨by decide +kernel, rfl⟩
theorem eX4_solveNote_14 : zD cX4_solveNote 14 (.iload_n 2) 1 15 := ⟨by decide +kernel, rfl⟩
theorem eX4_solveNote_15 : zD cX4_solveNote 15 .iadd 1 16 := ⟨by decide +kernel, rfl⟩
theorem eX4_solveNote_16 : zD cX4_solveNote 16 (.istore 4) 2 18 := ⟨by decide +kernel, rfl⟩
theorem eX4_solveNote_18 : zD cX4_solveNote 18 (.aload_n 0) 1 19 := ⟨by decide +kernel, rfl⟩
theorem eX4_solveNote_19 : zD cX4_solveNote 19 (.getfield 26) 3 22 := ⟨by decide +kernel, rfl⟩
theorem eX4_solveNote_22 : zD cX4_solveNote 22 (.iload_n 2) 1 23 := ⟨by decide +kernel, rfl⟩
theorem eX4_solveNote_23 : zD cX4_solveNote 23 .aaload 1 24 := ⟨by decide +kernel, rfl⟩
theorem eX4_solveNote_24 : zD cX4_solveNote 24 (.ldc 98) 2 26 := ⟨by decide +kernel, rfl⟩
theorem eX4_solveNote_26 : zD cX4_solveNote 26 (.invokestatic 88) 3 29 := ⟨by decide +kernel, rfl⟩
theorem eX4_solveNote_29 : zD cX4_solveNote 29 (.iconst 0) 1 30 := ⟨by decide +kernel, rfl⟩
theorem eX4_solveNote_30 : zD cX4_solveNote 30 (.istore 5) 2 32 := ⟨by decide +kernel, rfl⟩
theorem eX4_solveNote_32 : zD cX4_solveNote 32 (.iload 5) 2 34 := ⟨by decide +kernel, rfl⟩
theorem eX4_solveNote_34 : zD cX4_solveNote 34 (.iload_n 2) 1 35 := ⟨by decide +kernel, rfl⟩
theorem eX4_solveNote_35 : zDj cX4_solveNote 35 (.ifCond .le 10) 10 45 38 := ⟨by decide +kernel, rfl, by decide⟩
theorem eX4_solveNote_38 : zD cX4_solveNote 38 (.aload_n 0) 1 39 := ⟨by decide +kernel, rfl⟩
theorem eX4_solveNote_39 : zD cX4_solveNote 39 (.getfield 49) 3 42 := ⟨by decide +kernel, rfl⟩
theorem eX4_solveNote_42 : zDj cX4_solveNote 42 (.goto 4) 4 46 45 := ⟨by decide +kernel, rfl, by decide⟩
theorem eX4_solveNote_45 : zD cX4_solveNote 45 (.iconst 1) 1 46 := ⟨by decide +kernel, rfl⟩
theorem eX4_solveNote_46 : zDj cX4_solveNote 46 (.if_icmp .ge 198) 198 244 49 := ⟨by decide +kernel, rfl, by decide⟩
theorem eX4_solveNote_49 : zD cX4_solveNote 49 (.aload_n 0) 1 50 := ⟨by decide +kernel, rfl⟩
theorem eX4_solveNote_50 : zD cX4_solveNote 50 (.iload_n 2) 1 51 := ⟨by decide +kernel, rfl⟩
theorem eX4_solveNote_51 : zD cX4_solveNote 51 (.iconst 1) 1 52 := ⟨by decide +kernel, rfl⟩
theorem eX4_solveNote_52 : zD cX4_solveNote 52 .isub 1 53 := ⟨by decide +kernel, rfl⟩
theorem eX4_solveNote_53 : zD cX4_solveNote 53 (.iload 5) 2 55 := ⟨by decide +kernel, rfl⟩
theorem eX4_solveNote_55 : zD cX4_solveNote 55 (.invokevirtual 99) 3 58 := ⟨by decide +kernel, rfl⟩
theorem eX4_solveNote_58 : zD cX4_solveNote 58 (.iconst 0) 1 59 := ⟨by decide +kernel, rfl⟩
theorem eX4_solveNote_59 : zD cX4_solveNote 59 (.istore 6) 2 61 := ⟨by decide +kernel, rfl⟩
theorem eX4_solveNote_61 : zD cX4_solveNote 61 (.iload 6) 2 63 := ⟨by decide +kernel, rfl⟩
theorem eX4_solveNote_63 : zD cX4_solveNote 63 (.aload_n 0) 1 64 := ⟨by decide +kernel, rfl⟩
theorem eX4_solveNote_64 : zD cX4_solveNote 64 (.getfield 49) 3 67 := ⟨by decide +kernel, rfl⟩
theorem eX4_solveNote_67 : zDj cX4_solveNote 67 (.if_icmp .ge 171) 171 238 70 := ⟨by decide +kernel, rfl, by decide⟩
theorem eX4_solveNote_70 : zD cX4_solveNote 70 (.aload_n 0) 1 71 := ⟨by decide +kernel, rfl⟩
theorem eX4_solveNote_71 : zD cX4_solveNote 71 (.iload_n 2) 1 72 := ⟨by decide +kernel, rfl⟩
theorem eX4_solveNote_72 : zD cX4_solveNote 72 (.iload 6) 2 74 := ⟨by decide +kernel, rfl⟩
theorem eX4_solveNote_74 : zD cX4_solveNote 74 (.invokevirtual 99) 3 77 := ⟨by decide +kernel, rfl⟩
theorem eX4_solveNote_77 : zD cX4_solveNote 77 (.aload_n 0) 1 78 := ⟨by decide +kernel, rfl⟩
theorem eX4_solveNote_78 : zD cX4_solveNote 78 (.aload_n 1) 1 79 := ⟨by decide +kernel, rfl⟩
theorem eX4_solveNote_79 : zD cX4_solveNote 79 (.iload 4) 2 81 := ⟨by decide +kernel, rfl⟩
theorem eX4_solveNote_81 : zD cX4_solveNote 81 (.invokevirtual 102) 3 84 := ⟨by decide +kernel, rfl⟩
theorem eX4_solveNote_84 : zD cX4_solveNote 84 (.aload_n 0) 1 85 := ⟨by decide +kernel, rfl⟩
theorem eX4_solveNote_85 : zD cX4_solveNote 85 (.getfield 26) 3 88 := ⟨by decide +kernel, rfl⟩
theorem eX4_solveNote_88 : zD cX4_solveNote 88 (.iload_n 2) 1 89 := ⟨by decide +kernel, rfl⟩
theorem eX4_solveNote_89 : zD cX4_solveNote 89 (.iconst 1) 1 90 := ⟨by decide +kernel, rfl⟩
theorem eX4_solveNote_90 : zD cX4_solveNote 90 .iadd 1 91 := ⟨by decide +kernel, rfl⟩
theorem eX4_solveNote_91 : zD cX4_solveNote 91 .aaload 1 92 := ⟨by decide +kernel, rfl⟩
theorem eX4_solveNote_92 : zD cX4_solveNote 92 (.iload_n 2) 1 93 := ⟨by decide +kernel, rfl⟩
theorem eX4_solveNote_93 : zDj cX4_solveNote 93 (.ifCond .le 8) 8 101 96 := ⟨by decide +kernel, rfl, by decide⟩
theorem eX4_solveNote_96 : zD cX4_solveNote 96 (.iload 5) 2 98 := ⟨by decide +kernel, rfl⟩
theorem eX4_solveNote_98 : zDj cX4_solveNote 98 (.goto 4) 4 102 101 := ⟨by decide +kernel, rfl, by decide⟩
theorem eX4_solveNote_101 : zD cX4_solveNote 101 (.iconst 0) 1 102 := ⟨by decide +kernel, rfl⟩
theorem eX4_solveNote_102 : zD cX4_solveNote 102 (.bipush 15) 2 104 := ⟨by decide +kernel, rfl⟩
theorem eX4_solveNote_104 : zD cX4_solveNote 104 .imul 1 105 := ⟨by decide +kernel, rfl⟩
theorem eX4_solveNote_105 : zD cX4_solveNote 105 (.iload 6) 2 107 := ⟨by decide +kernel, rfl⟩
theorem eX4_solveNote_107 : zD cX4_solveNote 107 .iadd 1 108 := ⟨by decide +kernel, rfl⟩
theorem eX4_solveNote_108 : zD cX4_solveNote 108 .iaload 1 109 := ⟨by decide +kernel, rfl⟩
theorem eX4_solveNote_109 : zD cX4_solveNote 109 .iadd 1 110 := ⟨by decide +kernel, rfl⟩
theorem eX4_solveNote_110 : zD cX4_solveNote 110 (.istore 7) 2 112 := ⟨by decide +kernel, rfl⟩
theorem eX4_solveNote_112 : zD cX4_solveNote 112 (.iconst 0) 1 113 := ⟨by decide +kernel, rfl⟩
theorem eX4_solveNote_113 : zD cX4_solveNote 113 (.istore 8) 2 115 := ⟨by decide +kernel, rfl⟩
theorem eX4_solveNote_115 : zD cX4_solveNote 115 (.iload 8) 2 117 := ⟨by decide +kernel, rfl⟩
theorem eX4_solveNote_117 : zD cX4_solveNote 117 (.iload_n 2) 1 118 := ⟨by decide +kernel, rfl⟩
theorem eX4_solveNote_118 : zD cX4_solveNote 118 (.iconst 1) 1 119 := ⟨by decide +kernel, rfl⟩
theorem eX4_solveNote_119 : zDj cX4_solveNote 119 (.if_icmp .le 10) 10 129 122 := ⟨by decide +kernel, rfl, by decide⟩
theorem eX4_solveNote_122 : zD cX4_solveNote 122 (.aload_n 0) 1 123 := ⟨by decide +kernel, rfl⟩
theorem eX4_solveNote_123 : zD cX4_solveNote 123 (.getfield 49) 3 126 := ⟨by decide +kernel, rfl⟩
theorem eX4_solveNote_126 : zDj cX4_solveNote 126 (.goto 4) 4 130 129 := ⟨by decide +kernel, rfl, by decide⟩
theorem eX4_solveNote_129 : zD cX4_solveNote 129 (.iconst 1) 1 130 := ⟨by decide +kernel, rfl⟩
theorem eX4_solveNote_130 : zDj cX4_solveNote 130 (.if_icmp .ge 102) 102 232 133 := ⟨by decide +kernel, rfl, by decide⟩
theorem eX4_solveNote_133 : zD cX4_solveNote 133 (.aload_n 0) 1 134 := ⟨by decide +kernel, rfl⟩
theorem eX4_solveNote_134 : zD cX4_solveNote 134 (.iload_n 2) 1 135 := ⟨by decide +kernel, rfl⟩
theorem eX4_solveNote_135 : zD cX4_solveNote 135 (.iconst 2) 1 136 := ⟨by decide +kernel, rfl⟩
theorem eX4_solveNote_136 : zD cX4_solveNote 136 .isub 1 137 := ⟨by decide +kernel, rfl⟩
theorem eX4_solveNote_137 : zD cX4_solveNote 137 (.iload 8) 2 139 := ⟨by decide +kernel, rfl⟩
theorem eX4_solveNote_139 : zD cX4_solveNote 139 (.invokevirtual 99) 3 142 := ⟨by decide +kernel, rfl⟩
theorem eX4_solveNote_142 : zD cX4_solveNote 142 (.aload_n 0) 1 143 := ⟨by decide +kernel, rfl⟩
theorem eX4_solveNote_143 : zD cX4_solveNote 143 (.getfield 12) 3 146 := ⟨by decide +kernel, rfl⟩
theorem eX4_solveNote_146 : zD cX4_solveNote 146 (.iload 7) 2 148 := ⟨by decide +kernel, rfl⟩
theorem eX4_solveNote_148 : zD cX4_solveNote 148 (.putfield 106) 3 151 := ⟨by decide +kernel, rfl⟩
theorem eX4_solveNote_151 : zD cX4_solveNote 151 (.aload_n 1) 1 152 := ⟨by decide +kernel, rfl⟩
theorem eX4_solveNote_152 : zD cX4_solveNote 152 (.iconst 1) 1 153 := ⟨by decide +kernel, rfl⟩
theorem eX4_solveNote_153 : zD cX4_solveNote 153 (.invokevirtual 109) 3 156 := ⟨by decide +kernel, rfl⟩
theorem eX4_solveNote_156 : zDj cX4_solveNote 156 (.ifCond .eq 14) 14 170 159 := ⟨by decide +kernel, rfl, by decide⟩
theorem eX4_solveNote_159 : zD cX4_solveNote 159 (.aload_n 0) 1 160 := ⟨by decide +kernel, rfl⟩
theorem eX4_solveNote_160 : zD cX4_solveNote 160 (.getfield 12) 3 163 := ⟨by decide +kernel, rfl⟩
theorem eX4_solveNote_163 : zD cX4_solveNote 163 (.aload_n 1) 1 164 := ⟨by decide +kernel, rfl⟩
theorem eX4_solveNote_164 : zD cX4_solveNote 164 (.aload_n 3) 1 165 := ⟨by decide +kernel, rfl⟩
theorem eX4_solveNote_165 : zD cX4_solveNote 165 (.iload 4) 2 167 := ⟨by decide +kernel, rfl⟩
theorem eX4_solveNote_167 : zD cX4_solveNote 167 (.invokevirtual 115) 3 170 := ⟨by decide +kernel, rfl⟩
theorem eX4_solveNote_170 : zD cX4_solveNote 170 (.iload 8) 2 172 := ⟨by decide +kernel, rfl⟩
theorem eX4_solveNote_172 : zD cX4_solveNote 172 (.bipush 15) 2 174 := ⟨by decide +kernel, rfl⟩
theorem eX4_solveNote_174 : zD cX4_solveNote 174 .imul 1 175 := ⟨by decide +kernel, rfl⟩
theorem eX4_solveNote_175 : zD cX4_solveNote 175 (.iload 5) 2 177 := ⟨by decide +kernel, rfl⟩
theorem eX4_solveNote_177 : zD cX4_solveNote 177 .iadd 1 178 := ⟨by decide +kernel, rfl⟩
theorem eX4_solveNote_178 : zD cX4_solveNote 178 (.istore 9) 2 180 := ⟨by decide +kernel, rfl⟩
theorem eX4_solveNote_180 : zD cX4_solveNote 180 (.aload_n 0) 1 181 := ⟨by decide +kernel, rfl⟩
theorem eX4_solveNote_181 : zD cX4_solveNote 181 (.getfield 12) 3 184 := ⟨by decide +kernel, rfl⟩
theorem eX4_solveNote_184 : zD cX4_solveNote 184 (.getfield 106) 3 187 := ⟨by decide +kernel, rfl⟩
theorem eX4_solveNote_187 : zD cX4_solveNote 187 (.aload_n 0) 1 188 := ⟨by decide +kernel, rfl⟩
theorem eX4_solveNote_188 : zD cX4_solveNote 188 (.getfield 26) 3 191 := ⟨by decide +kernel, rfl⟩
theorem eX4_solveNote_191 : zD cX4_solveNote 191 (.iload_n 2) 1 192 := ⟨by decide +kernel, rfl⟩
theorem eX4_solveNote_192 : zD cX4_solveNote 192 .aaload 1 193 := ⟨by decide +kernel, rfl⟩
theorem eX4_solveNote_193 : zD cX4_solveNote 193 (.iload 9) 2 195 := ⟨by decide +kernel, rfl⟩
theorem eX4_solveNote_195 : zD cX4_solveNote 195 .iaload 1 196 := ⟨by decide +kernel, rfl⟩
theorem eX4_solveNote_196 : zDj cX4_solveNote 196 (.if_icmp .ge 30) 30 226 199 := ⟨by decide +kernel, rfl, by decide⟩
theorem eX4_solveNote_199 : zD cX4_solveNote 199 (.aload_n 0) 1 200 := ⟨by decide +kernel, rfl⟩
theorem eX4_solveNote_200 : zD cX4_solveNote 200 (.getfield 26) 3 203 := ⟨by decide +kernel, rfl⟩
theorem eX4_solveNote_203 : zD cX4_solveNote 203 (.iload_n 2) 1 204 := ⟨by decide +kernel, rfl⟩
theorem eX4_solveNote_204 : zD cX4_solveNote 204 .aaload 1 205 := ⟨by decide +kernel, rfl⟩
theorem eX4_solveNote_205 : zD cX4_solveNote 205 (.iload 9) 2 207 := ⟨by decide +kernel, rfl⟩
theorem eX4_solveNote_207 : zD cX4_solveNote 207 (.aload_n 0) 1 208 := ⟨by decide +kernel, rfl⟩
theorem eX4_solveNote_208 : zD cX4_solveNote 208 (.getfield 12) 3 211 := ⟨by decide +kernel, rfl⟩
theorem eX4_solveNote_211 : zD cX4_solveNote 211 (.getfield 106) 3 214 := ⟨by decide +kernel, rfl⟩
theorem eX4_solveNote_214 : zD cX4_solveNote 214 .iastore 1 215 := ⟨by decide +kernel, rfl⟩
theorem eX4_solveNote_215 : zD cX4_solveNote 215 (.aload_n 0) 1 216 := ⟨by decide +kernel, rfl⟩
theorem eX4_solveNote_216 : zD cX4_solveNote 216 (.getfield 29) 3 219 := ⟨by decide +kernel, rfl⟩
theorem eX4_solveNote_219 : zD cX4_solveNote 219 (.iload_n 2) 1 220 := ⟨by decide +kernel, rfl⟩
theorem eX4_solveNote_220 : zD cX4_solveNote 220 .aaload 1 221 := ⟨by decide +kernel, rfl⟩
theorem eX4_solveNote_221 : zD cX4_solveNote 221 (.iload 9) 2 223 := ⟨by decide +kernel, rfl⟩
theorem eX4_solveNote_223 : zD cX4_solveNote 223 (.iload 6) 2 225 := ⟨by decide +kernel, rfl⟩
theorem eX4_solveNote_225 : zD cX4_solveNote 225 .iastore 1 226 := ⟨by decide +kernel, rfl⟩
theorem eX4_solveNote_226 : zD cX4_solveNote 226 (.iinc 8 1) 3 229 := ⟨by decide +kernel, rfl⟩
theorem eX4_solveNote_229 : zDj cX4_solveNote 229 (.goto (-114)) (-114) 115 232 := ⟨by decide +kernel, rfl, by decide⟩
theorem eX4_solveNote_232 : zD cX4_solveNote 232 (.iinc 6 1) 3 235 := ⟨by decide +kernel, rfl⟩
theorem eX4_solveNote_235 : zDj cX4_solveNote 235 (.goto (-174)) (-174) 61 238 := ⟨by decide +kernel, rfl, by decide⟩
theorem eX4_solveNote_238 : zD cX4_solveNote 238 (.iinc 5 1) 3 241 := ⟨by decide +kernel, rfl⟩
theorem eX4_solveNote_241 : zDj cX4_solveNote 241 (.goto (-209)) (-209) 32 244 := ⟨by decide +kernel, rfl, by decide⟩
theorem eX4_solveNote_244 : zD cX4_solveNote 244 .return_ 1 245 := ⟨by decide +kernel, rfl⟩
theorem eX4_solve_0 : zD cX4_solve 0 (.aload_n 0) 1 1 := ⟨by decide +kernel, rfl⟩
theorem eX4_solve_1 : zD cX4_solve 1 (.getfield 26) 3 4 := ⟨by decide +kernel, rfl⟩
theorem eX4_solve_4 : zD cX4_solve 4 (.aload_n 0) 1 5 := ⟨by decide +kernel, rfl⟩
theorem eX4_solve_5 : zD cX4_solve 5 (.getfield 43) 3 8 := ⟨by decide +kernel, rfl⟩
theorem eX4_solve_8 : zD cX4_solve 8 .aaload 1 9 := ⟨by decide +kernel, rfl⟩
theorem eX4_solve_9 : zD cX4_solve 9 (.iconst 0) 1 10 := ⟨by decide +kernel, rfl⟩
theorem eX4_solve_10 : zD cX4_solve 10 (.invokestatic 88) 3 13 := ⟨by decide +kernel, rfl⟩
theorem eX4_solve_13 : zD cX4_solve 13 (.aload_n 0) 1 14 := ⟨by decide +kernel, rfl⟩
theorem eX4_solve_14 : zD cX4_solve 14 (.getfield 43) 3 17 := ⟨by decide +kernel, rfl⟩
theorem eX4_solve_17 : zD cX4_solve 17 (.iconst 1) 1 18 := ⟨by decide +kernel, rfl⟩
theorem eX4_solve_18 : zD cX4_solve 18 .isub 1 19 := ⟨by decide +kernel, rfl⟩
theorem eX4_solve_19 : zD cX4_solve 19 (.istore_n 2) 1 20 := ⟨by decide +kernel, rfl⟩
theorem eX4_solve_20 : zD cX4_solve 20 (.iload_n 2) 1 21 := ⟨by decide +kernel, rfl⟩
theorem eX4_solve_21 : zDj cX4_solve 21 (.ifCond .lt 15) 15 36 24 := ⟨by decide +kernel, rfl, by decide⟩
theorem eX4_solve_24 : zD cX4_solve 24 (.aload_n 0) 1 25 := ⟨by decide +kernel, rfl⟩
theorem eX4_solve_25 : zD cX4_solve 25 (.aload_n 1) 1 26 := ⟨by decide +kernel, rfl⟩
theorem eX4_solve_26 : zD cX4_solve 26 (.iload_n 2) 1 27 := ⟨by decide +kernel, rfl⟩
theorem eX4_solve_27 : zD cX4_solve 27 (.invokevirtual 94) 3 30 := ⟨by decide +kernel, rfl⟩
theorem eX4_solve_30 : zD cX4_solve 30 (.iinc 2 (-1)) 3 33 := ⟨by decide +kernel, rfl⟩
theorem eX4_solve_33 : zDj cX4_solve 33 (.goto (-13)) (-13) 20 36 := ⟨by decide +kernel, rfl, by decide⟩
theorem eX4_solve_36 : zD cX4_solve 36 (.aload_n 0) 1 37 := ⟨by decide +kernel, rfl⟩
theorem eX4_solve_37 : zD cX4_solve 37 (.aload_n 0) 1 38 := ⟨by decide +kernel, rfl⟩
theorem eX4_solve_38 : zD cX4_solve 38 (.getfield 26) 3 41 := ⟨by decide +kernel, rfl⟩
theorem eX4_solve_41 : zD cX4_solve 41 (.iconst 0) 1 42 := ⟨by decide +kernel, rfl⟩
theorem eX4_solve_42 : zD cX4_solve 42 .aaload 1 43 := ⟨by decide +kernel, rfl⟩
theorem eX4_solve_43 : zD cX4_solve 43 (.iconst 0) 1 44 := ⟨by decide +kernel, rfl⟩
theorem eX4_solve_44 : zD cX4_solve 44 .iaload 1 45 := ⟨by decide +kernel, rfl⟩
theorem eX4_solve_45 : zD cX4_solve 45 (.putfield 52) 3 48 := ⟨by decide +kernel, rfl⟩
theorem eX4_solve_48 : zD cX4_solve 48 (.iconst 0) 1 49 := ⟨by decide +kernel, rfl⟩
theorem eX4_solve_49 : zD cX4_solve 49 (.istore_n 2) 1 50 := ⟨by decide +kernel, rfl⟩
theorem eX4_solve_50 : zD cX4_solve 50 (.iconst 0) 1 51 := ⟨by decide +kernel, rfl⟩
theorem eX4_solve_51 : zD cX4_solve 51 (.istore_n 3) 1 52 := ⟨by decide +kernel, rfl⟩
theorem eX4_solve_52 : zD cX4_solve 52 (.iconst 0) 1 53 := ⟨by decide +kernel, rfl⟩
theorem eX4_solve_53 : zD cX4_solve 53 (.istore 4) 2 55 := ⟨by decide +kernel, rfl⟩
theorem eX4_solve_55 : zD cX4_solve 55 (.iload 4) 2 57 := ⟨by decide +kernel, rfl⟩
theorem eX4_solve_57 : zD cX4_solve 57 (.aload_n 0) 1 58 := ⟨by decide +kernel, rfl⟩
theorem eX4_solve_58 : zD cX4_solve 58 (.getfield 43) 3 61 := ⟨by decide +kernel, rfl⟩
theorem eX4_solve_61 : zDj cX4_solve 61 (.if_icmp .ge 53) 53 114 64 := ⟨by decide +kernel, rfl, by decide⟩
theorem eX4_solve_64 : zD cX4_solve 64 (.aload_n 0) 1 65 := ⟨by decide +kernel, rfl⟩
theorem eX4_solve_65 : zD cX4_solve 65 (.getfield 29) 3 68 := ⟨by decide +kernel, rfl⟩
theorem eX4_solve_68 : zD cX4_solve 68 (.iload 4) 2 70 := ⟨by decide +kernel, rfl⟩
theorem eX4_solve_70 : zD cX4_solve 70 .aaload 1 71 := ⟨by decide +kernel, rfl⟩
theorem eX4_solve_71 : zD cX4_solve 71 (.iload_n 2) 1 72 := ⟨by decide +kernel, rfl⟩
theorem eX4_solve_72 : zD cX4_solve 72 (.bipush 15) 2 74 := ⟨by decide +kernel, rfl⟩
theorem eX4_solve_74 : zD cX4_solve 74 .imul 1 75 := ⟨by decide +kernel, rfl⟩
theorem eX4_solve_75 : zD cX4_solve 75 (.iload_n 3) 1 76 := ⟨by decide +kernel, rfl⟩
theorem eX4_solve_76 : zD cX4_solve 76 .iadd 1 77 := ⟨by decide +kernel, rfl⟩
theorem eX4_solve_77 : zD cX4_solve 77 .iaload 1 78 := ⟨by decide +kernel, rfl⟩
theorem eX4_solve_78 : zD cX4_solve 78 (.istore 5) 2 80 := ⟨by decide +kernel, rfl⟩
theorem eX4_solve_80 : zD cX4_solve 80 (.aload_n 0) 1 81 := ⟨by decide +kernel, rfl⟩
theorem eX4_solve_81 : zD cX4_solve 81 (.getfield 32) 3 84 := ⟨by decide +kernel, rfl⟩
theorem eX4_solve_84 : zD cX4_solve 84 (.iload 4) 2 86 := ⟨by decide +kernel, rfl⟩
theorem eX4_solve_86 : zD cX4_solve 86 (.aload_n 0) 1 87 := ⟨by decide +kernel, rfl⟩
theorem eX4_solve_87 : zD cX4_solve 87 (.getfield 46) 3 90 := ⟨by decide +kernel, rfl⟩
theorem eX4_solve_90 : zD cX4_solve 90 (.iload 5) 2 92 := ⟨by decide +kernel, rfl⟩
theorem eX4_solve_92 : zD cX4_solve 92 .iadd 1 93 := ⟨by decide +kernel, rfl⟩
theorem eX4_solve_93 : zD cX4_solve 93 .iastore 1 94 := ⟨by decide +kernel, rfl⟩
theorem eX4_solve_94 : zD cX4_solve 94 (.iload 4) 2 96 := ⟨by decide +kernel, rfl⟩
theorem eX4_solve_96 : zDj cX4_solve 96 (.ifCond .le 7) 7 103 99 := ⟨by decide +kernel, rfl, by decide⟩
theorem eX4_solve_99 : zD cX4_solve 99 (.iload_n 3) 1 100 := ⟨by decide +kernel, rfl⟩
theorem eX4_solve_100 : zDj cX4_solve 100 (.goto 4) 4 104 103 := ⟨by decide +kernel, rfl, by decide⟩
theorem eX4_solve_103 : zD cX4_solve 103 (.iconst 0) 1 104 := ⟨by decide +kernel, rfl⟩
theorem eX4_solve_104 : zD cX4_solve 104 (.istore_n 2) 1 105 := ⟨by decide +kernel, rfl⟩
theorem eX4_solve_105 : zD cX4_solve 105 (.iload 5) 2 107 := ⟨by decide +kernel, rfl⟩
theorem eX4_solve_107 : zD cX4_solve 107 (.istore_n 3) 1 108 := ⟨by decide +kernel, rfl⟩
theorem eX4_solve_108 : zD cX4_solve 108 (.iinc 4 1) 3 111 := ⟨by decide +kernel, rfl⟩
theorem eX4_solve_111 : zDj cX4_solve 111 (.goto (-56)) (-56) 55 114 := ⟨by decide +kernel, rfl, by decide⟩
theorem eX4_solve_114 : zD cX4_solve 114 .return_ 1 115 := ⟨by decide +kernel, rfl⟩
theorem wK_begin_3 {G : Zg} {p : Program} {l : Launch} {e : Env} {s : State} {m : MethodId} {args : Array Value} {below : List Frame} {meth : Method} {c : Code} (C : zC G p s m args meth c cX4_begin 6 RX4 none) {res : Int × Zm} (K36 : Nat → Int → Int → Zm → Zr) (hK36 : ∀ (o1 : Nat) (x3 : Int) (x4 : Int) (h1 : zin 294 o1 7) (n3 : zw x3 = x3) (n4 : zw x4 = x4) (σ : Zm), zR G p l e (zrm 2) s m args below meth c 6 0 0 (zQm below args s G 294 ztt none res.2) 294 ztt res σ (K36 o1 x3 x4 σ) [(0, .ref (zad G 177)), (1, .ref (zad G o1)), (3, .int (zI x3)), (4, .int (zI x4))] 36 []) : ∀ (n : Nat) (o1 : Nat) (x2 : Int) (x3 : Int) (x4 : Int) (x5 : Int) (h1 : zin 294 o1 7) (n2 : zw x2 = x2) (n3 : zw x3 = x3) (n4 : zw x4 = x4) (n5 : zw x5 = x5) (σ : Zm), zR G p l e (zrm 2) s m args below meth c 6 0 0 (zQm below args s G 294 ztt none res.2) 294 ztt res σ (fK_begin_3 n o1 x2 x3 x4 x5 σ K36) [(0, .ref (zad G 177)), (1, .ref (zad G o1)), (2, .int (zI x2)), (3, .int (zI x3)), (4, .int (zI x4)), (5, .int (zI x5))] 3 []
  | 0, _, _, _, _, _, _, _, _, _, _, _ => zr_none
  | n + 1, o1, x2, x3, x4, x5, h1, n2, n3, n4, n5, σ => by
    have ih := fun (o1 : Nat) (x2 : Int) (x3 : Int) (x4 : Int) (x5 : Int) (h1 : zin 294 o1 7) (n2 : zw x2 = x2) (n3 : zw x3 = x3) (n4 : zw x4 = x4) (n5 : zw x5 = x5) (σ : Zm) => wK_begin_3 (l := l) (e := e) (below := below) C K36 hK36 (res := res) n o1 x2 x3 x4 x5 h1 n2 n3 n4 n5 σ
    rw [fK_begin_3]
    refine zr_letf (fun R0 hR0 => ?_)
    have ih : ∀ (o1 : Nat) (x2 : Int) (x3 : Int) (x4 : Int) (x5 : Int) (h1 : zin 294 o1 7) (n2 : zw x2 = x2) (n3 : zw x3 = x3) (n4 : zw x4 = x4) (n5 : zw x5 = x5) (σ : Zm), zR G p l e (zrm 2) s m args below meth c 6 0 0 (zQm below args s G 294 ztt none res.2) 294 ztt res σ (R0 o1 x2 x3 x4 x5 σ) [(0, .ref (zad G 177)), (1, .ref (zad G o1)), (2, .int (zI x2)), (3, .int (zI x3)), (4, .int (zI x4)), (5, .int (zI x5))] 3 [] := by rw [hR0]; exact ih
    clear hR0
    refine zr_iload C 5 eX4_begin_3 rfl ?_
    refine zr_iconst C eX4_begin_5 rfl ?_
    refine zr_icmp_ge C eX4_begin_6 n5 w_4 ?_ ?_
    · refine zr_lv [0, 1, 3, 4] rfl ?_
      exact hK36 o1 x3 x4 h1 n3 n4 _
    refine zr_aloadn C 0 eX4_begin_9 rfl ?_
    refine zr_getR C ff_X4_20 rfl zo_177 rfl zf_177_1 eX4_begin_10 ?_
    refine zr_iload C 5 eX4_begin_13 rfl ?_
    refine zr_aald23 C zo_182 zn_182 n5 (fun _ _ => rfl) eX4_begin_15 (fun hh1 => ?_)
    refine zr_aloadn C 1 eX4_begin_16 rfl ?_
    refine zr_getR C ff_X4_58 rfl h1 rfl ((zk_7_0 h1).1) eX4_begin_17 ?_
    refine zr_iloadn C 2 eX4_begin_20 rfl ?_
    refine zr_iconst C eX4_begin_21 rfl ?_
    refine zr_imul C eX4_begin_22 ?_
    refine zr_iload C 5 eX4_begin_23 rfl ?_
    refine zr_iadd C eX4_begin_25 ?_
    refine zr_aald23 C ((zk_7_0 h1).2) (zln_7_0 h1) rfl (fun _ _ => rfl) eX4_begin_26 (fun hh2 => ?_)
    refine zr_callVv C [.ref (zad G (zRF (o1 + 1) (zw ((x2 * 4) + x5)).toNat))] zy_X3_take zv_X3_take lk_X4_61 zrm_2_3_1 (ze_23 zo_182 zn_182 hh1) (by decide) rfl (fun r hr => zqL_take l G σ (zRF 182 x5.toNat) (zRF (o1 + 1) (zw ((x2 * 4) + x5)).toNat) (ze_23 zo_182 zn_182 hh1) (ze_23 ((zk_7_0 h1).2) (zln_7_0 h1) hh2) r hr) rfl rfl (Nat.le_of_ble_eq_true rfl) eX4_begin_27 (fun σ3 => ?_)
    refine zr_iinc (lv' := [(5, .int (zI (x5 + 1))), (0, .ref (zad G 177)), (1, .ref (zad G o1)), (2, .int (zI x2)), (3, .int (zI x3)), (4, .int (zI x4))]) C 5 eX4_begin_30 rfl (by decide) rfl ?_
    refine zr_goto C eX4_begin_33 ?_
    refine zr_lv [1, 2, 3, 4, 5, 0] rfl ?_
    exact zr_lve (zs_p (zs_p (zs_p (zs_p (zs_p (zs_pi (zI_w (x5 + 1)).symm rfl)))))) (ih o1 x2 x3 x4 (zw (x5 + 1)) h1 n2 n3 n4 (zw_w (x5 + 1)) _)
theorem wK_begin_96 {G : Zg} {p : Program} {l : Launch} {e : Env} {s : State} {m : MethodId} {args : Array Value} {below : List Frame} {meth : Method} {c : Code} (C : zC G p s m args meth c cX4_begin 6 RX4 none) {res : Int × Zm} (o1 : Nat) (x5 : Int) (h1 : zin 294 o1 7) (n5 : zw x5 = x5) (σ : Zm) : zR G p l e (zrm 2) s m args below meth c 6 0 0 (zQm below args s G 294 ztt none res.2) 294 ztt res σ (fK_begin_96 o1 x5 σ) [(0, .ref (zad G 177)), (1, .ref (zad G o1)), (5, .int (zI x5))] 96 [] := by
  unfold fK_begin_96
  refine zr_aloadn C 0 eX4_begin_96 rfl ?_
  refine zr_iconst C eX4_begin_97 rfl ?_
  refine zr_iload C 2 eX4_begin_98 rfl ?_
  refine zr_bipush (a := 7) C eX4_begin_100 rfl ?_
  refine zr_isub C eX4_begin_102 ?_
  refine zr_mmax C lk_X4_72 zy_mmax zrm_2_2_0 (Nat.le_of_ble_eq_true rfl) w_0 rfl eX4_begin_103 (fun v20 nv20 => ?_)
  refine zr_putI C ff_X4_46 rfl zo_177 eX4_begin_106 (fun σ21 => ?_)
  refine zr_aloadn C 0 eX4_begin_109 rfl ?_
  refine zr_bipush (a := 60) C eX4_begin_110 rfl ?_
  refine zr_iload C 2 eX4_begin_112 rfl ?_
  refine zr_bipush (a := 7) C eX4_begin_114 rfl ?_
  refine zr_iadd C eX4_begin_116 ?_
  refine zr_mmin C lk_X4_78 zy_mmin zrm_2_2_0 (Nat.le_of_ble_eq_true rfl) w_60 rfl eX4_begin_117 (fun v22 nv22 => ?_)
  refine zr_aloadn C 0 eX4_begin_120 rfl ?_
  refine zr_getI C ff_X4_46 zo_177 eX4_begin_121 (fun v23 nv23 => ?_)
  refine zr_isub C eX4_begin_124 ?_
  refine zr_iconst C eX4_begin_125 rfl ?_
  refine zr_iadd C eX4_begin_126 ?_
  refine zr_putI C ff_X4_49 rfl zo_177 eX4_begin_127 (fun σ24 => ?_)
  refine zr_aloadn C 0 eX4_begin_130 rfl ?_
  refine zr_getR C ff_X4_12 rfl zo_177 rfl zf_177_0 eX4_begin_131 ?_
  refine zr_aloadn C 1 eX4_begin_134 rfl ?_
  refine zr_getI C ff_X4_81 h1 eX4_begin_135 (fun v25 nv25 => ?_)
  refine zr_iconst C eX4_begin_138 rfl ?_
  refine zr_callVv C [.int (zI v25), .int (zI (-1))] zy_X2_begin zv_X2_begin lk_X4_84 zrm_2_3_1 zo_178 (by decide) rfl (fun r hr => zqJ_begin l G σ24 178 v25 (-1) zo_178 nv25 w_m1 r hr) rfl rfl (Nat.le_of_ble_eq_true rfl) eX4_begin_139 (fun σ26 => ?_)
  exact zr_vret C eX4_begin_142
theorem zqK_begin (l : Launch) (G : Zg) (σ : Zm) (o1 : Nat) (x2 : Int) (x3 : Int) (x4 : Int) (h1 : zin 294 o1 7) (n2 : zw x2 = x2) (n3 : zw x3 = x3) (n4 : zw x4 = x4) (res : Int × Zm) (he : fK_begin σ o1 x2 x3 x4 = some res) : zM l yX4_begin cX4_begin 6 none 2 G 294 ztt σ [.ref (zad G 177), .ref (zad G o1), .int (zI x2), .int (zI x3), .int (zI x4)] none res.2 := by
  refine zM_of he (by decide +kernel) (Nat.le_of_ble_eq_true rfl) (lv := [(0, .ref (zad G 177)), (1, .ref (zad G o1)), (2, .int (zI x2)), (3, .int (zI x3)), (4, .int (zI x4))]) rfl (fun p e s m below meth c C => ?_)
  unfold fK_begin
  refine zr_iconst C eX4_begin_0 rfl ?_
  refine zr_istore (lv' := [(5, .int (zI 0)), (0, .ref (zad G 177)), (1, .ref (zad G o1)), (2, .int (zI x2)), (3, .int (zI x3)), (4, .int (zI x4))]) C eX4_begin_1 (by decide) rfl ?_
  refine zr_lv [1, 2, 3, 4, 5, 0] rfl ?_
  refine wK_begin_3 C _ ?_ 5000 o1 x2 x3 x4 0 h1 n2 n3 n4 w_0 σ
  intro o5 y6 y7 ho5 ny6 ny7 σ4
  refine zr_aloadn C 0 eX4_begin_36 rfl ?_
  refine zr_iloadn C 2 eX4_begin_37 rfl ?_
  refine zr_putI C ff_X4_36 rfl zo_177 eX4_begin_38 (fun σ8 => ?_)
  refine zr_aloadn C 0 eX4_begin_41 rfl ?_
  refine zr_iload C 3 eX4_begin_42 rfl ?_
  refine zr_putI C ff_X4_43 rfl zo_177 eX4_begin_44 (fun σ9 => ?_)
  refine zr_aloadn C 0 eX4_begin_47 rfl ?_
  refine zr_aloadn C 0 eX4_begin_48 rfl ?_
  refine zr_getR C ff_X4_20 rfl zo_177 rfl zf_177_1 eX4_begin_49 ?_
  refine zr_aloadn C 0 eX4_begin_52 rfl ?_
  refine zr_getI C ff_X4_36 zo_177 eX4_begin_53 (fun v10 nv10 => ?_)
  refine zr_aald23 C zo_182 zn_182 nv10 (fun _ _ => rfl) eX4_begin_56 (fun hh11 => ?_)
  refine zr_callVi C [] zy_X3_beats zv_X3_beats lk_X4_65 zrm_2_2_0 (ze_23 zo_182 zn_182 hh11) (by decide) rfl (fun r hr => zqL_beats l G σ9 (zRF 182 v10.toNat) (ze_23 zo_182 zn_182 hh11) r hr) rfl rfl (Nat.le_of_ble_eq_true rfl) eX4_begin_57 (fun v13 nv13 σ12 => ?_)
  refine zr_putI C ff_X4_40 rfl zo_177 eX4_begin_60 (fun σ14 => ?_)
  refine zr_aloadn C 0 eX4_begin_63 rfl ?_
  refine zr_getI C ff_X4_40 zo_177 eX4_begin_64 (fun v15 nv15 => ?_)
  refine zr_iconst C eX4_begin_67 rfl ?_
  refine zr_icmp_ge C eX4_begin_68 nv15 w_1 ?_ ?_
  · refine zr_aloadn C 0 eX4_begin_75 rfl ?_
    refine zr_getR C ff_X4_20 rfl zo_177 rfl zf_177_1 eX4_begin_76 ?_
    refine zr_aloadn C 0 eX4_begin_79 rfl ?_
    refine zr_getI C ff_X4_36 zo_177 eX4_begin_80 (fun v16 nv16 => ?_)
    refine zr_aald23 C zo_182 zn_182 nv16 (fun _ _ => rfl) eX4_begin_83 (fun hh17 => ?_)
    refine zr_getR C ff_X4_69 rfl (ze_23 zo_182 zn_182 hh17) rfl ((zk_3_0 (ze_23 zo_182 zn_182 hh17)).1) eX4_begin_84 ?_
    refine zr_aloadn C 0 eX4_begin_87 rfl ?_
    refine zr_getI C ff_X4_40 zo_177 eX4_begin_88 (fun v18 nv18 => ?_)
    refine zr_iconst C eX4_begin_91 rfl ?_
    refine zr_isub C eX4_begin_92 ?_
    refine zr_iald C ((zk_3_0 (ze_23 zo_182 zn_182 hh17)).2) rfl rfl eX4_begin_93 (fun v19 nv19 => ?_)
    refine zr_istore (lv' := [(5, .int (zI v19)), (0, .ref (zad G 177)), (1, .ref (zad G o5)), (3, .int (zI y6)), (4, .int (zI y7))]) C eX4_begin_94 (by decide) rfl ?_
    refine zr_lv [1, 2, 0] rfl ?_
    exact wK_begin_96 C o5 v19 ho5 nv19 σ14
  refine zr_iconst C eX4_begin_71 rfl ?_
  refine zr_goto C eX4_begin_72 ?_
  refine zr_istore (lv' := [(5, .int (zI 0)), (0, .ref (zad G 177)), (1, .ref (zad G o5)), (3, .int (zI y6)), (4, .int (zI y7))]) C eX4_begin_94 (by decide) rfl ?_
  refine zr_lv [1, 2, 0] rfl ?_
  exact wK_begin_96 C o5 0 ho5 w_0 σ14
theorem zqK_singAt (l : Launch) (G : Zg) (σ : Zm) (x1 : Int) (x2 : Int) (n1 : zw x1 = x1) (n2 : zw x2 = x2) (res : Int × Zm) (he : fK_singAt σ x1 x2 = some res) : zM l yX4_singAt cX4_singAt 3 none 3 G 294 ztt σ [.ref (zad G 177), .int (zI x1), .int (zI x2)] none res.2 := by
  refine zM_of he (by decide +kernel) (Nat.le_of_ble_eq_true rfl) (lv := [(0, .ref (zad G 177)), (1, .int (zI x1)), (2, .int (zI x2))]) rfl (fun p e s m below meth c C => ?_)
  unfold fK_singAt
  refine zr_iloadn C 1 eX4_singAt_0 rfl ?_
  refine zr_if_lt C eX4_singAt_1 n1 ?_ ?_
  · exact zr_vret C eX4_singAt_29
  refine zr_aloadn C 0 eX4_singAt_4 rfl ?_
  refine zr_getR C ff_X4_20 rfl zo_177 rfl zf_177_1 eX4_singAt_5 ?_
  refine zr_aloadn C 0 eX4_singAt_8 rfl ?_
  refine zr_getI C ff_X4_36 zo_177 eX4_singAt_9 (fun v1 nv1 => ?_)
  refine zr_aald23 C zo_182 zn_182 nv1 (fun _ _ => rfl) eX4_singAt_12 (fun hh2 => ?_)
  refine zr_aloadn C 0 eX4_singAt_13 rfl ?_
  refine zr_getI C ff_X4_40 zo_177 eX4_singAt_14 (fun v3 nv3 => ?_)
  refine zr_iloadn C 1 eX4_singAt_17 rfl ?_
  refine zr_iadd C eX4_singAt_18 ?_
  refine zr_aloadn C 0 eX4_singAt_19 rfl ?_
  refine zr_getI C ff_X4_46 zo_177 eX4_singAt_20 (fun v4 nv4 => ?_)
  refine zr_iloadn C 2 eX4_singAt_23 rfl ?_
  refine zr_iadd C eX4_singAt_24 ?_
  refine zr_iconst C eX4_singAt_25 rfl ?_
  refine zr_callVv C [.int (zI (zw (v3 + x1))), .int (zI (zw (v4 + x2))), .int (zI 1)] zy_X3_sing zv_X3_sing lk_X4_119 zrm_3_4_2 (ze_23 zo_182 zn_182 hh2) (by decide) rfl (fun r hr => zqL_sing l G σ (zRF 182 v1.toNat) (zw (v3 + x1)) (zw (v4 + x2)) 1 (ze_23 zo_182 zn_182 hh2) (zw_w (v3 + x1)) (zw_w (v4 + x2)) w_1 r hr) rfl (zs_k (zs_i (zI_w (v4 + x2)).symm (zs_i (zI_w (v3 + x1)).symm rfl))) (Nat.le_of_ble_eq_true rfl) eX4_singAt_26 (fun σ5 => ?_)
  exact zr_vret C eX4_singAt_29
theorem wK_pairPrice_10 {G : Zg} {p : Program} {l : Launch} {e : Env} {s : State} {m : MethodId} {args : Array Value} {below : List Frame} {meth : Method} {c : Code} (C : zC G p s m args meth c cX4_pairPrice 4 RX4 (some .int)) {res : Int × Zm} : ∀ (n : Nat) (o1 : Nat) (x2 : Int) (x3 : Int) (h1 : zin 294 o1 6) (n2 : zw x2 = x2) (n3 : zw x3 = x3) (σ : Zm), zR G p l e (zrm 4) s m args below meth c 4 0 0 (zQm below args s G 294 ztt (some (.int (zI res.1))) res.2) 294 ztt res σ (fK_pairPrice_10 n o1 x2 x3 σ) [(0, .ref (zad G 177)), (1, .ref (zad G o1)), (2, .int (zI x2)), (3, .int (zI x3))] 10 []
  | 0, _, _, _, _, _, _, _ => zr_none
  | n + 1, o1, x2, x3, h1, n2, n3, σ => by
    have ih := fun (o1 : Nat) (x2 : Int) (x3 : Int) (h1 : zin 294 o1 6) (n2 : zw x2 = x2) (n3 : zw x3 = x3) (σ : Zm) => wK_pairPrice_10 (l := l) (e := e) (below := below) C (res := res) n o1 x2 x3 h1 n2 n3 σ
    rw [fK_pairPrice_10]
    refine zr_letf (fun R0 hR0 => ?_)
    have ih : ∀ (o1 : Nat) (x2 : Int) (x3 : Int) (h1 : zin 294 o1 6) (n2 : zw x2 = x2) (n3 : zw x3 = x3) (σ : Zm), zR G p l e (zrm 4) s m args below meth c 4 0 0 (zQm below args s G 294 ztt (some (.int (zI res.1))) res.2) 294 ztt res σ (R0 o1 x2 x3 σ) [(0, .ref (zad G 177)), (1, .ref (zad G o1)), (2, .int (zI x2)), (3, .int (zI x3))] 10 [] := by rw [hR0]; exact ih
    clear hR0
    refine zr_iloadn C 3 eX4_pairPrice_10 rfl ?_
    refine zr_iconst C eX4_pairPrice_11 rfl ?_
    refine zr_icmp_ge C eX4_pairPrice_12 n3 w_4 ?_ ?_
    · refine zr_aloadn C 0 eX4_pairPrice_64 rfl ?_
      refine zr_getR C ff_X4_12 rfl zo_177 rfl zf_177_0 eX4_pairPrice_65 ?_
      refine zr_getI C ff_X4_106 zo_178 eX4_pairPrice_68 (fun v2 nv2 => ?_)
      exact zr_iret C eX4_pairPrice_71
    refine zr_iloadn C 3 eX4_pairPrice_15 rfl ?_
    refine zr_aloadn C 0 eX4_pairPrice_16 rfl ?_
    refine zr_getI C ff_X4_36 zo_177 eX4_pairPrice_17 (fun v3 nv3 => ?_)
    refine zr_icmp_eq C eX4_pairPrice_20 n3 nv3 ?_ ?_
    · refine zr_iinc (lv' := [(3, .int (zI (x3 + 1))), (0, .ref (zad G 177)), (1, .ref (zad G o1)), (2, .int (zI x2))]) C 3 eX4_pairPrice_58 rfl (by decide) rfl ?_
      refine zr_goto C eX4_pairPrice_61 ?_
      refine zr_lv [1, 2, 3, 0] rfl ?_
      exact zr_lve (zs_p (zs_p (zs_p (zs_pi (zI_w (x3 + 1)).symm rfl)))) (ih o1 x2 (zw (x3 + 1)) h1 n2 (zw_w (x3 + 1)) _)
    refine zr_aloadn C 0 eX4_pairPrice_23 rfl ?_
    refine zr_getR C ff_X4_12 rfl zo_177 rfl zf_177_0 eX4_pairPrice_24 ?_
    refine zr_aloadn C 1 eX4_pairPrice_27 rfl ?_
    refine zr_aloadn C 0 eX4_pairPrice_28 rfl ?_
    refine zr_getR C ff_X4_20 rfl zo_177 rfl zf_177_1 eX4_pairPrice_29 ?_
    refine zr_aloadn C 0 eX4_pairPrice_32 rfl ?_
    refine zr_getI C ff_X4_36 zo_177 eX4_pairPrice_33 (fun v4 nv4 => ?_)
    refine zr_iloadn C 3 eX4_pairPrice_36 rfl ?_
    refine zr_mmin C lk_X4_78 zy_mmin zrm_4_2_0 (Nat.le_of_ble_eq_true rfl) nv4 n3 eX4_pairPrice_37 (fun v5 nv5 => ?_)
    refine zr_aald23 C zo_182 zn_182 nv5 (fun _ _ => rfl) eX4_pairPrice_40 (fun hh6 => ?_)
    refine zr_aloadn C 0 eX4_pairPrice_41 rfl ?_
    refine zr_getR C ff_X4_20 rfl zo_177 rfl zf_177_1 eX4_pairPrice_42 ?_
    refine zr_aloadn C 0 eX4_pairPrice_45 rfl ?_
    refine zr_getI C ff_X4_36 zo_177 eX4_pairPrice_46 (fun v7 nv7 => ?_)
    refine zr_iloadn C 3 eX4_pairPrice_49 rfl ?_
    refine zr_mmax C lk_X4_72 zy_mmax zrm_4_2_0 (Nat.le_of_ble_eq_true rfl) nv7 n3 eX4_pairPrice_50 (fun v8 nv8 => ?_)
    refine zr_aald23 C zo_182 zn_182 nv8 (fun _ _ => rfl) eX4_pairPrice_53 (fun hh9 => ?_)
    refine zr_iloadn C 2 eX4_pairPrice_54 rfl ?_
    refine zr_callVv C [.ref (zad G o1), .ref (zad G (zRF 182 v5.toNat)), .ref (zad G (zRF 182 v8.toNat)), .int (zI x2)] zy_X2_askPair zv_X2_askPair lk_X4_123 zrm_4_11_3 zo_178 (by decide) rfl (fun r hr => zqJ_askPair l G σ 178 o1 (zRF 182 v5.toNat) (zRF 182 v8.toNat) x2 zo_178 h1 (ze_23 zo_182 zn_182 hh6) (ze_23 zo_182 zn_182 hh9) n2 r hr) rfl rfl (Nat.le_of_ble_eq_true rfl) eX4_pairPrice_55 (fun σ10 => ?_)
    refine zr_iinc (lv' := [(3, .int (zI (x3 + 1))), (0, .ref (zad G 177)), (1, .ref (zad G o1)), (2, .int (zI x2))]) C 3 eX4_pairPrice_58 rfl (by decide) rfl ?_
    refine zr_goto C eX4_pairPrice_61 ?_
    refine zr_lv [1, 2, 3, 0] rfl ?_
    exact zr_lve (zs_p (zs_p (zs_p (zs_pi (zI_w (x3 + 1)).symm rfl)))) (ih o1 x2 (zw (x3 + 1)) h1 n2 (zw_w (x3 + 1)) _)
theorem zqK_pairPrice (l : Launch) (G : Zg) (σ : Zm) (o1 : Nat) (x2 : Int) (h1 : zin 294 o1 6) (n2 : zw x2 = x2) (res : Int × Zm) (he : fK_pairPrice σ o1 x2 = some res) : zM l yX4_pairPrice cX4_pairPrice 4 (some .int) 4 G 294 ztt σ [.ref (zad G 177), .ref (zad G o1), .int (zI x2)] (some (.int (zI res.1))) res.2 := by
  refine zM_of he (by decide +kernel) (Nat.le_of_ble_eq_true rfl) (lv := [(0, .ref (zad G 177)), (1, .ref (zad G o1)), (2, .int (zI x2))]) rfl (fun p e s m below meth c C => ?_)
  unfold fK_pairPrice
  refine zr_aloadn C 0 eX4_pairPrice_0 rfl ?_
  refine zr_getR C ff_X4_12 rfl zo_177 rfl zf_177_0 eX4_pairPrice_1 ?_
  refine zr_iconst C eX4_pairPrice_4 rfl ?_
  refine zr_putI C ff_X4_106 rfl zo_178 eX4_pairPrice_5 (fun σ1 => ?_)
  refine zr_iconst C eX4_pairPrice_8 rfl ?_
  refine zr_istoren (lv' := [(3, .int (zI 0)), (0, .ref (zad G 177)), (1, .ref (zad G o1)), (2, .int (zI x2))]) C eX4_pairPrice_9 (by decide) rfl ?_
  refine zr_lv [1, 2, 3, 0] rfl ?_
  refine wK_pairPrice_10 C 5000 o1 x2 0 h1 n2 w_0 σ1
theorem wK_solveNote_170 {G : Zg} {p : Program} {l : Launch} {e : Env} {s : State} {m : MethodId} {args : Array Value} {below : List Frame} {meth : Method} {c : Code} (C : zC G p s m args meth c cX4_solveNote 10 RX4 none) {res : Int × Zm} (R0 : Nat → Int → Nat → Int → Int → Int → Int → Int → Zm → Zr) (K232 : Nat → Int → Nat → Int → Int → Int → Zm → Zr) (ih : ∀ (o1 : Nat) (x2 : Int) (o3 : Nat) (x4 : Int) (x5 : Int) (x6 : Int) (x7 : Int) (x8 : Int) (h1 : zin 294 o1 6) (n2 : zw x2 = x2) (h3 : zin 294 o3 3) (n4 : zw x4 = x4) (n5 : zw x5 = x5) (n6 : zw x6 = x6) (n7 : zw x7 = x7) (n8 : zw x8 = x8) (σ : Zm), zR G p l e (zrm 5) s m args below meth c 10 0 0 (zQm below args s G 294 ztt none res.2) 294 ztt res σ (R0 o1 x2 o3 x4 x5 x6 x7 x8 σ) [(0, .ref (zad G 177)), (1, .ref (zad G o1)), (2, .int (zI x2)), (3, .ref (zad G o3)), (4, .int (zI x4)), (5, .int (zI x5)), (6, .int (zI x6)), (7, .int (zI x7)), (8, .int (zI x8))] 115 []) (hK232 : ∀ (o1 : Nat) (x2 : Int) (o3 : Nat) (x4 : Int) (x5 : Int) (x6 : Int) (h1 : zin 294 o1 6) (n2 : zw x2 = x2) (h3 : zin 294 o3 3) (n4 : zw x4 = x4) (n5 : zw x5 = x5) (n6 : zw x6 = x6) (σ : Zm), zR G p l e (zrm 5) s m args below meth c 10 0 0 (zQm below args s G 294 ztt none res.2) 294 ztt res σ (K232 o1 x2 o3 x4 x5 x6 σ) [(0, .ref (zad G 177)), (1, .ref (zad G o1)), (2, .int (zI x2)), (3, .ref (zad G o3)), (4, .int (zI x4)), (5, .int (zI x5)), (6, .int (zI x6))] 232 []) (o1 : Nat) (x2 : Int) (o3 : Nat) (x4 : Int) (x5 : Int) (x6 : Int) (x7 : Int) (x8 : Int) (h1 : zin 294 o1 6) (n2 : zw x2 = x2) (h3 : zin 294 o3 3) (n4 : zw x4 = x4) (n5 : zw x5 = x5) (n6 : zw x6 = x6) (n7 : zw x7 = x7) (n8 : zw x8 = x8) (σ : Zm) : zR G p l e (zrm 5) s m args below meth c 10 0 0 (zQm below args s G 294 ztt none res.2) 294 ztt res σ (fK_solveNote_170 R0 K232 o1 x2 o3 x4 x5 x6 x7 x8 σ) [(0, .ref (zad G 177)), (1, .ref (zad G o1)), (2, .int (zI x2)), (3, .ref (zad G o3)), (4, .int (zI x4)), (5, .int (zI x5)), (6, .int (zI x6)), (7, .int (zI x7)), (8, .int (zI x8))] 170 [] := by
  unfold fK_solveNote_170
  refine zr_iload C 8 eX4_solveNote_170 rfl ?_
  refine zr_bipush (a := 15) C eX4_solveNote_172 rfl ?_
  refine zr_imul C eX4_solveNote_174 ?_
  refine zr_iload C 5 eX4_solveNote_175 rfl ?_
  refine zr_iadd C eX4_solveNote_177 ?_
  refine zr_st (show _ = .int (zI (zw ((x8 * 15) + x5))) :: _ from congrArg (· :: _) (congrArg Value.int (zI_w ((x8 * 15) + x5)).symm)) ?_
  refine zr_letw (P := fun z => .int (zI z) :: _) (zw_w ((x8 * 15) + x5)) (fun v19 nv19 => ?_)
  refine zr_istore (lv' := [(9, .int (zI v19)), (0, .ref (zad G 177)), (1, .ref (zad G o1)), (2, .int (zI x2)), (3, .ref (zad G o3)), (4, .int (zI x4)), (5, .int (zI x5)), (6, .int (zI x6)), (7, .int (zI x7)), (8, .int (zI x8))]) C eX4_solveNote_178 (by decide) rfl ?_
  refine zr_aloadn C 1 eX4_solveNote_180 rfl ?_
  refine zr_getR C ff_X4_12 rfl zo_177 rfl zf_177_0 eX4_solveNote_181 ?_
  refine zr_getI C ff_X4_106 zo_178 eX4_solveNote_184 (fun v20 nv20 => ?_)
  refine zr_aloadn C 1 eX4_solveNote_187 rfl ?_
  refine zr_getR C ff_X4_26 rfl zo_177 rfl zf_177_2 eX4_solveNote_188 ?_
  refine zr_iloadn C 3 eX4_solveNote_191 rfl ?_
  refine zr_aald25 C zo_183 zn_183 n2 (fun _ _ => rfl) eX4_solveNote_192 (fun hh21 => ?_)
  refine zr_iload C 0 eX4_solveNote_193 rfl ?_
  refine zr_iald C (ze_25 zo_183 zn_183 hh21) (zle_183 hh21) nv19 eX4_solveNote_195 (fun v22 nv22 => ?_)
  refine zr_icmp_ge C eX4_solveNote_196 nv20 nv22 ?_ ?_
  · refine zr_iinc (lv' := [(8, .int (zI (x8 + 1))), (9, .int (zI v19)), (0, .ref (zad G 177)), (1, .ref (zad G o1)), (2, .int (zI x2)), (3, .ref (zad G o3)), (4, .int (zI x4)), (5, .int (zI x5)), (6, .int (zI x6)), (7, .int (zI x7))]) C 9 eX4_solveNote_226 rfl (by decide) rfl ?_
    refine zr_goto C eX4_solveNote_229 ?_
    refine zr_lv [2, 3, 4, 5, 6, 7, 8, 9, 0] rfl ?_
    exact zr_lve (zs_p (zs_p (zs_p (zs_p (zs_p (zs_p (zs_p (zs_p (zs_pi (zI_w (x8 + 1)).symm rfl))))))))) (ih o1 x2 o3 x4 x5 x6 x7 (zw (x8 + 1)) h1 n2 h3 n4 n5 n6 n7 (zw_w (x8 + 1)) _)
  refine zr_aloadn C 1 eX4_solveNote_199 rfl ?_
  refine zr_getR C ff_X4_26 rfl zo_177 rfl zf_177_2 eX4_solveNote_200 ?_
  refine zr_iloadn C 3 eX4_solveNote_203 rfl ?_
  refine zr_aald25 C zo_183 zn_183 n2 (fun _ _ => rfl) eX4_solveNote_204 (fun hh23 => ?_)
  refine zr_iload C 0 eX4_solveNote_205 rfl ?_
  refine zr_aloadn C 1 eX4_solveNote_207 rfl ?_
  refine zr_getR C ff_X4_12 rfl zo_177 rfl zf_177_0 eX4_solveNote_208 ?_
  refine zr_getI C ff_X4_106 zo_178 eX4_solveNote_211 (fun v24 nv24 => ?_)
  refine zr_iast C (ze_25 zo_183 zn_183 hh23) (zle_183 hh23) nv19 eX4_solveNote_214 (fun σ25 => ?_)
  refine zr_aloadn C 1 eX4_solveNote_215 rfl ?_
  refine zr_getR C ff_X4_29 rfl zo_177 rfl zf_177_3 eX4_solveNote_216 ?_
  refine zr_iloadn C 3 eX4_solveNote_219 rfl ?_
  refine zr_aald25 C zo_190 zn_190 n2 (fun _ _ => rfl) eX4_solveNote_220 (fun hh26 => ?_)
  refine zr_iload C 0 eX4_solveNote_221 rfl ?_
  refine zr_iload C 7 eX4_solveNote_223 rfl ?_
  refine zr_iast C (ze_25 zo_190 zn_190 hh26) (zle_190 hh26) nv19 eX4_solveNote_225 (fun σ27 => ?_)
  refine zr_iinc (lv' := [(8, .int (zI (x8 + 1))), (9, .int (zI v19)), (0, .ref (zad G 177)), (1, .ref (zad G o1)), (2, .int (zI x2)), (3, .ref (zad G o3)), (4, .int (zI x4)), (5, .int (zI x5)), (6, .int (zI x6)), (7, .int (zI x7))]) C 9 eX4_solveNote_226 rfl (by decide) rfl ?_
  refine zr_goto C eX4_solveNote_229 ?_
  refine zr_lv [2, 3, 4, 5, 6, 7, 8, 9, 0] rfl ?_
  exact zr_lve (zs_p (zs_p (zs_p (zs_p (zs_p (zs_p (zs_p (zs_p (zs_pi (zI_w (x8 + 1)).symm rfl))))))))) (ih o1 x2 o3 x4 x5 x6 x7 (zw (x8 + 1)) h1 n2 h3 n4 n5 n6 n7 (zw_w (x8 + 1)) _)
theorem wK_solveNote_133 {G : Zg} {p : Program} {l : Launch} {e : Env} {s : State} {m : MethodId} {args : Array Value} {below : List Frame} {meth : Method} {c : Code} (C : zC G p s m args meth c cX4_solveNote 10 RX4 none) {res : Int × Zm} (R0 : Nat → Int → Nat → Int → Int → Int → Int → Int → Zm → Zr) (K232 : Nat → Int → Nat → Int → Int → Int → Zm → Zr) (ih : ∀ (o1 : Nat) (x2 : Int) (o3 : Nat) (x4 : Int) (x5 : Int) (x6 : Int) (x7 : Int) (x8 : Int) (h1 : zin 294 o1 6) (n2 : zw x2 = x2) (h3 : zin 294 o3 3) (n4 : zw x4 = x4) (n5 : zw x5 = x5) (n6 : zw x6 = x6) (n7 : zw x7 = x7) (n8 : zw x8 = x8) (σ : Zm), zR G p l e (zrm 5) s m args below meth c 10 0 0 (zQm below args s G 294 ztt none res.2) 294 ztt res σ (R0 o1 x2 o3 x4 x5 x6 x7 x8 σ) [(0, .ref (zad G 177)), (1, .ref (zad G o1)), (2, .int (zI x2)), (3, .ref (zad G o3)), (4, .int (zI x4)), (5, .int (zI x5)), (6, .int (zI x6)), (7, .int (zI x7)), (8, .int (zI x8))] 115 []) (hK232 : ∀ (o1 : Nat) (x2 : Int) (o3 : Nat) (x4 : Int) (x5 : Int) (x6 : Int) (h1 : zin 294 o1 6) (n2 : zw x2 = x2) (h3 : zin 294 o3 3) (n4 : zw x4 = x4) (n5 : zw x5 = x5) (n6 : zw x6 = x6) (σ : Zm), zR G p l e (zrm 5) s m args below meth c 10 0 0 (zQm below args s G 294 ztt none res.2) 294 ztt res σ (K232 o1 x2 o3 x4 x5 x6 σ) [(0, .ref (zad G 177)), (1, .ref (zad G o1)), (2, .int (zI x2)), (3, .ref (zad G o3)), (4, .int (zI x4)), (5, .int (zI x5)), (6, .int (zI x6))] 232 []) (o1 : Nat) (x2 : Int) (o3 : Nat) (x4 : Int) (x5 : Int) (x6 : Int) (x7 : Int) (x8 : Int) (h1 : zin 294 o1 6) (n2 : zw x2 = x2) (h3 : zin 294 o3 3) (n4 : zw x4 = x4) (n5 : zw x5 = x5) (n6 : zw x6 = x6) (n7 : zw x7 = x7) (n8 : zw x8 = x8) (σ : Zm) : zR G p l e (zrm 5) s m args below meth c 10 0 0 (zQm below args s G 294 ztt none res.2) 294 ztt res σ (fK_solveNote_133 R0 K232 o1 x2 o3 x4 x5 x6 x7 x8 σ) [(0, .ref (zad G 177)), (1, .ref (zad G o1)), (2, .int (zI x2)), (3, .ref (zad G o3)), (4, .int (zI x4)), (5, .int (zI x5)), (6, .int (zI x6)), (7, .int (zI x7)), (8, .int (zI x8))] 133 [] := by
  unfold fK_solveNote_133
  refine zr_aloadn C 0 eX4_solveNote_133 rfl ?_
  refine zr_iloadn C 2 eX4_solveNote_134 rfl ?_
  refine zr_iconst C eX4_solveNote_135 rfl ?_
  refine zr_isub C eX4_solveNote_136 ?_
  refine zr_iload C 8 eX4_solveNote_137 rfl ?_
  refine zr_callVv C [.int (zI (zw (x2 - 2))), .int (zI x8)] zy_X4_singAt zv_X4_singAt lk_X4_99 zrm_5_3_3 zo_177 (by decide) rfl (fun r hr => zqK_singAt l G σ (zw (x2 - 2)) x8 (zw_w (x2 - 2)) n8 r hr) rfl (zs_k (zs_i (zI_w (x2 - 2)).symm rfl)) (Nat.le_of_ble_eq_true rfl) eX4_solveNote_139 (fun σ15 => ?_)
  refine zr_aloadn C 0 eX4_solveNote_142 rfl ?_
  refine zr_getR C ff_X4_12 rfl zo_177 rfl zf_177_0 eX4_solveNote_143 ?_
  refine zr_iload C 7 eX4_solveNote_146 rfl ?_
  refine zr_putI C ff_X4_106 rfl zo_178 eX4_solveNote_148 (fun σ16 => ?_)
  refine zr_aloadn C 1 eX4_solveNote_151 rfl ?_
  refine zr_iconst C eX4_solveNote_152 rfl ?_
  refine zr_callVi C [.int (zI 1)] zy_X6_has zv_X6_has lk_X4_109 zrm_5_3_0 h1 (by decide) rfl (fun r hr => zqU_has l G σ16 o1 1 h1 w_1 r hr) rfl rfl (Nat.le_of_ble_eq_true rfl) eX4_solveNote_153 (fun v18 nv18 σ17 => ?_)
  refine zr_if_eq C eX4_solveNote_156 nv18 ?_ ?_
  · exact wK_solveNote_170 C R0 K232 ih hK232 o1 x2 o3 x4 x5 x6 x7 x8 h1 n2 h3 n4 n5 n6 n7 n8 σ17
  refine zr_aloadn C 0 eX4_solveNote_159 rfl ?_
  refine zr_getR C ff_X4_12 rfl zo_177 rfl zf_177_0 eX4_solveNote_160 ?_
  refine zr_aloadn C 1 eX4_solveNote_163 rfl ?_
  refine zr_aloadn C 3 eX4_solveNote_164 rfl ?_
  refine zr_iload C 4 eX4_solveNote_165 rfl ?_
  refine zr_callVv C [.ref (zad G o1), .ref (zad G o3), .int (zI x4)] zy_X2_askLine zv_X2_askLine lk_X4_115 zrm_5_6_3 zo_178 (by decide) rfl (fun r hr => zqJ_askLine l G σ17 178 o1 o3 x4 zo_178 h1 h3 n4 r hr) rfl rfl (Nat.le_of_ble_eq_true rfl) eX4_solveNote_167 (fun σ28 => ?_)
  exact wK_solveNote_170 C R0 K232 ih hK232 o1 x2 o3 x4 x5 x6 x7 x8 h1 n2 h3 n4 n5 n6 n7 n8 σ28
theorem wK_solveNote_115 {G : Zg} {p : Program} {l : Launch} {e : Env} {s : State} {m : MethodId} {args : Array Value} {below : List Frame} {meth : Method} {c : Code} (C : zC G p s m args meth c cX4_solveNote 10 RX4 none) {res : Int × Zm} (K232 : Nat → Int → Nat → Int → Int → Int → Zm → Zr) (hK232 : ∀ (o1 : Nat) (x2 : Int) (o3 : Nat) (x4 : Int) (x5 : Int) (x6 : Int) (h1 : zin 294 o1 6) (n2 : zw x2 = x2) (h3 : zin 294 o3 3) (n4 : zw x4 = x4) (n5 : zw x5 = x5) (n6 : zw x6 = x6) (σ : Zm), zR G p l e (zrm 5) s m args below meth c 10 0 0 (zQm below args s G 294 ztt none res.2) 294 ztt res σ (K232 o1 x2 o3 x4 x5 x6 σ) [(0, .ref (zad G 177)), (1, .ref (zad G o1)), (2, .int (zI x2)), (3, .ref (zad G o3)), (4, .int (zI x4)), (5, .int (zI x5)), (6, .int (zI x6))] 232 []) : ∀ (n : Nat) (o1 : Nat) (x2 : Int) (o3 : Nat) (x4 : Int) (x5 : Int) (x6 : Int) (x7 : Int) (x8 : Int) (h1 : zin 294 o1 6) (n2 : zw x2 = x2) (h3 : zin 294 o3 3) (n4 : zw x4 = x4) (n5 : zw x5 = x5) (n6 : zw x6 = x6) (n7 : zw x7 = x7) (n8 : zw x8 = x8) (σ : Zm), zR G p l e (zrm 5) s m args below meth c 10 0 0 (zQm below args s G 294 ztt none res.2) 294 ztt res σ (fK_solveNote_115 n o1 x2 o3 x4 x5 x6 x7 x8 σ K232) [(0, .ref (zad G 177)), (1, .ref (zad G o1)), (2, .int (zI x2)), (3, .ref (zad G o3)), (4, .int (zI x4)), (5, .int (zI x5)), (6, .int (zI x6)), (7, .int (zI x7)), (8, .int (zI x8))] 115 []
  | 0, _, _, _, _, _, _, _, _, _, _, _, _, _, _, _, _, _ => zr_none
  | n + 1, o1, x2, o3, x4, x5, x6, x7, x8, h1, n2, h3, n4, n5, n6, n7, n8, σ => by
    have ih := fun (o1 : Nat) (x2 : Int) (o3 : Nat) (x4 : Int) (x5 : Int) (x6 : Int) (x7 : Int) (x8 : Int) (h1 : zin 294 o1 6) (n2 : zw x2 = x2) (h3 : zin 294 o3 3) (n4 : zw x4 = x4) (n5 : zw x5 = x5) (n6 : zw x6 = x6) (n7 : zw x7 = x7) (n8 : zw x8 = x8) (σ : Zm) => wK_solveNote_115 (l := l) (e := e) (below := below) C K232 hK232 (res := res) n o1 x2 o3 x4 x5 x6 x7 x8 h1 n2 h3 n4 n5 n6 n7 n8 σ
    rw [fK_solveNote_115]
    refine zr_letf (fun R0 hR0 => ?_)
    have ih : ∀ (o1 : Nat) (x2 : Int) (o3 : Nat) (x4 : Int) (x5 : Int) (x6 : Int) (x7 : Int) (x8 : Int) (h1 : zin 294 o1 6) (n2 : zw x2 = x2) (h3 : zin 294 o3 3) (n4 : zw x4 = x4) (n5 : zw x5 = x5) (n6 : zw x6 = x6) (n7 : zw x7 = x7) (n8 : zw x8 = x8) (σ : Zm), zR G p l e (zrm 5) s m args below meth c 10 0 0 (zQm below args s G 294 ztt none res.2) 294 ztt res σ (R0 o1 x2 o3 x4 x5 x6 x7 x8 σ) [(0, .ref (zad G 177)), (1, .ref (zad G o1)), (2, .int (zI x2)), (3, .ref (zad G o3)), (4, .int (zI x4)), (5, .int (zI x5)), (6, .int (zI x6)), (7, .int (zI x7)), (8, .int (zI x8))] 115 [] := by rw [hR0]; exact ih
    clear hR0
    refine zr_iload C 8 eX4_solveNote_115 rfl ?_
    refine zr_iloadn C 2 eX4_solveNote_117 rfl ?_
    refine zr_iconst C eX4_solveNote_118 rfl ?_
    refine zr_icmp_le C eX4_solveNote_119 n2 w_1 ?_ ?_
    · refine zr_iconst C eX4_solveNote_129 rfl ?_
      refine zr_icmp_ge C eX4_solveNote_130 n8 w_1 ?_ ?_
      · refine zr_lv [0, 1, 2, 3, 4, 5, 6] rfl ?_
        exact hK232 o1 x2 o3 x4 x5 x6 h1 n2 h3 n4 n5 n6 _
      exact wK_solveNote_133 C R0 K232 ih hK232 o1 x2 o3 x4 x5 x6 x7 x8 h1 n2 h3 n4 n5 n6 n7 n8 σ
    refine zr_aloadn C 0 eX4_solveNote_122 rfl ?_
    refine zr_getI C ff_X4_49 zo_177 eX4_solveNote_123 (fun v29 nv29 => ?_)
    refine zr_goto C eX4_solveNote_126 ?_
    refine zr_icmp_ge C eX4_solveNote_130 n8 nv29 ?_ ?_
    · refine zr_lv [0, 1, 2, 3, 4, 5, 6] rfl ?_
      exact hK232 o1 x2 o3 x4 x5 x6 h1 n2 h3 n4 n5 n6 _
    exact wK_solveNote_133 C R0 K232 ih hK232 o1 x2 o3 x4 x5 x6 x7 x8 h1 n2 h3 n4 n5 n6 n7 n8 σ
theorem wK_solveNote_61 {G : Zg} {p : Program} {l : Launch} {e : Env} {s : State} {m : MethodId} {args : Array Value} {below : List Frame} {meth : Method} {c : Code} (C : zC G p s m args meth c cX4_solveNote 10 RX4 none) {res : Int × Zm} (K238 : Nat → Int → Nat → Int → Int → Zm → Zr) (hK238 : ∀ (o1 : Nat) (x2 : Int) (o3 : Nat) (x4 : Int) (x5 : Int) (h1 : zin 294 o1 6) (n2 : zw x2 = x2) (h3 : zin 294 o3 3) (n4 : zw x4 = x4) (n5 : zw x5 = x5) (σ : Zm), zR G p l e (zrm 5) s m args below meth c 10 0 0 (zQm below args s G 294 ztt none res.2) 294 ztt res σ (K238 o1 x2 o3 x4 x5 σ) [(0, .ref (zad G 177)), (1, .ref (zad G o1)), (2, .int (zI x2)), (3, .ref (zad G o3)), (4, .int (zI x4)), (5, .int (zI x5))] 238 []) : ∀ (n : Nat) (o1 : Nat) (x2 : Int) (o3 : Nat) (x4 : Int) (x5 : Int) (x6 : Int) (h1 : zin 294 o1 6) (n2 : zw x2 = x2) (h3 : zin 294 o3 3) (n4 : zw x4 = x4) (n5 : zw x5 = x5) (n6 : zw x6 = x6) (σ : Zm), zR G p l e (zrm 5) s m args below meth c 10 0 0 (zQm below args s G 294 ztt none res.2) 294 ztt res σ (fK_solveNote_61 n o1 x2 o3 x4 x5 x6 σ K238) [(0, .ref (zad G 177)), (1, .ref (zad G o1)), (2, .int (zI x2)), (3, .ref (zad G o3)), (4, .int (zI x4)), (5, .int (zI x5)), (6, .int (zI x6))] 61 []
  | 0, _, _, _, _, _, _, _, _, _, _, _, _, _ => zr_none
  | n + 1, o1, x2, o3, x4, x5, x6, h1, n2, h3, n4, n5, n6, σ => by
    have ih := fun (o1 : Nat) (x2 : Int) (o3 : Nat) (x4 : Int) (x5 : Int) (x6 : Int) (h1 : zin 294 o1 6) (n2 : zw x2 = x2) (h3 : zin 294 o3 3) (n4 : zw x4 = x4) (n5 : zw x5 = x5) (n6 : zw x6 = x6) (σ : Zm) => wK_solveNote_61 (l := l) (e := e) (below := below) C K238 hK238 (res := res) n o1 x2 o3 x4 x5 x6 h1 n2 h3 n4 n5 n6 σ
    rw [fK_solveNote_61]
    refine zr_letf (fun R0 hR0 => ?_)
    have ih : ∀ (o1 : Nat) (x2 : Int) (o3 : Nat) (x4 : Int) (x5 : Int) (x6 : Int) (h1 : zin 294 o1 6) (n2 : zw x2 = x2) (h3 : zin 294 o3 3) (n4 : zw x4 = x4) (n5 : zw x5 = x5) (n6 : zw x6 = x6) (σ : Zm), zR G p l e (zrm 5) s m args below meth c 10 0 0 (zQm below args s G 294 ztt none res.2) 294 ztt res σ (R0 o1 x2 o3 x4 x5 x6 σ) [(0, .ref (zad G 177)), (1, .ref (zad G o1)), (2, .int (zI x2)), (3, .ref (zad G o3)), (4, .int (zI x4)), (5, .int (zI x5)), (6, .int (zI x6))] 61 [] := by rw [hR0]; exact ih
    clear hR0
    refine zr_iload C 6 eX4_solveNote_61 rfl ?_
    refine zr_aloadn C 0 eX4_solveNote_63 rfl ?_
    refine zr_getI C ff_X4_49 zo_177 eX4_solveNote_64 (fun v8 nv8 => ?_)
    refine zr_icmp_ge C eX4_solveNote_67 n6 nv8 ?_ ?_
    · refine zr_lv [0, 1, 2, 3, 4, 5] rfl ?_
      exact hK238 o1 x2 o3 x4 x5 h1 n2 h3 n4 n5 _
    refine zr_aloadn C 0 eX4_solveNote_70 rfl ?_
    refine zr_iloadn C 2 eX4_solveNote_71 rfl ?_
    refine zr_iload C 6 eX4_solveNote_72 rfl ?_
    refine zr_callVv C [.int (zI x2), .int (zI x6)] zy_X4_singAt zv_X4_singAt lk_X4_99 zrm_5_3_3 zo_177 (by decide) rfl (fun r hr => zqK_singAt l G σ x2 x6 n2 n6 r hr) rfl rfl (Nat.le_of_ble_eq_true rfl) eX4_solveNote_74 (fun σ9 => ?_)
    refine zr_aloadn C 0 eX4_solveNote_77 rfl ?_
    refine zr_aloadn C 1 eX4_solveNote_78 rfl ?_
    refine zr_iload C 4 eX4_solveNote_79 rfl ?_
    refine zr_callVi C [.ref (zad G o1), .int (zI x4)] zy_X4_pairPrice zv_X4_pairPrice lk_X4_102 zrm_5_4_4 zo_177 (by decide) rfl (fun r hr => zqK_pairPrice l G σ9 o1 x4 h1 n4 r hr) rfl rfl (Nat.le_of_ble_eq_true rfl) eX4_solveNote_81 (fun v11 nv11 σ10 => ?_)
    refine zr_aloadn C 0 eX4_solveNote_84 rfl ?_
    refine zr_getR C ff_X4_26 rfl zo_177 rfl zf_177_2 eX4_solveNote_85 ?_
    refine zr_iloadn C 2 eX4_solveNote_88 rfl ?_
    refine zr_iconst C eX4_solveNote_89 rfl ?_
    refine zr_iadd C eX4_solveNote_90 ?_
    refine zr_aald25 C zo_183 zn_183 rfl (fun _ _ => rfl) eX4_solveNote_91 (fun hh12 => ?_)
    refine zr_iloadn C 2 eX4_solveNote_92 rfl ?_
    refine zr_if_le C eX4_solveNote_93 n2 ?_ ?_
    · refine zr_iconst C eX4_solveNote_101 rfl ?_
      refine zr_bipush (a := 15) C eX4_solveNote_102 rfl ?_
      refine zr_imul C eX4_solveNote_104 ?_
      refine zr_iload C 6 eX4_solveNote_105 rfl ?_
      refine zr_iadd C eX4_solveNote_107 ?_
      refine zr_iald C (ze_25 zo_183 zn_183 hh12) (zle_183 hh12) rfl eX4_solveNote_108 (fun v13 nv13 => ?_)
      refine zr_iadd C eX4_solveNote_109 ?_
      refine zr_st (show _ = .int (zI (zw (v11 + v13))) :: _ from congrArg (· :: _) (congrArg Value.int (zI_w (v11 + v13)).symm)) ?_
      refine zr_letw (P := fun z => .int (zI z) :: _) (zw_w (v11 + v13)) (fun v14 nv14 => ?_)
      refine zr_istore (lv' := [(7, .int (zI v14)), (0, .ref (zad G 177)), (1, .ref (zad G o1)), (2, .int (zI x2)), (3, .ref (zad G o3)), (4, .int (zI x4)), (5, .int (zI x5)), (6, .int (zI x6))]) C eX4_solveNote_110 (by decide) rfl ?_
      refine zr_iconst C eX4_solveNote_112 rfl ?_
      refine zr_istore (lv' := [(8, .int (zI 0)), (7, .int (zI v14)), (0, .ref (zad G 177)), (1, .ref (zad G o1)), (2, .int (zI x2)), (3, .ref (zad G o3)), (4, .int (zI x4)), (5, .int (zI x5)), (6, .int (zI x6))]) C eX4_solveNote_113 (by decide) rfl ?_
      refine zr_lv [2, 3, 4, 5, 6, 7, 8, 1, 0] rfl ?_
      refine wK_solveNote_115 C _ ?_ 5000 o1 x2 o3 x4 x5 x6 v14 0 h1 n2 h3 n4 n5 n6 nv14 w_0 σ10
      intro o31 y32 o33 y34 y35 y36 ho31 ny32 ho33 ny34 ny35 ny36 σ30
      refine zr_iinc (lv' := [(6, .int (zI (y36 + 1))), (0, .ref (zad G 177)), (1, .ref (zad G o31)), (2, .int (zI y32)), (3, .ref (zad G o33)), (4, .int (zI y34)), (5, .int (zI y35))]) C 6 eX4_solveNote_232 rfl (by decide) rfl ?_
      refine zr_goto C eX4_solveNote_235 ?_
      refine zr_lv [1, 2, 3, 4, 5, 6, 0] rfl ?_
      exact zr_lve (zs_p (zs_p (zs_p (zs_p (zs_p (zs_p (zs_pi (zI_w (y36 + 1)).symm rfl))))))) (ih o31 y32 o33 y34 y35 (zw (y36 + 1)) ho31 ny32 ho33 ny34 ny35 (zw_w (y36 + 1)) _)
    refine zr_iload C 5 eX4_solveNote_96 rfl ?_
    refine zr_goto C eX4_solveNote_98 ?_
    refine zr_bipush (a := 15) C eX4_solveNote_102 rfl ?_
    refine zr_imul C eX4_solveNote_104 ?_
    refine zr_iload C 6 eX4_solveNote_105 rfl ?_
    refine zr_iadd C eX4_solveNote_107 ?_
    refine zr_iald C (ze_25 zo_183 zn_183 hh12) (zle_183 hh12) rfl eX4_solveNote_108 (fun v37 nv37 => ?_)
    refine zr_iadd C eX4_solveNote_109 ?_
    refine zr_st (show _ = .int (zI (zw (v11 + v37))) :: _ from congrArg (· :: _) (congrArg Value.int (zI_w (v11 + v37)).symm)) ?_
    refine zr_letw (P := fun z => .int (zI z) :: _) (zw_w (v11 + v37)) (fun v38 nv38 => ?_)
    refine zr_istore (lv' := [(7, .int (zI v38)), (0, .ref (zad G 177)), (1, .ref (zad G o1)), (2, .int (zI x2)), (3, .ref (zad G o3)), (4, .int (zI x4)), (5, .int (zI x5)), (6, .int (zI x6))]) C eX4_solveNote_110 (by decide) rfl ?_
    refine zr_iconst C eX4_solveNote_112 rfl ?_
    refine zr_istore (lv' := [(8, .int (zI 0)), (7, .int (zI v38)), (0, .ref (zad G 177)), (1, .ref (zad G o1)), (2, .int (zI x2)), (3, .ref (zad G o3)), (4, .int (zI x4)), (5, .int (zI x5)), (6, .int (zI x6))]) C eX4_solveNote_113 (by decide) rfl ?_
    refine zr_lv [2, 3, 4, 5, 6, 7, 8, 1, 0] rfl ?_
    refine wK_solveNote_115 C _ ?_ 5000 o1 x2 o3 x4 x5 x6 v38 0 h1 n2 h3 n4 n5 n6 nv38 w_0 σ10
    intro o40 y41 o42 y43 y44 y45 ho40 ny41 ho42 ny43 ny44 ny45 σ39
    refine zr_iinc (lv' := [(6, .int (zI (y45 + 1))), (0, .ref (zad G 177)), (1, .ref (zad G o40)), (2, .int (zI y41)), (3, .ref (zad G o42)), (4, .int (zI y43)), (5, .int (zI y44))]) C 6 eX4_solveNote_232 rfl (by decide) rfl ?_
    refine zr_goto C eX4_solveNote_235 ?_
    refine zr_lv [1, 2, 3, 4, 5, 6, 0] rfl ?_
    exact zr_lve (zs_p (zs_p (zs_p (zs_p (zs_p (zs_p (zs_pi (zI_w (y45 + 1)).symm rfl))))))) (ih o40 y41 o42 y43 y44 (zw (y45 + 1)) ho40 ny41 ho42 ny43 ny44 (zw_w (y45 + 1)) _)
theorem wK_solveNote_32 {G : Zg} {p : Program} {l : Launch} {e : Env} {s : State} {m : MethodId} {args : Array Value} {below : List Frame} {meth : Method} {c : Code} (C : zC G p s m args meth c cX4_solveNote 10 RX4 none) {res : Int × Zm} : ∀ (n : Nat) (o1 : Nat) (x2 : Int) (o3 : Nat) (x4 : Int) (x5 : Int) (h1 : zin 294 o1 6) (n2 : zw x2 = x2) (h3 : zin 294 o3 3) (n4 : zw x4 = x4) (n5 : zw x5 = x5) (σ : Zm), zR G p l e (zrm 5) s m args below meth c 10 0 0 (zQm below args s G 294 ztt none res.2) 294 ztt res σ (fK_solveNote_32 n o1 x2 o3 x4 x5 σ) [(0, .ref (zad G 177)), (1, .ref (zad G o1)), (2, .int (zI x2)), (3, .ref (zad G o3)), (4, .int (zI x4)), (5, .int (zI x5))] 32 []
  | 0, _, _, _, _, _, _, _, _, _, _, _ => zr_none
  | n + 1, o1, x2, o3, x4, x5, h1, n2, h3, n4, n5, σ => by
    have ih := fun (o1 : Nat) (x2 : Int) (o3 : Nat) (x4 : Int) (x5 : Int) (h1 : zin 294 o1 6) (n2 : zw x2 = x2) (h3 : zin 294 o3 3) (n4 : zw x4 = x4) (n5 : zw x5 = x5) (σ : Zm) => wK_solveNote_32 (l := l) (e := e) (below := below) C (res := res) n o1 x2 o3 x4 x5 h1 n2 h3 n4 n5 σ
    rw [fK_solveNote_32]
    refine zr_letf (fun R0 hR0 => ?_)
    have ih : ∀ (o1 : Nat) (x2 : Int) (o3 : Nat) (x4 : Int) (x5 : Int) (h1 : zin 294 o1 6) (n2 : zw x2 = x2) (h3 : zin 294 o3 3) (n4 : zw x4 = x4) (n5 : zw x5 = x5) (σ : Zm), zR G p l e (zrm 5) s m args below meth c 10 0 0 (zQm below args s G 294 ztt none res.2) 294 ztt res σ (R0 o1 x2 o3 x4 x5 σ) [(0, .ref (zad G 177)), (1, .ref (zad G o1)), (2, .int (zI x2)), (3, .ref (zad G o3)), (4, .int (zI x4)), (5, .int (zI x5))] 32 [] := by rw [hR0]; exact ih
    clear hR0
    refine zr_iload C 5 eX4_solveNote_32 rfl ?_
    refine zr_iloadn C 2 eX4_solveNote_34 rfl ?_
    refine zr_if_le C eX4_solveNote_35 n2 ?_ ?_
    · refine zr_iconst C eX4_solveNote_45 rfl ?_
      refine zr_icmp_ge C eX4_solveNote_46 n5 w_1 ?_ ?_
      · exact zr_vret C eX4_solveNote_244
      refine zr_aloadn C 0 eX4_solveNote_49 rfl ?_
      refine zr_iloadn C 2 eX4_solveNote_50 rfl ?_
      refine zr_iconst C eX4_solveNote_51 rfl ?_
      refine zr_isub C eX4_solveNote_52 ?_
      refine zr_iload C 5 eX4_solveNote_53 rfl ?_
      refine zr_callVv C [.int (zI (zw (x2 - 1))), .int (zI x5)] zy_X4_singAt zv_X4_singAt lk_X4_99 zrm_5_3_3 zo_177 (by decide) rfl (fun r hr => zqK_singAt l G σ (zw (x2 - 1)) x5 (zw_w (x2 - 1)) n5 r hr) rfl (zs_k (zs_i (zI_w (x2 - 1)).symm rfl)) (Nat.le_of_ble_eq_true rfl) eX4_solveNote_55 (fun σ7 => ?_)
      refine zr_iconst C eX4_solveNote_58 rfl ?_
      refine zr_istore (lv' := [(6, .int (zI 0)), (0, .ref (zad G 177)), (1, .ref (zad G o1)), (2, .int (zI x2)), (3, .ref (zad G o3)), (4, .int (zI x4)), (5, .int (zI x5))]) C eX4_solveNote_59 (by decide) rfl ?_
      refine zr_lv [1, 2, 3, 4, 5, 6, 0] rfl ?_
      refine wK_solveNote_61 C _ ?_ 5000 o1 x2 o3 x4 x5 0 h1 n2 h3 n4 n5 w_0 σ7
      intro o47 y48 o49 y50 y51 ho47 ny48 ho49 ny50 ny51 σ46
      refine zr_iinc (lv' := [(5, .int (zI (y51 + 1))), (0, .ref (zad G 177)), (1, .ref (zad G o47)), (2, .int (zI y48)), (3, .ref (zad G o49)), (4, .int (zI y50))]) C 5 eX4_solveNote_238 rfl (by decide) rfl ?_
      refine zr_goto C eX4_solveNote_241 ?_
      refine zr_lv [1, 2, 3, 4, 5, 0] rfl ?_
      exact zr_lve (zs_p (zs_p (zs_p (zs_p (zs_p (zs_pi (zI_w (y51 + 1)).symm rfl)))))) (ih o47 y48 o49 y50 (zw (y51 + 1)) ho47 ny48 ho49 ny50 (zw_w (y51 + 1)) _)
    refine zr_aloadn C 0 eX4_solveNote_38 rfl ?_
    refine zr_getI C ff_X4_49 zo_177 eX4_solveNote_39 (fun v52 nv52 => ?_)
    refine zr_goto C eX4_solveNote_42 ?_
    refine zr_icmp_ge C eX4_solveNote_46 n5 nv52 ?_ ?_
    · exact zr_vret C eX4_solveNote_244
    refine zr_aloadn C 0 eX4_solveNote_49 rfl ?_
    refine zr_iloadn C 2 eX4_solveNote_50 rfl ?_
    refine zr_iconst C eX4_solveNote_51 rfl ?_
    refine zr_isub C eX4_solveNote_52 ?_
    refine zr_iload C 5 eX4_solveNote_53 rfl ?_
    refine zr_callVv C [.int (zI (zw (x2 - 1))), .int (zI x5)] zy_X4_singAt zv_X4_singAt lk_X4_99 zrm_5_3_3 zo_177 (by decide) rfl (fun r hr => zqK_singAt l G σ (zw (x2 - 1)) x5 (zw_w (x2 - 1)) n5 r hr) rfl (zs_k (zs_i (zI_w (x2 - 1)).symm rfl)) (Nat.le_of_ble_eq_true rfl) eX4_solveNote_55 (fun σ53 => ?_)
    refine zr_iconst C eX4_solveNote_58 rfl ?_
    refine zr_istore (lv' := [(6, .int (zI 0)), (0, .ref (zad G 177)), (1, .ref (zad G o1)), (2, .int (zI x2)), (3, .ref (zad G o3)), (4, .int (zI x4)), (5, .int (zI x5))]) C eX4_solveNote_59 (by decide) rfl ?_
    refine zr_lv [1, 2, 3, 4, 5, 6, 0] rfl ?_
    refine wK_solveNote_61 C _ ?_ 5000 o1 x2 o3 x4 x5 0 h1 n2 h3 n4 n5 w_0 σ53
    intro o55 y56 o57 y58 y59 ho55 ny56 ho57 ny58 ny59 σ54
    refine zr_iinc (lv' := [(5, .int (zI (y59 + 1))), (0, .ref (zad G 177)), (1, .ref (zad G o55)), (2, .int (zI y56)), (3, .ref (zad G o57)), (4, .int (zI y58))]) C 5 eX4_solveNote_238 rfl (by decide) rfl ?_
    refine zr_goto C eX4_solveNote_241 ?_
    refine zr_lv [1, 2, 3, 4, 5, 0] rfl ?_
    exact zr_lve (zs_p (zs_p (zs_p (zs_p (zs_p (zs_pi (zI_w (y59 + 1)).symm rfl)))))) (ih o55 y56 o57 y58 (zw (y59 + 1)) ho55 ny56 ho57 ny58 (zw_w (y59 + 1)) _)
theorem zqK_solveNote (l : Launch) (G : Zg) (σ : Zm) (o1 : Nat) (x2 : Int) (h1 : zin 294 o1 6) (n2 : zw x2 = x2) (res : Int × Zm) (he : fK_solveNote σ o1 x2 = some res) : zM l yX4_solveNote cX4_solveNote 10 none 5 G 294 ztt σ [.ref (zad G 177), .ref (zad G o1), .int (zI x2)] none res.2 := by
  refine zM_of he (by decide +kernel) (Nat.le_of_ble_eq_true rfl) (lv := [(0, .ref (zad G 177)), (1, .ref (zad G o1)), (2, .int (zI x2))]) rfl (fun p e s m below meth c C => ?_)
  unfold fK_solveNote
  refine zr_aloadn C 0 eX4_solveNote_0 rfl ?_
  refine zr_getR C ff_X4_20 rfl zo_177 rfl zf_177_1 eX4_solveNote_1 ?_
  refine zr_aloadn C 0 eX4_solveNote_4 rfl ?_
  refine zr_getI C ff_X4_36 zo_177 eX4_solveNote_5 (fun v1 nv1 => ?_)
  refine zr_aald23 C zo_182 zn_182 nv1 (fun _ _ => rfl) eX4_solveNote_8 (fun hh2 => ?_)
  refine zr_astoren (lv' := [(3, .ref (zad G (zRF 182 v1.toNat))), (0, .ref (zad G 177)), (1, .ref (zad G o1)), (2, .int (zI x2))]) C eX4_solveNote_9 (by decide) rfl ?_
  refine zr_aloadn C 1 eX4_solveNote_10 rfl ?_
  refine zr_getI C ff_X4_40 zo_177 eX4_solveNote_11 (fun v3 nv3 => ?_)
  refine zr_iloadn C 3 eX4_solveNote_14 rfl ?_
  refine zr_iadd C eX4_solveNote_15 ?_
  refine zr_st (show _ = .int (zI (zw (v3 + x2))) :: _ from congrArg (· :: _) (congrArg Value.int (zI_w (v3 + x2)).symm)) ?_
  refine zr_letw (P := fun z => .int (zI z) :: _) (zw_w (v3 + x2)) (fun v4 nv4 => ?_)
  refine zr_istore (lv' := [(4, .int (zI v4)), (3, .ref (zad G (zRF 182 v1.toNat))), (0, .ref (zad G 177)), (1, .ref (zad G o1)), (2, .int (zI x2))]) C eX4_solveNote_16 (by decide) rfl ?_
  refine zr_aloadn C 2 eX4_solveNote_18 rfl ?_
  refine zr_getR C ff_X4_26 rfl zo_177 rfl zf_177_2 eX4_solveNote_19 ?_
  refine zr_iloadn C 4 eX4_solveNote_22 rfl ?_
  refine zr_aald25 C zo_183 zn_183 n2 (fun _ _ => rfl) eX4_solveNote_23 (fun hh5 => ?_)
  refine zr_ldc (a := 2147483647) C eX4_solveNote_24 zq_X4_98 rfl ?_
  refine zr_callSv C [.ref (zad G (zRF 183 x2.toNat)), .int (zI 2147483647)] zy_J7_fill_53178 zs_J7_fill_53178 lk_X4_88 zrm_5_4_0 (fun r hr => qJ7_fill_53178 l G σ (zRF 183 x2.toNat) 2147483647 (ze_25 zo_183 zn_183 hh5) w_2147483647 r hr) rfl rfl (Nat.le_of_ble_eq_true rfl) eX4_solveNote_26 (fun σ6 => ?_)
  refine zr_iconst C eX4_solveNote_29 rfl ?_
  refine zr_istore (lv' := [(5, .int (zI 0)), (4, .int (zI v4)), (3, .ref (zad G (zRF 182 v1.toNat))), (0, .ref (zad G 177)), (1, .ref (zad G o1)), (2, .int (zI x2))]) C eX4_solveNote_30 (by decide) rfl ?_
  refine zr_lv [3, 4, 5, 2, 1, 0] rfl ?_
  refine wK_solveNote_32 C 5000 o1 x2 (zRF 182 v1.toNat) v4 0 h1 n2 ((ze_23 zo_182 zn_182 hh2)) nv4 w_0 σ6
theorem wK_solve_20 {G : Zg} {p : Program} {l : Launch} {e : Env} {s : State} {m : MethodId} {args : Array Value} {below : List Frame} {meth : Method} {c : Code} (C : zC G p s m args meth c cX4_solve 6 RX4 none) {res : Int × Zm} (K36 : Zm → Zr) (hK36 : ∀ (σ : Zm), zR G p l e (zrm 6) s m args below meth c 6 0 0 (zQm below args s G 294 ztt none res.2) 294 ztt res σ (K36 σ) [(0, .ref (zad G 177))] 36 []) : ∀ (n : Nat) (o1 : Nat) (x2 : Int) (h1 : zin 294 o1 6) (n2 : zw x2 = x2) (σ : Zm), zR G p l e (zrm 6) s m args below meth c 6 0 0 (zQm below args s G 294 ztt none res.2) 294 ztt res σ (fK_solve_20 n o1 x2 σ K36) [(0, .ref (zad G 177)), (1, .ref (zad G o1)), (2, .int (zI x2))] 20 []
  | 0, _, _, _, _, _ => zr_none
  | n + 1, o1, x2, h1, n2, σ => by
    have ih := fun (o1 : Nat) (x2 : Int) (h1 : zin 294 o1 6) (n2 : zw x2 = x2) (σ : Zm) => wK_solve_20 (l := l) (e := e) (below := below) C K36 hK36 (res := res) n o1 x2 h1 n2 σ
    rw [fK_solve_20]
    refine zr_letf (fun R0 hR0 => ?_)
    have ih : ∀ (o1 : Nat) (x2 : Int) (h1 : zin 294 o1 6) (n2 : zw x2 = x2) (σ : Zm), zR G p l e (zrm 6) s m args below meth c 6 0 0 (zQm below args s G 294 ztt none res.2) 294 ztt res σ (R0 o1 x2 σ) [(0, .ref (zad G 177)), (1, .ref (zad G o1)), (2, .int (zI x2))] 20 [] := by rw [hR0]; exact ih
    clear hR0
    refine zr_iloadn C 2 eX4_solve_20 rfl ?_
    refine zr_if_lt C eX4_solve_21 n2 ?_ ?_
    · refine zr_lv [0] rfl ?_
      exact hK36 _
    refine zr_aloadn C 0 eX4_solve_24 rfl ?_
    refine zr_aloadn C 1 eX4_solve_25 rfl ?_
    refine zr_iloadn C 2 eX4_solve_26 rfl ?_
    refine zr_callVv C [.ref (zad G o1), .int (zI x2)] zy_X4_solveNote zv_X4_solveNote lk_X4_94 zrm_6_10_5 zo_177 (by decide) rfl (fun r hr => zqK_solveNote l G σ o1 x2 h1 n2 r hr) rfl rfl (Nat.le_of_ble_eq_true rfl) eX4_solve_27 (fun σ6 => ?_)
    refine zr_iinc (lv' := [(2, .int (zI (x2 + (-1)))), (0, .ref (zad G 177)), (1, .ref (zad G o1))]) C 2 eX4_solve_30 rfl (by decide) rfl ?_
    refine zr_goto C eX4_solve_33 ?_
    refine zr_lv [1, 2, 0] rfl ?_
    exact zr_lve (zs_p (zs_p (zs_pi (zI_w (x2 + (-1))).symm rfl))) (ih o1 (zw (x2 + (-1))) h1 (zw_w (x2 + (-1))) _)
theorem wK_solve_55 {G : Zg} {p : Program} {l : Launch} {e : Env} {s : State} {m : MethodId} {args : Array Value} {below : List Frame} {meth : Method} {c : Code} (C : zC G p s m args meth c cX4_solve 6 RX4 none) {res : Int × Zm} : ∀ (n : Nat) (x2 : Int) (x3 : Int) (x4 : Int) (n2 : zw x2 = x2) (n3 : zw x3 = x3) (n4 : zw x4 = x4) (σ : Zm), zR G p l e (zrm 6) s m args below meth c 6 0 0 (zQm below args s G 294 ztt none res.2) 294 ztt res σ (fK_solve_55 n x2 x3 x4 σ) [(0, .ref (zad G 177)), (2, .int (zI x2)), (3, .int (zI x3)), (4, .int (zI x4))] 55 []
  | 0, _, _, _, _, _, _, _ => zr_none
  | n + 1, x2, x3, x4, n2, n3, n4, σ => by
    have ih := fun (x2 : Int) (x3 : Int) (x4 : Int) (n2 : zw x2 = x2) (n3 : zw x3 = x3) (n4 : zw x4 = x4) (σ : Zm) => wK_solve_55 (l := l) (e := e) (below := below) C (res := res) n x2 x3 x4 n2 n3 n4 σ
    rw [fK_solve_55]
    refine zr_letf (fun R0 hR0 => ?_)
    have ih : ∀ (x2 : Int) (x3 : Int) (x4 : Int) (n2 : zw x2 = x2) (n3 : zw x3 = x3) (n4 : zw x4 = x4) (σ : Zm), zR G p l e (zrm 6) s m args below meth c 6 0 0 (zQm below args s G 294 ztt none res.2) 294 ztt res σ (R0 x2 x3 x4 σ) [(0, .ref (zad G 177)), (2, .int (zI x2)), (3, .int (zI x3)), (4, .int (zI x4))] 55 [] := by rw [hR0]; exact ih
    clear hR0
    refine zr_iload C 3 eX4_solve_55 rfl ?_
    refine zr_aloadn C 0 eX4_solve_57 rfl ?_
    refine zr_getI C ff_X4_43 zo_177 eX4_solve_58 (fun v11 nv11 => ?_)
    refine zr_icmp_ge C eX4_solve_61 n4 nv11 ?_ ?_
    · exact zr_vret C eX4_solve_114
    refine zr_aloadn C 0 eX4_solve_64 rfl ?_
    refine zr_getR C ff_X4_29 rfl zo_177 rfl zf_177_3 eX4_solve_65 ?_
    refine zr_iload C 3 eX4_solve_68 rfl ?_
    refine zr_aald25 C zo_190 zn_190 n4 (fun _ _ => rfl) eX4_solve_70 (fun hh12 => ?_)
    refine zr_iloadn C 1 eX4_solve_71 rfl ?_
    refine zr_bipush (a := 15) C eX4_solve_72 rfl ?_
    refine zr_imul C eX4_solve_74 ?_
    refine zr_iloadn C 2 eX4_solve_75 rfl ?_
    refine zr_iadd C eX4_solve_76 ?_
    refine zr_iald C (ze_25 zo_190 zn_190 hh12) (zle_190 hh12) rfl eX4_solve_77 (fun v13 nv13 => ?_)
    refine zr_istore (lv' := [(5, .int (zI v13)), (0, .ref (zad G 177)), (2, .int (zI x2)), (3, .int (zI x3)), (4, .int (zI x4))]) C eX4_solve_78 (by decide) rfl ?_
    refine zr_aloadn C 1 eX4_solve_80 rfl ?_
    refine zr_getR C ff_X4_32 rfl zo_177 rfl zf_177_4 eX4_solve_81 ?_
    refine zr_iload C 4 eX4_solve_84 rfl ?_
    refine zr_aloadn C 1 eX4_solve_86 rfl ?_
    refine zr_getI C ff_X4_46 zo_177 eX4_solve_87 (fun v14 nv14 => ?_)
    refine zr_iload C 0 eX4_solve_90 rfl ?_
    refine zr_iadd C eX4_solve_92 ?_
    refine zr_iast C zo_197 zn_197 n4 eX4_solve_93 (fun σ15 => ?_)
    refine zr_iload C 4 eX4_solve_94 rfl ?_
    refine zr_if_le C eX4_solve_96 n4 ?_ ?_
    · refine zr_iconst C eX4_solve_103 rfl ?_
      refine zr_istoren (lv' := [(2, .int (zI 0)), (5, .int (zI v13)), (0, .ref (zad G 177)), (3, .int (zI x3)), (4, .int (zI x4))]) C eX4_solve_104 (by decide) rfl ?_
      refine zr_iload C 1 eX4_solve_105 rfl ?_
      refine zr_istoren (lv' := [(3, .int (zI v13)), (2, .int (zI 0)), (5, .int (zI v13)), (0, .ref (zad G 177)), (4, .int (zI x4))]) C eX4_solve_107 (by decide) rfl ?_
      refine zr_iinc (lv' := [(4, .int (zI (x4 + 1))), (3, .int (zI v13)), (2, .int (zI 0)), (5, .int (zI v13)), (0, .ref (zad G 177))]) C 4 eX4_solve_108 rfl (by decide) rfl ?_
      refine zr_goto C eX4_solve_111 ?_
      refine zr_lv [4, 2, 1, 0] rfl ?_
      exact zr_lve (zs_p (zs_p (zs_p (zs_pi (zI_w (x4 + 1)).symm rfl)))) (ih 0 v13 (zw (x4 + 1)) w_0 nv13 (zw_w (x4 + 1)) _)
    refine zr_iloadn C 3 eX4_solve_99 rfl ?_
    refine zr_goto C eX4_solve_100 ?_
    refine zr_istoren (lv' := [(2, .int (zI x3)), (5, .int (zI v13)), (0, .ref (zad G 177)), (3, .int (zI x3)), (4, .int (zI x4))]) C eX4_solve_104 (by decide) rfl ?_
    refine zr_iload C 1 eX4_solve_105 rfl ?_
    refine zr_istoren (lv' := [(3, .int (zI v13)), (2, .int (zI x3)), (5, .int (zI v13)), (0, .ref (zad G 177)), (4, .int (zI x4))]) C eX4_solve_107 (by decide) rfl ?_
    refine zr_iinc (lv' := [(4, .int (zI (x4 + 1))), (3, .int (zI v13)), (2, .int (zI x3)), (5, .int (zI v13)), (0, .ref (zad G 177))]) C 4 eX4_solve_108 rfl (by decide) rfl ?_
    refine zr_goto C eX4_solve_111 ?_
    refine zr_lv [4, 2, 1, 0] rfl ?_
    exact zr_lve (zs_p (zs_p (zs_p (zs_pi (zI_w (x4 + 1)).symm rfl)))) (ih x3 v13 (zw (x4 + 1)) n3 nv13 (zw_w (x4 + 1)) _)
theorem zqK_solve (l : Launch) (G : Zg) (σ : Zm) (o1 : Nat) (h1 : zin 294 o1 6) (res : Int × Zm) (he : fK_solve σ o1 = some res) : zM l yX4_solve cX4_solve 6 none 6 G 294 ztt σ [.ref (zad G 177), .ref (zad G o1)] none res.2 := by
  refine zM_of he (by decide +kernel) (Nat.le_of_ble_eq_true rfl) (lv := [(0, .ref (zad G 177)), (1, .ref (zad G o1))]) rfl (fun p e s m below meth c C => ?_)
  unfold fK_solve
  refine zr_aloadn C 0 eX4_solve_0 rfl ?_
  refine zr_getR C ff_X4_26 rfl zo_177 rfl zf_177_2 eX4_solve_1 ?_
  refine zr_aloadn C 0 eX4_solve_4 rfl ?_
  refine zr_getI C ff_X4_43 zo_177 eX4_solve_5 (fun v1 nv1 => ?_)
  refine zr_aald25 C zo_183 zn_183 nv1 (fun _ _ => rfl) eX4_solve_8 (fun hh2 => ?_)
  refine zr_iconst C eX4_solve_9 rfl ?_
  refine zr_callSv C [.ref (zad G (zRF 183 v1.toNat)), .int (zI 0)] zy_J7_fill_53178 zs_J7_fill_53178 lk_X4_88 zrm_6_4_0 (fun r hr => qJ7_fill_53178 l G σ (zRF 183 v1.toNat) 0 (ze_25 zo_183 zn_183 hh2) w_0 r hr) rfl rfl (Nat.le_of_ble_eq_true rfl) eX4_solve_10 (fun σ3 => ?_)
  refine zr_aloadn C 0 eX4_solve_13 rfl ?_
  refine zr_getI C ff_X4_43 zo_177 eX4_solve_14 (fun v4 nv4 => ?_)
  refine zr_iconst C eX4_solve_17 rfl ?_
  refine zr_isub C eX4_solve_18 ?_
  refine zr_st (show _ = .int (zI (zw (v4 - 1))) :: _ from congrArg (· :: _) (congrArg Value.int (zI_w (v4 - 1)).symm)) ?_
  refine zr_letw (P := fun z => .int (zI z) :: _) (zw_w (v4 - 1)) (fun v5 nv5 => ?_)
  refine zr_istoren (lv' := [(2, .int (zI v5)), (0, .ref (zad G 177)), (1, .ref (zad G o1))]) C eX4_solve_19 (by decide) rfl ?_
  refine zr_lv [1, 2, 0] rfl ?_
  refine wK_solve_20 C _ ?_ 5000 o1 v5 h1 nv5 σ3
  intro σ7
  refine zr_aloadn C 0 eX4_solve_36 rfl ?_
  refine zr_aloadn C 0 eX4_solve_37 rfl ?_
  refine zr_getR C ff_X4_26 rfl zo_177 rfl zf_177_2 eX4_solve_38 ?_
  refine zr_iconst C eX4_solve_41 rfl ?_
  refine zr_aald25 C zo_183 zn_183 w_0 (fun _ _ => rfl) eX4_solve_42 (fun hh8 => ?_)
  refine zr_iconst C eX4_solve_43 rfl ?_
  refine zr_iald C (ze_25 zo_183 zn_183 hh8) (zle_183 hh8) w_0 eX4_solve_44 (fun v9 nv9 => ?_)
  refine zr_putI C ff_X4_52 rfl zo_177 eX4_solve_45 (fun σ10 => ?_)
  refine zr_iconst C eX4_solve_48 rfl ?_
  refine zr_istoren (lv' := [(2, .int (zI 0)), (0, .ref (zad G 177))]) C eX4_solve_49 (by decide) rfl ?_
  refine zr_iconst C eX4_solve_50 rfl ?_
  refine zr_istoren (lv' := [(3, .int (zI 0)), (2, .int (zI 0)), (0, .ref (zad G 177))]) C eX4_solve_51 (by decide) rfl ?_
  refine zr_iconst C eX4_solve_52 rfl ?_
  refine zr_istore (lv' := [(4, .int (zI 0)), (3, .int (zI 0)), (2, .int (zI 0)), (0, .ref (zad G 177))]) C eX4_solve_53 (by decide) rfl ?_
  refine zr_lv [3, 2, 1, 0] rfl ?_
  refine wK_solve_55 C 5000 0 0 0 w_0 w_0 w_0 σ10
