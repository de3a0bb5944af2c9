theorem lk_X2_40 : Cond.methodLink RX2 40 Lib.Math.max.name ∈ ztb := by decide +kernel
theorem ff_X2_21 : zF RX2 21 2 3 .int := Or.inl (by unfold zFd; decide +kernel)
theorem ff_X2_25 : zF RX2 25 2 4 .int := Or.inl (by unfold zFd; decide +kernel)
theorem ff_X2_28 : zF RX2 28 2 5 .int := Or.inl (by unfold zFd; decide +kernel)
theorem ff_X2_31 : zF RX2 31 2 6 .int := Or.inl (by unfold zFd; decide +kernel)
theorem wx_0 : zx 0 = 0 := by decide +kernel
theorem wx_1 : zx 1 = 1 := by decide +kernel
theorem ff_X2_15 : zF RX2 15 2 1 (.array .int) := Or.inl (by unfold zFd; decide +kernel)
theorem zk_2_1 {o : Nat} (h : zin 294 o 2) : zRF o 1 = o + 2 ∧ zin 294 (o + 2) 20 := by
  have h2 : ∀ o, o < 294 → zSH o = 2 → zRF o 1 = o + 2 ∧ (zSH (o + 2) = 20 ∧ o + 2 < 294) := by decide +kernel
  exact h2 o h.2 h.1
theorem zln_2_1 {o : Nat} (h : zin 294 o 2) : zLN (o + 2) = 300 := by
  have h2 : ∀ o, o < 294 → zSH o = 2 → zLN (o + 2) = 300 := by decide +kernel
  exact h2 o h.2 h.1
theorem w_2000 : zw 2000 = 2000 := by decide +kernel
theorem w_1000 : zw 1000 = 1000 := by decide +kernel
theorem w_14 : zw 14 = 14 := by decide +kernel
theorem lk_X2_118 : zL RX2 118 yX2_combine := Or.inl (by decide +kernel)
theorem zy_X2_combine : zY yX2_combine cX2_combine 5 (some .long) 3 := by unfold zY; decide +kernel
theorem zs_X2_combine : Cond.static yX2_combine ∈ ztb := by decide +kernel
theorem zrm_1_5_0 : zRm (zrm 1) 0 0 5 0 := by unfold zRm; decide
theorem zq_X2_122 : Cond.constantLong RX2 122 (1000000) ∈ ztb := by decide +kernel
theorem wx_1000000 : zx 1000000 = 1000000 := by decide +kernel
theorem zq_X2_125 : Cond.constantLong RX2 125 (-1000000) ∈ ztb := by decide +kernel
theorem wx_m1000000 : zx (-1000000) = (-1000000) := by decide +kernel
theorem zq_X2_127 : Cond.constant RX2 127 (-1000000) ∈ ztb := by decide +kernel
theorem w_m1000000 : zw (-1000000) = (-1000000) := by decide +kernel
theorem zq_X2_124 : Cond.constant RX2 124 (1000000) ∈ ztb := by decide +kernel
theorem w_1000000 : zw 1000000 = 1000000 := by decide +kernel
theorem w_21 : zw 21 = 21 := by decide +kernel
theorem ff_X2_9 : zF RX2 9 2 0 (.array .int) := Or.inl (by unfold zFd; decide +kernel)
theorem zk_2_0 {o : Nat} (h : zin 294 o 2) : zRF o 0 = o + 1 ∧ zin 294 (o + 1) 20 := by
  have h2 : ∀ o, o < 294 → zSH o = 2 → zRF o 0 = o + 1 ∧ (zSH (o + 1) = 20 ∧ o + 1 < 294) := by decide +kernel
  exact h2 o h.2 h.1
theorem zln_2_0 {o : Nat} (h : zin 294 o 2) : zLN (o + 1) = 21 := by
  have h2 : ∀ o, o < 294 → zSH o = 2 → zLN (o + 1) = 21 := by decide +kernel
  exact h2 o h.2 h.1
theorem ff_X2_92 : zF RX2 92 6 5 .int := Or.inr ⟨"BrokenFugue", by unfold zFn; decide +kernel⟩
theorem ff_X2_95 : zF RX2 95 6 1 (.array .int) := Or.inr ⟨"BrokenFugue", by unfold zFn; decide +kernel⟩
theorem ff_X2_98 : zF RX2 98 6 0 (.array .int) := Or.inr ⟨"BrokenFugue", by unfold zFn; decide +kernel⟩
theorem ff_X2_101 : zF RX2 101 6 3 (.array .int) := Or.inr ⟨"BrokenFugue", by unfold zFn; decide +kernel⟩
theorem ff_X2_104 : zF RX2 104 6 4 (.array .int) := Or.inr ⟨"BrokenFugue", by unfold zFn; decide +kernel⟩
theorem lk_X2_107 : zL RX2 107 yX2_value := Or.inl (by decide +kernel)
theorem zy_X2_value : zY yX2_value cX2_value 10 (some .int) 3 := by unfold zY; decide +kernel
theorem zv_X2_value : zYv yX2_value := by unfold zYv; decide +kernel
theorem zrm_2_10_1 : zRm (zrm 2) 0 0 10 1 := by unfold zRm; decide
theorem ff_X2_111 : zF RX2 111 6 2 (.array .int) := Or.inr ⟨"BrokenFugue", by unfold zFn; decide +kernel⟩
theorem w_999 : zw 999 = 999 := by decide +kernel
theorem lk_X2_66 : Cond.methodLink RX2 66 Lib.Math.min.name ∈ ztb := by decide +kernel
theorem zrm_2_2_0 : zRm (zrm 2) 0 0 2 0 := by unfold zRm; decide
theorem ff_X2_18 : zF RX2 18 2 2 (.array .int) := Or.inl (by unfold zFd; decide +kernel)
theorem zk_2_2 {o : Nat} (h : zin 294 o 2) : zRF o 2 = o + 3 ∧ zin 294 (o + 3) 20 := by
  have h2 : ∀ o, o < 294 → zSH o = 2 → zRF o 2 = o + 3 ∧ (zSH (o + 3) = 20 ∧ o + 3 < 294) := by decide +kernel
  exact h2 o h.2 h.1
theorem zln_2_2 {o : Nat} (h : zin 294 o 2) : zLN (o + 3) = 5 := by
  have h2 : ∀ o, o < 294 → zSH o = 2 → zLN (o + 3) = 5 := by decide +kernel
  exact h2 o h.2 h.1
theorem ff_X2_34 : zF RX2 34 2 7 .int := Or.inl (by unfold zFd; decide +kernel)
theorem ff_X2_37 : zF RX2 37 2 8 .int := Or.inl (by unfold zFd; decide +kernel)
theorem lk_X2_69 : zL RX2 69 yX3_sounds := Or.inl (by decide +kernel)
theorem zy_X3_sounds : zY yX3_sounds cX3_sounds 2 (some .boolean) 1 := by unfold zY; decide +kernel
theorem zv_X3_sounds : zYv yX3_sounds := by unfold zYv; decide +kernel
theorem zrm_3_2_1 : zRm (zrm 3) 0 0 2 1 := by unfold zRm; decide
theorem ff_X2_72 : zF RX2 72 3 0 (.array .int) := Or.inr ⟨"BrokenFugue", by unfold zFn; decide +kernel⟩
theorem ff_X2_75 : zF RX2 75 3 1 (.array .int) := Or.inr ⟨"BrokenFugue", by unfold zFn; decide +kernel⟩
theorem lk_X2_78 : Cond.methodLink RX2 78 Lib.Math.abs.name ∈ ztb := by decide +kernel
theorem zy_mabs : Cond.static Lib.Math.abs.name ∈ ztb ∧ Cond.initialized "java/lang/Math" ∈ ztb ∧ Cond.code Lib.Math.abs.name Lib.Math.abs.code 1 (some .int) ∈ ztb := by decide +kernel
theorem zrm_3_2_0 : zRm (zrm 3) 0 0 2 0 := by unfold zRm; decide
theorem w_6 : zw 6 = 6 := by decide +kernel
theorem w_7 : zw 7 = 7 := by decide +kernel
theorem lk_X2_82 : zL RX2 82 yX2_askClauses := Or.inl (by decide +kernel)
theorem zy_X2_askClauses : zY yX2_askClauses cX2_askClauses 6 none 3 := by unfold zY; decide +kernel
theorem zv_X2_askClauses : zYv yX2_askClauses := by unfold zYv; decide +kernel
theorem zrm_3_6_2 : zRm (zrm 3) 0 0 6 2 := by unfold zRm; decide
theorem lk_X2_86 : zL RX2 86 yX3_noteAhead := Or.inl (by decide +kernel)
theorem zy_X3_noteAhead : zY yX3_noteAhead cX3_noteAhead 3 (some .int) 1 := by unfold zY; decide +kernel
theorem zv_X3_noteAhead : zYv yX3_noteAhead := by unfold zYv; decide +kernel
theorem zrm_3_3_1 : zRm (zrm 3) 0 0 3 1 := by unfold zRm; decide
theorem lk_X2_89 : zL RX2 89 yX3_restsAhead := Or.inl (by decide +kernel)
theorem zy_X3_restsAhead : zY yX3_restsAhead cX3_restsAhead 4 (some .int) 1 := by unfold zY; decide +kernel
theorem zv_X3_restsAhead : zYv yX3_restsAhead := by unfold zYv; decide +kernel
theorem zrm_3_4_1 : zRm (zrm 3) 0 0 4 1 := by unfold zRm; decide
theorem lk_X2_46 : zL RX2 46 yX6_has := Or.inl (by decide +kernel)
theorem zy_X6_has : zY yX6_has cX6_has 3 (some .boolean) 1 := by unfold zY; decide +kernel
theorem zv_X6_has : zYv yX6_has := by unfold zYv; decide +kernel
theorem zrm_4_3_0 : zRm (zrm 4) 0 0 3 0 := by unfold zRm; decide
theorem w_32 : zw 32 = 32 := by decide +kernel
theorem ze_23 {o : Nat} (h : zin 294 o 23) {N : Nat} (hN : zLN o = N) {j : Int} (hj : 0 ≤ j ∧ j < (N : Int)) : zin 294 (zRF o j.toNat) 3 := by
  have h2 : ∀ o, o < 294 → zSH o = 23 → ∀ k, k < zLN o → (zSH (zRF o k) = 3 ∧ zRF o k < 294) := by decide +kernel
  exact h2 o h.2 h.1 j.toNat (by omega)
theorem lk_X2_52 : zL RX2 52 yX2_askPair := Or.inl (by decide +kernel)
theorem zy_X2_askPair : zY yX2_askPair cX2_askPair 11 none 4 := by unfold zY; decide +kernel
theorem zv_X2_askPair : zYv yX2_askPair := by unfold zYv; decide +kernel
theorem zrm_4_11_3 : zRm (zrm 4) 0 0 11 3 := by unfold zRm; decide
theorem lk_X2_56 : zL RX2 56 yX2_askLine := Or.inl (by decide +kernel)
theorem zy_X2_askLine : zY yX2_askLine cX2_askLine 6 none 3 := by unfold zY; decide +kernel
theorem zv_X2_askLine : zYv yX2_askLine := by unfold zYv; decide +kernel
theorem zrm_4_6_3 : zRm (zrm 4) 0 0 6 3 := by unfold zRm; decide
theorem lk_X2_60 : zL RX2 60 yX3_beats := Or.inl (by decide +kernel)
theorem zy_X3_beats : zY yX3_beats cX3_beats 2 (some .int) 0 := by unfold zY; decide +kernel
theorem zv_X3_beats : zYv yX3_beats := by unfold zYv; decide +kernel
theorem zrm_4_2_0 : zRm (zrm 4) 0 0 2 0 := by unfold zRm; decide
theorem lk_X2_114 : zL RX2 114 yX9_within := Or.inr ⟨"BrokenFugue", by decide +kernel⟩
theorem w_13 : zw 13 = 13 := by decide +kernel
theorem w_17 : zw 17 = 17 := by decide +kernel
theorem eX2_begin_0 : zD cX2_begin 0 (.aload_n 0) 1 1 := ⟨by decide +kernel, rfl⟩
theorem eX2_begin_1 : zD cX2_begin 1 (.iconst 1) 1 2 := ⟨by decide +kernel, rfl⟩
theorem eX2_begin_2 : zD cX2_begin 2 (.iload_n 1) 1 3 := ⟨by decide +kernel, rfl⟩
theorem eX2_begin_3 : zD cX2_begin 3 (.invokestatic 40) 3 6 := ⟨by decide +kernel, rfl⟩
theorem eX2_begin_6 : zD cX2_begin 6 (.putfield 21) 3 9 := ⟨by decide +kernel, rfl⟩
theorem eX2_begin_9 : zD cX2_begin 9 (.aload_n 0) 1 10 := ⟨by decide +kernel, rfl⟩
theorem eX2_begin_10 : zD cX2_begin 10 (.iload_n 2) 1 11 := ⟨by decide +kernel, rfl⟩
theorem eX2_begin_11 : zD cX2_begin 11 (.putfield 25) 3 14 := ⟨by decide +kernel, rfl⟩
theorem eX2_begin_14 : zD cX2_begin 14 (.aload_n 0) 1 15 := ⟨by decide +kernel, rfl⟩
theorem eX2_begin_15 : zD cX2_begin 15 (.iconst 0) 1 16 := ⟨by decide +kernel, rfl⟩
theorem eX2_begin_16 : zD cX2_begin 16 (.putfield 28) 3 19 := ⟨by decide +kernel, rfl⟩
theorem eX2_begin_19 : zD cX2_begin 19 (.aload_n 0) 1 20 := ⟨by decide +kernel, rfl⟩
theorem eX2_begin_20 : zD cX2_begin 20 (.iconst 0) 1 21 := ⟨by decide +kernel, rfl⟩
theorem eX2_begin_21 : zD cX2_begin 21 (.putfield 31) 3 24 := ⟨by decide +kernel, rfl⟩
theorem eX2_begin_24 : zD cX2_begin 24 .return_ 1 25 := ⟨by decide +kernel, rfl⟩
theorem eX2_combine_0 : zD cX2_combine 0 (.iload_n 0) 1 1 := ⟨by decide +kernel, rfl⟩
theorem eX2_combine_1 : decode cX2_combine 1 = .ok (.tableswitch 155 1 12 #[63, 67, 155, 71, 83, 95, 107, 119, 131, 143, 147, 151], 63) := by decide +kernel
theorem eX2_combine_64 : zD cX2_combine 64 (.lload_n 1) 1 65 := ⟨by decide +kernel, rfl⟩
theorem eX2_combine_65 : zD cX2_combine 65 (.lload_n 3) 1 66 := ⟨by decide +kernel, rfl⟩
theorem eX2_combine_66 : zD cX2_combine 66 .lor 1 67 := ⟨by decide +kernel, rfl⟩
theorem eX2_combine_67 : zD cX2_combine 67 .lreturn 1 68 := ⟨by decide +kernel, rfl⟩
theorem eX2_combine_68 : zD cX2_combine 68 (.lload_n 1) 1 69 := ⟨by decide +kernel, rfl⟩
theorem eX2_combine_69 : zD cX2_combine 69 (.lload_n 3) 1 70 := ⟨by decide +kernel, rfl⟩
theorem eX2_combine_70 : zD cX2_combine 70 .land 1 71 := ⟨by decide +kernel, rfl⟩
theorem eX2_combine_71 : zD cX2_combine 71 .lreturn 1 72 := ⟨by decide +kernel, rfl⟩
theorem eX2_combine_72 : zD cX2_combine 72 (.lload_n 1) 1 73 := ⟨by decide +kernel, rfl⟩
theorem eX2_combine_73 : zD cX2_combine 73 (.lload_n 3) 1 74 := ⟨by decide +kernel, rfl⟩
theorem eX2_combine_74 : zD cX2_combine 74 .lcmp 1 75 := ⟨by decide +kernel, rfl⟩
theorem eX2_combine_75 : zDj cX2_combine 75 (.ifCond .ge 7) 7 82 78 := ⟨by decide +kernel, rfl, by decide⟩
theorem eX2_combine_78 : zD cX2_combine 78 (.lconst 1) 1 79 := ⟨by decide +kernel, rfl⟩
theorem eX2_combine_79 : zDj cX2_combine 79 (.goto 4) 4 83 82 := ⟨by decide +kernel, rfl, by decide⟩
theorem eX2_combine_82 : zD cX2_combine 82 (.lconst 0) 1 83 := ⟨by decide +kernel, rfl⟩
theorem eX2_combine_83 : zD cX2_combine 83 .lreturn 1 84 := ⟨by decide +kernel, rfl⟩
theorem eX2_combine_84 : zD cX2_combine 84 (.lload_n 1) 1 85 := ⟨by decide +kernel, rfl⟩
theorem eX2_combine_85 : zD cX2_combine 85 (.lload_n 3) 1 86 := ⟨by decide +kernel, rfl⟩
theorem eX2_combine_86 : zD cX2_combine 86 .lcmp 1 87 := ⟨by decide +kernel, rfl⟩
theorem eX2_combine_87 : zDj cX2_combine 87 (.ifCond .gt 7) 7 94 90 := ⟨by decide +kernel, rfl, by decide⟩
theorem eX2_combine_90 : zD cX2_combine 90 (.lconst 1) 1 91 := ⟨by decide +kernel, rfl⟩
theorem eX2_combine_91 : zDj cX2_combine 91 (.goto 4) 4 95 94 := ⟨by decide +kernel, rfl, by decide⟩
theorem eX2_combine_94 : zD cX2_combine 94 (.lconst 0) 1 95 := ⟨by decide +kernel, rfl⟩
theorem eX2_combine_95 : zD cX2_combine 95 .lreturn 1 96 := ⟨by decide +kernel, rfl⟩
theorem eX2_combine_96 : zD cX2_combine 96 (.lload_n 1) 1 97 := ⟨by decide +kernel, rfl⟩
theorem eX2_combine_97 : zD cX2_combine 97 (.lload_n 3) 1 98 := ⟨by decide +kernel, rfl⟩
theorem eX2_combine_98 : zD cX2_combine 98 .lcmp 1 99 := ⟨by decide +kernel, rfl⟩
theorem eX2_combine_99 : zDj cX2_combine 99 (.ifCond .le 7) 7 106 102 := ⟨by decide +kernel, rfl, by decide⟩
theorem eX2_combine_102 : zD cX2_combine 102 (.lconst 1) 1 103 := ⟨by decide +kernel, rfl⟩
theorem eX2_combine_103 : zDj cX2_combine 103 (.goto 4) 4 107 106 := ⟨by decide +kernel, rfl, by decide⟩
theorem eX2_combine_106 : zD cX2_combine 106 (.lconst 0) 1 107 := ⟨by decide +kernel, rfl⟩
theorem eX2_combine_107 : zD cX2_combine 107 .lreturn 1 108 := ⟨by decide +kernel, rfl⟩
theorem eX2_combine_108 : zD cX2_combine 108 (.lload_n 1) 1 109 := ⟨by decide +kernel, rfl⟩
theorem eX2_combine_109 : zD cX2_combine 109 (.lload_n 3) 1 110 := ⟨by decide +kernel, rfl⟩
theorem eX2_combine_110 : zD cX2_combine 110 .lcmp 1 111 := ⟨by decide +kernel, rfl⟩
theorem eX2_combine_111 : zDj cX2_combine 111 (.ifCond .lt 7) 7 118 114 := ⟨by decide +kernel, rfl, by decide⟩
theorem eX2_combine_114 : zD cX2_combine 114 (.lconst 1) 1 115 := ⟨by decide +kernel, rfl⟩
theorem eX2_combine_115 : zDj cX2_combine 115 (.goto 4) 4 119 118 := ⟨by decide +kernel, rfl, by decide⟩
theorem eX2_combine_118 : zD cX2_combine 118 (.lconst 0) 1 119 := ⟨by decide +kernel, rfl⟩
theorem eX2_combine_119 : zD cX2_combine 119 .lreturn 1 120 := ⟨by decide +kernel, rfl⟩
theorem eX2_combine_120 : zD cX2_combine 120 (.lload_n 1) 1 121 := ⟨by decide +kernel, rfl⟩
theorem eX2_combine_121 : zD cX2_combine 121 (.lload_n 3) 1 122 := ⟨by decide +kernel, rfl⟩
theorem eX2_combine_122 : zD cX2_combine 122 .lcmp 1 123 := ⟨by decide +kernel, rfl⟩
theorem eX2_combine_123 : zDj cX2_combine 123 (.ifCond .ne 7) 7 130 126 := ⟨by decide +kernel, rfl, by decide⟩
theorem eX2_combine_126 : zD cX2_combine 126 (.lconst 1) 1 127 := ⟨by decide +kernel, rfl⟩
theorem eX2_combine_127 : zDj cX2_combine 127 (.goto 4) 4 131 130 := ⟨by decide +kernel, rfl, by decide⟩
theorem eX2_combine_130 : zD cX2_combine 130 (.lconst 0) 1 131 := ⟨by decide +kernel, rfl⟩
theorem eX2_combine_131 : zD cX2_combine 131 .lreturn 1 132 := ⟨by decide +kernel, rfl⟩
theorem eX2_combine_132 : zD cX2_combine 132 (.lload_n 1) 1 133 := ⟨by decide +kernel, rfl⟩
theorem eX2_combine_133 : zD cX2_combine 133 (.lload_n 3) 1 134 := ⟨by decide +kernel, rfl⟩
theorem eX2_combine_134 : zD cX2_combine 134 .lcmp 1 135 := ⟨by decide +kernel, rfl⟩
theorem eX2_combine_135 : zDj cX2_combine 135 (.ifCond .eq 7) 7 142 138 := ⟨by decide +kernel, rfl, by decide⟩
theorem eX2_combine_138 : zD cX2_combine 138 (.lconst 1) 1 139 := ⟨by decide +kernel, rfl⟩
theorem eX2_combine_139 : zDj cX2_combine 139 (.goto 4) 4 143 142 := ⟨by decide +kernel, rfl, by decide⟩
theorem eX2_combine_142 : zD cX2_combine 142 (.lconst 0) 1 143 := ⟨by decide +kernel, rfl⟩
theorem eX2_combine_143 : zD cX2_combine 143 .lreturn 1 144 := ⟨by decide +kernel, rfl⟩
theorem eX2_combine_144 : zD cX2_combine 144 (.lload_n 1) 1 145 := ⟨by decide +kernel, rfl⟩
theorem eX2_combine_145 : zD cX2_combine 145 (.lload_n 3) 1 146 := ⟨by decide +kernel, rfl⟩
theorem eX2_combine_146 : zD cX2_combine 146 .ladd 1 147 := ⟨by decide +kernel, rfl⟩
theorem eX2_combine_147 : zD cX2_combine 147 .lreturn 1 148 := ⟨by decide +kernel, rfl⟩
theorem eX2_combine_148 : zD cX2_combine 148 (.lload_n 1) 1 149 := ⟨by decide +kernel, rfl⟩
theorem eX2_combine_149 : zD cX2_combine 149 (.lload_n 3) 1 150 := ⟨by decide +kernel, rfl⟩
theorem eX2_combine_150 : zD cX2_combine 150 .lsub 1 151 := ⟨by decide +kernel, rfl⟩
theorem eX2_combine_151 : zD cX2_combine 151 .lreturn 1 152 := ⟨by decide +kernel, rfl⟩
theorem eX2_combine_152 : zD cX2_combine 152 (.lload_n 1) 1 153 := ⟨by decide +kernel, rfl⟩
theorem eX2_combine_153 : zD cX2_combine 153 (.lload_n 3) 1 154 := ⟨by decide +kernel, rfl⟩
theorem eX2_combine_154 : zD cX2_combine 154 .lmul 1 155 := ⟨by decide +kernel, rfl⟩
theorem eX2_combine_155 : zD cX2_combine 155 .lreturn 1 156 := ⟨by decide +kernel, rfl⟩
theorem eX2_combine_156 : zD cX2_combine 156 (.lload_n 3) 1 157 := ⟨by decide +kernel, rfl⟩
theorem eX2_combine_157 : zD cX2_combine 157 (.lconst 0) 1 158 := ⟨by decide +kernel, rfl⟩
theorem eX2_combine_158 : zD cX2_combine 158 .lcmp 1 159 := ⟨by decide +kernel, rfl⟩
theorem eX2_combine_159 : zDj cX2_combine 159 (.ifCond .ne 7) 7 166 162 := ⟨by decide +kernel, rfl, by decide⟩
theorem eX2_combine_162 : zD cX2_combine 162 (.lconst 0) 1 163 := ⟨by decide +kernel, rfl⟩
theorem eX2_combine_163 : zDj cX2_combine 163 (.goto 6) 6 169 166 := ⟨by decide +kernel, rfl, by decide⟩
theorem eX2_combine_166 : zD cX2_combine 166 (.lload_n 1) 1 167 := ⟨by decide +kernel, rfl⟩
theorem eX2_combine_167 : zD cX2_combine 167 (.lload_n 3) 1 168 := ⟨by decide +kernel, rfl⟩
theorem eX2_combine_168 : zD cX2_combine 168 .ldiv 1 169 := ⟨by decide +kernel, rfl⟩
theorem eX2_combine_169 : zD cX2_combine 169 .lreturn 1 170 := ⟨by decide +kernel, rfl⟩
theorem eX2_value_0 : zD cX2_value 0 (.iconst 0) 1 1 := ⟨by decide +kernel, rfl⟩
theorem eX2_value_1 : zD cX2_value 1 (.istore 4) 2 3 := ⟨by decide +kernel, rfl⟩
theorem eX2_value_3 : zD cX2_value 3 (.iconst 0) 1 4 := ⟨by decide +kernel, rfl⟩
theorem eX2_value_4 : zD cX2_value 4 (.iload_n 2) 1 5 := ⟨by decide +kernel, rfl⟩
theorem eX2_value_5 : zD cX2_value 5 (.invokestatic 40) 3 8 := ⟨by decide +kernel, rfl⟩
theorem eX2_value_8 : zD cX2_value 8 (.istore 5) 2 10 := ⟨by decide +kernel, rfl⟩
theorem eX2_value_10 : zD cX2_value 10 (.iload 5) 2 12 := ⟨by decide +kernel, rfl⟩
theorem eX2_value_12 : zD cX2_value 12 (.iload_n 3) 1 13 := ⟨by decide +kernel, rfl⟩
theorem eX2_value_13 : zDj cX2_value 13 (.if_icmp .ge 246) 246 259 16 := ⟨by decide +kernel, rfl, by decide⟩
theorem eX2_value_16 : zD cX2_value 16 (.iload 5) 2 18 := ⟨by decide +kernel, rfl⟩
theorem eX2_value_18 : zD cX2_value 18 (.aload_n 1) 1 19 := ⟨by decide +kernel, rfl⟩
theorem eX2_value_19 : zD cX2_value 19 .arraylength 1 20 := ⟨by decide +kernel, rfl⟩
theorem eX2_value_20 : zDj cX2_value 20 (.if_icmp .ge 239) 239 259 23 := ⟨by decide +kernel, rfl, by decide⟩
theorem eX2_value_23 : zD cX2_value 23 (.iload 4) 2 25 := ⟨by decide +kernel, rfl⟩
theorem eX2_value_25 : zD cX2_value 25 (.aload_n 0) 1 26 := ⟨by decide +kernel, rfl⟩
theorem eX2_value_26 : zD cX2_value 26 (.getfield 15) 3 29 := ⟨by decide +kernel, rfl⟩
theorem eX2_value_29 : zD cX2_value 29 .arraylength 1 30 := ⟨by decide +kernel, rfl⟩
theorem eX2_value_30 : zDj cX2_value 30 (.if_icmp .ge 229) 229 259 33 := ⟨by decide +kernel, rfl, by decide⟩
theorem eX2_value_33 : zD cX2_value 33 (.aload_n 1) 1 34 := ⟨by decide +kernel, rfl⟩
theorem eX2_value_34 : zD cX2_value 34 (.iload 5) 2 36 := ⟨by decide +kernel, rfl⟩
theorem eX2_value_36 : zD cX2_value 36 .iaload 1 37 := ⟨by decide +kernel, rfl⟩
theorem eX2_value_37 : zD cX2_value 37 (.istore 6) 2 39 := ⟨by decide +kernel, rfl⟩
theorem eX2_value_39 : zD cX2_value 39 (.iload 6) 2 41 := ⟨by decide +kernel, rfl⟩
theorem eX2_value_41 : zD cX2_value 41 (.sipush 2000) 3 44 := ⟨by decide +kernel, rfl⟩
theorem eX2_value_44 : zD cX2_value 44 .isub 1 45 := ⟨by decide +kernel, rfl⟩
theorem eX2_value_45 : zD cX2_value 45 (.istore 7) 2 47 := ⟨by decide +kernel, rfl⟩
theorem eX2_value_47 : zD cX2_value 47 (.iload 6) 2 49 := ⟨by decide +kernel, rfl⟩
theorem eX2_value_49 : zD cX2_value 49 (.sipush 1000) 3 52 := ⟨by decide +kernel, rfl⟩
theorem eX2_value_52 : zDj cX2_value 52 (.if_icmp .ge 18) 18 70 55 := ⟨by decide +kernel, rfl, by decide⟩
theorem eX2_value_55 : zD cX2_value 55 (.aload_n 0) 1 56 := ⟨by decide +kernel, rfl⟩
theorem eX2_value_56 : zD cX2_value 56 (.getfield 15) 3 59 := ⟨by decide +kernel, rfl⟩
theorem eX2_value_59 : zD cX2_value 59 (.iload 4) 2 61 := ⟨by decide +kernel, rfl⟩
theorem eX2_value_61 : zD cX2_value 61 (.iload 6) 2 63 := ⟨by decide +kernel, rfl⟩
theorem eX2_value_63 : zD cX2_value 63 .iastore 1 64 := ⟨by decide +kernel, rfl⟩
theorem eX2_value_64 : zD cX2_value 64 (.iinc 4 1) 3 67 := ⟨by decide +kernel, rfl⟩
theorem eX2_value_67 : zDj cX2_value 67 (.goto 186) 186 253 70 := ⟨by decide +kernel, rfl, by decide⟩
theorem eX2_value_70 : zD cX2_value 70 (.iload 7) 2 72 := ⟨by decide +kernel, rfl⟩
theorem eX2_value_72 : zDj cX2_value 72 (.ifCond .ge 42) 42 114 75 := ⟨by decide +kernel, rfl, by decide⟩
theorem eX2_value_75 : zD cX2_value 75 (.iload 6) 2 77 := ⟨by decide +kernel, rfl⟩
theorem eX2_value_77 : zD cX2_value 77 (.sipush 1000) 3 80 := ⟨by decide +kernel, rfl⟩
theorem eX2_value_80 : zD cX2_value 80 .isub 1 81 := ⟨by decide +kernel, rfl⟩
theorem eX2_value_81 : zD cX2_value 81 (.istore 8) 2 83 := ⟨by decide +kernel, rfl⟩
theorem eX2_value_83 : zD cX2_value 83 (.aload_n 0) 1 84 := ⟨by decide +kernel, rfl⟩
theorem eX2_value_84 : zD cX2_value 84 (.getfield 15) 3 87 := ⟨by decide +kernel, rfl⟩
theorem eX2_value_87 : zD cX2_value 87 (.iload 4) 2 89 := ⟨by decide +kernel, rfl⟩
theorem eX2_value_89 : zD cX2_value 89 (.iload 8) 2 91 := ⟨by decide +kernel, rfl⟩
theorem eX2_value_91 : zD cX2_value 91 (.bipush 21) 2 93 := ⟨by decide +kernel, rfl⟩
theorem eX2_value_93 : zDj cX2_value 93 (.if_icmp .ge 13) 13 106 96 := ⟨by decide +kernel, rfl, by decide⟩
theorem eX2_value_96 : zD cX2_value 96 (.aload_n 0) 1 97 := ⟨by decide +kernel, rfl⟩
theorem eX2_value_97 : zD cX2_value 97 (.getfield 9) 3 100 := ⟨by decide +kernel, rfl⟩
theorem eX2_value_100 : zD cX2_value 100 (.iload 8) 2 102 := ⟨by decide +kernel, rfl⟩
theorem eX2_value_102 : zD cX2_value 102 .iaload 1 103 := ⟨by decide +kernel, rfl⟩
theorem eX2_value_103 : zDj cX2_value 103 (.goto 4) 4 107 106 := ⟨by decide +kernel, rfl, by decide⟩
theorem eX2_value_106 : zD cX2_value 106 (.iconst 0) 1 107 := ⟨by decide +kernel, rfl⟩
theorem eX2_value_107 : zD cX2_value 107 .iastore 1 108 := ⟨by decide +kernel, rfl⟩
theorem eX2_value_108 : zD cX2_value 108 (.iinc 4 1) 3 111 := ⟨by decide +kernel, rfl⟩
theorem eX2_value_111 : zDj cX2_value 111 (.goto 142) 142 253 114 := ⟨by decide +kernel, rfl, by decide⟩
theorem eX2_value_114 : zD cX2_value 114 (.iload 7) 2 116 := ⟨by decide +kernel, rfl⟩
theorem eX2_value_116 : zD cX2_value 116 (.iconst 3) 1 117 := ⟨by decide +kernel, rfl⟩
theorem eX2_value_117 : zDj cX2_value 117 (.if_icmp .eq 10) 10 127 120 := ⟨by decide +kernel, rfl, by decide⟩
theorem eX2_value_120 : zD cX2_value 120 (.iload 7) 2 122 := ⟨by decide +kernel, rfl⟩
theorem eX2_value_122 : zD cX2_value 122 (.bipush 14) 2 124 := ⟨by decide +kernel, rfl⟩
theorem eX2_value_124 : zDj cX2_value 124 (.if_icmp .ne 53) 53 177 127 := ⟨by decide +kernel, rfl, by decide⟩
theorem eX2_value_127 : zD cX2_value 127 (.iload 4) 2 129 := ⟨by decide +kernel, rfl⟩
theorem eX2_value_129 : zD cX2_value 129 (.iconst 1) 1 130 := ⟨by decide +kernel, rfl⟩
theorem eX2_value_130 : zDj cX2_value 130 (.if_icmp .ge 5) 5 135 133 := ⟨by decide +kernel, rfl, by decide⟩
theorem eX2_value_133 : zD cX2_value 133 (.iconst 0) 1 134 := ⟨by decide +kernel, rfl⟩
theorem eX2_value_134 : zD cX2_value 134 .ireturn 1 135 := ⟨by decide +kernel, rfl⟩
theorem eX2_value_135 : zD cX2_value 135 (.aload_n 0) 1 136 := ⟨by decide +kernel, rfl⟩
theorem eX2_value_136 : zD cX2_value 136 (.getfield 15) 3 139 := ⟨by decide +kernel, rfl⟩
theorem eX2_value_139 : zD cX2_value 139 (.iload 4) 2 141 := ⟨by decide +kernel, rfl⟩
theorem eX2_value_141 : zD cX2_value 141 (.iconst 1) 1 142 := ⟨by decide +kernel, rfl⟩
theorem eX2_value_142 : zD cX2_value 142 .isub 1 143 := ⟨by decide +kernel, rfl⟩
theorem eX2_value_143 : zD cX2_value 143 (.iload 7) 2 145 := ⟨by decide +kernel, rfl⟩
theorem eX2_value_145 : zD cX2_value 145 (.iconst 3) 1 146 := ⟨by decide +kernel, rfl⟩
theorem eX2_value_146 : zDj cX2_value 146 (.if_icmp .ne 17) 17 163 149 := ⟨by decide +kernel, rfl, by decide⟩
theorem eX2_value_149 : zD cX2_value 149 (.iconst 1) 1 150 := ⟨by decide +kernel, rfl⟩
theorem eX2_value_150 : zD cX2_value 150 (.aload_n 0) 1 151 := ⟨by decide +kernel, rfl⟩
theorem eX2_value_151 : zD cX2_value 151 (.getfield 15) 3 154 := ⟨by decide +kernel, rfl⟩
theorem eX2_value_154 : zD cX2_value 154 (.iload 4) 2 156 := ⟨by decide +kernel, rfl⟩
theorem eX2_value_156 : zD cX2_value 156 (.iconst 1) 1 157 := ⟨by decide +kernel, rfl⟩
theorem eX2_value_157 : zD cX2_value 157 .isub 1 158 := ⟨by decide +kernel, rfl⟩
theorem eX2_value_158 : zD cX2_value 158 .iaload 1 159 := ⟨by decide +kernel, rfl⟩
theorem eX2_value_159 : zD cX2_value 159 .isub 1 160 := ⟨by decide +kernel, rfl⟩
theorem eX2_value_160 : zDj cX2_value 160 (.goto 13) 13 173 163 := ⟨by decide +kernel, rfl, by decide⟩
theorem eX2_value_163 : zD cX2_value 163 (.aload_n 0) 1 164 := ⟨by decide +kernel, rfl⟩
theorem eX2_value_164 : zD cX2_value 164 (.getfield 15) 3 167 := ⟨by decide +kernel, rfl⟩
theorem eX2_value_167 : zD cX2_value 167 (.iload 4) 2 169 := ⟨by decide +kernel, rfl⟩
theorem eX2_value_169 : zD cX2_value 169 (.iconst 1) 1 170 := ⟨by decide +kernel, rfl⟩
theorem eX2_value_170 : zD cX2_value 170 .isub 1 171 := ⟨by decide +kernel, rfl⟩
theorem eX2_value_171 : zD cX2_value 171 .iaload 1 172 := ⟨by decide +kernel, rfl⟩
theorem eX2_value_172 : zD cX2_value 172 .ineg 1 173 := ⟨by decide +kernel, rfl⟩
theorem eX2_value_173 : zD cX2_value 173 .iastore 1 174 := ⟨by decide +kernel, rfl⟩
theorem eX2_value_174 : zDj cX2_value 174 (.goto 79) 79 253 177 := ⟨by decide +kernel, rfl, by decide⟩
theorem eX2_value_177 : zD cX2_value 177 (.iload 4) 2 179 := ⟨by decide +kernel, rfl⟩
theorem eX2_value_179 : zD cX2_value 179 (.iconst 2) 1 180 := ⟨by decide +kernel, rfl⟩
theorem eX2_value_180 : zDj cX2_value 180 (.if_icmp .ge 5) 5 185 183 := ⟨by decide +kernel, rfl, by decide⟩
theorem eX2_value_183 : zD cX2_value 183 (.iconst 0) 1 184 := ⟨by decide +kernel, rfl⟩
theorem eX2_value_184 : zD cX2_value 184 .ireturn 1 185 := ⟨by decide +kernel, rfl⟩
theorem eX2_value_185 : zD cX2_value 185 (.iinc 4 (-1)) 3 188 := ⟨by decide +kernel, rfl⟩
theorem eX2_value_188 : zD cX2_value 188 (.iload 7) 2 190 := ⟨by decide +kernel, rfl⟩
theorem eX2_value_190 : zD cX2_value 190 (.aload_n 0) 1 191 := ⟨by decide +kernel, rfl⟩
theorem eX2_value_191 : zD cX2_value 191 (.getfield 15) 3 194 := ⟨by decide +kernel, rfl⟩
theorem eX2_value_194 : zD cX2_value 194 (.iload 4) 2 196 := ⟨by decide +kernel, rfl⟩
theorem eX2_value_196 : zD cX2_value 196 (.iconst 1) 1 197 := ⟨by decide +kernel, rfl⟩
theorem eX2_value_197 : zD cX2_value 197 .isub 1 198 := ⟨by decide +kernel, rfl⟩
theorem eX2_value_198 : zD cX2_value 198 .iaload 1 199 := ⟨by decide +kernel, rfl⟩
theorem eX2_value_199 : zD cX2_value 199 .i2l 1 200 := ⟨by decide +kernel, rfl⟩
theorem eX2_value_200 : zD cX2_value 200 (.aload_n 0) 1 201 := ⟨by decide +kernel, rfl⟩
theorem eX2_value_201 : zD cX2_value 201 (.getfield 15) 3 204 := ⟨by decide +kernel, rfl⟩
theorem eX2_value_204 : zD cX2_value 204 (.iload 4) 2 206 := ⟨by decide +kernel, rfl⟩
theorem eX2_value_206 : zD cX2_value 206 .iaload 1 207 := ⟨by decide +kernel, rfl⟩
theorem eX2_value_207 : zD cX2_value 207 .i2l 1 208 := ⟨by decide +kernel, rfl⟩
theorem eX2_value_208 : zD cX2_value 208 (.invokestatic 118) 3 211 := ⟨by decide +kernel, rfl⟩
theorem eX2_value_211 : zD cX2_value 211 (.lstore 8) 2 213 := ⟨by decide +kernel, rfl⟩
theorem eX2_value_213 : zD cX2_value 213 (.aload_n 0) 1 214 := ⟨by decide +kernel, rfl⟩
theorem eX2_value_214 : zD cX2_value 214 (.getfield 15) 3 217 := ⟨by decide +kernel, rfl⟩
theorem eX2_value_217 : zD cX2_value 217 (.iload 4) 2 219 := ⟨by decide +kernel, rfl⟩
theorem eX2_value_219 : zD cX2_value 219 (.iconst 1) 1 220 := ⟨by decide +kernel, rfl⟩
theorem eX2_value_220 : zD cX2_value 220 .isub 1 221 := ⟨by decide +kernel, rfl⟩
theorem eX2_value_221 : zD cX2_value 221 (.lload 8) 2 223 := ⟨by decide +kernel, rfl⟩
theorem eX2_value_223 : zD cX2_value 223 (.ldc2_w 122) 3 226 := ⟨by decide +kernel, rfl⟩
theorem eX2_value_226 : zD cX2_value 226 .lcmp 1 227 := ⟨by decide +kernel, rfl⟩
theorem eX2_value_227 : zDj cX2_value 227 (.ifCond .le 8) 8 235 230 := ⟨by decide +kernel, rfl, by decide⟩
theorem eX2_value_230 : zD cX2_value 230 (.ldc 124) 2 232 := ⟨by decide +kernel, rfl⟩
theorem eX2_value_232 : zDj cX2_value 232 (.goto 20) 20 252 235 := ⟨by decide +kernel, rfl, by decide⟩
theorem eX2_value_235 : zD cX2_value 235 (.lload 8) 2 237 := ⟨by decide +kernel, rfl⟩
theorem eX2_value_237 : zD cX2_value 237 (.ldc2_w 125) 3 240 := ⟨by decide +kernel, rfl⟩
theorem eX2_value_240 : zD cX2_value 240 .lcmp 1 241 := ⟨by decide +kernel, rfl⟩
theorem eX2_value_241 : zDj cX2_value 241 (.ifCond .ge 8) 8 249 244 := ⟨by decide +kernel, rfl, by decide⟩
theorem eX2_value_244 : zD cX2_value 244 (.ldc 127) 2 246 := ⟨by decide +kernel, rfl⟩
theorem eX2_value_246 : zDj cX2_value 246 (.goto 6) 6 252 249 := ⟨by decide +kernel, rfl, by decide⟩
theorem eX2_value_249 : zD cX2_value 249 (.lload 8) 2 251 := ⟨by decide +kernel, rfl⟩
theorem eX2_value_251 : zD cX2_value 251 .l2i 1 252 := ⟨by decide +kernel, rfl⟩
theorem eX2_value_252 : zD cX2_value 252 .iastore 1 253 := ⟨by decide +kernel, rfl⟩
theorem eX2_value_253 : zD cX2_value 253 (.iinc 5 1) 3 256 := ⟨by decide +kernel, rfl⟩
theorem eX2_value_256 : zDj cX2_value 256 (.goto (-246)) (-246) 10 259 := ⟨by decide +kernel, rfl, by decide⟩
theorem eX2_value_259 : zD cX2_value 259 (.iload 4) 2 261 := ⟨by decide +kernel, rfl⟩
theorem eX2_value_261 : zDj cX2_value 261 (.ifCond .le 15) 15 276 264 := ⟨by decide +kernel, rfl, by decide⟩
theorem eX2_value_264 : zD cX2_value 264 (.aload_n 0) 1 265 := ⟨by decide +kernel, rfl⟩
theorem eX2_value_265 : zD cX2_value 265 (.getfield 15) 3 268 := ⟨by decide +kernel, rfl⟩
theorem eX2_value_268 : zD cX2_value 268 (.iload 4) 2 270 := ⟨by decide +kernel, rfl⟩
theorem eX2_value_270 : zD cX2_value 270 (.iconst 1) 1 271 := ⟨by decide +kernel, rfl⟩
theorem eX2_value_271 : zD cX2_value 271 .isub 1 272 := ⟨by decide +kernel, rfl⟩
theorem eX2_value_272 : zD cX2_value 272 .iaload 1 273 := ⟨by decide +kernel, rfl⟩
theorem eX2_value_273 : zDj cX2_value 273 (.goto 4) 4 277 276 := ⟨by decide +kernel, rfl, by decide⟩
theorem eX2_value_276 : zD cX2_value 276 (.iconst 0) 1 277 := ⟨by decide +kernel, rfl⟩
theorem eX2_value_277 : zD cX2_value 277 .ireturn 1 278 := ⟨by decide +kernel, rfl⟩
theorem eX2_askClauses_0 : zD cX2_askClauses 0 (.iconst 0) 1 1 := ⟨by decide +kernel, rfl⟩
theorem eX2_askClauses_1 : zD cX2_askClauses 1 (.istore 4) 2 3 := ⟨by decide +kernel, rfl⟩
theorem eX2_askClauses_3 : zD cX2_askClauses 3 (.iload 4) 2 5 := ⟨by decide +kernel, rfl⟩
theorem eX2_askClauses_5 : zD cX2_askClauses 5 (.aload_n 1) 1 6 := ⟨by decide +kernel, rfl⟩
theorem eX2_askClauses_6 : zD cX2_askClauses 6 (.getfield 92) 3 9 := ⟨by decide +kernel, rfl⟩
theorem eX2_askClauses_9 : zDj cX2_askClauses 9 (.if_icmp .ge 161) 161 170 12 := ⟨by decide +kernel, rfl, by decide⟩
theorem eX2_askClauses_12 : zD cX2_askClauses 12 (.aload_n 1) 1 13 := ⟨by decide +kernel, rfl⟩
theorem eX2_askClauses_13 : zD cX2_askClauses 13 (.getfield 95) 3 16 := ⟨by decide +kernel, rfl⟩
theorem eX2_askClauses_16 : zD cX2_askClauses 16 (.iload 4) 2 18 := ⟨by decide +kernel, rfl⟩
theorem eX2_askClauses_18 : zD cX2_askClauses 18 .iaload 1 19 := ⟨by decide +kernel, rfl⟩
theorem eX2_askClauses_19 : zD cX2_askClauses 19 (.iload_n 2) 1 20 := ⟨by decide +kernel, rfl⟩
theorem eX2_askClauses_20 : zDj cX2_askClauses 20 (.if_icmp .ne 144) 144 164 23 := ⟨by decide +kernel, rfl, by decide⟩
theorem eX2_askClauses_23 : zD cX2_askClauses 23 (.aload_n 0) 1 24 := ⟨by decide +kernel, rfl⟩
theorem eX2_askClauses_24 : zD cX2_askClauses 24 (.aload_n 1) 1 25 := ⟨by decide +kernel, rfl⟩
theorem eX2_askClauses_25 : zD cX2_askClauses 25 (.getfield 98) 3 28 := ⟨by decide +kernel, rfl⟩
theorem eX2_askClauses_28 : zD cX2_askClauses 28 (.aload_n 1) 1 29 := ⟨by decide +kernel, rfl⟩
theorem eX2_askClauses_29 : zD cX2_askClauses 29 (.getfield 101) 3 32 := ⟨by decide +kernel, rfl⟩
theorem eX2_askClauses_32 : zD cX2_askClauses 32 (.iload 4) 2 34 := ⟨by decide +kernel, rfl⟩
theorem eX2_askClauses_34 : zD cX2_askClauses 34 .iaload 1 35 := ⟨by decide +kernel, rfl⟩
theorem eX2_askClauses_35 : zD cX2_askClauses 35 (.aload_n 1) 1 36 := ⟨by decide +kernel, rfl⟩
theorem eX2_askClauses_36 : zD cX2_askClauses 36 (.getfield 104) 3 39 := ⟨by decide +kernel, rfl⟩
theorem eX2_askClauses_39 : zD cX2_askClauses 39 (.iload 4) 2 41 := ⟨by decide +kernel, rfl⟩
theorem eX2_askClauses_41 : zD cX2_askClauses 41 .iaload 1 42 := ⟨by decide +kernel, rfl⟩
theorem eX2_askClauses_42 : zD cX2_askClauses 42 (.invokevirtual 107) 3 45 := ⟨by decide +kernel, rfl⟩
theorem eX2_askClauses_45 : zDj cX2_askClauses 45 (.ifCond .ne 6) 6 51 48 := ⟨by decide +kernel, rfl, by decide⟩
theorem eX2_askClauses_48 : zDj cX2_askClauses 48 (.goto 116) 116 164 51 := ⟨by decide +kernel, rfl, by decide⟩
theorem eX2_askClauses_51 : zD cX2_askClauses 51 (.aload_n 0) 1 52 := ⟨by decide +kernel, rfl⟩
theorem eX2_askClauses_52 : zD cX2_askClauses 52 (.aload_n 1) 1 53 := ⟨by decide +kernel, rfl⟩
theorem eX2_askClauses_53 : zD cX2_askClauses 53 (.getfield 98) 3 56 := ⟨by decide +kernel, rfl⟩
theorem eX2_askClauses_56 : zD cX2_askClauses 56 (.aload_n 1) 1 57 := ⟨by decide +kernel, rfl⟩
theorem eX2_askClauses_57 : zD cX2_askClauses 57 (.getfield 111) 3 60 := ⟨by decide +kernel, rfl⟩
theorem eX2_askClauses_60 : zD cX2_askClauses 60 (.iload 4) 2 62 := ⟨by decide +kernel, rfl⟩
theorem eX2_askClauses_62 : zD cX2_askClauses 62 .iaload 1 63 := ⟨by decide +kernel, rfl⟩
theorem eX2_askClauses_63 : zD cX2_askClauses 63 (.aload_n 1) 1 64 := ⟨by decide +kernel, rfl⟩
theorem eX2_askClauses_64 : zD cX2_askClauses 64 (.getfield 101) 3 67 := ⟨by decide +kernel, rfl⟩
theorem eX2_askClauses_67 : zD cX2_askClauses 67 (.iload 4) 2 69 := ⟨by decide +kernel, rfl⟩
theorem eX2_askClauses_69 : zD cX2_askClauses 69 .iaload 1 70 := ⟨by decide +kernel, rfl⟩
theorem eX2_askClauses_70 : zD cX2_askClauses 70 (.invokevirtual 107) 3 73 := ⟨by decide +kernel, rfl⟩
theorem eX2_askClauses_73 : zD cX2_askClauses 73 (.istore 5) 2 75 := ⟨by decide +kernel, rfl⟩
theorem eX2_askClauses_75 : zD cX2_askClauses 75 (.iconst 0) 1 76 := ⟨by decide +kernel, rfl⟩
theorem eX2_askClauses_76 : zD cX2_askClauses 76 (.sipush 999) 3 79 := ⟨by decide +kernel, rfl⟩
theorem eX2_askClauses_79 : zD cX2_askClauses 79 (.iload 5) 2 81 := ⟨by decide +kernel, rfl⟩
theorem eX2_askClauses_81 : zD cX2_askClauses 81 (.invokestatic 66) 3 84 := ⟨by decide +kernel, rfl⟩
theorem eX2_askClauses_84 : zD cX2_askClauses 84 (.invokestatic 40) 3 87 := ⟨by decide +kernel, rfl⟩
theorem eX2_askClauses_87 : zD cX2_askClauses 87 (.istore 5) 2 89 := ⟨by decide +kernel, rfl⟩
theorem eX2_askClauses_89 : zD cX2_askClauses 89 (.aload_n 0) 1 90 := ⟨by decide +kernel, rfl⟩
theorem eX2_askClauses_90 : zD cX2_askClauses 90 (.getfield 28) 3 93 := ⟨by decide +kernel, rfl⟩
theorem eX2_askClauses_93 : zD cX2_askClauses 93 (.aload_n 0) 1 94 := ⟨by decide +kernel, rfl⟩
theorem eX2_askClauses_94 : zD cX2_askClauses 94 (.getfield 25) 3 97 := ⟨by decide +kernel, rfl⟩
theorem eX2_askClauses_97 : zDj cX2_askClauses 97 (.if_icmp .ne 46) 46 143 100 := ⟨by decide +kernel, rfl, by decide⟩
theorem eX2_askClauses_100 : zD cX2_askClauses 100 (.aload_n 0) 1 101 := ⟨by decide +kernel, rfl⟩
theorem eX2_askClauses_101 : zD cX2_askClauses 101 (.getfield 18) 3 104 := ⟨by decide +kernel, rfl⟩
theorem eX2_askClauses_104 : zD cX2_askClauses 104 (.iconst 0) 1 105 := ⟨by decide +kernel, rfl⟩
theorem eX2_askClauses_105 : zD cX2_askClauses 105 (.iload_n 3) 1 106 := ⟨by decide +kernel, rfl⟩
theorem eX2_askClauses_106 : zD cX2_askClauses 106 .iastore 1 107 := ⟨by decide +kernel, rfl⟩
theorem eX2_askClauses_107 : zD cX2_askClauses 107 (.aload_n 0) 1 108 := ⟨by decide +kernel, rfl⟩
theorem eX2_askClauses_108 : zD cX2_askClauses 108 (.getfield 18) 3 111 := ⟨by decide +kernel, rfl⟩
theorem eX2_askClauses_111 : zD cX2_askClauses 111 (.iconst 1) 1 112 := ⟨by decide +kernel, rfl⟩
theorem eX2_askClauses_112 : zD cX2_askClauses 112 (.aload_n 0) 1 113 := ⟨by decide +kernel, rfl⟩
theorem eX2_askClauses_113 : zD cX2_askClauses 113 (.getfield 34) 3 116 := ⟨by decide +kernel, rfl⟩
theorem eX2_askClauses_116 : zD cX2_askClauses 116 .iastore 1 117 := ⟨by decide +kernel, rfl⟩
theorem eX2_askClauses_117 : zD cX2_askClauses 117 (.aload_n 0) 1 118 := ⟨by decide +kernel, rfl⟩
theorem eX2_askClauses_118 : zD cX2_askClauses 118 (.getfield 18) 3 121 := ⟨by decide +kernel, rfl⟩
theorem eX2_askClauses_121 : zD cX2_askClauses 121 (.iconst 2) 1 122 := ⟨by decide +kernel, rfl⟩
theorem eX2_askClauses_122 : zD cX2_askClauses 122 (.aload_n 0) 1 123 := ⟨by decide +kernel, rfl⟩
theorem eX2_askClauses_123 : zD cX2_askClauses 123 (.getfield 37) 3 126 := ⟨by decide +kernel, rfl⟩
theorem eX2_askClauses_126 : zD cX2_askClauses 126 .iastore 1 127 := ⟨by decide +kernel, rfl⟩
theorem eX2_askClauses_127 : zD cX2_askClauses 127 (.aload_n 0) 1 128 := ⟨by decide +kernel, rfl⟩
theorem eX2_askClauses_128 : zD cX2_askClauses 128 (.getfield 18) 3 131 := ⟨by decide +kernel, rfl⟩
theorem eX2_askClauses_131 : zD cX2_askClauses 131 (.iconst 3) 1 132 := ⟨by decide +kernel, rfl⟩
theorem eX2_askClauses_132 : zD cX2_askClauses 132 (.iload 4) 2 134 := ⟨by decide +kernel, rfl⟩
theorem eX2_askClauses_134 : zD cX2_askClauses 134 .iastore 1 135 := ⟨by decide +kernel, rfl⟩
theorem eX2_askClauses_135 : zD cX2_askClauses 135 (.aload_n 0) 1 136 := ⟨by decide +kernel, rfl⟩
theorem eX2_askClauses_136 : zD cX2_askClauses 136 (.getfield 18) 3 139 := ⟨by decide +kernel, rfl⟩
theorem eX2_askClauses_139 : zD cX2_askClauses 139 (.iconst 4) 1 140 := ⟨by decide +kernel, rfl⟩
theorem eX2_askClauses_140 : zD cX2_askClauses 140 (.iload 5) 2 142 := ⟨by decide +kernel, rfl⟩
theorem eX2_askClauses_142 : zD cX2_askClauses 142 .iastore 1 143 := ⟨by decide +kernel, rfl⟩
theorem eX2_askClauses_143 : zD cX2_askClauses 143 (.aload_n 0) 1 144 := ⟨by decide +kernel, rfl⟩
theorem eX2_askClauses_144 : zD cX2_askClauses 144 .dup 1 145 := ⟨by decide +kernel, rfl⟩
theorem eX2_askClauses_145 : zD cX2_askClauses 145 (.getfield 28) 3 148 := ⟨by decide +kernel, rfl⟩
theorem eX2_askClauses_148 : zD cX2_askClauses 148 (.iconst 1) 1 149 := ⟨by decide +kernel, rfl⟩
theorem eX2_askClauses_149 : zD cX2_askClauses 149 .iadd 1 150 := ⟨by decide +kernel, rfl⟩
theorem eX2_askClauses_150 : zD cX2_askClauses 150 (.putfield 28) 3 153 := ⟨by decide +kernel, rfl⟩
theorem eX2_askClauses_153 : zD cX2_askClauses 153 (.aload_n 0) 1 154 := ⟨by decide +kernel, rfl⟩
theorem eX2_askClauses_154 : zD cX2_askClauses 154 .dup 1 155 := ⟨by decide +kernel, rfl⟩
theorem eX2_askClauses_155 : zD cX2_askClauses 155 (.getfield 31) 3 158 := ⟨by decide +kernel, rfl⟩
theorem eX2_askClauses_158 : zD cX2_askClauses 158 (.iload 5) 2 160 := ⟨by decide +kernel, rfl⟩
theorem eX2_askClauses_160 : zD cX2_askClauses 160 .iadd 1 161 := ⟨by decide +kernel, rfl⟩
theorem eX2_askClauses_161 : zD cX2_askClauses 161 (.putfield 31) 3 164 := ⟨by decide +kernel, rfl⟩
theorem eX2_askClauses_164 : zD cX2_askClauses 164 (.iinc 4 1) 3 167 := ⟨by decide +kernel, rfl⟩
theorem eX2_askClauses_167 : zDj cX2_askClauses 167 (.goto (-164)) (-164) 3 170 := ⟨by decide +kernel, rfl, by decide⟩
theorem eX2_askClauses_170 : zD cX2_askClauses 170 .return_ 1 171 := ⟨by decide +kernel, rfl⟩
theorem eX2_askPair_0 : zD cX2_askPair 0 (.aload_n 2) 1 1 := ⟨by decide +kernel, rfl⟩
theorem eX2_askPair_1 : zD cX2_askPair 1 (.iload 4) 2 3 := ⟨by decide +kernel, rfl⟩
theorem eX2_askPair_3 : zD cX2_askPair 3 (.invokevirtual 69) 3 6 := ⟨by decide +kernel, rfl⟩
theorem eX2_askPair_6 : zDj cX2_askPair 6 (.ifCond .eq 12) 12 18 9 := ⟨by decide +kernel, rfl, by decide⟩
theorem eX2_askPair_9 : zD cX2_askPair 9 (.aload_n 3) 1 10 := ⟨by decide +kernel, rfl⟩
theorem eX2_askPair_10 : zD cX2_askPair 10 (.iload 4) 2 12 := ⟨by decide +kernel, rfl⟩
theorem eX2_askPair_12 : zD cX2_askPair 12 (.invokevirtual 69) 3 15 := ⟨by decide +kernel, rfl⟩
theorem eX2_askPair_15 : zDj cX2_askPair 15 (.ifCond .ne 4) 4 19 18 := ⟨by decide +kernel, rfl, by decide⟩
theorem eX2_askPair_18 : zD cX2_askPair 18 .return_ 1 19 := ⟨by decide +kernel, rfl⟩
theorem eX2_askPair_19 : zD cX2_askPair 19 (.aload_n 2) 1 20 := ⟨by decide +kernel, rfl⟩
theorem eX2_askPair_20 : zD cX2_askPair 20 (.getfield 72) 3 23 := ⟨by decide +kernel, rfl⟩
theorem eX2_askPair_23 : zD cX2_askPair 23 (.iload 4) 2 25 := ⟨by decide +kernel, rfl⟩
theorem eX2_askPair_25 : zD cX2_askPair 25 .iaload 1 26 := ⟨by decide +kernel, rfl⟩
theorem eX2_askPair_26 : zD cX2_askPair 26 (.istore 5) 2 28 := ⟨by decide +kernel, rfl⟩
theorem eX2_askPair_28 : zD cX2_askPair 28 (.aload_n 3) 1 29 := ⟨by decide +kernel, rfl⟩
theorem eX2_askPair_29 : zD cX2_askPair 29 (.getfield 72) 3 32 := ⟨by decide +kernel, rfl⟩
theorem eX2_askPair_32 : zD cX2_askPair 32 (.iload 4) 2 34 := ⟨by decide +kernel, rfl⟩
theorem eX2_askPair_34 : zD cX2_askPair 34 .iaload 1 35 := ⟨by decide +kernel, rfl⟩
theorem eX2_askPair_35 : zD cX2_askPair 35 (.istore 6) 2 37 := ⟨by decide +kernel, rfl⟩
theorem eX2_askPair_37 : zD cX2_askPair 37 (.aload_n 2) 1 38 := ⟨by decide +kernel, rfl⟩
theorem eX2_askPair_38 : zD cX2_askPair 38 (.getfield 75) 3 41 := ⟨by decide +kernel, rfl⟩
theorem eX2_askPair_41 : zD cX2_askPair 41 (.iload 4) 2 43 := ⟨by decide +kernel, rfl⟩
theorem eX2_askPair_43 : zD cX2_askPair 43 .iaload 1 44 := ⟨by decide +kernel, rfl⟩
theorem eX2_askPair_44 : zD cX2_askPair 44 (.iconst 1) 1 45 := ⟨by decide +kernel, rfl⟩
theorem eX2_askPair_45 : zDj cX2_askPair 45 (.if_icmp .ne 7) 7 52 48 := ⟨by decide +kernel, rfl, by decide⟩
theorem eX2_askPair_48 : zD cX2_askPair 48 (.iconst 1) 1 49 := ⟨by decide +kernel, rfl⟩
theorem eX2_askPair_49 : zDj cX2_askPair 49 (.goto 4) 4 53 52 := ⟨by decide +kernel, rfl, by decide⟩
theorem eX2_askPair_52 : zD cX2_askPair 52 (.iconst 0) 1 53 := ⟨by decide +kernel, rfl⟩
theorem eX2_askPair_53 : zD cX2_askPair 53 (.istore 7) 2 55 := ⟨by decide +kernel, rfl⟩
theorem eX2_askPair_55 : zD cX2_askPair 55 (.aload_n 3) 1 56 := ⟨by decide +kernel, rfl⟩
theorem eX2_askPair_56 : zD cX2_askPair 56 (.getfield 75) 3 59 := ⟨by decide +kernel, rfl⟩
theorem eX2_askPair_59 : zD cX2_askPair 59 (.iload 4) 2 61 := ⟨by decide +kernel, rfl⟩
theorem eX2_askPair_61 : zD cX2_askPair 61 .iaload 1 62 := ⟨by decide +kernel, rfl⟩
theorem eX2_askPair_62 : zD cX2_askPair 62 (.iconst 1) 1 63 := ⟨by decide +kernel, rfl⟩
theorem eX2_askPair_63 : zDj cX2_askPair 63 (.if_icmp .ne 7) 7 70 66 := ⟨by decide +kernel, rfl, by decide⟩
theorem eX2_askPair_66 : zD cX2_askPair 66 (.iconst 1) 1 67 := ⟨by decide +kernel, rfl⟩
theorem eX2_askPair_67 : zDj cX2_askPair 67 (.goto 4) 4 71 70 := ⟨by decide +kernel, rfl, by decide⟩
theorem eX2_askPair_70 : zD cX2_askPair 70 (.iconst 0) 1 71 := ⟨by decide +kernel, rfl⟩
theorem eX2_askPair_71 : zD cX2_askPair 71 (.istore 8) 2 73 := ⟨by decide +kernel, rfl⟩
theorem eX2_askPair_73 : zD cX2_askPair 73 (.aload_n 2) 1 74 := ⟨by decide +kernel, rfl⟩
theorem eX2_askPair_74 : zD cX2_askPair 74 (.iload 4) 2 76 := ⟨by decide +kernel, rfl⟩
theorem eX2_askPair_76 : zD cX2_askPair 76 (.iconst 1) 1 77 := ⟨by decide +kernel, rfl⟩
theorem eX2_askPair_77 : zD cX2_askPair 77 .isub 1 78 := ⟨by decide +kernel, rfl⟩
theorem eX2_askPair_78 : zD cX2_askPair 78 (.invokevirtual 69) 3 81 := ⟨by decide +kernel, rfl⟩
theorem eX2_askPair_81 : zD cX2_askPair 81 (.istore 9) 2 83 := ⟨by decide +kernel, rfl⟩
theorem eX2_askPair_83 : zD cX2_askPair 83 (.aload_n 3) 1 84 := ⟨by decide +kernel, rfl⟩
theorem eX2_askPair_84 : zD cX2_askPair 84 (.iload 4) 2 86 := ⟨by decide +kernel, rfl⟩
theorem eX2_askPair_86 : zD cX2_askPair 86 (.iconst 1) 1 87 := ⟨by decide +kernel, rfl⟩
theorem eX2_askPair_87 : zD cX2_askPair 87 .isub 1 88 := ⟨by decide +kernel, rfl⟩
theorem eX2_askPair_88 : zD cX2_askPair 88 (.invokevirtual 69) 3 91 := ⟨by decide +kernel, rfl⟩
theorem eX2_askPair_91 : zD cX2_askPair 91 (.istore 10) 2 93 := ⟨by decide +kernel, rfl⟩
theorem eX2_askPair_93 : zD cX2_askPair 93 (.aload_n 0) 1 94 := ⟨by decide +kernel, rfl⟩
theorem eX2_askPair_94 : zD cX2_askPair 94 (.getfield 9) 3 97 := ⟨by decide +kernel, rfl⟩
theorem eX2_askPair_97 : zD cX2_askPair 97 (.iconst 0) 1 98 := ⟨by decide +kernel, rfl⟩
theorem eX2_askPair_98 : zD cX2_askPair 98 (.iload 5) 2 100 := ⟨by decide +kernel, rfl⟩
theorem eX2_askPair_100 : zD cX2_askPair 100 (.iload 6) 2 102 := ⟨by decide +kernel, rfl⟩
theorem eX2_askPair_102 : zD cX2_askPair 102 .isub 1 103 := ⟨by decide +kernel, rfl⟩
theorem eX2_askPair_103 : zD cX2_askPair 103 (.invokestatic 78) 3 106 := ⟨by decide +kernel, rfl⟩
theorem eX2_askPair_106 : zD cX2_askPair 106 .iastore 1 107 := ⟨by decide +kernel, rfl⟩
theorem eX2_askPair_107 : zD cX2_askPair 107 (.aload_n 0) 1 108 := ⟨by decide +kernel, rfl⟩
theorem eX2_askPair_108 : zD cX2_askPair 108 (.getfield 9) 3 111 := ⟨by decide +kernel, rfl⟩
theorem eX2_askPair_111 : zD cX2_askPair 111 (.iconst 1) 1 112 := ⟨by decide +kernel, rfl⟩
theorem eX2_askPair_112 : zD cX2_askPair 112 (.iload 9) 2 114 := ⟨by decide +kernel, rfl⟩
theorem eX2_askPair_114 : zDj cX2_askPair 114 (.ifCond .eq 33) 33 147 117 := ⟨by decide +kernel, rfl, by decide⟩
theorem eX2_askPair_117 : zD cX2_askPair 117 (.iload 10) 2 119 := ⟨by decide +kernel, rfl⟩
theorem eX2_askPair_119 : zDj cX2_askPair 119 (.ifCond .eq 28) 28 147 122 := ⟨by decide +kernel, rfl, by decide⟩
theorem eX2_askPair_122 : zD cX2_askPair 122 (.aload_n 2) 1 123 := ⟨by decide +kernel, rfl⟩
theorem eX2_askPair_123 : zD cX2_askPair 123 (.getfield 72) 3 126 := ⟨by decide +kernel, rfl⟩
theorem eX2_askPair_126 : zD cX2_askPair 126 (.iload 4) 2 128 := ⟨by decide +kernel, rfl⟩
theorem eX2_askPair_128 : zD cX2_askPair 128 (.iconst 1) 1 129 := ⟨by decide +kernel, rfl⟩
theorem eX2_askPair_129 : zD cX2_askPair 129 .isub 1 130 := ⟨by decide +kernel, rfl⟩
theorem eX2_askPair_130 : zD cX2_askPair 130 .iaload 1 131 := ⟨by decide +kernel, rfl⟩
theorem eX2_askPair_131 : zD cX2_askPair 131 (.aload_n 3) 1 132 := ⟨by decide +kernel, rfl⟩
theorem eX2_askPair_132 : zD cX2_askPair 132 (.getfield 72) 3 135 := ⟨by decide +kernel, rfl⟩
theorem eX2_askPair_135 : zD cX2_askPair 135 (.iload 4) 2 137 := ⟨by decide +kernel, rfl⟩
theorem eX2_askPair_137 : zD cX2_askPair 137 (.iconst 1) 1 138 := ⟨by decide +kernel, rfl⟩
theorem eX2_askPair_138 : zD cX2_askPair 138 .isub 1 139 := ⟨by decide +kernel, rfl⟩
theorem eX2_askPair_139 : zD cX2_askPair 139 .iaload 1 140 := ⟨by decide +kernel, rfl⟩
theorem eX2_askPair_140 : zD cX2_askPair 140 .isub 1 141 := ⟨by decide +kernel, rfl⟩
theorem eX2_askPair_141 : zD cX2_askPair 141 (.invokestatic 78) 3 144 := ⟨by decide +kernel, rfl⟩
theorem eX2_askPair_144 : zDj cX2_askPair 144 (.goto 4) 4 148 147 := ⟨by decide +kernel, rfl, by decide⟩
theorem eX2_askPair_147 : zD cX2_askPair 147 (.iconst (-1)) 1 148 := ⟨by decide +kernel, rfl⟩
theorem eX2_askPair_148 : zD cX2_askPair 148 .iastore 1 149 := ⟨by decide +kernel, rfl⟩
theorem eX2_askPair_149 : zD cX2_askPair 149 (.aload_n 0) 1 150 := ⟨by decide +kernel, rfl⟩
theorem eX2_askPair_150 : zD cX2_askPair 150 (.getfield 9) 3 153 := ⟨by decide +kernel, rfl⟩
theorem eX2_askPair_153 : zD cX2_askPair 153 (.iconst 2) 1 154 := ⟨by decide +kernel, rfl⟩
theorem eX2_askPair_154 : zD cX2_askPair 154 (.iload 7) 2 156 := ⟨by decide +kernel, rfl⟩
theorem eX2_askPair_156 : zDj cX2_askPair 156 (.ifCond .eq 23) 23 179 159 := ⟨by decide +kernel, rfl, by decide⟩
theorem eX2_askPair_159 : zD cX2_askPair 159 (.iload 9) 2 161 := ⟨by decide +kernel, rfl⟩
theorem eX2_askPair_161 : zDj cX2_askPair 161 (.ifCond .eq 18) 18 179 164 := ⟨by decide +kernel, rfl, by decide⟩
theorem eX2_askPair_164 : zD cX2_askPair 164 (.iload 5) 2 166 := ⟨by decide +kernel, rfl⟩
theorem eX2_askPair_166 : zD cX2_askPair 166 (.aload_n 2) 1 167 := ⟨by decide +kernel, rfl⟩
theorem eX2_askPair_167 : zD cX2_askPair 167 (.getfield 72) 3 170 := ⟨by decide +kernel, rfl⟩
theorem eX2_askPair_170 : zD cX2_askPair 170 (.iload 4) 2 172 := ⟨by decide +kernel, rfl⟩
theorem eX2_askPair_172 : zD cX2_askPair 172 (.iconst 1) 1 173 := ⟨by decide +kernel, rfl⟩
theorem eX2_askPair_173 : zD cX2_askPair 173 .isub 1 174 := ⟨by decide +kernel, rfl⟩
theorem eX2_askPair_174 : zD cX2_askPair 174 .iaload 1 175 := ⟨by decide +kernel, rfl⟩
theorem eX2_askPair_175 : zD cX2_askPair 175 .isub 1 176 := ⟨by decide +kernel, rfl⟩
theorem eX2_askPair_176 : zDj cX2_askPair 176 (.goto 4) 4 180 179 := ⟨by decide +kernel, rfl, by decide⟩
theorem eX2_askPair_179 : zD cX2_askPair 179 (.iconst 0) 1 180 := ⟨by decide +kernel, rfl⟩
theorem eX2_askPair_180 : zD cX2_askPair 180 .iastore 1 181 := ⟨by decide +kernel, rfl⟩
theorem eX2_askPair_181 : zD cX2_askPair 181 (.aload_n 0) 1 182 := ⟨by decide +kernel, rfl⟩
theorem eX2_askPair_182 : zD cX2_askPair 182 (.getfield 9) 3 185 := ⟨by decide +kernel, rfl⟩
theorem eX2_askPair_185 : zD cX2_askPair 185 (.iconst 3) 1 186 := ⟨by decide +kernel, rfl⟩
theorem eX2_askPair_186 : zD cX2_askPair 186 (.iload 8) 2 188 := ⟨by decide +kernel, rfl⟩
theorem eX2_askPair_188 : zDj cX2_askPair 188 (.ifCond .eq 23) 23 211 191 := ⟨by decide +kernel, rfl, by decide⟩
theorem eX2_askPair_191 : zD cX2_askPair 191 (.iload 10) 2 193 := ⟨by decide +kernel, rfl⟩
theorem eX2_askPair_193 : zDj cX2_askPair 193 (.ifCond .eq 18) 18 211 196 := ⟨by decide +kernel, rfl, by decide⟩
theorem eX2_askPair_196 : zD cX2_askPair 196 (.iload 6) 2 198 := ⟨by decide +kernel, rfl⟩
theorem eX2_askPair_198 : zD cX2_askPair 198 (.aload_n 3) 1 199 := ⟨by decide +kernel, rfl⟩
theorem eX2_askPair_199 : zD cX2_askPair 199 (.getfield 72) 3 202 := ⟨by decide +kernel, rfl⟩
theorem eX2_askPair_202 : zD cX2_askPair 202 (.iload 4) 2 204 := ⟨by decide +kernel, rfl⟩
theorem eX2_askPair_204 : zD cX2_askPair 204 (.iconst 1) 1 205 := ⟨by decide +kernel, rfl⟩
theorem eX2_askPair_205 : zD cX2_askPair 205 .isub 1 206 := ⟨by decide +kernel, rfl⟩
theorem eX2_askPair_206 : zD cX2_askPair 206 .iaload 1 207 := ⟨by decide +kernel, rfl⟩
theorem eX2_askPair_207 : zD cX2_askPair 207 .isub 1 208 := ⟨by decide +kernel, rfl⟩
theorem eX2_askPair_208 : zDj cX2_askPair 208 (.goto 4) 4 212 211 := ⟨by decide +kernel, rfl, by decide⟩
theorem eX2_askPair_211 : zD cX2_askPair 211 (.iconst 0) 1 212 := ⟨by decide +kernel, rfl⟩
theorem eX2_askPair_212 : zD cX2_askPair 212 .iastore 1 213 := ⟨by decide +kernel, rfl⟩
theorem eX2_askPair_213 : zD cX2_askPair 213 (.aload_n 0) 1 214 := ⟨by decide +kernel, rfl⟩
theorem eX2_askPair_214 : zD cX2_askPair 214 (.getfield 9) 3 217 := ⟨by decide +kernel, rfl⟩
theorem eX2_askPair_217 : zD cX2_askPair 217 (.iconst 4) 1 218 := ⟨by decide +kernel, rfl⟩
theorem eX2_askPair_218 : zD cX2_askPair 218 (.iload 5) 2 220 := ⟨by decide +kernel, rfl⟩
theorem eX2_askPair_220 : zD cX2_askPair 220 (.iload 6) 2 222 := ⟨by decide +kernel, rfl⟩
theorem eX2_askPair_222 : zD cX2_askPair 222 (.invokestatic 66) 3 225 := ⟨by decide +kernel, rfl⟩
theorem eX2_askPair_225 : zD cX2_askPair 225 .iastore 1 226 := ⟨by decide +kernel, rfl⟩
theorem eX2_askPair_226 : zD cX2_askPair 226 (.aload_n 0) 1 227 := ⟨by decide +kernel, rfl⟩
theorem eX2_askPair_227 : zD cX2_askPair 227 (.getfield 9) 3 230 := ⟨by decide +kernel, rfl⟩
theorem eX2_askPair_230 : zD cX2_askPair 230 (.iconst 5) 1 231 := ⟨by decide +kernel, rfl⟩
theorem eX2_askPair_231 : zD cX2_askPair 231 (.iload 5) 2 233 := ⟨by decide +kernel, rfl⟩
theorem eX2_askPair_233 : zD cX2_askPair 233 (.iload 6) 2 235 := ⟨by decide +kernel, rfl⟩
theorem eX2_askPair_235 : zD cX2_askPair 235 (.invokestatic 40) 3 238 := ⟨by decide +kernel, rfl⟩
theorem eX2_askPair_238 : zD cX2_askPair 238 .iastore 1 239 := ⟨by decide +kernel, rfl⟩
theorem eX2_askPair_239 : zD cX2_askPair 239 (.aload_n 0) 1 240 := ⟨by decide +kernel, rfl⟩
theorem eX2_askPair_240 : zD cX2_askPair 240 (.getfield 9) 3 243 := ⟨by decide +kernel, rfl⟩
theorem eX2_askPair_243 : zD cX2_askPair 243 (.bipush 6) 2 245 := ⟨by decide +kernel, rfl⟩
theorem eX2_askPair_245 : zD cX2_askPair 245 (.iload 5) 2 247 := ⟨by decide +kernel, rfl⟩
theorem eX2_askPair_247 : zD cX2_askPair 247 (.iload 6) 2 249 := ⟨by decide +kernel, rfl⟩
theorem eX2_askPair_249 : zDj cX2_askPair 249 (.if_icmp .ge 7) 7 256 252 := ⟨by decide +kernel, rfl, by decide⟩
theorem eX2_askPair_252 : zD cX2_askPair 252 (.iconst 1) 1 253 := ⟨by decide +kernel, rfl⟩
theorem eX2_askPair_253 : zDj cX2_askPair 253 (.goto 4) 4 257 256 := ⟨by decide +kernel, rfl, by decide⟩
theorem eX2_askPair_256 : zD cX2_askPair 256 (.iconst 0) 1 257 := ⟨by decide +kernel, rfl⟩
theorem eX2_askPair_257 : zD cX2_askPair 257 .iastore 1 258 := ⟨by decide +kernel, rfl⟩
theorem eX2_askPair_258 : zD cX2_askPair 258 (.aload_n 0) 1 259 := ⟨by decide +kernel, rfl⟩
theorem eX2_askPair_259 : zD cX2_askPair 259 (.getfield 9) 3 262 := ⟨by decide +kernel, rfl⟩
theorem eX2_askPair_262 : zD cX2_askPair 262 (.bipush 7) 2 264 := ⟨by decide +kernel, rfl⟩
theorem eX2_askPair_264 : zD cX2_askPair 264 (.iload 7) 2 266 := ⟨by decide +kernel, rfl⟩
theorem eX2_askPair_266 : zDj cX2_askPair 266 (.ifCond .ne 8) 8 274 269 := ⟨by decide +kernel, rfl, by decide⟩
theorem eX2_askPair_269 : zD cX2_askPair 269 (.iload 8) 2 271 := ⟨by decide +kernel, rfl⟩
theorem eX2_askPair_271 : zDj cX2_askPair 271 (.ifCond .eq 7) 7 278 274 := ⟨by decide +kernel, rfl, by decide⟩
theorem eX2_askPair_274 : zD cX2_askPair 274 (.iconst 0) 1 275 := ⟨by decide +kernel, rfl⟩
theorem eX2_askPair_275 : zDj cX2_askPair 275 (.goto 4) 4 279 278 := ⟨by decide +kernel, rfl, by decide⟩
theorem eX2_askPair_278 : zD cX2_askPair 278 (.iconst 1) 1 279 := ⟨by decide +kernel, rfl⟩
theorem eX2_askPair_279 : zD cX2_askPair 279 .iastore 1 280 := ⟨by decide +kernel, rfl⟩
theorem eX2_askPair_280 : zD cX2_askPair 280 (.aload_n 0) 1 281 := ⟨by decide +kernel, rfl⟩
theorem eX2_askPair_281 : zD cX2_askPair 281 (.getfield 9) 3 284 := ⟨by decide +kernel, rfl⟩
theorem eX2_askPair_284 : zD cX2_askPair 284 (.bipush 8) 2 286 := ⟨by decide +kernel, rfl⟩
theorem eX2_askPair_286 : zD cX2_askPair 286 (.iload 4) 2 288 := ⟨by decide +kernel, rfl⟩
theorem eX2_askPair_288 : zD cX2_askPair 288 (.aload_n 0) 1 289 := ⟨by decide +kernel, rfl⟩
theorem eX2_askPair_289 : zD cX2_askPair 289 (.getfield 21) 3 292 := ⟨by decide +kernel, rfl⟩
theorem eX2_askPair_292 : zD cX2_askPair 292 .irem 1 293 := ⟨by decide +kernel, rfl⟩
theorem eX2_askPair_293 : zD cX2_askPair 293 .iastore 1 294 := ⟨by decide +kernel, rfl⟩
theorem eX2_askPair_294 : zD cX2_askPair 294 (.aload_n 0) 1 295 := ⟨by decide +kernel, rfl⟩
theorem eX2_askPair_295 : zD cX2_askPair 295 (.aload_n 1) 1 296 := ⟨by decide +kernel, rfl⟩
theorem eX2_askPair_296 : zD cX2_askPair 296 (.iconst 0) 1 297 := ⟨by decide +kernel, rfl⟩
theorem eX2_askPair_297 : zD cX2_askPair 297 (.iload 4) 2 299 := ⟨by decide +kernel, rfl⟩
theorem eX2_askPair_299 : zD cX2_askPair 299 (.invokevirtual 82) 3 302 := ⟨by decide +kernel, rfl⟩
theorem eX2_askPair_302 : zD cX2_askPair 302 .return_ 1 303 := ⟨by decide +kernel, rfl⟩
theorem eX2_askLine_0 : zD cX2_askLine 0 (.aload_n 2) 1 1 := ⟨by decide +kernel, rfl⟩
theorem eX2_askLine_1 : zD cX2_askLine 1 (.iload_n 3) 1 2 := ⟨by decide +kernel, rfl⟩
theorem eX2_askLine_2 : zD cX2_askLine 2 (.invokevirtual 86) 3 5 := ⟨by decide +kernel, rfl⟩
theorem eX2_askLine_5 : zD cX2_askLine 5 (.istore 4) 2 7 := ⟨by decide +kernel, rfl⟩
theorem eX2_askLine_7 : zD cX2_askLine 7 (.aload_n 2) 1 8 := ⟨by decide +kernel, rfl⟩
theorem eX2_askLine_8 : zD cX2_askLine 8 (.iload_n 3) 1 9 := ⟨by decide +kernel, rfl⟩
theorem eX2_askLine_9 : zD cX2_askLine 9 (.invokevirtual 69) 3 12 := ⟨by decide +kernel, rfl⟩
theorem eX2_askLine_12 : zDj cX2_askLine 12 (.ifCond .eq 18) 18 30 15 := ⟨by decide +kernel, rfl, by decide⟩
theorem eX2_askLine_15 : zD cX2_askLine 15 (.aload_n 2) 1 16 := ⟨by decide +kernel, rfl⟩
theorem eX2_askLine_16 : zD cX2_askLine 16 (.getfield 75) 3 19 := ⟨by decide +kernel, rfl⟩
theorem eX2_askLine_19 : zD cX2_askLine 19 (.iload_n 3) 1 20 := ⟨by decide +kernel, rfl⟩
theorem eX2_askLine_20 : zD cX2_askLine 20 .iaload 1 21 := ⟨by decide +kernel, rfl⟩
theorem eX2_askLine_21 : zD cX2_askLine 21 (.iconst 1) 1 22 := ⟨by decide +kernel, rfl⟩
theorem eX2_askLine_22 : zDj cX2_askLine 22 (.if_icmp .ne 8) 8 30 25 := ⟨by decide +kernel, rfl, by decide⟩
theorem eX2_askLine_25 : zD cX2_askLine 25 (.iload 4) 2 27 := ⟨by decide +kernel, rfl⟩
theorem eX2_askLine_27 : zDj cX2_askLine 27 (.ifCond .ge 4) 4 31 30 := ⟨by decide +kernel, rfl, by decide⟩
theorem eX2_askLine_30 : zD cX2_askLine 30 .return_ 1 31 := ⟨by decide +kernel, rfl⟩
theorem eX2_askLine_31 : zD cX2_askLine 31 (.aload_n 2) 1 32 := ⟨by decide +kernel, rfl⟩
theorem eX2_askLine_32 : zD cX2_askLine 32 (.iload 4) 2 34 := ⟨by decide +kernel, rfl⟩
theorem eX2_askLine_34 : zD cX2_askLine 34 (.invokevirtual 86) 3 37 := ⟨by decide +kernel, rfl⟩
theorem eX2_askLine_37 : zD cX2_askLine 37 (.istore 5) 2 39 := ⟨by decide +kernel, rfl⟩
theorem eX2_askLine_39 : zD cX2_askLine 39 (.aload_n 0) 1 40 := ⟨by decide +kernel, rfl⟩
theorem eX2_askLine_40 : zD cX2_askLine 40 (.getfield 9) 3 43 := ⟨by decide +kernel, rfl⟩
theorem eX2_askLine_43 : zD cX2_askLine 43 (.bipush 9) 2 45 := ⟨by decide +kernel, rfl⟩
theorem eX2_askLine_45 : zD cX2_askLine 45 (.aload_n 2) 1 46 := ⟨by decide +kernel, rfl⟩
theorem eX2_askLine_46 : zD cX2_askLine 46 (.getfield 72) 3 49 := ⟨by decide +kernel, rfl⟩
theorem eX2_askLine_49 : zD cX2_askLine 49 (.iload_n 3) 1 50 := ⟨by decide +kernel, rfl⟩
theorem eX2_askLine_50 : zD cX2_askLine 50 .iaload 1 51 := ⟨by decide +kernel, rfl⟩
theorem eX2_askLine_51 : zD cX2_askLine 51 (.aload_n 2) 1 52 := ⟨by decide +kernel, rfl⟩
theorem eX2_askLine_52 : zD cX2_askLine 52 (.getfield 72) 3 55 := ⟨by decide +kernel, rfl⟩
theorem eX2_askLine_55 : zD cX2_askLine 55 (.iload 4) 2 57 := ⟨by decide +kernel, rfl⟩
theorem eX2_askLine_57 : zD cX2_askLine 57 .iaload 1 58 := ⟨by decide +kernel, rfl⟩
theorem eX2_askLine_58 : zD cX2_askLine 58 .isub 1 59 := ⟨by decide +kernel, rfl⟩
theorem eX2_askLine_59 : zD cX2_askLine 59 .iastore 1 60 := ⟨by decide +kernel, rfl⟩
theorem eX2_askLine_60 : zD cX2_askLine 60 (.aload_n 0) 1 61 := ⟨by decide +kernel, rfl⟩
theorem eX2_askLine_61 : zD cX2_askLine 61 (.getfield 9) 3 64 := ⟨by decide +kernel, rfl⟩
theorem eX2_askLine_64 : zD cX2_askLine 64 (.bipush 10) 2 66 := ⟨by decide +kernel, rfl⟩
theorem eX2_askLine_66 : zD cX2_askLine 66 (.iload 5) 2 68 := ⟨by decide +kernel, rfl⟩
theorem eX2_askLine_68 : zDj cX2_askLine 68 (.ifCond .ge 7) 7 75 71 := ⟨by decide +kernel, rfl, by decide⟩
theorem eX2_askLine_71 : zD cX2_askLine 71 (.iconst 0) 1 72 := ⟨by decide +kernel, rfl⟩
theorem eX2_askLine_72 : zDj cX2_askLine 72 (.goto 18) 18 90 75 := ⟨by decide +kernel, rfl, by decide⟩
theorem eX2_askLine_75 : zD cX2_askLine 75 (.aload_n 2) 1 76 := ⟨by decide +kernel, rfl⟩
theorem eX2_askLine_76 : zD cX2_askLine 76 (.getfield 72) 3 79 := ⟨by decide +kernel, rfl⟩
theorem eX2_askLine_79 : zD cX2_askLine 79 (.iload 4) 2 81 := ⟨by decide +kernel, rfl⟩
theorem eX2_askLine_81 : zD cX2_askLine 81 .iaload 1 82 := ⟨by decide +kernel, rfl⟩
theorem eX2_askLine_82 : zD cX2_askLine 82 (.aload_n 2) 1 83 := ⟨by decide +kernel, rfl⟩
theorem eX2_askLine_83 : zD cX2_askLine 83 (.getfield 72) 3 86 := ⟨by decide +kernel, rfl⟩
theorem eX2_askLine_86 : zD cX2_askLine 86 (.iload 5) 2 88 := ⟨by decide +kernel, rfl⟩
theorem eX2_askLine_88 : zD cX2_askLine 88 .iaload 1 89 := ⟨by decide +kernel, rfl⟩
theorem eX2_askLine_89 : zD cX2_askLine 89 .isub 1 90 := ⟨by decide +kernel, rfl⟩
theorem eX2_askLine_90 : zD cX2_askLine 90 .iastore 1 91 := ⟨by decide +kernel, rfl⟩
theorem eX2_askLine_91 : zD cX2_askLine 91 (.aload_n 0) 1 92 := ⟨by decide +kernel, rfl⟩
theorem eX2_askLine_92 : zD cX2_askLine 92 (.getfield 9) 3 95 := ⟨by decide +kernel, rfl⟩
theorem eX2_askLine_95 : zD cX2_askLine 95 (.bipush 11) 2 97 := ⟨by decide +kernel, rfl⟩
theorem eX2_askLine_97 : zD cX2_askLine 97 (.aload_n 2) 1 98 := ⟨by decide +kernel, rfl⟩
theorem eX2_askLine_98 : zD cX2_askLine 98 (.getfield 72) 3 101 := ⟨by decide +kernel, rfl⟩
theorem eX2_askLine_101 : zD cX2_askLine 101 (.iload_n 3) 1 102 := ⟨by decide +kernel, rfl⟩
theorem eX2_askLine_102 : zD cX2_askLine 102 .iaload 1 103 := ⟨by decide +kernel, rfl⟩
theorem eX2_askLine_103 : zD cX2_askLine 103 .iastore 1 104 := ⟨by decide +kernel, rfl⟩
theorem eX2_askLine_104 : zD cX2_askLine 104 (.aload_n 0) 1 105 := ⟨by decide +kernel, rfl⟩
theorem eX2_askLine_105 : zD cX2_askLine 105 (.getfield 9) 3 108 := ⟨by decide +kernel, rfl⟩
theorem eX2_askLine_108 : zD cX2_askLine 108 (.bipush 12) 2 110 := ⟨by decide +kernel, rfl⟩
theorem eX2_askLine_110 : zD cX2_askLine 110 (.aload_n 2) 1 111 := ⟨by decide +kernel, rfl⟩
theorem eX2_askLine_111 : zD cX2_askLine 111 (.iload_n 3) 1 112 := ⟨by decide +kernel, rfl⟩
theorem eX2_askLine_112 : zD cX2_askLine 112 (.invokevirtual 89) 3 115 := ⟨by decide +kernel, rfl⟩
theorem eX2_askLine_115 : zD cX2_askLine 115 .iastore 1 116 := ⟨by decide +kernel, rfl⟩
theorem eX2_askLine_116 : zD cX2_askLine 116 (.aload_n 0) 1 117 := ⟨by decide +kernel, rfl⟩
theorem eX2_askLine_117 : zD cX2_askLine 117 (.getfield 9) 3 120 := ⟨by decide +kernel, rfl⟩
theorem eX2_askLine_120 : zD cX2_askLine 120 (.bipush 8) 2 122 := ⟨by decide +kernel, rfl⟩
theorem eX2_askLine_122 : zD cX2_askLine 122 (.iload_n 3) 1 123 := ⟨by decide +kernel, rfl⟩
theorem eX2_askLine_123 : zD cX2_askLine 123 (.aload_n 0) 1 124 := ⟨by decide +kernel, rfl⟩
theorem eX2_askLine_124 : zD cX2_askLine 124 (.getfield 21) 3 127 := ⟨by decide +kernel, rfl⟩
theorem eX2_askLine_127 : zD cX2_askLine 127 .irem 1 128 := ⟨by decide +kernel, rfl⟩
theorem eX2_askLine_128 : zD cX2_askLine 128 .iastore 1 129 := ⟨by decide +kernel, rfl⟩
theorem eX2_askLine_129 : zD cX2_askLine 129 (.aload_n 0) 1 130 := ⟨by decide +kernel, rfl⟩
theorem eX2_askLine_130 : zD cX2_askLine 130 (.aload_n 1) 1 131 := ⟨by decide +kernel, rfl⟩
theorem eX2_askLine_131 : zD cX2_askLine 131 (.iconst 1) 1 132 := ⟨by decide +kernel, rfl⟩
theorem eX2_askLine_132 : zD cX2_askLine 132 (.iload_n 3) 1 133 := ⟨by decide +kernel, rfl⟩
theorem eX2_askLine_133 : zD cX2_askLine 133 (.invokevirtual 82) 3 136 := ⟨by decide +kernel, rfl⟩
theorem eX2_askLine_136 : zD cX2_askLine 136 .return_ 1 137 := ⟨by decide +kernel, rfl⟩
theorem eX2_askPiece_0 : zD cX2_askPiece 0 (.iload_n 3) 1 1 := ⟨by decide +kernel, rfl⟩
theorem eX2_askPiece_1 : zDj cX2_askPiece 1 (.ifCond .lt 11) 11 12 4 := ⟨by decide +kernel, rfl, by decide⟩
theorem eX2_askPiece_4 : zD cX2_askPiece 4 (.iload_n 3) 1 5 := ⟨by decide +kernel, rfl⟩
theorem eX2_askPiece_5 : zD cX2_askPiece 5 (.iconst 4) 1 6 := ⟨by decide +kernel, rfl⟩
theorem eX2_askPiece_6 : zD cX2_askPiece 6 .iadd 1 7 := ⟨by decide +kernel, rfl⟩
theorem eX2_askPiece_7 : zD cX2_askPiece 7 (.aload_n 2) 1 8 := ⟨by decide +kernel, rfl⟩
theorem eX2_askPiece_8 : zD cX2_askPiece 8 .arraylength 1 9 := ⟨by decide +kernel, rfl⟩
theorem eX2_askPiece_9 : zDj cX2_askPiece 9 (.if_icmp .le 4) 4 13 12 := ⟨by decide +kernel, rfl, by decide⟩
theorem eX2_askPiece_12 : zD cX2_askPiece 12 .return_ 1 13 := ⟨by decide +kernel, rfl⟩
theorem eX2_askPiece_13 : zD cX2_askPiece 13 (.aload_n 1) 1 14 := ⟨by decide +kernel, rfl⟩
theorem eX2_askPiece_14 : zD cX2_askPiece 14 (.iconst 0) 1 15 := ⟨by decide +kernel, rfl⟩
theorem eX2_askPiece_15 : zD cX2_askPiece 15 (.invokevirtual 46) 3 18 := ⟨by decide +kernel, rfl⟩
theorem eX2_askPiece_18 : zD cX2_askPiece 18 (.istore 5) 2 20 := ⟨by decide +kernel, rfl⟩
theorem eX2_askPiece_20 : zD cX2_askPiece 20 (.aload_n 1) 1 21 := ⟨by decide +kernel, rfl⟩
theorem eX2_askPiece_21 : zD cX2_askPiece 21 (.iconst 1) 1 22 := ⟨by decide +kernel, rfl⟩
theorem eX2_askPiece_22 : zD cX2_askPiece 22 (.invokevirtual 46) 3 25 := ⟨by decide +kernel, rfl⟩
theorem eX2_askPiece_25 : zD cX2_askPiece 25 (.istore 6) 2 27 := ⟨by decide +kernel, rfl⟩
theorem eX2_askPiece_27 : zD cX2_askPiece 27 (.iload 4) 2 29 := ⟨by decide +kernel, rfl⟩
theorem eX2_askPiece_29 : zD cX2_askPiece 29 (.istore 7) 2 31 := ⟨by decide +kernel, rfl⟩
theorem eX2_askPiece_31 : zD cX2_askPiece 31 (.iload 7) 2 33 := ⟨by decide +kernel, rfl⟩
theorem eX2_askPiece_33 : zD cX2_askPiece 33 (.bipush 32) 2 35 := ⟨by decide +kernel, rfl⟩
theorem eX2_askPiece_35 : zDj cX2_askPiece 35 (.if_icmp .ge 122) 122 157 38 := ⟨by decide +kernel, rfl, by decide⟩
theorem eX2_askPiece_38 : zD cX2_askPiece 38 (.iconst 0) 1 39 := ⟨by decide +kernel, rfl⟩
theorem eX2_askPiece_39 : zD cX2_askPiece 39 (.istore 8) 2 41 := ⟨by decide +kernel, rfl⟩
theorem eX2_askPiece_41 : zD cX2_askPiece 41 (.iload 5) 2 43 := ⟨by decide +kernel, rfl⟩
theorem eX2_askPiece_43 : zDj cX2_askPiece 43 (.ifCond .eq 64) 64 107 46 := ⟨by decide +kernel, rfl, by decide⟩
theorem eX2_askPiece_46 : zD cX2_askPiece 46 (.iload 8) 2 48 := ⟨by decide +kernel, rfl⟩
theorem eX2_askPiece_48 : zD cX2_askPiece 48 (.iconst 4) 1 49 := ⟨by decide +kernel, rfl⟩
theorem eX2_askPiece_49 : zDj cX2_askPiece 49 (.if_icmp .ge 58) 58 107 52 := ⟨by decide +kernel, rfl, by decide⟩
theorem eX2_askPiece_52 : zD cX2_askPiece 52 (.iload 8) 2 54 := ⟨by decide +kernel, rfl⟩
theorem eX2_askPiece_54 : zD cX2_askPiece 54 (.iconst 1) 1 55 := ⟨by decide +kernel, rfl⟩
theorem eX2_askPiece_55 : zD cX2_askPiece 55 .iadd 1 56 := ⟨by decide +kernel, rfl⟩
theorem eX2_askPiece_56 : zD cX2_askPiece 56 (.istore 9) 2 58 := ⟨by decide +kernel, rfl⟩
theorem eX2_askPiece_58 : zD cX2_askPiece 58 (.iload 9) 2 60 := ⟨by decide +kernel, rfl⟩
theorem eX2_askPiece_60 : zD cX2_askPiece 60 (.iconst 4) 1 61 := ⟨by decide +kernel, rfl⟩
theorem eX2_askPiece_61 : zDj cX2_askPiece 61 (.if_icmp .ge 40) 40 101 64 := ⟨by decide +kernel, rfl, by decide⟩
theorem eX2_askPiece_64 : zD cX2_askPiece 64 (.aload_n 0) 1 65 := ⟨by decide +kernel, rfl⟩
theorem eX2_askPiece_65 : zD cX2_askPiece 65 (.iload 8) 2 67 := ⟨by decide +kernel, rfl⟩
theorem eX2_askPiece_67 : zD cX2_askPiece 67 (.putfield 34) 3 70 := ⟨by decide +kernel, rfl⟩
theorem eX2_askPiece_70 : zD cX2_askPiece 70 (.aload_n 0) 1 71 := ⟨by decide +kernel, rfl⟩
theorem eX2_askPiece_71 : zD cX2_askPiece 71 (.iload 9) 2 73 := ⟨by decide +kernel, rfl⟩
theorem eX2_askPiece_73 : zD cX2_askPiece 73 (.putfield 37) 3 76 := ⟨by decide +kernel, rfl⟩
theorem eX2_askPiece_76 : zD cX2_askPiece 76 (.aload_n 0) 1 77 := ⟨by decide +kernel, rfl⟩
theorem eX2_askPiece_77 : zD cX2_askPiece 77 (.aload_n 1) 1 78 := ⟨by decide +kernel, rfl⟩
theorem eX2_askPiece_78 : zD cX2_askPiece 78 (.aload_n 2) 1 79 := ⟨by decide +kernel, rfl⟩
theorem eX2_askPiece_79 : zD cX2_askPiece 79 (.iload_n 3) 1 80 := ⟨by decide +kernel, rfl⟩
theorem eX2_askPiece_80 : zD cX2_askPiece 80 (.iload 8) 2 82 := ⟨by decide +kernel, rfl⟩
theorem eX2_askPiece_82 : zD cX2_askPiece 82 .iadd 1 83 := ⟨by decide +kernel, rfl⟩
theorem eX2_askPiece_83 : zD cX2_askPiece 83 .aaload 1 84 := ⟨by decide +kernel, rfl⟩
theorem eX2_askPiece_84 : zD cX2_askPiece 84 (.aload_n 2) 1 85 := ⟨by decide +kernel, rfl⟩
theorem eX2_askPiece_85 : zD cX2_askPiece 85 (.iload_n 3) 1 86 := ⟨by decide +kernel, rfl⟩
theorem eX2_askPiece_86 : zD cX2_askPiece 86 (.iload 9) 2 88 := ⟨by decide +kernel, rfl⟩
theorem eX2_askPiece_88 : zD cX2_askPiece 88 .iadd 1 89 := ⟨by decide +kernel, rfl⟩
theorem eX2_askPiece_89 : zD cX2_askPiece 89 .aaload 1 90 := ⟨by decide +kernel, rfl⟩
theorem eX2_askPiece_90 : zD cX2_askPiece 90 (.iload 7) 2 92 := ⟨by decide +kernel, rfl⟩
theorem eX2_askPiece_92 : zD cX2_askPiece 92 (.invokevirtual 52) 3 95 := ⟨by decide +kernel, rfl⟩
theorem eX2_askPiece_95 : zD cX2_askPiece 95 (.iinc 9 1) 3 98 := ⟨by decide +kernel, rfl⟩
theorem eX2_askPiece_98 : zDj cX2_askPiece 98 (.goto (-40)) (-40) 58 101 := ⟨by decide +kernel, rfl, by decide⟩
theorem eX2_askPiece_101 : zD cX2_askPiece 101 (.iinc 8 1) 3 104 := ⟨by decide +kernel, rfl⟩
theorem eX2_askPiece_104 : zDj cX2_askPiece 104 (.goto (-63)) (-63) 41 107 := ⟨by decide +kernel, rfl, by decide⟩
theorem eX2_askPiece_107 : zD cX2_askPiece 107 (.iconst 0) 1 108 := ⟨by decide +kernel, rfl⟩
theorem eX2_askPiece_108 : zD cX2_askPiece 108 (.istore 8) 2 110 := ⟨by decide +kernel, rfl⟩
theorem eX2_askPiece_110 : zD cX2_askPiece 110 (.iload 6) 2 112 := ⟨by decide +kernel, rfl⟩
theorem eX2_askPiece_112 : zDj cX2_askPiece 112 (.ifCond .eq 39) 39 151 115 := ⟨by decide +kernel, rfl, by decide⟩
theorem eX2_askPiece_115 : zD cX2_askPiece 115 (.iload 8) 2 117 := ⟨by decide +kernel, rfl⟩
theorem eX2_askPiece_117 : zD cX2_askPiece 117 (.iconst 4) 1 118 := ⟨by decide +kernel, rfl⟩
theorem eX2_askPiece_118 : zDj cX2_askPiece 118 (.if_icmp .ge 33) 33 151 121 := ⟨by decide +kernel, rfl, by decide⟩
theorem eX2_askPiece_121 : zD cX2_askPiece 121 (.aload_n 0) 1 122 := ⟨by decide +kernel, rfl⟩
theorem eX2_askPiece_122 : zD cX2_askPiece 122 (.iload 8) 2 124 := ⟨by decide +kernel, rfl⟩
theorem eX2_askPiece_124 : zD cX2_askPiece 124 (.putfield 34) 3 127 := ⟨by decide +kernel, rfl⟩
theorem eX2_askPiece_127 : zD cX2_askPiece 127 (.aload_n 0) 1 128 := ⟨by decide +kernel, rfl⟩
theorem eX2_askPiece_128 : zD cX2_askPiece 128 (.iconst (-1)) 1 129 := ⟨by decide +kernel, rfl⟩
theorem eX2_askPiece_129 : zD cX2_askPiece 129 (.putfield 37) 3 132 := ⟨by decide +kernel, rfl⟩
theorem eX2_askPiece_132 : zD cX2_askPiece 132 (.aload_n 0) 1 133 := ⟨by decide +kernel, rfl⟩
theorem eX2_askPiece_133 : zD cX2_askPiece 133 (.aload_n 1) 1 134 := ⟨by decide +kernel, rfl⟩
theorem eX2_askPiece_134 : zD cX2_askPiece 134 (.aload_n 2) 1 135 := ⟨by decide +kernel, rfl⟩
theorem eX2_askPiece_135 : zD cX2_askPiece 135 (.iload_n 3) 1 136 := ⟨by decide +kernel, rfl⟩
theorem eX2_askPiece_136 : zD cX2_askPiece 136 (.iload 8) 2 138 := ⟨by decide +kernel, rfl⟩
theorem eX2_askPiece_138 : zD cX2_askPiece 138 .iadd 1 139 := ⟨by decide +kernel, rfl⟩
theorem eX2_askPiece_139 : zD cX2_askPiece 139 .aaload 1 140 := ⟨by decide +kernel, rfl⟩
theorem eX2_askPiece_140 : zD cX2_askPiece 140 (.iload 7) 2 142 := ⟨by decide +kernel, rfl⟩
theorem eX2_askPiece_142 : zD cX2_askPiece 142 (.invokevirtual 56) 3 145 := ⟨by decide +kernel, rfl⟩
theorem eX2_askPiece_145 : zD cX2_askPiece 145 (.iinc 8 1) 3 148 := ⟨by decide +kernel, rfl⟩
theorem eX2_askPiece_148 : zDj cX2_askPiece 148 (.goto (-38)) (-38) 110 151 := ⟨by decide +kernel, rfl, by decide⟩
theorem eX2_askPiece_151 : zD cX2_askPiece 151 (.iinc 7 1) 3 154 := ⟨by decide +kernel, rfl⟩
theorem eX2_askPiece_154 : zDj cX2_askPiece 154 (.goto (-123)) (-123) 31 157 := ⟨by decide +kernel, rfl, by decide⟩
theorem eX2_askPiece_157 : zD cX2_askPiece 157 .return_ 1 158 := ⟨by decide +kernel, rfl⟩
theorem eX2_askPairs_0 : zD cX2_askPairs 0 (.aload_n 1) 1 1 := ⟨by decide +kernel, rfl⟩
theorem eX2_askPairs_1 : zD cX2_askPairs 1 (.iconst 0) 1 2 := ⟨by decide +kernel, rfl⟩
theorem eX2_askPairs_2 : zD cX2_askPairs 2 (.invokevirtual 46) 3 5 := ⟨by decide +kernel, rfl⟩
theorem eX2_askPairs_5 : zDj cX2_askPairs 5 (.ifCond .eq 17) 17 22 8 := ⟨by decide +kernel, rfl, by decide⟩
theorem eX2_askPairs_8 : zD cX2_askPairs 8 (.aload_n 2) 1 9 := ⟨by decide +kernel, rfl⟩
theorem eX2_askPairs_9 : zD cX2_askPairs 9 (.invokevirtual 60) 3 12 := ⟨by decide +kernel, rfl⟩
theorem eX2_askPairs_12 : zD cX2_askPairs 12 (.aload_n 3) 1 13 := ⟨by decide +kernel, rfl⟩
theorem eX2_askPairs_13 : zD cX2_askPairs 13 (.invokevirtual 60) 3 16 := ⟨by decide +kernel, rfl⟩
theorem eX2_askPairs_16 : zD cX2_askPairs 16 (.invokestatic 66) 3 19 := ⟨by decide +kernel, rfl⟩
theorem eX2_askPairs_19 : zDj cX2_askPairs 19 (.goto 4) 4 23 22 := ⟨by decide +kernel, rfl, by decide⟩
theorem eX2_askPairs_22 : zD cX2_askPairs 22 (.iconst 0) 1 23 := ⟨by decide +kernel, rfl⟩
theorem eX2_askPairs_23 : zD cX2_askPairs 23 (.istore 5) 2 25 := ⟨by decide +kernel, rfl⟩
theorem eX2_askPairs_25 : zD cX2_askPairs 25 (.iconst 0) 1 26 := ⟨by decide +kernel, rfl⟩
theorem eX2_askPairs_26 : zD cX2_askPairs 26 (.istore 6) 2 28 := ⟨by decide +kernel, rfl⟩
theorem eX2_askPairs_28 : zD cX2_askPairs 28 (.iload 6) 2 30 := ⟨by decide +kernel, rfl⟩
theorem eX2_askPairs_30 : zD cX2_askPairs 30 (.iload 5) 2 32 := ⟨by decide +kernel, rfl⟩
theorem eX2_askPairs_32 : zDj cX2_askPairs 32 (.if_icmp .ge 27) 27 59 35 := ⟨by decide +kernel, rfl, by decide⟩
theorem eX2_askPairs_35 : zD cX2_askPairs 35 (.aload_n 0) 1 36 := ⟨by decide +kernel, rfl⟩
theorem eX2_askPairs_36 : zD cX2_askPairs 36 (.getfield 31) 3 39 := ⟨by decide +kernel, rfl⟩
theorem eX2_askPairs_39 : zD cX2_askPairs 39 (.iload 4) 2 41 := ⟨by decide +kernel, rfl⟩
theorem eX2_askPairs_41 : zDj cX2_askPairs 41 (.if_icmp .gt 18) 18 59 44 := ⟨by decide +kernel, rfl, by decide⟩
theorem eX2_askPairs_44 : zD cX2_askPairs 44 (.aload_n 0) 1 45 := ⟨by decide +kernel, rfl⟩
theorem eX2_askPairs_45 : zD cX2_askPairs 45 (.aload_n 1) 1 46 := ⟨by decide +kernel, rfl⟩
theorem eX2_askPairs_46 : zD cX2_askPairs 46 (.aload_n 2) 1 47 := ⟨by decide +kernel, rfl⟩
theorem eX2_askPairs_47 : zD cX2_askPairs 47 (.aload_n 3) 1 48 := ⟨by decide +kernel, rfl⟩
theorem eX2_askPairs_48 : zD cX2_askPairs 48 (.iload 6) 2 50 := ⟨by decide +kernel, rfl⟩
theorem eX2_askPairs_50 : zD cX2_askPairs 50 (.invokevirtual 52) 3 53 := ⟨by decide +kernel, rfl⟩
theorem eX2_askPairs_53 : zD cX2_askPairs 53 (.iinc 6 1) 3 56 := ⟨by decide +kernel, rfl⟩
theorem eX2_askPairs_56 : zDj cX2_askPairs 56 (.goto (-28)) (-28) 28 59 := ⟨by decide +kernel, rfl, by decide⟩
theorem eX2_askPairs_59 : zD cX2_askPairs 59 .return_ 1 60 := ⟨by decide +kernel, rfl⟩
theorem eX2_askLines_0 : zD cX2_askLines 0 (.aload_n 1) 1 1 := ⟨by decide +kernel, rfl⟩
theorem eX2_askLines_1 : zD cX2_askLines 1 (.iconst 1) 1 2 := ⟨by decide +kernel, rfl⟩
theorem eX2_askLines_2 : zD cX2_askLines 2 (.invokevirtual 46) 3 5 := ⟨by decide +kernel, rfl⟩
theorem eX2_askLines_5 : zDj cX2_askLines 5 (.ifCond .eq 10) 10 15 8 := ⟨by decide +kernel, rfl, by decide⟩
theorem eX2_askLines_8 : zD cX2_askLines 8 (.aload_n 2) 1 9 := ⟨by decide +kernel, rfl⟩
theorem eX2_askLines_9 : zD cX2_askLines 9 (.invokevirtual 60) 3 12 := ⟨by decide +kernel, rfl⟩
theorem eX2_askLines_12 : zDj cX2_askLines 12 (.goto 4) 4 16 15 := ⟨by decide +kernel, rfl, by decide⟩
theorem eX2_askLines_15 : zD cX2_askLines 15 (.iconst 0) 1 16 := ⟨by decide +kernel, rfl⟩
theorem eX2_askLines_16 : zD cX2_askLines 16 (.istore 4) 2 18 := ⟨by decide +kernel, rfl⟩
theorem eX2_askLines_18 : zD cX2_askLines 18 (.iconst 0) 1 19 := ⟨by decide +kernel, rfl⟩
theorem eX2_askLines_19 : zD cX2_askLines 19 (.istore 5) 2 21 := ⟨by decide +kernel, rfl⟩
theorem eX2_askLines_21 : zD cX2_askLines 21 (.iload 5) 2 23 := ⟨by decide +kernel, rfl⟩
theorem eX2_askLines_23 : zD cX2_askLines 23 (.iload 4) 2 25 := ⟨by decide +kernel, rfl⟩
theorem eX2_askLines_25 : zDj cX2_askLines 25 (.if_icmp .ge 25) 25 50 28 := ⟨by decide +kernel, rfl, by decide⟩
theorem eX2_askLines_28 : zD cX2_askLines 28 (.aload_n 0) 1 29 := ⟨by decide +kernel, rfl⟩
theorem eX2_askLines_29 : zD cX2_askLines 29 (.getfield 31) 3 32 := ⟨by decide +kernel, rfl⟩
theorem eX2_askLines_32 : zD cX2_askLines 32 (.iload_n 3) 1 33 := ⟨by decide +kernel, rfl⟩
theorem eX2_askLines_33 : zDj cX2_askLines 33 (.if_icmp .gt 17) 17 50 36 := ⟨by decide +kernel, rfl, by decide⟩
theorem eX2_askLines_36 : zD cX2_askLines 36 (.aload_n 0) 1 37 := ⟨by decide +kernel, rfl⟩
theorem eX2_askLines_37 : zD cX2_askLines 37 (.aload_n 1) 1 38 := ⟨by decide +kernel, rfl⟩
theorem eX2_askLines_38 : zD cX2_askLines 38 (.aload_n 2) 1 39 := ⟨by decide +kernel, rfl⟩
theorem eX2_askLines_39 : zD cX2_askLines 39 (.iload 5) 2 41 := ⟨by decide +kernel, rfl⟩
theorem eX2_askLines_41 : zD cX2_askLines 41 (.invokevirtual 56) 3 44 := ⟨by decide +kernel, rfl⟩
theorem eX2_askLines_44 : zD cX2_askLines 44 (.iinc 5 1) 3 47 := ⟨by decide +kernel, rfl⟩
theorem eX2_askLines_47 : zDj cX2_askLines 47 (.goto (-26)) (-26) 21 50 := ⟨by decide +kernel, rfl, by decide⟩
theorem eX2_askLines_50 : zD cX2_askLines 50 .return_ 1 51 := ⟨by decide +kernel, rfl⟩
theorem eX2_asksAny_0 : zD cX2_asksAny 0 (.iconst 0) 1 1 := ⟨by decide +kernel, rfl⟩
theorem eX2_asksAny_1 : zD cX2_asksAny 1 (.istore_n 3) 1 2 := ⟨by decide +kernel, rfl⟩
theorem eX2_asksAny_2 : zD cX2_asksAny 2 (.iconst 0) 1 3 := ⟨by decide +kernel, rfl⟩
theorem eX2_asksAny_3 : zD cX2_asksAny 3 (.istore 4) 2 5 := ⟨by decide +kernel, rfl⟩
theorem eX2_asksAny_5 : zD cX2_asksAny 5 (.iload 4) 2 7 := ⟨by decide +kernel, rfl⟩
theorem eX2_asksAny_7 : zD cX2_asksAny 7 (.aload_n 1) 1 8 := ⟨by decide +kernel, rfl⟩
theorem eX2_asksAny_8 : zD cX2_asksAny 8 (.getfield 92) 3 11 := ⟨by decide +kernel, rfl⟩
theorem eX2_asksAny_11 : zDj cX2_asksAny 11 (.if_icmp .ge 55) 55 66 14 := ⟨by decide +kernel, rfl, by decide⟩
theorem eX2_asksAny_14 : zD cX2_asksAny 14 (.iload_n 3) 1 15 := ⟨by decide +kernel, rfl⟩
theorem eX2_asksAny_15 : zDj cX2_asksAny 15 (.ifCond .ne 51) 51 66 18 := ⟨by decide +kernel, rfl, by decide⟩
theorem eX2_asksAny_18 : zD cX2_asksAny 18 (.aload_n 1) 1 19 := ⟨by decide +kernel, rfl⟩
theorem eX2_asksAny_19 : zD cX2_asksAny 19 (.getfield 95) 3 22 := ⟨by decide +kernel, rfl⟩
theorem eX2_asksAny_22 : zD cX2_asksAny 22 (.iload 4) 2 24 := ⟨by decide +kernel, rfl⟩
theorem eX2_asksAny_24 : zD cX2_asksAny 24 .iaload 1 25 := ⟨by decide +kernel, rfl⟩
theorem eX2_asksAny_25 : zD cX2_asksAny 25 (.iload_n 2) 1 26 := ⟨by decide +kernel, rfl⟩
theorem eX2_asksAny_26 : zDj cX2_asksAny 26 (.if_icmp .ne 32) 32 58 29 := ⟨by decide +kernel, rfl, by decide⟩
theorem eX2_asksAny_29 : zD cX2_asksAny 29 (.aload_n 0) 1 30 := ⟨by decide +kernel, rfl⟩
theorem eX2_asksAny_30 : zD cX2_asksAny 30 (.aload_n 1) 1 31 := ⟨by decide +kernel, rfl⟩
theorem eX2_asksAny_31 : zD cX2_asksAny 31 (.getfield 98) 3 34 := ⟨by decide +kernel, rfl⟩
theorem eX2_asksAny_34 : zD cX2_asksAny 34 (.aload_n 1) 1 35 := ⟨by decide +kernel, rfl⟩
theorem eX2_asksAny_35 : zD cX2_asksAny 35 (.getfield 101) 3 38 := ⟨by decide +kernel, rfl⟩
theorem eX2_asksAny_38 : zD cX2_asksAny 38 (.iload 4) 2 40 := ⟨by decide +kernel, rfl⟩
theorem eX2_asksAny_40 : zD cX2_asksAny 40 .iaload 1 41 := ⟨by decide +kernel, rfl⟩
theorem eX2_asksAny_41 : zD cX2_asksAny 41 (.aload_n 1) 1 42 := ⟨by decide +kernel, rfl⟩
theorem eX2_asksAny_42 : zD cX2_asksAny 42 (.getfield 104) 3 45 := ⟨by decide +kernel, rfl⟩
theorem eX2_asksAny_45 : zD cX2_asksAny 45 (.iload 4) 2 47 := ⟨by decide +kernel, rfl⟩
theorem eX2_asksAny_47 : zD cX2_asksAny 47 .iaload 1 48 := ⟨by decide +kernel, rfl⟩
theorem eX2_asksAny_48 : zD cX2_asksAny 48 (.invokevirtual 107) 3 51 := ⟨by decide +kernel, rfl⟩
theorem eX2_asksAny_51 : zDj cX2_asksAny 51 (.ifCond .eq 7) 7 58 54 := ⟨by decide +kernel, rfl, by decide⟩
theorem eX2_asksAny_54 : zD cX2_asksAny 54 (.iconst 1) 1 55 := ⟨by decide +kernel, rfl⟩
theorem eX2_asksAny_55 : zDj cX2_asksAny 55 (.goto 4) 4 59 58 := ⟨by decide +kernel, rfl, by decide⟩
theorem eX2_asksAny_58 : zD cX2_asksAny 58 (.iconst 0) 1 59 := ⟨by decide +kernel, rfl⟩
theorem eX2_asksAny_59 : zD cX2_asksAny 59 (.istore_n 3) 1 60 := ⟨by decide +kernel, rfl⟩
theorem eX2_asksAny_60 : zD cX2_asksAny 60 (.iinc 4 1) 3 63 := ⟨by decide +kernel, rfl⟩
theorem eX2_asksAny_63 : zDj cX2_asksAny 63 (.goto (-58)) (-58) 5 66 := ⟨by decide +kernel, rfl, by decide⟩
theorem eX2_asksAny_66 : zD cX2_asksAny 66 (.iload_n 3) 1 67 := ⟨by decide +kernel, rfl⟩
theorem eX2_asksAny_67 : zD cX2_asksAny 67 .ireturn 1 68 := ⟨by decide +kernel, rfl⟩
theorem eX2_setPages_0 : zD cX2_setPages 0 (.iconst 0) 1 1 := ⟨by decide +kernel, rfl⟩
theorem eX2_setPages_1 : zD cX2_setPages 1 (.istore 4) 2 3 := ⟨by decide +kernel, rfl⟩
theorem eX2_setPages_3 : zD cX2_setPages 3 (.iload 4) 2 5 := ⟨by decide +kernel, rfl⟩
theorem eX2_setPages_5 : zD cX2_setPages 5 (.iconst 4) 1 6 := ⟨by decide +kernel, rfl⟩
theorem eX2_setPages_6 : zDj cX2_setPages 6 (.if_icmp .ge 79) 79 85 9 := ⟨by decide +kernel, rfl, by decide⟩
theorem eX2_setPages_9 : zD cX2_setPages 9 (.iload_n 2) 1 10 := ⟨by decide +kernel, rfl⟩
theorem eX2_setPages_10 : zD cX2_setPages 10 (.iconst 4) 1 11 := ⟨by decide +kernel, rfl⟩
theorem eX2_setPages_11 : zD cX2_setPages 11 .imul 1 12 := ⟨by decide +kernel, rfl⟩
theorem eX2_setPages_12 : zD cX2_setPages 12 (.iload 4) 2 14 := ⟨by decide +kernel, rfl⟩
theorem eX2_setPages_14 : zD cX2_setPages 14 .iadd 1 15 := ⟨by decide +kernel, rfl⟩
theorem eX2_setPages_15 : zD cX2_setPages 15 (.istore 5) 2 17 := ⟨by decide +kernel, rfl⟩
theorem eX2_setPages_17 : zD cX2_setPages 17 (.iload_n 3) 1 18 := ⟨by decide +kernel, rfl⟩
theorem eX2_setPages_18 : zD cX2_setPages 18 (.iconst 4) 1 19 := ⟨by decide +kernel, rfl⟩
theorem eX2_setPages_19 : zD cX2_setPages 19 .imul 1 20 := ⟨by decide +kernel, rfl⟩
theorem eX2_setPages_20 : zD cX2_setPages 20 (.iload 4) 2 22 := ⟨by decide +kernel, rfl⟩
theorem eX2_setPages_22 : zD cX2_setPages 22 .iadd 1 23 := ⟨by decide +kernel, rfl⟩
theorem eX2_setPages_23 : zD cX2_setPages 23 (.istore 6) 2 25 := ⟨by decide +kernel, rfl⟩
theorem eX2_setPages_25 : zD cX2_setPages 25 (.iload 5) 2 27 := ⟨by decide +kernel, rfl⟩
theorem eX2_setPages_27 : zD cX2_setPages 27 (.iconst 0) 1 28 := ⟨by decide +kernel, rfl⟩
theorem eX2_setPages_28 : zD cX2_setPages 28 (.aload_n 1) 1 29 := ⟨by decide +kernel, rfl⟩
theorem eX2_setPages_29 : zD cX2_setPages 29 .arraylength 1 30 := ⟨by decide +kernel, rfl⟩
theorem eX2_setPages_30 : zD cX2_setPages 30 (.iconst 1) 1 31 := ⟨by decide +kernel, rfl⟩
theorem eX2_setPages_31 : zD cX2_setPages 31 .isub 1 32 := ⟨by decide +kernel, rfl⟩
theorem eX2_setPages_32 : zD cX2_setPages 32 (.invokestatic 114) 3 35 := ⟨by decide +kernel, rfl⟩
theorem eX2_setPages_35 : zDj cX2_setPages 35 (.ifCond .eq 44) 44 79 38 := ⟨by decide +kernel, rfl, by decide⟩
theorem eX2_setPages_38 : zD cX2_setPages 38 (.iload 6) 2 40 := ⟨by decide +kernel, rfl⟩
theorem eX2_setPages_40 : zD cX2_setPages 40 (.iconst 0) 1 41 := ⟨by decide +kernel, rfl⟩
theorem eX2_setPages_41 : zD cX2_setPages 41 (.aload_n 1) 1 42 := ⟨by decide +kernel, rfl⟩
theorem eX2_setPages_42 : zD cX2_setPages 42 .arraylength 1 43 := ⟨by decide +kernel, rfl⟩
theorem eX2_setPages_43 : zD cX2_setPages 43 (.iconst 1) 1 44 := ⟨by decide +kernel, rfl⟩
theorem eX2_setPages_44 : zD cX2_setPages 44 .isub 1 45 := ⟨by decide +kernel, rfl⟩
theorem eX2_setPages_45 : zD cX2_setPages 45 (.invokestatic 114) 3 48 := ⟨by decide +kernel, rfl⟩
theorem eX2_setPages_48 : zDj cX2_setPages 48 (.ifCond .eq 31) 31 79 51 := ⟨by decide +kernel, rfl, by decide⟩
theorem eX2_setPages_51 : zD cX2_setPages 51 (.aload_n 0) 1 52 := ⟨by decide +kernel, rfl⟩
theorem eX2_setPages_52 : zD cX2_setPages 52 (.getfield 9) 3 55 := ⟨by decide +kernel, rfl⟩
theorem eX2_setPages_55 : zD cX2_setPages 55 (.bipush 13) 2 57 := ⟨by decide +kernel, rfl⟩
theorem eX2_setPages_57 : zD cX2_setPages 57 (.iload 4) 2 59 := ⟨by decide +kernel, rfl⟩
theorem eX2_setPages_59 : zD cX2_setPages 59 .iadd 1 60 := ⟨by decide +kernel, rfl⟩
theorem eX2_setPages_60 : zD cX2_setPages 60 (.aload_n 1) 1 61 := ⟨by decide +kernel, rfl⟩
theorem eX2_setPages_61 : zD cX2_setPages 61 (.iload 5) 2 63 := ⟨by decide +kernel, rfl⟩
theorem eX2_setPages_63 : zD cX2_setPages 63 .iaload 1 64 := ⟨by decide +kernel, rfl⟩
theorem eX2_setPages_64 : zD cX2_setPages 64 .iastore 1 65 := ⟨by decide +kernel, rfl⟩
theorem eX2_setPages_65 : zD cX2_setPages 65 (.aload_n 0) 1 66 := ⟨by decide +kernel, rfl⟩
theorem eX2_setPages_66 : zD cX2_setPages 66 (.getfield 9) 3 69 := ⟨by decide +kernel, rfl⟩
theorem eX2_setPages_69 : zD cX2_setPages 69 (.bipush 17) 2 71 := ⟨by decide +kernel, rfl⟩
theorem eX2_setPages_71 : zD cX2_setPages 71 (.iload 4) 2 73 := ⟨by decide +kernel, rfl⟩
theorem eX2_setPages_73 : zD cX2_setPages 73 .iadd 1 74 := ⟨by decide +kernel, rfl⟩
theorem eX2_setPages_74 : zD cX2_setPages 74 (.aload_n 1) 1 75 := ⟨by decide +kernel, rfl⟩
theorem eX2_setPages_75 : zD cX2_setPages 75 (.iload 6) 2 77 := ⟨by decide +kernel, rfl⟩
theorem eX2_setPages_77 : zD cX2_setPages 77 .iaload 1 78 := ⟨by decide +kernel, rfl⟩
theorem eX2_setPages_78 : zD cX2_setPages 78 .iastore 1 79 := ⟨by decide +kernel, rfl⟩
theorem eX2_setPages_79 : zD cX2_setPages 79 (.iinc 4 1) 3 82 := ⟨by decide +kernel, rfl⟩
theorem eX2_setPages_82 : zDj cX2_setPages 82 (.goto (-79)) (-79) 3 85 := ⟨by decide +kernel, rfl, by decide⟩
theorem eX2_setPages_85 : zD cX2_setPages 85 .return_ 1 86 := ⟨by decide +kernel, rfl⟩
theorem zqJ_begin (l : Launch) (G : Zg) (σ : Zm) (o0 : Nat) (x1 : Int) (x2 : Int) (h0 : zin 294 o0 2) (n1 : zw x1 = x1) (n2 : zw x2 = x2) (res : Int × Zm) (he : fJ_begin σ o0 x1 x2 = some res) : zM l yX2_begin cX2_begin 3 none 1 G 294 ztt σ [.ref (zad G o0), .int (zI x1), .int (zI x2)] none res.2 := by
  refine zM_of he (by decide +kernel) (Nat.le_of_ble_eq_true rfl) (lv := [(0, .ref (zad G o0)), (1, .int (zI x1)), (2, .int (zI x2))]) rfl (fun p e s m below meth c C => ?_)
  unfold fJ_begin
  refine zr_aloadn C 0 eX2_begin_0 rfl ?_
  refine zr_iconst C eX2_begin_1 rfl ?_
  refine zr_iloadn C 1 eX2_begin_2 rfl ?_
  refine zr_mmax C lk_X2_40 zy_mmax zrm_1_2_0 (Nat.le_of_ble_eq_true rfl) w_1 n1 eX2_begin_3 (fun v1 nv1 => ?_)
  refine zr_putI C ff_X2_21 rfl h0 eX2_begin_6 (fun σ2 => ?_)
  refine zr_aloadn C 0 eX2_begin_9 rfl ?_
  refine zr_iloadn C 2 eX2_begin_10 rfl ?_
  refine zr_putI C ff_X2_25 rfl h0 eX2_begin_11 (fun σ3 => ?_)
  refine zr_aloadn C 0 eX2_begin_14 rfl ?_
  refine zr_iconst C eX2_begin_15 rfl ?_
  refine zr_putI C ff_X2_28 rfl h0 eX2_begin_16 (fun σ4 => ?_)
  refine zr_aloadn C 0 eX2_begin_19 rfl ?_
  refine zr_iconst C eX2_begin_20 rfl ?_
  refine zr_putI C ff_X2_31 rfl h0 eX2_begin_21 (fun σ5 => ?_)
  exact zr_vret C eX2_begin_24
theorem zqJ_combine (l : Launch) (G : Zg) (σ : Zm) (x0 : Int) (x1 : Int) (x3 : Int) (n0 : zw x0 = x0) (n1 : zx x1 = x1) (n3 : zx x3 = x3) (res : Int × Zm) (he : fJ_combine σ x0 x1 x3 = some res) : zM l yX2_combine cX2_combine 5 (some .long) 0 G 294 ztt σ [.int (zI x0), .long (zJ x1), .long (zJ x3)] (some (.long (zJ res.1))) res.2 := by
  refine zM_of he (by decide +kernel) (Nat.le_of_ble_eq_true rfl) (lv := [(0, .int (zI x0)), (1, .long (zJ x1)), (3, .long (zJ x3))]) rfl (fun p e s m below meth c C => ?_)
  unfold fJ_combine
  refine zr_iloadn C 0 eX2_combine_0 rfl ?_
  refine zr_if (fun hh1 => ?_) (fun hh1 => ?_)
  · refine zr_tbl C eX2_combine_1 1 n0 hh1 (by decide) (by decide) rfl rfl ?_
    refine zr_lloadn C 1 eX2_combine_64 rfl ?_
    refine zr_lloadn C 2 eX2_combine_65 rfl ?_
    refine zr_lor C eX2_combine_66 ?_
    exact zr_lret C eX2_combine_67
  refine zr_if (fun hh2 => ?_) (fun hh2 => ?_)
  · refine zr_tbl C eX2_combine_1 2 n0 hh2 (by decide) (by decide) rfl rfl ?_
    refine zr_lloadn C 1 eX2_combine_68 rfl ?_
    refine zr_lloadn C 2 eX2_combine_69 rfl ?_
    refine zr_land C eX2_combine_70 ?_
    exact zr_lret C eX2_combine_71
  refine zr_if (fun hh3 => ?_) (fun hh3 => ?_)
  · refine zr_tbl C eX2_combine_1 4 n0 hh3 (by decide) (by decide) rfl rfl ?_
    refine zr_lloadn C 1 eX2_combine_72 rfl ?_
    refine zr_lloadn C 2 eX2_combine_73 rfl ?_
    refine zr_lcmp C eX2_combine_74 ?_
    refine zr_if_ge C eX2_combine_75 (zlc_n _ _) ?_ ?_
    · refine zr_lconst (a := 0) C eX2_combine_82 rfl ?_
      exact zr_lret C eX2_combine_83
    refine zr_lconst (a := 1) C eX2_combine_78 rfl ?_
    refine zr_goto C eX2_combine_79 ?_
    exact zr_lret C eX2_combine_83
  refine zr_if (fun hh4 => ?_) (fun hh4 => ?_)
  · refine zr_tbl C eX2_combine_1 5 n0 hh4 (by decide) (by decide) rfl rfl ?_
    refine zr_lloadn C 1 eX2_combine_84 rfl ?_
    refine zr_lloadn C 2 eX2_combine_85 rfl ?_
    refine zr_lcmp C eX2_combine_86 ?_
    refine zr_if_gt C eX2_combine_87 (zlc_n _ _) ?_ ?_
    · refine zr_lconst (a := 0) C eX2_combine_94 rfl ?_
      exact zr_lret C eX2_combine_95
    refine zr_lconst (a := 1) C eX2_combine_90 rfl ?_
    refine zr_goto C eX2_combine_91 ?_
    exact zr_lret C eX2_combine_95
  refine zr_if (fun hh5 => ?_) (fun hh5 => ?_)
  · refine zr_tbl C eX2_combine_1 6 n0 hh5 (by decide) (by decide) rfl rfl ?_
    refine zr_lloadn C 1 eX2_combine_96 rfl ?_
    refine zr_lloadn C 2 eX2_combine_97 rfl ?_
    refine zr_lcmp C eX2_combine_98 ?_
    refine zr_if_le C eX2_combine_99 (zlc_n _ _) ?_ ?_
    · refine zr_lconst (a := 0) C eX2_combine_106 rfl ?_
      exact zr_lret C eX2_combine_107
    refine zr_lconst (a := 1) C eX2_combine_102 rfl ?_
    refine zr_goto C eX2_combine_103 ?_
    exact zr_lret C eX2_combine_107
  refine zr_if (fun hh6 => ?_) (fun hh6 => ?_)
  · refine zr_tbl C eX2_combine_1 7 n0 hh6 (by decide) (by decide) rfl rfl ?_
    refine zr_lloadn C 1 eX2_combine_108 rfl ?_
    refine zr_lloadn C 2 eX2_combine_109 rfl ?_
    refine zr_lcmp C eX2_combine_110 ?_
    refine zr_if_lt C eX2_combine_111 (zlc_n _ _) ?_ ?_
    · refine zr_lconst (a := 0) C eX2_combine_118 rfl ?_
      exact zr_lret C eX2_combine_119
    refine zr_lconst (a := 1) C eX2_combine_114 rfl ?_
    refine zr_goto C eX2_combine_115 ?_
    exact zr_lret C eX2_combine_119
  refine zr_if (fun hh7 => ?_) (fun hh7 => ?_)
  · refine zr_tbl C eX2_combine_1 8 n0 hh7 (by decide) (by decide) rfl rfl ?_
    refine zr_lloadn C 1 eX2_combine_120 rfl ?_
    refine zr_lloadn C 2 eX2_combine_121 rfl ?_
    refine zr_lcmp C eX2_combine_122 ?_
    refine zr_if_ne C eX2_combine_123 (zlc_n _ _) ?_ ?_
    · refine zr_lconst (a := 0) C eX2_combine_130 rfl ?_
      exact zr_lret C eX2_combine_131
    refine zr_lconst (a := 1) C eX2_combine_126 rfl ?_
    refine zr_goto C eX2_combine_127 ?_
    exact zr_lret C eX2_combine_131
  refine zr_if (fun hh8 => ?_) (fun hh8 => ?_)
  · refine zr_tbl C eX2_combine_1 9 n0 hh8 (by decide) (by decide) rfl rfl ?_
    refine zr_lloadn C 1 eX2_combine_132 rfl ?_
    refine zr_lloadn C 2 eX2_combine_133 rfl ?_
    refine zr_lcmp C eX2_combine_134 ?_
    refine zr_if_eq C eX2_combine_135 (zlc_n _ _) ?_ ?_
    · refine zr_lconst (a := 0) C eX2_combine_142 rfl ?_
      exact zr_lret C eX2_combine_143
    refine zr_lconst (a := 1) C eX2_combine_138 rfl ?_
    refine zr_goto C eX2_combine_139 ?_
    exact zr_lret C eX2_combine_143
  refine zr_if (fun hh9 => ?_) (fun hh9 => ?_)
  · refine zr_tbl C eX2_combine_1 10 n0 hh9 (by decide) (by decide) rfl rfl ?_
    refine zr_lloadn C 1 eX2_combine_144 rfl ?_
    refine zr_lloadn C 2 eX2_combine_145 rfl ?_
    refine zr_ladd C eX2_combine_146 ?_
    exact zr_lret C eX2_combine_147
  refine zr_if (fun hh10 => ?_) (fun hh10 => ?_)
  · refine zr_tbl C eX2_combine_1 11 n0 hh10 (by decide) (by decide) rfl rfl ?_
    refine zr_lloadn C 1 eX2_combine_148 rfl ?_
    refine zr_lloadn C 2 eX2_combine_149 rfl ?_
    refine zr_lsub C eX2_combine_150 ?_
    exact zr_lret C eX2_combine_151
  refine zr_if (fun hh11 => ?_) (fun hh11 => ?_)
  · refine zr_tbl C eX2_combine_1 12 n0 hh11 (by decide) (by decide) rfl rfl ?_
    refine zr_lloadn C 1 eX2_combine_152 rfl ?_
    refine zr_lloadn C 2 eX2_combine_153 rfl ?_
    refine zr_lmul C eX2_combine_154 ?_
    exact zr_lret C eX2_combine_155
  refine zr_tblD C eX2_combine_1 [1, 2, 4, 5, 6, 7, 8, 9, 10, 11, 12] n0 (by intro v hv; rcases (show v = 1 ∨ v = 2 ∨ v = 4 ∨ v = 5 ∨ v = 6 ∨ v = 7 ∨ v = 8 ∨ v = 9 ∨ v = 10 ∨ v = 11 ∨ v = 12 by simpa using hv) with rfl | rfl | rfl | rfl | rfl | rfl | rfl | rfl | rfl | rfl | rfl <;> assumption) (by decide +kernel) rfl ?_
  refine zr_lloadn C 2 eX2_combine_156 rfl ?_
  refine zr_lconst (a := 0) C eX2_combine_157 rfl ?_
  refine zr_lcmp C eX2_combine_158 ?_
  refine zr_if_ne C eX2_combine_159 (zlc_n _ _) ?_ ?_
  · refine zr_lloadn C 1 eX2_combine_166 rfl ?_
    refine zr_lloadn C 2 eX2_combine_167 rfl ?_
    refine zr_ldiv C eX2_combine_168 n1 n3 ?_
    exact zr_lret C eX2_combine_169
  refine zr_lconst (a := 0) C eX2_combine_162 rfl ?_
  refine zr_goto C eX2_combine_163 ?_
  exact zr_lret C eX2_combine_169
theorem wJ_value_127 {G : Zg} {p : Program} {l : Launch} {e : Env} {s : State} {m : MethodId} {args : Array Value} {below : List Frame} {meth : Method} {c : Code} (C : zC G p s m args meth c cX2_value 10 RX2 (some .int)) {res : Int × Zm} (R0 : Nat → Nat → Int → Int → Int → Zm → Zr) (K259 : Nat → Int → Zm → Zr) (ih : ∀ (o0 : Nat) (o1 : Nat) (x3 : Int) (x4 : Int) (x5 : Int) (h0 : zin 294 o0 2) (h1 : zin 294 o1 20) (n3 : zw x3 = x3) (n4 : zw x4 = x4) (n5 : zw x5 = x5) (σ : Zm), zR G p l e (zrm 1) s m args below meth c 10 0 0 (zQm below args s G 294 ztt (some (.int (zI res.1))) res.2) 294 ztt res σ (R0 o0 o1 x3 x4 x5 σ) [(0, .ref (zad G o0)), (1, .ref (zad G o1)), (3, .int (zI x3)), (4, .int (zI x4)), (5, .int (zI x5))] 10 []) (hK259 : ∀ (o0 : Nat) (x4 : Int) (h0 : zin 294 o0 2) (n4 : zw x4 = x4) (σ : Zm), zR G p l e (zrm 1) s m args below meth c 10 0 0 (zQm below args s G 294 ztt (some (.int (zI res.1))) res.2) 294 ztt res σ (K259 o0 x4 σ) [(0, .ref (zad G o0)), (4, .int (zI x4))] 259 []) (o0 : Nat) (o1 : Nat) (x3 : Int) (x4 : Int) (x5 : Int) (x7 : Int) (h0 : zin 294 o0 2) (h1 : zin 294 o1 20) (n3 : zw x3 = x3) (n4 : zw x4 = x4) (n5 : zw x5 = x5) (n7 : zw x7 = x7) (σ : Zm) : zR G p l e (zrm 1) s m args below meth c 10 0 0 (zQm below args s G 294 ztt (some (.int (zI res.1))) res.2) 294 ztt res σ (fJ_value_127 R0 K259 o0 o1 x3 x4 x5 x7 σ) [(0, .ref (zad G o0)), (1, .ref (zad G o1)), (3, .int (zI x3)), (4, .int (zI x4)), (5, .int (zI x5)), (7, .int (zI x7))] 127 [] := by
  unfold fJ_value_127
  refine zr_iload C 3 eX2_value_127 rfl ?_
  refine zr_iconst C eX2_value_129 rfl ?_
  refine zr_icmp_ge C eX2_value_130 n4 w_1 ?_ ?_
  · refine zr_aloadn C 0 eX2_value_135 rfl ?_
    refine zr_getR C ff_X2_15 rfl h0 rfl ((zk_2_1 h0).1) eX2_value_136 ?_
    refine zr_iload C 3 eX2_value_139 rfl ?_
    refine zr_iconst C eX2_value_141 rfl ?_
    refine zr_isub C eX2_value_142 ?_
    refine zr_iload C 5 eX2_value_143 rfl ?_
    refine zr_iconst C eX2_value_145 rfl ?_
    refine zr_icmp_ne C eX2_value_146 n7 w_3 ?_ ?_
    · refine zr_aloadn C 0 eX2_value_163 rfl ?_
      refine zr_getR C ff_X2_15 rfl h0 rfl ((zk_2_1 h0).1) eX2_value_164 ?_
      refine zr_iload C 3 eX2_value_167 rfl ?_
      refine zr_iconst C eX2_value_169 rfl ?_
      refine zr_isub C eX2_value_170 ?_
      refine zr_iald C ((zk_2_1 h0).2) (zln_2_1 h0) rfl eX2_value_171 (fun v4 nv4 => ?_)
      refine zr_ineg C eX2_value_172 ?_
      refine zr_iast C ((zk_2_1 h0).2) (zln_2_1 h0) rfl eX2_value_173 (fun σ5 => ?_)
      refine zr_goto C eX2_value_174 ?_
      refine zr_iinc (lv' := [(5, .int (zI (x5 + 1))), (0, .ref (zad G o0)), (1, .ref (zad G o1)), (3, .int (zI x3)), (4, .int (zI x4)), (7, .int (zI x7))]) C 4 eX2_value_253 rfl (by decide) rfl ?_
      refine zr_goto C eX2_value_256 ?_
      refine zr_lv [1, 2, 3, 4, 0] rfl ?_
      exact zr_lve (zs_p (zs_p (zs_p (zs_p (zs_pi (zI_w (x5 + 1)).symm rfl))))) (ih o0 o1 x3 x4 (zw (x5 + 1)) h0 h1 n3 n4 (zw_w (x5 + 1)) _)
    refine zr_iconst C eX2_value_149 rfl ?_
    refine zr_aloadn C 0 eX2_value_150 rfl ?_
    refine zr_getR C ff_X2_15 rfl h0 rfl ((zk_2_1 h0).1) eX2_value_151 ?_
    refine zr_iload C 3 eX2_value_154 rfl ?_
    refine zr_iconst C eX2_value_156 rfl ?_
    refine zr_isub C eX2_value_157 ?_
    refine zr_iald C ((zk_2_1 h0).2) (zln_2_1 h0) rfl eX2_value_158 (fun v6 nv6 => ?_)
    refine zr_isub C eX2_value_159 ?_
    refine zr_goto C eX2_value_160 ?_
    refine zr_iast C ((zk_2_1 h0).2) (zln_2_1 h0) rfl eX2_value_173 (fun σ7 => ?_)
    refine zr_goto C eX2_value_174 ?_
    refine zr_iinc (lv' := [(5, .int (zI (x5 + 1))), (0, .ref (zad G o0)), (1, .ref (zad G o1)), (3, .int (zI x3)), (4, .int (zI x4)), (7, .int (zI x7))]) C 4 eX2_value_253 rfl (by decide) rfl ?_
    refine zr_goto C eX2_value_256 ?_
    refine zr_lv [1, 2, 3, 4, 0] rfl ?_
    exact zr_lve (zs_p (zs_p (zs_p (zs_p (zs_pi (zI_w (x5 + 1)).symm rfl))))) (ih o0 o1 x3 x4 (zw (x5 + 1)) h0 h1 n3 n4 (zw_w (x5 + 1)) _)
  refine zr_iconst C eX2_value_133 rfl ?_
  exact zr_iret C eX2_value_134
theorem wJ_value_10 {G : Zg} {p : Program} {l : Launch} {e : Env} {s : State} {m : MethodId} {args : Array Value} {below : List Frame} {meth : Method} {c : Code} (C : zC G p s m args meth c cX2_value 10 RX2 (some .int)) {res : Int × Zm} (K259 : Nat → Int → Zm → Zr) (hK259 : ∀ (o0 : Nat) (x4 : Int) (h0 : zin 294 o0 2) (n4 : zw x4 = x4) (σ : Zm), zR G p l e (zrm 1) s m args below meth c 10 0 0 (zQm below args s G 294 ztt (some (.int (zI res.1))) res.2) 294 ztt res σ (K259 o0 x4 σ) [(0, .ref (zad G o0)), (4, .int (zI x4))] 259 []) : ∀ (n : Nat) (o0 : Nat) (o1 : Nat) (x3 : Int) (x4 : Int) (x5 : Int) (h0 : zin 294 o0 2) (h1 : zin 294 o1 20) (n3 : zw x3 = x3) (n4 : zw x4 = x4) (n5 : zw x5 = x5) (σ : Zm), zR G p l e (zrm 1) s m args below meth c 10 0 0 (zQm below args s G 294 ztt (some (.int (zI res.1))) res.2) 294 ztt res σ (fJ_value_10 n o0 o1 x3 x4 x5 σ K259) [(0, .ref (zad G o0)), (1, .ref (zad G o1)), (3, .int (zI x3)), (4, .int (zI x4)), (5, .int (zI x5))] 10 []
  | 0, _, _, _, _, _, _, _, _, _, _, _ => zr_none
  | n + 1, o0, o1, x3, x4, x5, h0, h1, n3, n4, n5, σ => by
    have ih := fun (o0 : Nat) (o1 : Nat) (x3 : Int) (x4 : Int) (x5 : Int) (h0 : zin 294 o0 2) (h1 : zin 294 o1 20) (n3 : zw x3 = x3) (n4 : zw x4 = x4) (n5 : zw x5 = x5) (σ : Zm) => wJ_value_10 (l := l) (e := e) (below := below) C K259 hK259 (res := res) n o0 o1 x3 x4 x5 h0 h1 n3 n4 n5 σ
    rw [fJ_value_10]
    refine zr_letf (fun R0 hR0 => ?_)
    have ih : ∀ (o0 : Nat) (o1 : Nat) (x3 : Int) (x4 : Int) (x5 : Int) (h0 : zin 294 o0 2) (h1 : zin 294 o1 20) (n3 : zw x3 = x3) (n4 : zw x4 = x4) (n5 : zw x5 = x5) (σ : Zm), zR G p l e (zrm 1) s m args below meth c 10 0 0 (zQm below args s G 294 ztt (some (.int (zI res.1))) res.2) 294 ztt res σ (R0 o0 o1 x3 x4 x5 σ) [(0, .ref (zad G o0)), (1, .ref (zad G o1)), (3, .int (zI x3)), (4, .int (zI x4)), (5, .int (zI x5))] 10 [] := by rw [hR0]; exact ih
    clear hR0
    refine zr_iload C 4 eX2_value_10 rfl ?_
    refine zr_iloadn C 2 eX2_value_12 rfl ?_
    refine zr_icmp_ge C eX2_value_13 n5 n3 ?_ ?_
    · refine zr_lv [0, 3] rfl ?_
      exact hK259 o0 x4 h0 n4 _
    refine zr_iload C 4 eX2_value_16 rfl ?_
    refine zr_aloadn C 1 eX2_value_18 rfl ?_
    refine zr_alen (A := ((zLN o1 : Nat) : Int)) C h1 (by decide) rfl rfl eX2_value_19 ?_
    refine zr_icmp_ge C eX2_value_20 n5 (zw_LN _) ?_ ?_
    · refine zr_lv [0, 3] rfl ?_
      exact hK259 o0 x4 h0 n4 _
    refine zr_iload C 3 eX2_value_23 rfl ?_
    refine zr_aloadn C 0 eX2_value_25 rfl ?_
    refine zr_getR C ff_X2_15 rfl h0 rfl ((zk_2_1 h0).1) eX2_value_26 ?_
    refine zr_alen (A := 300) C ((zk_2_1 h0).2) (by decide) (zln_2_1 h0) rfl eX2_value_29 ?_
    refine zr_icmp_ge C eX2_value_30 n4 w_300 ?_ ?_
    · refine zr_lv [0, 3] rfl ?_
      exact hK259 o0 x4 h0 n4 _
    refine zr_aloadn C 1 eX2_value_33 rfl ?_
    refine zr_iload C 4 eX2_value_34 rfl ?_
    refine zr_iald C h1 rfl n5 eX2_value_36 (fun v2 nv2 => ?_)
    refine zr_istore (lv' := [(6, .int (zI v2)), (0, .ref (zad G o0)), (1, .ref (zad G o1)), (3, .int (zI x3)), (4, .int (zI x4)), (5, .int (zI x5))]) C eX2_value_37 (by decide) rfl ?_
    refine zr_iload C 0 eX2_value_39 rfl ?_
    refine zr_sipush (a := 2000) C eX2_value_41 rfl ?_
    refine zr_isub C eX2_value_44 ?_
    refine zr_st (show _ = .int (zI (zw (v2 - 2000))) :: _ from congrArg (· :: _) (congrArg Value.int (zI_w (v2 - 2000)).symm)) ?_
    refine zr_letw (P := fun z => .int (zI z) :: _) (zw_w (v2 - 2000)) (fun v3 nv3 => ?_)
    refine zr_istore (lv' := [(7, .int (zI v3)), (6, .int (zI v2)), (0, .ref (zad G o0)), (1, .ref (zad G o1)), (3, .int (zI x3)), (4, .int (zI x4)), (5, .int (zI x5))]) C eX2_value_45 (by decide) rfl ?_
    refine zr_iload C 1 eX2_value_47 rfl ?_
    refine zr_sipush (a := 1000) C eX2_value_49 rfl ?_
    refine zr_icmp_ge C eX2_value_52 nv2 w_1000 ?_ ?_
    · refine zr_iload C 0 eX2_value_70 rfl ?_
      refine zr_if_ge C eX2_value_72 nv3 ?_ ?_
      · refine zr_iload C 0 eX2_value_114 rfl ?_
        refine zr_iconst C eX2_value_116 rfl ?_
        refine zr_icmp_eq C eX2_value_117 nv3 w_3 ?_ ?_
        · refine zr_lv [2, 3, 4, 5, 6, 0] rfl ?_
          exact wJ_value_127 C R0 K259 ih hK259 o0 o1 x3 x4 x5 v3 h0 h1 n3 n4 n5 nv3 σ
        refine zr_iload C 0 eX2_value_120 rfl ?_
        refine zr_bipush (a := 14) C eX2_value_122 rfl ?_
        refine zr_icmp_ne C eX2_value_124 nv3 w_14 ?_ ?_
        · refine zr_iload C 5 eX2_value_177 rfl ?_
          refine zr_iconst C eX2_value_179 rfl ?_
          refine zr_icmp_ge C eX2_value_180 n4 w_2 ?_ ?_
          · refine zr_iinc (lv' := [(4, .int (zI (x4 + (-1)))), (7, .int (zI v3)), (6, .int (zI v2)), (0, .ref (zad G o0)), (1, .ref (zad G o1)), (3, .int (zI x3)), (5, .int (zI x5))]) C 5 eX2_value_185 rfl (by decide) rfl ?_
            refine zr_iload C 1 eX2_value_188 rfl ?_
            refine zr_aloadn C 3 eX2_value_190 rfl ?_
            refine zr_getR C ff_X2_15 rfl h0 rfl ((zk_2_1 h0).1) eX2_value_191 ?_
            refine zr_iload C 0 eX2_value_194 rfl ?_
            refine zr_iconst C eX2_value_196 rfl ?_
            refine zr_isub C eX2_value_197 ?_
            refine zr_iald C ((zk_2_1 h0).2) (zln_2_1 h0) rfl eX2_value_198 (fun v8 nv8 => ?_)
            refine zr_i2l C eX2_value_199 nv8 ?_
            refine zr_aloadn C 3 eX2_value_200 rfl ?_
            refine zr_getR C ff_X2_15 rfl h0 rfl ((zk_2_1 h0).1) eX2_value_201 ?_
            refine zr_iload C 0 eX2_value_204 rfl ?_
            refine zr_iald C ((zk_2_1 h0).2) (zln_2_1 h0) rfl eX2_value_206 (fun v9 nv9 => ?_)
            refine zr_i2l C eX2_value_207 nv9 ?_
            refine zr_callSl C [.int (zI v3), .long (zJ v8), .long (zJ v9)] zy_X2_combine zs_X2_combine lk_X2_118 zrm_1_5_0 (fun r hr => zqJ_combine l G σ v3 v8 v9 nv3 (zxw nv8) (zxw nv9) r hr) rfl rfl (Nat.le_of_ble_eq_true rfl) eX2_value_208 (fun v11 nv11 σ10 => ?_)
            refine zr_lstore (lv' := [(8, .long (zJ v11)), (4, .int (zI (x4 + (-1)))), (7, .int (zI v3)), (6, .int (zI v2)), (0, .ref (zad G o0)), (1, .ref (zad G o1)), (3, .int (zI x3)), (5, .int (zI x5))]) C eX2_value_211 (by decide) rfl ?_
            refine zr_aloadn C 4 eX2_value_213 rfl ?_
            refine zr_getR C ff_X2_15 rfl h0 rfl ((zk_2_1 h0).1) eX2_value_214 ?_
            refine zr_iload C 1 eX2_value_217 rfl ?_
            refine zr_iconst C eX2_value_219 rfl ?_
            refine zr_isub C eX2_value_220 ?_
            refine zr_lload C 0 eX2_value_221 rfl ?_
            refine zr_ldc2 (a := 1000000) C eX2_value_223 zq_X2_122 rfl ?_
            refine zr_lcmp C eX2_value_226 ?_
            refine zr_if_le C eX2_value_227 (zlc_n _ _) ?_ ?_
            · refine zr_lload C 0 eX2_value_235 rfl ?_
              refine zr_ldc2 (a := (-1000000)) C eX2_value_237 zq_X2_125 rfl ?_
              refine zr_lcmp C eX2_value_240 ?_
              refine zr_if_ge C eX2_value_241 (zlc_n _ _) ?_ ?_
              · refine zr_lload C 0 eX2_value_249 rfl ?_
                refine zr_l2i C eX2_value_251 ?_
                refine zr_iast C ((zk_2_1 h0).2) (zln_2_1 h0) rfl eX2_value_252 (fun σ12 => ?_)
                refine zr_iinc (lv' := [(5, .int (zI (x5 + 1))), (8, .long (zJ v11)), (4, .int (zI (x4 + (-1)))), (7, .int (zI v3)), (6, .int (zI v2)), (0, .ref (zad G o0)), (1, .ref (zad G o1)), (3, .int (zI x3))]) C 7 eX2_value_253 rfl (by decide) rfl ?_
                refine zr_goto C eX2_value_256 ?_
                refine zr_lv [5, 6, 7, 2, 0] rfl ?_
                exact zr_lve (zs_p (zs_p (zs_p (zs_pi (zI_w (x4 + (-1))).symm (zs_pi (zI_w (x5 + 1)).symm rfl))))) (ih o0 o1 x3 (zw (x4 + (-1))) (zw (x5 + 1)) h0 h1 n3 (zw_w (x4 + (-1))) (zw_w (x5 + 1)) _)
              refine zr_ldc (a := (-1000000)) C eX2_value_244 zq_X2_127 rfl ?_
              refine zr_goto C eX2_value_246 ?_
              refine zr_iast C ((zk_2_1 h0).2) (zln_2_1 h0) rfl eX2_value_252 (fun σ13 => ?_)
              refine zr_iinc (lv' := [(5, .int (zI (x5 + 1))), (8, .long (zJ v11)), (4, .int (zI (x4 + (-1)))), (7, .int (zI v3)), (6, .int (zI v2)), (0, .ref (zad G o0)), (1, .ref (zad G o1)), (3, .int (zI x3))]) C 7 eX2_value_253 rfl (by decide) rfl ?_
              refine zr_goto C eX2_value_256 ?_
              refine zr_lv [5, 6, 7, 2, 0] rfl ?_
              exact zr_lve (zs_p (zs_p (zs_p (zs_pi (zI_w (x4 + (-1))).symm (zs_pi (zI_w (x5 + 1)).symm rfl))))) (ih o0 o1 x3 (zw (x4 + (-1))) (zw (x5 + 1)) h0 h1 n3 (zw_w (x4 + (-1))) (zw_w (x5 + 1)) _)
            refine zr_ldc (a := 1000000) C eX2_value_230 zq_X2_124 rfl ?_
            refine zr_goto C eX2_value_232 ?_
            refine zr_iast C ((zk_2_1 h0).2) (zln_2_1 h0) rfl eX2_value_252 (fun σ14 => ?_)
            refine zr_iinc (lv' := [(5, .int (zI (x5 + 1))), (8, .long (zJ v11)), (4, .int (zI (x4 + (-1)))), (7, .int (zI v3)), (6, .int (zI v2)), (0, .ref (zad G o0)), (1, .ref (zad G o1)), (3, .int (zI x3))]) C 7 eX2_value_253 rfl (by decide) rfl ?_
            refine zr_goto C eX2_value_256 ?_
            refine zr_lv [5, 6, 7, 2, 0] rfl ?_
            exact zr_lve (zs_p (zs_p (zs_p (zs_pi (zI_w (x4 + (-1))).symm (zs_pi (zI_w (x5 + 1)).symm rfl))))) (ih o0 o1 x3 (zw (x4 + (-1))) (zw (x5 + 1)) h0 h1 n3 (zw_w (x4 + (-1))) (zw_w (x5 + 1)) _)
          refine zr_iconst C eX2_value_183 rfl ?_
          exact zr_iret C eX2_value_184
        refine zr_lv [2, 3, 4, 5, 6, 0] rfl ?_
        exact wJ_value_127 C R0 K259 ih hK259 o0 o1 x3 x4 x5 v3 h0 h1 n3 n4 n5 nv3 σ
      refine zr_iload C 1 eX2_value_75 rfl ?_
      refine zr_sipush (a := 1000) C eX2_value_77 rfl ?_
      refine zr_isub C eX2_value_80 ?_
      refine zr_st (show _ = .int (zI (zw (v2 - 1000))) :: _ from congrArg (· :: _) (congrArg Value.int (zI_w (v2 - 1000)).symm)) ?_
      refine zr_letw (P := fun z => .int (zI z) :: _) (zw_w (v2 - 1000)) (fun v15 nv15 => ?_)
      refine zr_istore (lv' := [(8, .int (zI v15)), (7, .int (zI v3)), (6, .int (zI v2)), (0, .ref (zad G o0)), (1, .ref (zad G o1)), (3, .int (zI x3)), (4, .int (zI x4)), (5, .int (zI x5))]) C eX2_value_81 (by decide) rfl ?_
      refine zr_aloadn C 3 eX2_value_83 rfl ?_
      refine zr_getR C ff_X2_15 rfl h0 rfl ((zk_2_1 h0).1) eX2_value_84 ?_
      refine zr_iload C 6 eX2_value_87 rfl ?_
      refine zr_iload C 0 eX2_value_89 rfl ?_
      refine zr_bipush (a := 21) C eX2_value_91 rfl ?_
      refine zr_icmp_ge C eX2_value_93 nv15 w_21 ?_ ?_
      · refine zr_iconst C eX2_value_106 rfl ?_
        refine zr_iast C ((zk_2_1 h0).2) (zln_2_1 h0) n4 eX2_value_107 (fun σ16 => ?_)
        refine zr_iinc (lv' := [(4, .int (zI (x4 + 1))), (8, .int (zI v15)), (7, .int (zI v3)), (6, .int (zI v2)), (0, .ref (zad G o0)), (1, .ref (zad G o1)), (3, .int (zI x3)), (5, .int (zI x5))]) C 6 eX2_value_108 rfl (by decide) rfl ?_
        refine zr_goto C eX2_value_111 ?_
        refine zr_iinc (lv' := [(5, .int (zI (x5 + 1))), (4, .int (zI (x4 + 1))), (8, .int (zI v15)), (7, .int (zI v3)), (6, .int (zI v2)), (0, .ref (zad G o0)), (1, .ref (zad G o1)), (3, .int (zI x3))]) C 7 eX2_value_253 rfl (by decide) rfl ?_
        refine zr_goto C eX2_value_256 ?_
        refine zr_lv [5, 6, 7, 1, 0] rfl ?_
        exact zr_lve (zs_p (zs_p (zs_p (zs_pi (zI_w (x4 + 1)).symm (zs_pi (zI_w (x5 + 1)).symm rfl))))) (ih o0 o1 x3 (zw (x4 + 1)) (zw (x5 + 1)) h0 h1 n3 (zw_w (x4 + 1)) (zw_w (x5 + 1)) _)
      refine zr_aloadn C 3 eX2_value_96 rfl ?_
      refine zr_getR C ff_X2_9 rfl h0 rfl ((zk_2_0 h0).1) eX2_value_97 ?_
      refine zr_iload C 0 eX2_value_100 rfl ?_
      refine zr_iald C ((zk_2_0 h0).2) (zln_2_0 h0) nv15 eX2_value_102 (fun v17 nv17 => ?_)
      refine zr_goto C eX2_value_103 ?_
      refine zr_iast C ((zk_2_1 h0).2) (zln_2_1 h0) n4 eX2_value_107 (fun σ18 => ?_)
      refine zr_iinc (lv' := [(4, .int (zI (x4 + 1))), (8, .int (zI v15)), (7, .int (zI v3)), (6, .int (zI v2)), (0, .ref (zad G o0)), (1, .ref (zad G o1)), (3, .int (zI x3)), (5, .int (zI x5))]) C 6 eX2_value_108 rfl (by decide) rfl ?_
      refine zr_goto C eX2_value_111 ?_
      refine zr_iinc (lv' := [(5, .int (zI (x5 + 1))), (4, .int (zI (x4 + 1))), (8, .int (zI v15)), (7, .int (zI v3)), (6, .int (zI v2)), (0, .ref (zad G o0)), (1, .ref (zad G o1)), (3, .int (zI x3))]) C 7 eX2_value_253 rfl (by decide) rfl ?_
      refine zr_goto C eX2_value_256 ?_
      refine zr_lv [5, 6, 7, 1, 0] rfl ?_
      exact zr_lve (zs_p (zs_p (zs_p (zs_pi (zI_w (x4 + 1)).symm (zs_pi (zI_w (x5 + 1)).symm rfl))))) (ih o0 o1 x3 (zw (x4 + 1)) (zw (x5 + 1)) h0 h1 n3 (zw_w (x4 + 1)) (zw_w (x5 + 1)) _)
    refine zr_aloadn C 2 eX2_value_55 rfl ?_
    refine zr_getR C ff_X2_15 rfl h0 rfl ((zk_2_1 h0).1) eX2_value_56 ?_
    refine zr_iload C 5 eX2_value_59 rfl ?_
    refine zr_iload C 1 eX2_value_61 rfl ?_
    refine zr_iast C ((zk_2_1 h0).2) (zln_2_1 h0) n4 eX2_value_63 (fun σ19 => ?_)
    refine zr_iinc (lv' := [(4, .int (zI (x4 + 1))), (7, .int (zI v3)), (6, .int (zI v2)), (0, .ref (zad G o0)), (1, .ref (zad G o1)), (3, .int (zI x3)), (5, .int (zI x5))]) C 5 eX2_value_64 rfl (by decide) rfl ?_
    refine zr_goto C eX2_value_67 ?_
    refine zr_iinc (lv' := [(5, .int (zI (x5 + 1))), (4, .int (zI (x4 + 1))), (7, .int (zI v3)), (6, .int (zI v2)), (0, .ref (zad G o0)), (1, .ref (zad G o1)), (3, .int (zI x3))]) C 6 eX2_value_253 rfl (by decide) rfl ?_
    refine zr_goto C eX2_value_256 ?_
    refine zr_lv [4, 5, 6, 1, 0] rfl ?_
    exact zr_lve (zs_p (zs_p (zs_p (zs_pi (zI_w (x4 + 1)).symm (zs_pi (zI_w (x5 + 1)).symm rfl))))) (ih o0 o1 x3 (zw (x4 + 1)) (zw (x5 + 1)) h0 h1 n3 (zw_w (x4 + 1)) (zw_w (x5 + 1)) _)
theorem wJ_value_259 {G : Zg} {p : Program} {l : Launch} {e : Env} {s : State} {m : MethodId} {args : Array Value} {below : List Frame} {meth : Method} {c : Code} (C : zC G p s m args meth c cX2_value 10 RX2 (some .int)) {res : Int × Zm} (o0 : Nat) (x4 : Int) (h0 : zin 294 o0 2) (n4 : zw x4 = x4) (σ : Zm) : zR G p l e (zrm 1) s m args below meth c 10 0 0 (zQm below args s G 294 ztt (some (.int (zI res.1))) res.2) 294 ztt res σ (fJ_value_259 o0 x4 σ) [(0, .ref (zad G o0)), (4, .int (zI x4))] 259 [] := by
  unfold fJ_value_259
  refine zr_iload C 1 eX2_value_259 rfl ?_
  refine zr_if_le C eX2_value_261 n4 ?_ ?_
  · refine zr_iconst C eX2_value_276 rfl ?_
    exact zr_iret C eX2_value_277
  refine zr_aloadn C 0 eX2_value_264 rfl ?_
  refine zr_getR C ff_X2_15 rfl h0 rfl ((zk_2_1 h0).1) eX2_value_265 ?_
  refine zr_iload C 1 eX2_value_268 rfl ?_
  refine zr_iconst C eX2_value_270 rfl ?_
  refine zr_isub C eX2_value_271 ?_
  refine zr_iald C ((zk_2_1 h0).2) (zln_2_1 h0) rfl eX2_value_272 (fun v23 nv23 => ?_)
  refine zr_goto C eX2_value_273 ?_
  exact zr_iret C eX2_value_277
theorem zqJ_value (l : Launch) (G : Zg) (σ : Zm) (o0 : Nat) (o1 : Nat) (x2 : Int) (x3 : Int) (h0 : zin 294 o0 2) (h1 : zin 294 o1 20) (n2 : zw x2 = x2) (n3 : zw x3 = x3) (res : Int × Zm) (he : fJ_value σ o0 o1 x2 x3 = some res) : zM l yX2_value cX2_value 10 (some .int) 1 G 294 ztt σ [.ref (zad G o0), .ref (zad G o1), .int (zI x2), .int (zI x3)] (some (.int (zI res.1))) res.2 := by
  refine zM_of he (by decide +kernel) (Nat.le_of_ble_eq_true rfl) (lv := [(0, .ref (zad G o0)), (1, .ref (zad G o1)), (2, .int (zI x2)), (3, .int (zI x3))]) rfl (fun p e s m below meth c C => ?_)
  unfold fJ_value
  refine zr_iconst C eX2_value_0 rfl ?_
  refine zr_istore (lv' := [(4, .int (zI 0)), (0, .ref (zad G o0)), (1, .ref (zad G o1)), (2, .int (zI x2)), (3, .int (zI x3))]) C eX2_value_1 (by decide) rfl ?_
  refine zr_iconst C eX2_value_3 rfl ?_
  refine zr_iloadn C 3 eX2_value_4 rfl ?_
  refine zr_mmax C lk_X2_40 zy_mmax zrm_1_2_0 (Nat.le_of_ble_eq_true rfl) w_0 n2 eX2_value_5 (fun v1 nv1 => ?_)
  refine zr_istore (lv' := [(5, .int (zI v1)), (4, .int (zI 0)), (0, .ref (zad G o0)), (1, .ref (zad G o1)), (2, .int (zI x2)), (3, .int (zI x3))]) C eX2_value_8 (by decide) rfl ?_
  refine zr_lv [2, 3, 5, 1, 0] rfl ?_
  refine wJ_value_10 C _ ?_ 5000 o0 o1 x3 0 v1 h0 h1 n3 w_0 nv1 σ
  intro o21 y22 ho21 ny22 σ20
  exact wJ_value_259 C o21 y22 ho21 ny22 σ20
theorem wJ_askClauses_143 {G : Zg} {p : Program} {l : Launch} {e : Env} {s : State} {m : MethodId} {args : Array Value} {below : List Frame} {meth : Method} {c : Code} (C : zC G p s m args meth c cX2_askClauses 6 RX2 none) {res : Int × Zm} (R0 : Nat → Nat → Int → Int → Int → Zm → Zr) (ih : ∀ (o0 : Nat) (o1 : Nat) (x2 : Int) (x3 : Int) (x4 : Int) (h0 : zin 294 o0 2) (h1 : zin 294 o1 6) (n2 : zw x2 = x2) (n3 : zw x3 = x3) (n4 : zw x4 = x4) (σ : Zm), zR G p l e (zrm 2) s m args below meth c 6 0 0 (zQm below args s G 294 ztt none res.2) 294 ztt res σ (R0 o0 o1 x2 x3 x4 σ) [(0, .ref (zad G o0)), (1, .ref (zad G o1)), (2, .int (zI x2)), (3, .int (zI x3)), (4, .int (zI x4))] 3 []) (o0 : Nat) (o1 : Nat) (x2 : Int) (x3 : Int) (x4 : Int) (x5 : Int) (h0 : zin 294 o0 2) (h1 : zin 294 o1 6) (n2 : zw x2 = x2) (n3 : zw x3 = x3) (n4 : zw x4 = x4) (n5 : zw x5 = x5) (σ : Zm) : zR G p l e (zrm 2) s m args below meth c 6 0 0 (zQm below args s G 294 ztt none res.2) 294 ztt res σ (fJ_askClauses_143 R0 o0 o1 x2 x3 x4 x5 σ) [(0, .ref (zad G o0)), (1, .ref (zad G o1)), (2, .int (zI x2)), (3, .int (zI x3)), (4, .int (zI x4)), (5, .int (zI x5))] 143 [] := by
  unfold fJ_askClauses_143
  refine zr_aloadn C 0 eX2_askClauses_143 rfl ?_
  refine zr_dup C eX2_askClauses_144 rfl ?_
  refine zr_getI C ff_X2_28 h0 eX2_askClauses_145 (fun v15 nv15 => ?_)
  refine zr_iconst C eX2_askClauses_148 rfl ?_
  refine zr_iadd C eX2_askClauses_149 ?_
  refine zr_putI C ff_X2_28 rfl h0 eX2_askClauses_150 (fun σ16 => ?_)
  refine zr_aloadn C 0 eX2_askClauses_153 rfl ?_
  refine zr_dup C eX2_askClauses_154 rfl ?_
  refine zr_getI C ff_X2_31 h0 eX2_askClauses_155 (fun v17 nv17 => ?_)
  refine zr_iload C 5 eX2_askClauses_158 rfl ?_
  refine zr_iadd C eX2_askClauses_160 ?_
  refine zr_putI C ff_X2_31 rfl h0 eX2_askClauses_161 (fun σ18 => ?_)
  refine zr_iinc (lv' := [(4, .int (zI (x4 + 1))), (0, .ref (zad G o0)), (1, .ref (zad G o1)), (2, .int (zI x2)), (3, .int (zI x3)), (5, .int (zI x5))]) C 4 eX2_askClauses_164 rfl (by decide) rfl ?_
  refine zr_goto C eX2_askClauses_167 ?_
  refine zr_lv [1, 2, 3, 4, 0] rfl ?_
  exact zr_lve (zs_p (zs_p (zs_p (zs_p (zs_pi (zI_w (x4 + 1)).symm rfl))))) (ih o0 o1 x2 x3 (zw (x4 + 1)) h0 h1 n2 n3 (zw_w (x4 + 1)) _)
theorem wJ_askClauses_3 {G : Zg} {p : Program} {l : Launch} {e : Env} {s : State} {m : MethodId} {args : Array Value} {below : List Frame} {meth : Method} {c : Code} (C : zC G p s m args meth c cX2_askClauses 6 RX2 none) {res : Int × Zm} : ∀ (n : Nat) (o0 : Nat) (o1 : Nat) (x2 : Int) (x3 : Int) (x4 : Int) (h0 : zin 294 o0 2) (h1 : zin 294 o1 6) (n2 : zw x2 = x2) (n3 : zw x3 = x3) (n4 : zw x4 = x4) (σ : Zm), zR G p l e (zrm 2) s m args below meth c 6 0 0 (zQm below args s G 294 ztt none res.2) 294 ztt res σ (fJ_askClauses_3 n o0 o1 x2 x3 x4 σ) [(0, .ref (zad G o0)), (1, .ref (zad G o1)), (2, .int (zI x2)), (3, .int (zI x3)), (4, .int (zI x4))] 3 []
  | 0, _, _, _, _, _, _, _, _, _, _, _ => zr_none
  | n + 1, o0, o1, x2, x3, x4, h0, h1, n2, n3, n4, σ => by
    have ih := fun (o0 : Nat) (o1 : Nat) (x2 : Int) (x3 : Int) (x4 : Int) (h0 : zin 294 o0 2) (h1 : zin 294 o1 6) (n2 : zw x2 = x2) (n3 : zw x3 = x3) (n4 : zw x4 = x4) (σ : Zm) => wJ_askClauses_3 (l := l) (e := e) (below := below) C (res := res) n o0 o1 x2 x3 x4 h0 h1 n2 n3 n4 σ
    rw [fJ_askClauses_3]
    refine zr_letf (fun R0 hR0 => ?_)
    have ih : ∀ (o0 : Nat) (o1 : Nat) (x2 : Int) (x3 : Int) (x4 : Int) (h0 : zin 294 o0 2) (h1 : zin 294 o1 6) (n2 : zw x2 = x2) (n3 : zw x3 = x3) (n4 : zw x4 = x4) (σ : Zm), zR G p l e (zrm 2) s m args below meth c 6 0 0 (zQm below args s G 294 ztt none res.2) 294 ztt res σ (R0 o0 o1 x2 x3 x4 σ) [(0, .ref (zad G o0)), (1, .ref (zad G o1)), (2, .int (zI x2)), (3, .int (zI x3)), (4, .int (zI x4))] 3 [] := by rw [hR0]; exact ih
    clear hR0
    refine zr_iload C 4 eX2_askClauses_3 rfl ?_
    refine zr_aloadn C 1 eX2_askClauses_5 rfl ?_
    refine zr_getI C ff_X2_92 h1 eX2_askClauses_6 (fun v1 nv1 => ?_)
    refine zr_icmp_ge C eX2_askClauses_9 n4 nv1 ?_ ?_
    · exact zr_vret C eX2_askClauses_170
    refine zr_aloadn C 1 eX2_askClauses_12 rfl ?_
    refine zr_getR C ff_X2_95 rfl h1 rfl ((zk_6_1 h1).1) eX2_askClauses_13 ?_
    refine zr_iload C 4 eX2_askClauses_16 rfl ?_
    refine zr_iald C ((zk_6_1 h1).2) (zln_6_1 h1) n4 eX2_askClauses_18 (fun v2 nv2 => ?_)
    refine zr_iloadn C 2 eX2_askClauses_19 rfl ?_
    refine zr_icmp_ne C eX2_askClauses_20 nv2 n2 ?_ ?_
    · refine zr_iinc (lv' := [(4, .int (zI (x4 + 1))), (0, .ref (zad G o0)), (1, .ref (zad G o1)), (2, .int (zI x2)), (3, .int (zI x3))]) C 4 eX2_askClauses_164 rfl (by decide) rfl ?_
      refine zr_goto C eX2_askClauses_167 ?_
      refine zr_lv [1, 2, 3, 4, 0] rfl ?_
      exact zr_lve (zs_p (zs_p (zs_p (zs_p (zs_pi (zI_w (x4 + 1)).symm rfl))))) (ih o0 o1 x2 x3 (zw (x4 + 1)) h0 h1 n2 n3 (zw_w (x4 + 1)) _)
    refine zr_aloadn C 0 eX2_askClauses_23 rfl ?_
    refine zr_aloadn C 1 eX2_askClauses_24 rfl ?_
    refine zr_getR C ff_X2_98 rfl h1 rfl ((zk_6_0 h1).1) eX2_askClauses_25 ?_
    refine zr_aloadn C 1 eX2_askClauses_28 rfl ?_
    refine zr_getR C ff_X2_101 rfl h1 rfl ((zk_6_3 h1).1) eX2_askClauses_29 ?_
    refine zr_iload C 4 eX2_askClauses_32 rfl ?_
    refine zr_iald C ((zk_6_3 h1).2) (zln_6_3 h1) n4 eX2_askClauses_34 (fun v3 nv3 => ?_)
    refine zr_aloadn C 1 eX2_askClauses_35 rfl ?_
    refine zr_getR C ff_X2_104 rfl h1 rfl ((zk_6_4 h1).1) eX2_askClauses_36 ?_
    refine zr_iload C 4 eX2_askClauses_39 rfl ?_
    refine zr_iald C ((zk_6_4 h1).2) (zln_6_4 h1) n4 eX2_askClauses_41 (fun v4 nv4 => ?_)
    refine zr_callVi C [.ref (zad G (o1 + 1)), .int (zI v3), .int (zI v4)] zy_X2_value zv_X2_value lk_X2_107 zrm_2_10_1 h0 (by decide) rfl (fun r hr => zqJ_value l G σ o0 (o1 + 1) v3 v4 h0 ((zk_6_0 h1).2) nv3 nv4 r hr) rfl rfl (Nat.le_of_ble_eq_true rfl) eX2_askClauses_42 (fun v6 nv6 σ5 => ?_)
    refine zr_if_ne C eX2_askClauses_45 nv6 ?_ ?_
    · refine zr_aloadn C 0 eX2_askClauses_51 rfl ?_
      refine zr_aloadn C 1 eX2_askClauses_52 rfl ?_
      refine zr_getR C ff_X2_98 rfl h1 rfl ((zk_6_0 h1).1) eX2_askClauses_53 ?_
      refine zr_aloadn C 1 eX2_askClauses_56 rfl ?_
      refine zr_getR C ff_X2_111 rfl h1 rfl ((zk_6_2 h1).1) eX2_askClauses_57 ?_
      refine zr_iload C 4 eX2_askClauses_60 rfl ?_
      refine zr_iald C ((zk_6_2 h1).2) (zln_6_2 h1) n4 eX2_askClauses_62 (fun v7 nv7 => ?_)
      refine zr_aloadn C 1 eX2_askClauses_63 rfl ?_
      refine zr_getR C ff_X2_101 rfl h1 rfl ((zk_6_3 h1).1) eX2_askClauses_64 ?_
      refine zr_iload C 4 eX2_askClauses_67 rfl ?_
      refine zr_iald C ((zk_6_3 h1).2) (zln_6_3 h1) n4 eX2_askClauses_69 (fun v8 nv8 => ?_)
      refine zr_callVi C [.ref (zad G (o1 + 1)), .int (zI v7), .int (zI v8)] zy_X2_value zv_X2_value lk_X2_107 zrm_2_10_1 h0 (by decide) rfl (fun r hr => zqJ_value l G σ5 o0 (o1 + 1) v7 v8 h0 ((zk_6_0 h1).2) nv7 nv8 r hr) rfl rfl (Nat.le_of_ble_eq_true rfl) eX2_askClauses_70 (fun v10 nv10 σ9 => ?_)
      refine zr_istore (lv' := [(5, .int (zI v10)), (0, .ref (zad G o0)), (1, .ref (zad G o1)), (2, .int (zI x2)), (3, .int (zI x3)), (4, .int (zI x4))]) C eX2_askClauses_73 (by decide) rfl ?_
      refine zr_iconst C eX2_askClauses_75 rfl ?_
      refine zr_sipush (a := 999) C eX2_askClauses_76 rfl ?_
      refine zr_iload C 0 eX2_askClauses_79 rfl ?_
      refine zr_mmin C lk_X2_66 zy_mmin zrm_2_2_0 (Nat.le_of_ble_eq_true rfl) w_999 nv10 eX2_askClauses_81 (fun v11 nv11 => ?_)
      refine zr_mmax C lk_X2_40 zy_mmax zrm_2_2_0 (Nat.le_of_ble_eq_true rfl) w_0 nv11 eX2_askClauses_84 (fun v12 nv12 => ?_)
      refine zr_istore (lv' := [(5, .int (zI v12)), (0, .ref (zad G o0)), (1, .ref (zad G o1)), (2, .int (zI x2)), (3, .int (zI x3)), (4, .int (zI x4))]) C eX2_askClauses_87 (by decide) rfl ?_
      refine zr_aloadn C 1 eX2_askClauses_89 rfl ?_
      refine zr_getI C ff_X2_28 h0 eX2_askClauses_90 (fun v13 nv13 => ?_)
      refine zr_aloadn C 1 eX2_askClauses_93 rfl ?_
      refine zr_getI C ff_X2_25 h0 eX2_askClauses_94 (fun v14 nv14 => ?_)
      refine zr_icmp_ne C eX2_askClauses_97 nv13 nv14 ?_ ?_
      · refine zr_lv [1, 2, 3, 4, 5, 0] rfl ?_
        exact wJ_askClauses_143 C R0 ih o0 o1 x2 x3 x4 v12 h0 h1 n2 n3 n4 nv12 σ9
      refine zr_aloadn C 1 eX2_askClauses_100 rfl ?_
      refine zr_getR C ff_X2_18 rfl h0 rfl ((zk_2_2 h0).1) eX2_askClauses_101 ?_
      refine zr_iconst C eX2_askClauses_104 rfl ?_
      refine zr_iloadn C 4 eX2_askClauses_105 rfl ?_
      refine zr_iast C ((zk_2_2 h0).2) (zln_2_2 h0) w_0 eX2_askClauses_106 (fun σ19 => ?_)
      refine zr_aloadn C 1 eX2_askClauses_107 rfl ?_
      refine zr_getR C ff_X2_18 rfl h0 rfl ((zk_2_2 h0).1) eX2_askClauses_108 ?_
      refine zr_iconst C eX2_askClauses_111 rfl ?_
      refine zr_aloadn C 1 eX2_askClauses_112 rfl ?_
      refine zr_getI C ff_X2_34 h0 eX2_askClauses_113 (fun v20 nv20 => ?_)
      refine zr_iast C ((zk_2_2 h0).2) (zln_2_2 h0) w_1 eX2_askClauses_116 (fun σ21 => ?_)
      refine zr_aloadn C 1 eX2_askClauses_117 rfl ?_
      refine zr_getR C ff_X2_18 rfl h0 rfl ((zk_2_2 h0).1) eX2_askClauses_118 ?_
      refine zr_iconst C eX2_askClauses_121 rfl ?_
      refine zr_aloadn C 1 eX2_askClauses_122 rfl ?_
      refine zr_getI C ff_X2_37 h0 eX2_askClauses_123 (fun v22 nv22 => ?_)
      refine zr_iast C ((zk_2_2 h0).2) (zln_2_2 h0) w_2 eX2_askClauses_126 (fun σ23 => ?_)
      refine zr_aloadn C 1 eX2_askClauses_127 rfl ?_
      refine zr_getR C ff_X2_18 rfl h0 rfl ((zk_2_2 h0).1) eX2_askClauses_128 ?_
      refine zr_iconst C eX2_askClauses_131 rfl ?_
      refine zr_iload C 5 eX2_askClauses_132 rfl ?_
      refine zr_iast C ((zk_2_2 h0).2) (zln_2_2 h0) w_3 eX2_askClauses_134 (fun σ24 => ?_)
      refine zr_aloadn C 1 eX2_askClauses_135 rfl ?_
      refine zr_getR C ff_X2_18 rfl h0 rfl ((zk_2_2 h0).1) eX2_askClauses_136 ?_
      refine zr_iconst C eX2_askClauses_139 rfl ?_
      refine zr_iload C 0 eX2_askClauses_140 rfl ?_
      refine zr_iast C ((zk_2_2 h0).2) (zln_2_2 h0) w_4 eX2_askClauses_142 (fun σ25 => ?_)
      refine zr_lv [1, 2, 3, 4, 5, 0] rfl ?_
      exact wJ_askClauses_143 C R0 ih o0 o1 x2 x3 x4 v12 h0 h1 n2 n3 n4 nv12 σ25
    refine zr_goto C eX2_askClauses_48 ?_
    refine zr_iinc (lv' := [(4, .int (zI (x4 + 1))), (0, .ref (zad G o0)), (1, .ref (zad G o1)), (2, .int (zI x2)), (3, .int (zI x3))]) C 4 eX2_askClauses_164 rfl (by decide) rfl ?_
    refine zr_goto C eX2_askClauses_167 ?_
    refine zr_lv [1, 2, 3, 4, 0] rfl ?_
    exact zr_lve (zs_p (zs_p (zs_p (zs_p (zs_pi (zI_w (x4 + 1)).symm rfl))))) (ih o0 o1 x2 x3 (zw (x4 + 1)) h0 h1 n2 n3 (zw_w (x4 + 1)) _)
theorem zqJ_askClauses (l : Launch) (G : Zg) (σ : Zm) (o0 : Nat) (o1 : Nat) (x2 : Int) (x3 : Int) (h0 : zin 294 o0 2) (h1 : zin 294 o1 6) (n2 : zw x2 = x2) (n3 : zw x3 = x3) (res : Int × Zm) (he : fJ_askClauses σ o0 o1 x2 x3 = some res) : zM l yX2_askClauses cX2_askClauses 6 none 2 G 294 ztt σ [.ref (zad G o0), .ref (zad G o1), .int (zI x2), .int (zI x3)] none res.2 := by
  refine zM_of he (by decide +kernel) (Nat.le_of_ble_eq_true rfl) (lv := [(0, .ref (zad G o0)), (1, .ref (zad G o1)), (2, .int (zI x2)), (3, .int (zI x3))]) rfl (fun p e s m below meth c C => ?_)
  unfold fJ_askClauses
  refine zr_iconst C eX2_askClauses_0 rfl ?_
  refine zr_istore (lv' := [(4, .int (zI 0)), (0, .ref (zad G o0)), (1, .ref (zad G o1)), (2, .int (zI x2)), (3, .int (zI x3))]) C eX2_askClauses_1 (by decide) rfl ?_
  refine zr_lv [1, 2, 3, 4, 0] rfl ?_
  refine wJ_askClauses_3 C 5000 o0 o1 x2 x3 0 h0 h1 n2 n3 w_0 σ
theorem wJ_askPair_280 {G : Zg} {p : Program} {l : Launch} {e : Env} {s : State} {m : MethodId} {args : Array Value} {below : List Frame} {meth : Method} {c : Code} (C : zC G p s m args meth c cX2_askPair 11 RX2 none) {res : Int × Zm} (o0 : Nat) (o1 : Nat) (x4 : Int) (h0 : zin 294 o0 2) (h1 : zin 294 o1 6) (n4 : zw x4 = x4) (σ : Zm) : zR G p l e (zrm 3) s m args below meth c 11 0 0 (zQm below args s G 294 ztt none res.2) 294 ztt res σ (fJ_askPair_280 o0 o1 x4 σ) [(0, .ref (zad G o0)), (1, .ref (zad G o1)), (4, .int (zI x4))] 280 [] := by
  unfold fJ_askPair_280
  refine zr_aloadn C 0 eX2_askPair_280 rfl ?_
  refine zr_getR C ff_X2_9 rfl h0 rfl ((zk_2_0 h0).1) eX2_askPair_281 ?_
  refine zr_bipush (a := 8) C eX2_askPair_284 rfl ?_
  refine zr_iload C 2 eX2_askPair_286 rfl ?_
  refine zr_aloadn C 0 eX2_askPair_288 rfl ?_
  refine zr_getI C ff_X2_21 h0 eX2_askPair_289 (fun v24 nv24 => ?_)
  refine zr_irem C eX2_askPair_292 n4 nv24 ?_
  refine zr_iast C ((zk_2_0 h0).2) (zln_2_0 h0) w_8 eX2_askPair_293 (fun σ25 => ?_)
  refine zr_aloadn C 0 eX2_askPair_294 rfl ?_
  refine zr_aloadn C 1 eX2_askPair_295 rfl ?_
  refine zr_iconst C eX2_askPair_296 rfl ?_
  refine zr_iload C 2 eX2_askPair_297 rfl ?_
  refine zr_callVv C [.ref (zad G o1), .int (zI 0), .int (zI x4)] zy_X2_askClauses zv_X2_askClauses lk_X2_82 zrm_3_6_2 h0 (by decide) rfl (fun r hr => zqJ_askClauses l G σ25 o0 o1 0 x4 h0 h1 w_0 n4 r hr) rfl rfl (Nat.le_of_ble_eq_true rfl) eX2_askPair_299 (fun σ26 => ?_)
  exact zr_vret C eX2_askPair_302
theorem wJ_askPair_258 {G : Zg} {p : Program} {l : Launch} {e : Env} {s : State} {m : MethodId} {args : Array Value} {below : List Frame} {meth : Method} {c : Code} (C : zC G p s m args meth c cX2_askPair 11 RX2 none) {res : Int × Zm} (o0 : Nat) (o1 : Nat) (x4 : Int) (x7 : Int) (x8 : Int) (h0 : zin 294 o0 2) (h1 : zin 294 o1 6) (n4 : zw x4 = x4) (n7 : zw x7 = x7) (n8 : zw x8 = x8) (σ : Zm) : zR G p l e (zrm 3) s m args below meth c 11 0 0 (zQm below args s G 294 ztt none res.2) 294 ztt res σ (fJ_askPair_258 o0 o1 x4 x7 x8 σ) [(0, .ref (zad G o0)), (1, .ref (zad G o1)), (4, .int (zI x4)), (7, .int (zI x7)), (8, .int (zI x8))] 258 [] := by
  unfold fJ_askPair_258
  refine zr_aloadn C 0 eX2_askPair_258 rfl ?_
  refine zr_getR C ff_X2_9 rfl h0 rfl ((zk_2_0 h0).1) eX2_askPair_259 ?_
  refine zr_bipush (a := 7) C eX2_askPair_262 rfl ?_
  refine zr_iload C 3 eX2_askPair_264 rfl ?_
  refine zr_if_ne C eX2_askPair_266 n7 ?_ ?_
  · refine zr_iconst C eX2_askPair_274 rfl ?_
    refine zr_goto C eX2_askPair_275 ?_
    refine zr_iast C ((zk_2_0 h0).2) (zln_2_0 h0) w_7 eX2_askPair_279 (fun σ23 => ?_)
    refine zr_lv [0, 1, 2] rfl ?_
    exact wJ_askPair_280 C o0 o1 x4 h0 h1 n4 σ23
  refine zr_iload C 4 eX2_askPair_269 rfl ?_
  refine zr_if_eq C eX2_askPair_271 n8 ?_ ?_
  · refine zr_iconst C eX2_askPair_278 rfl ?_
    refine zr_iast C ((zk_2_0 h0).2) (zln_2_0 h0) w_7 eX2_askPair_279 (fun σ27 => ?_)
    refine zr_lv [0, 1, 2] rfl ?_
    exact wJ_askPair_280 C o0 o1 x4 h0 h1 n4 σ27
  refine zr_iconst C eX2_askPair_274 rfl ?_
  refine zr_goto C eX2_askPair_275 ?_
  refine zr_iast C ((zk_2_0 h0).2) (zln_2_0 h0) w_7 eX2_askPair_279 (fun σ28 => ?_)
  refine zr_lv [0, 1, 2] rfl ?_
  exact wJ_askPair_280 C o0 o1 x4 h0 h1 n4 σ28
theorem wJ_askPair_213 {G : Zg} {p : Program} {l : Launch} {e : Env} {s : State} {m : MethodId} {args : Array Value} {below : List Frame} {meth : Method} {c : Code} (C : zC G p s m args meth c cX2_askPair 11 RX2 none) {res : Int × Zm} (o0 : Nat) (o1 : Nat) (x4 : Int) (x5 : Int) (x6 : Int) (x7 : Int) (x8 : Int) (h0 : zin 294 o0 2) (h1 : zin 294 o1 6) (n4 : zw x4 = x4) (n5 : zw x5 = x5) (n6 : zw x6 = x6) (n7 : zw x7 = x7) (n8 : zw x8 = x8) (σ : Zm) : zR G p l e (zrm 3) s m args below meth c 11 0 0 (zQm below args s G 294 ztt none res.2) 294 ztt res σ (fJ_askPair_213 o0 o1 x4 x5 x6 x7 x8 σ) [(0, .ref (zad G o0)), (1, .ref (zad G o1)), (4, .int (zI x4)), (5, .int (zI x5)), (6, .int (zI x6)), (7, .int (zI x7)), (8, .int (zI x8))] 213 [] := by
  unfold fJ_askPair_213
  refine zr_aloadn C 0 eX2_askPair_213 rfl ?_
  refine zr_getR C ff_X2_9 rfl h0 rfl ((zk_2_0 h0).1) eX2_askPair_214 ?_
  refine zr_iconst C eX2_askPair_217 rfl ?_
  refine zr_iload C 3 eX2_askPair_218 rfl ?_
  refine zr_iload C 4 eX2_askPair_220 rfl ?_
  refine zr_mmin C lk_X2_66 zy_mmin zrm_3_2_0 (Nat.le_of_ble_eq_true rfl) n5 n6 eX2_askPair_222 (fun v18 nv18 => ?_)
  refine zr_iast C ((zk_2_0 h0).2) (zln_2_0 h0) w_4 eX2_askPair_225 (fun σ19 => ?_)
  refine zr_aloadn C 0 eX2_askPair_226 rfl ?_
  refine zr_getR C ff_X2_9 rfl h0 rfl ((zk_2_0 h0).1) eX2_askPair_227 ?_
  refine zr_iconst C eX2_askPair_230 rfl ?_
  refine zr_iload C 3 eX2_askPair_231 rfl ?_
  refine zr_iload C 4 eX2_askPair_233 rfl ?_
  refine zr_mmax C lk_X2_40 zy_mmax zrm_3_2_0 (Nat.le_of_ble_eq_true rfl) n5 n6 eX2_askPair_235 (fun v20 nv20 => ?_)
  refine zr_iast C ((zk_2_0 h0).2) (zln_2_0 h0) w_5 eX2_askPair_238 (fun σ21 => ?_)
  refine zr_aloadn C 0 eX2_askPair_239 rfl ?_
  refine zr_getR C ff_X2_9 rfl h0 rfl ((zk_2_0 h0).1) eX2_askPair_240 ?_
  refine zr_bipush (a := 6) C eX2_askPair_243 rfl ?_
  refine zr_iload C 3 eX2_askPair_245 rfl ?_
  refine zr_iload C 4 eX2_askPair_247 rfl ?_
  refine zr_icmp_ge C eX2_askPair_249 n5 n6 ?_ ?_
  · refine zr_iconst C eX2_askPair_256 rfl ?_
    refine zr_iast C ((zk_2_0 h0).2) (zln_2_0 h0) w_6 eX2_askPair_257 (fun σ22 => ?_)
    refine zr_lv [0, 1, 2, 5, 6] rfl ?_
    exact wJ_askPair_258 C o0 o1 x4 x7 x8 h0 h1 n4 n7 n8 σ22
  refine zr_iconst C eX2_askPair_252 rfl ?_
  refine zr_goto C eX2_askPair_253 ?_
  refine zr_iast C ((zk_2_0 h0).2) (zln_2_0 h0) w_6 eX2_askPair_257 (fun σ29 => ?_)
  refine zr_lv [0, 1, 2, 5, 6] rfl ?_
  exact wJ_askPair_258 C o0 o1 x4 x7 x8 h0 h1 n4 n7 n8 σ29
theorem wJ_askPair_181 {G : Zg} {p : Program} {l : Launch} {e : Env} {s : State} {m : MethodId} {args : Array Value} {below : List Frame} {meth : Method} {c : Code} (C : zC G p s m args meth c cX2_askPair 11 RX2 none) {res : Int × Zm} (o0 : Nat) (o1 : Nat) (o3 : Nat) (x4 : Int) (x5 : Int) (x6 : Int) (x7 : Int) (x8 : Int) (x10 : Int) (h0 : zin 294 o0 2) (h1 : zin 294 o1 6) (h3 : zin 294 o3 3) (n4 : zw x4 = x4) (n5 : zw x5 = x5) (n6 : zw x6 = x6) (n7 : zw x7 = x7) (n8 : zw x8 = x8) (n10 : zw x10 = x10) (σ : Zm) : zR G p l e (zrm 3) s m args below meth c 11 0 0 (zQm below args s G 294 ztt none res.2) 294 ztt res σ (fJ_askPair_181 o0 o1 o3 x4 x5 x6 x7 x8 x10 σ) [(0, .ref (zad G o0)), (1, .ref (zad G o1)), (3, .ref (zad G o3)), (4, .int (zI x4)), (5, .int (zI x5)), (6, .int (zI x6)), (7, .int (zI x7)), (8, .int (zI x8)), (10, .int (zI x10))] 181 [] := by
  unfold fJ_askPair_181
  refine zr_aloadn C 0 eX2_askPair_181 rfl ?_
  refine zr_getR C ff_X2_9 rfl h0 rfl ((zk_2_0 h0).1) eX2_askPair_182 ?_
  refine zr_iconst C eX2_askPair_185 rfl ?_
  refine zr_iload C 7 eX2_askPair_186 rfl ?_
  refine zr_if_eq C eX2_askPair_188 n8 ?_ ?_
  · refine zr_iconst C eX2_askPair_211 rfl ?_
    refine zr_iast C ((zk_2_0 h0).2) (zln_2_0 h0) w_3 eX2_askPair_212 (fun σ17 => ?_)
    refine zr_lv [0, 1, 3, 4, 5, 6, 7] rfl ?_
    exact wJ_askPair_213 C o0 o1 x4 x5 x6 x7 x8 h0 h1 n4 n5 n6 n7 n8 σ17
  refine zr_iload C 8 eX2_askPair_191 rfl ?_
  refine zr_if_eq C eX2_askPair_193 n10 ?_ ?_
  · refine zr_iconst C eX2_askPair_211 rfl ?_
    refine zr_iast C ((zk_2_0 h0).2) (zln_2_0 h0) w_3 eX2_askPair_212 (fun σ30 => ?_)
    refine zr_lv [0, 1, 3, 4, 5, 6, 7] rfl ?_
    exact wJ_askPair_213 C o0 o1 x4 x5 x6 x7 x8 h0 h1 n4 n5 n6 n7 n8 σ30
  refine zr_iload C 5 eX2_askPair_196 rfl ?_
  refine zr_aloadn C 2 eX2_askPair_198 rfl ?_
  refine zr_getR C ff_X2_72 rfl h3 rfl ((zk_3_0 h3).1) eX2_askPair_199 ?_
  refine zr_iload C 3 eX2_askPair_202 rfl ?_
  refine zr_iconst C eX2_askPair_204 rfl ?_
  refine zr_isub C eX2_askPair_205 ?_
  refine zr_iald C ((zk_3_0 h3).2) rfl rfl eX2_askPair_206 (fun v31 nv31 => ?_)
  refine zr_isub C eX2_askPair_207 ?_
  refine zr_goto C eX2_askPair_208 ?_
  refine zr_iast C ((zk_2_0 h0).2) (zln_2_0 h0) w_3 eX2_askPair_212 (fun σ32 => ?_)
  refine zr_lv [0, 1, 3, 4, 5, 6, 7] rfl ?_
  exact wJ_askPair_213 C o0 o1 x4 x5 x6 x7 x8 h0 h1 n4 n5 n6 n7 n8 σ32
theorem wJ_askPair_149 {G : Zg} {p : Program} {l : Launch} {e : Env} {s : State} {m : MethodId} {args : Array Value} {below : List Frame} {meth : Method} {c : Code} (C : zC G p s m args meth c cX2_askPair 11 RX2 none) {res : Int × Zm} (o0 : Nat) (o1 : Nat) (o2 : Nat) (o3 : Nat) (x4 : Int) (x5 : Int) (x6 : Int) (x7 : Int) (x8 : Int) (x9 : Int) (x10 : Int) (h0 : zin 294 o0 2) (h1 : zin 294 o1 6) (h2 : zin 294 o2 3) (h3 : zin 294 o3 3) (n4 : zw x4 = x4) (n5 : zw x5 = x5) (n6 : zw x6 = x6) (n7 : zw x7 = x7) (n8 : zw x8 = x8) (n9 : zw x9 = x9) (n10 : zw x10 = x10) (σ : Zm) : zR G p l e (zrm 3) s m args below meth c 11 0 0 (zQm below args s G 294 ztt none res.2) 294 ztt res σ (fJ_askPair_149 o0 o1 o2 o3 x4 x5 x6 x7 x8 x9 x10 σ) [(0, .ref (zad G o0)), (1, .ref (zad G o1)), (2, .ref (zad G o2)), (3, .ref (zad G o3)), (4, .int (zI x4)), (5, .int (zI x5)), (6, .int (zI x6)), (7, .int (zI x7)), (8, .int (zI x8)), (9, .int (zI x9)), (10, .int (zI x10))] 149 [] := by
  unfold fJ_askPair_149
  refine zr_aloadn C 0 eX2_askPair_149 rfl ?_
  refine zr_getR C ff_X2_9 rfl h0 rfl ((zk_2_0 h0).1) eX2_askPair_150 ?_
  refine zr_iconst C eX2_askPair_153 rfl ?_
  refine zr_iload C 7 eX2_askPair_154 rfl ?_
  refine zr_if_eq C eX2_askPair_156 n7 ?_ ?_
  · refine zr_iconst C eX2_askPair_179 rfl ?_
    refine zr_iast C ((zk_2_0 h0).2) (zln_2_0 h0) w_2 eX2_askPair_180 (fun σ16 => ?_)
    refine zr_lv [0, 1, 3, 4, 5, 6, 7, 8, 10] rfl ?_
    exact wJ_askPair_181 C o0 o1 o3 x4 x5 x6 x7 x8 x10 h0 h1 h3 n4 n5 n6 n7 n8 n10 σ16
  refine zr_iload C 9 eX2_askPair_159 rfl ?_
  refine zr_if_eq C eX2_askPair_161 n9 ?_ ?_
  · refine zr_iconst C eX2_askPair_179 rfl ?_
    refine zr_iast C ((zk_2_0 h0).2) (zln_2_0 h0) w_2 eX2_askPair_180 (fun σ33 => ?_)
    refine zr_lv [0, 1, 3, 4, 5, 6, 7, 8, 10] rfl ?_
    exact wJ_askPair_181 C o0 o1 o3 x4 x5 x6 x7 x8 x10 h0 h1 h3 n4 n5 n6 n7 n8 n10 σ33
  refine zr_iload C 5 eX2_askPair_164 rfl ?_
  refine zr_aloadn C 2 eX2_askPair_166 rfl ?_
  refine zr_getR C ff_X2_72 rfl h2 rfl ((zk_3_0 h2).1) eX2_askPair_167 ?_
  refine zr_iload C 4 eX2_askPair_170 rfl ?_
  refine zr_iconst C eX2_askPair_172 rfl ?_
  refine zr_isub C eX2_askPair_173 ?_
  refine zr_iald C ((zk_3_0 h2).2) rfl rfl eX2_askPair_174 (fun v34 nv34 => ?_)
  refine zr_isub C eX2_askPair_175 ?_
  refine zr_goto C eX2_askPair_176 ?_
  refine zr_iast C ((zk_2_0 h0).2) (zln_2_0 h0) w_2 eX2_askPair_180 (fun σ35 => ?_)
  refine zr_lv [0, 1, 3, 4, 5, 6, 7, 8, 10] rfl ?_
  exact wJ_askPair_181 C o0 o1 o3 x4 x5 x6 x7 x8 x10 h0 h1 h3 n4 n5 n6 n7 n8 n10 σ35
theorem wJ_askPair_73 {G : Zg} {p : Program} {l : Launch} {e : Env} {s : State} {m : MethodId} {args : Array Value} {below : List Frame} {meth : Method} {c : Code} (C : zC G p s m args meth c cX2_askPair 11 RX2 none) {res : Int × Zm} (o0 : Nat) (o1 : Nat) (o2 : Nat) (o3 : Nat) (x4 : Int) (x5 : Int) (x6 : Int) (x7 : Int) (x8 : Int) (h0 : zin 294 o0 2) (h1 : zin 294 o1 6) (h2 : zin 294 o2 3) (h3 : zin 294 o3 3) (n4 : zw x4 = x4) (n5 : zw x5 = x5) (n6 : zw x6 = x6) (n7 : zw x7 = x7) (n8 : zw x8 = x8) (σ : Zm) : zR G p l e (zrm 3) s m args below meth c 11 0 0 (zQm below args s G 294 ztt none res.2) 294 ztt res σ (fJ_askPair_73 o0 o1 o2 o3 x4 x5 x6 x7 x8 σ) [(0, .ref (zad G o0)), (1, .ref (zad G o1)), (2, .ref (zad G o2)), (3, .ref (zad G o3)), (4, .int (zI x4)), (5, .int (zI x5)), (6, .int (zI x6)), (7, .int (zI x7)), (8, .int (zI x8))] 73 [] := by
  unfold fJ_askPair_73
  refine zr_aloadn C 2 eX2_askPair_73 rfl ?_
  refine zr_iload C 4 eX2_askPair_74 rfl ?_
  refine zr_iconst C eX2_askPair_76 rfl ?_
  refine zr_isub C eX2_askPair_77 ?_
  refine zr_callVi C [.int (zI (zw (x4 - 1)))] zy_X3_sounds zv_X3_sounds lk_X2_69 zrm_3_2_1 h2 (by decide) rfl (fun r hr => zqL_sounds l G σ o2 (zw (x4 - 1)) h2 (zw_w (x4 - 1)) r hr) rfl (zs_i (zI_w (x4 - 1)).symm rfl) (Nat.le_of_ble_eq_true rfl) eX2_askPair_78 (fun v10 nv10 σ9 => ?_)
  refine zr_istore (lv' := [(9, .int (zI v10)), (0, .ref (zad G o0)), (1, .ref (zad G o1)), (2, .ref (zad G o2)), (3, .ref (zad G o3)), (4, .int (zI x4)), (5, .int (zI x5)), (6, .int (zI x6)), (7, .int (zI x7)), (8, .int (zI x8))]) C eX2_askPair_81 (by decide) rfl ?_
  refine zr_aloadn C 4 eX2_askPair_83 rfl ?_
  refine zr_iload C 5 eX2_askPair_84 rfl ?_
  refine zr_iconst C eX2_askPair_86 rfl ?_
  refine zr_isub C eX2_askPair_87 ?_
  refine zr_callVi C [.int (zI (zw (x4 - 1)))] zy_X3_sounds zv_X3_sounds lk_X2_69 zrm_3_2_1 h3 (by decide) rfl (fun r hr => zqL_sounds l G σ9 o3 (zw (x4 - 1)) h3 (zw_w (x4 - 1)) r hr) rfl (zs_i (zI_w (x4 - 1)).symm rfl) (Nat.le_of_ble_eq_true rfl) eX2_askPair_88 (fun v12 nv12 σ11 => ?_)
  refine zr_istore (lv' := [(10, .int (zI v12)), (9, .int (zI v10)), (0, .ref (zad G o0)), (1, .ref (zad G o1)), (2, .ref (zad G o2)), (3, .ref (zad G o3)), (4, .int (zI x4)), (5, .int (zI x5)), (6, .int (zI x6)), (7, .int (zI x7)), (8, .int (zI x8))]) C eX2_askPair_91 (by decide) rfl ?_
  refine zr_aloadn C 2 eX2_askPair_93 rfl ?_
  refine zr_getR C ff_X2_9 rfl h0 rfl ((zk_2_0 h0).1) eX2_askPair_94 ?_
  refine zr_iconst C eX2_askPair_97 rfl ?_
  refine zr_iload C 7 eX2_askPair_98 rfl ?_
  refine zr_iload C 8 eX2_askPair_100 rfl ?_
  refine zr_isub C eX2_askPair_102 ?_
  refine zr_mabs C lk_X2_78 zy_mabs zrm_3_2_0 (Nat.le_of_ble_eq_true rfl) rfl eX2_askPair_103 (fun v13 nv13 => ?_)
  refine zr_iast C ((zk_2_0 h0).2) (zln_2_0 h0) w_0 eX2_askPair_106 (fun σ14 => ?_)
  refine zr_aloadn C 2 eX2_askPair_107 rfl ?_
  refine zr_getR C ff_X2_9 rfl h0 rfl ((zk_2_0 h0).1) eX2_askPair_108 ?_
  refine zr_iconst C eX2_askPair_111 rfl ?_
  refine zr_iload C 1 eX2_askPair_112 rfl ?_
  refine zr_if_eq C eX2_askPair_114 nv10 ?_ ?_
  · refine zr_iconst C eX2_askPair_147 rfl ?_
    refine zr_iast C ((zk_2_0 h0).2) (zln_2_0 h0) w_1 eX2_askPair_148 (fun σ15 => ?_)
    refine zr_lv [2, 3, 4, 5, 6, 7, 8, 9, 10, 1, 0] rfl ?_
    exact wJ_askPair_149 C o0 o1 o2 o3 x4 x5 x6 x7 x8 v10 v12 h0 h1 h2 h3 n4 n5 n6 n7 n8 nv10 nv12 σ15
  refine zr_iload C 0 eX2_askPair_117 rfl ?_
  refine zr_if_eq C eX2_askPair_119 nv12 ?_ ?_
  · refine zr_iconst C eX2_askPair_147 rfl ?_
    refine zr_iast C ((zk_2_0 h0).2) (zln_2_0 h0) w_1 eX2_askPair_148 (fun σ36 => ?_)
    refine zr_lv [2, 3, 4, 5, 6, 7, 8, 9, 10, 1, 0] rfl ?_
    exact wJ_askPair_149 C o0 o1 o2 o3 x4 x5 x6 x7 x8 v10 v12 h0 h1 h2 h3 n4 n5 n6 n7 n8 nv10 nv12 σ36
  refine zr_aloadn C 4 eX2_askPair_122 rfl ?_
  refine zr_getR C ff_X2_72 rfl h2 rfl ((zk_3_0 h2).1) eX2_askPair_123 ?_
  refine zr_iload C 6 eX2_askPair_126 rfl ?_
  refine zr_iconst C eX2_askPair_128 rfl ?_
  refine zr_isub C eX2_askPair_129 ?_
  refine zr_iald C ((zk_3_0 h2).2) rfl rfl eX2_askPair_130 (fun v37 nv37 => ?_)
  refine zr_aloadn C 5 eX2_askPair_131 rfl ?_
  refine zr_getR C ff_X2_72 rfl h3 rfl ((zk_3_0 h3).1) eX2_askPair_132 ?_
  refine zr_iload C 6 eX2_askPair_135 rfl ?_
  refine zr_iconst C eX2_askPair_137 rfl ?_
  refine zr_isub C eX2_askPair_138 ?_
  refine zr_iald C ((zk_3_0 h3).2) rfl rfl eX2_askPair_139 (fun v38 nv38 => ?_)
  refine zr_isub C eX2_askPair_140 ?_
  refine zr_mabs C lk_X2_78 zy_mabs zrm_3_2_0 (Nat.le_of_ble_eq_true rfl) rfl eX2_askPair_141 (fun v39 nv39 => ?_)
  refine zr_goto C eX2_askPair_144 ?_
  refine zr_iast C ((zk_2_0 h0).2) (zln_2_0 h0) w_1 eX2_askPair_148 (fun σ40 => ?_)
  refine zr_lv [2, 3, 4, 5, 6, 7, 8, 9, 10, 1, 0] rfl ?_
  exact wJ_askPair_149 C o0 o1 o2 o3 x4 x5 x6 x7 x8 v10 v12 h0 h1 h2 h3 n4 n5 n6 n7 n8 nv10 nv12 σ40
theorem wJ_askPair_55 {G : Zg} {p : Program} {l : Launch} {e : Env} {s : State} {m : MethodId} {args : Array Value} {below : List Frame} {meth : Method} {c : Code} (C : zC G p s m args meth c cX2_askPair 11 RX2 none) {res : Int × Zm} (o0 : Nat) (o1 : Nat) (o2 : Nat) (o3 : Nat) (x4 : Int) (x5 : Int) (x6 : Int) (x7 : Int) (h0 : zin 294 o0 2) (h1 : zin 294 o1 6) (h2 : zin 294 o2 3) (h3 : zin 294 o3 3) (n4 : zw x4 = x4) (n5 : zw x5 = x5) (n6 : zw x6 = x6) (n7 : zw x7 = x7) (σ : Zm) : zR G p l e (zrm 3) s m args below meth c 11 0 0 (zQm below args s G 294 ztt none res.2) 294 ztt res σ (fJ_askPair_55 o0 o1 o2 o3 x4 x5 x6 x7 σ) [(0, .ref (zad G o0)), (1, .ref (zad G o1)), (2, .ref (zad G o2)), (3, .ref (zad G o3)), (4, .int (zI x4)), (5, .int (zI x5)), (6, .int (zI x6)), (7, .int (zI x7))] 55 [] := by
  unfold fJ_askPair_55
  refine zr_aloadn C 3 eX2_askPair_55 rfl ?_
  refine zr_getR C ff_X2_75 rfl h3 rfl ((zk_3_1 h3).1) eX2_askPair_56 ?_
  refine zr_iload C 4 eX2_askPair_59 rfl ?_
  refine zr_iald C ((zk_3_1 h3).2) rfl n4 eX2_askPair_61 (fun v8 nv8 => ?_)
  refine zr_iconst C eX2_askPair_62 rfl ?_
  refine zr_icmp_ne C eX2_askPair_63 nv8 w_1 ?_ ?_
  · refine zr_iconst C eX2_askPair_70 rfl ?_
    refine zr_istore (lv' := [(8, .int (zI 0)), (0, .ref (zad G o0)), (1, .ref (zad G o1)), (2, .ref (zad G o2)), (3, .ref (zad G o3)), (4, .int (zI x4)), (5, .int (zI x5)), (6, .int (zI x6)), (7, .int (zI x7))]) C eX2_askPair_71 (by decide) rfl ?_
    refine zr_lv [1, 2, 3, 4, 5, 6, 7, 8, 0] rfl ?_
    exact wJ_askPair_73 C o0 o1 o2 o3 x4 x5 x6 x7 0 h0 h1 h2 h3 n4 n5 n6 n7 w_0 σ
  refine zr_iconst C eX2_askPair_66 rfl ?_
  refine zr_goto C eX2_askPair_67 ?_
  refine zr_istore (lv' := [(8, .int (zI 1)), (0, .ref (zad G o0)), (1, .ref (zad G o1)), (2, .ref (zad G o2)), (3, .ref (zad G o3)), (4, .int (zI x4)), (5, .int (zI x5)), (6, .int (zI x6)), (7, .int (zI x7))]) C eX2_askPair_71 (by decide) rfl ?_
  refine zr_lv [1, 2, 3, 4, 5, 6, 7, 8, 0] rfl ?_
  exact wJ_askPair_73 C o0 o1 o2 o3 x4 x5 x6 x7 1 h0 h1 h2 h3 n4 n5 n6 n7 w_1 σ
theorem zqJ_askPair (l : Launch) (G : Zg) (σ : Zm) (o0 : Nat) (o1 : Nat) (o2 : Nat) (o3 : Nat) (x4 : Int) (h0 : zin 294 o0 2) (h1 : zin 294 o1 6) (h2 : zin 294 o2 3) (h3 : zin 294 o3 3) (n4 : zw x4 = x4) (res : Int × Zm) (he : fJ_askPair σ o0 o1 o2 o3 x4 = some res) : zM l yX2_askPair cX2_askPair 11 none 3 G 294 ztt σ [.ref (zad G o0), .ref (zad G o1), .ref (zad G o2), .ref (zad G o3), .int (zI x4)] none res.2 := by
  refine zM_of he (by decide +kernel) (Nat.le_of_ble_eq_true rfl) (lv := [(0, .ref (zad G o0)), (1, .ref (zad G o1)), (2, .ref (zad G o2)), (3, .ref (zad G o3)), (4, .int (zI x4))]) rfl (fun p e s m below meth c C => ?_)
  unfold fJ_askPair
  refine zr_aloadn C 2 eX2_askPair_0 rfl ?_
  refine zr_iload C 4 eX2_askPair_1 rfl ?_
  refine zr_callVi C [.int (zI x4)] zy_X3_sounds zv_X3_sounds lk_X2_69 zrm_3_2_1 h2 (by decide) rfl (fun r hr => zqL_sounds l G σ o2 x4 h2 n4 r hr) rfl rfl (Nat.le_of_ble_eq_true rfl) eX2_askPair_3 (fun v2 nv2 σ1 => ?_)
  refine zr_if_eq C eX2_askPair_6 nv2 ?_ ?_
  · exact zr_vret C eX2_askPair_18
  refine zr_aloadn C 3 eX2_askPair_9 rfl ?_
  refine zr_iload C 4 eX2_askPair_10 rfl ?_
  refine zr_callVi C [.int (zI x4)] zy_X3_sounds zv_X3_sounds lk_X2_69 zrm_3_2_1 h3 (by decide) rfl (fun r hr => zqL_sounds l G σ1 o3 x4 h3 n4 r hr) rfl rfl (Nat.le_of_ble_eq_true rfl) eX2_askPair_12 (fun v4 nv4 σ3 => ?_)
  refine zr_if_ne C eX2_askPair_15 nv4 ?_ ?_
  · refine zr_aloadn C 2 eX2_askPair_19 rfl ?_
    refine zr_getR C ff_X2_72 rfl h2 rfl ((zk_3_0 h2).1) eX2_askPair_20 ?_
    refine zr_iload C 4 eX2_askPair_23 rfl ?_
    refine zr_iald C ((zk_3_0 h2).2) rfl n4 eX2_askPair_25 (fun v5 nv5 => ?_)
    refine zr_istore (lv' := [(5, .int (zI v5)), (0, .ref (zad G o0)), (1, .ref (zad G o1)), (2, .ref (zad G o2)), (3, .ref (zad G o3)), (4, .int (zI x4))]) C eX2_askPair_26 (by decide) rfl ?_
    refine zr_aloadn C 4 eX2_askPair_28 rfl ?_
    refine zr_getR C ff_X2_72 rfl h3 rfl ((zk_3_0 h3).1) eX2_askPair_29 ?_
    refine zr_iload C 5 eX2_askPair_32 rfl ?_
    refine zr_iald C ((zk_3_0 h3).2) rfl n4 eX2_askPair_34 (fun v6 nv6 => ?_)
    refine zr_istore (lv' := [(6, .int (zI v6)), (5, .int (zI v5)), (0, .ref (zad G o0)), (1, .ref (zad G o1)), (2, .ref (zad G o2)), (3, .ref (zad G o3)), (4, .int (zI x4))]) C eX2_askPair_35 (by decide) rfl ?_
    refine zr_aloadn C 4 eX2_askPair_37 rfl ?_
    refine zr_getR C ff_X2_75 rfl h2 rfl ((zk_3_1 h2).1) eX2_askPair_38 ?_
    refine zr_iload C 6 eX2_askPair_41 rfl ?_
    refine zr_iald C ((zk_3_1 h2).2) rfl n4 eX2_askPair_43 (fun v7 nv7 => ?_)
    refine zr_iconst C eX2_askPair_44 rfl ?_
    refine zr_icmp_ne C eX2_askPair_45 nv7 w_1 ?_ ?_
    · refine zr_iconst C eX2_askPair_52 rfl ?_
      refine zr_istore (lv' := [(7, .int (zI 0)), (6, .int (zI v6)), (5, .int (zI v5)), (0, .ref (zad G o0)), (1, .ref (zad G o1)), (2, .ref (zad G o2)), (3, .ref (zad G o3)), (4, .int (zI x4))]) C eX2_askPair_53 (by decide) rfl ?_
      refine zr_lv [3, 4, 5, 6, 7, 2, 1, 0] rfl ?_
      exact wJ_askPair_55 C o0 o1 o2 o3 x4 v5 v6 0 h0 h1 h2 h3 n4 nv5 nv6 w_0 σ3
    refine zr_iconst C eX2_askPair_48 rfl ?_
    refine zr_goto C eX2_askPair_49 ?_
    refine zr_istore (lv' := [(7, .int (zI 1)), (6, .int (zI v6)), (5, .int (zI v5)), (0, .ref (zad G o0)), (1, .ref (zad G o1)), (2, .ref (zad G o2)), (3, .ref (zad G o3)), (4, .int (zI x4))]) C eX2_askPair_53 (by decide) rfl ?_
    refine zr_lv [3, 4, 5, 6, 7, 2, 1, 0] rfl ?_
    exact wJ_askPair_55 C o0 o1 o2 o3 x4 v5 v6 1 h0 h1 h2 h3 n4 nv5 nv6 w_1 σ3
  exact zr_vret C eX2_askPair_18
theorem wJ_askLine_91 {G : Zg} {p : Program} {l : Launch} {e : Env} {s : State} {m : MethodId} {args : Array Value} {below : List Frame} {meth : Method} {c : Code} (C : zC G p s m args meth c cX2_askLine 6 RX2 none) {res : Int × Zm} (o0 : Nat) (o1 : Nat) (o2 : Nat) (x3 : Int) (h0 : zin 294 o0 2) (h1 : zin 294 o1 6) (h2 : zin 294 o2 3) (n3 : zw x3 = x3) (σ : Zm) : zR G p l e (zrm 3) s m args below meth c 6 0 0 (zQm below args s G 294 ztt none res.2) 294 ztt res σ (fJ_askLine_91 o0 o1 o2 x3 σ) [(0, .ref (zad G o0)), (1, .ref (zad G o1)), (2, .ref (zad G o2)), (3, .int (zI x3))] 91 [] := by
  unfold fJ_askLine_91
  refine zr_aloadn C 0 eX2_askLine_91 rfl ?_
  refine zr_getR C ff_X2_9 rfl h0 rfl ((zk_2_0 h0).1) eX2_askLine_92 ?_
  refine zr_bipush (a := 11) C eX2_askLine_95 rfl ?_
  refine zr_aloadn C 2 eX2_askLine_97 rfl ?_
  refine zr_getR C ff_X2_72 rfl h2 rfl ((zk_3_0 h2).1) eX2_askLine_98 ?_
  refine zr_iloadn C 3 eX2_askLine_101 rfl ?_
  refine zr_iald C ((zk_3_0 h2).2) rfl n3 eX2_askLine_102 (fun v14 nv14 => ?_)
  refine zr_iast C ((zk_2_0 h0).2) (zln_2_0 h0) w_11 eX2_askLine_103 (fun σ15 => ?_)
  refine zr_aloadn C 0 eX2_askLine_104 rfl ?_
  refine zr_getR C ff_X2_9 rfl h0 rfl ((zk_2_0 h0).1) eX2_askLine_105 ?_
  refine zr_bipush (a := 12) C eX2_askLine_108 rfl ?_
  refine zr_aloadn C 2 eX2_askLine_110 rfl ?_
  refine zr_iloadn C 3 eX2_askLine_111 rfl ?_
  refine zr_callVi C [.int (zI x3)] zy_X3_restsAhead zv_X3_restsAhead lk_X2_89 zrm_3_4_1 h2 (by decide) rfl (fun r hr => zqL_restsAhead l G σ15 o2 x3 h2 n3 r hr) rfl rfl (Nat.le_of_ble_eq_true rfl) eX2_askLine_112 (fun v17 nv17 σ16 => ?_)
  refine zr_iast C ((zk_2_0 h0).2) (zln_2_0 h0) w_12 eX2_askLine_115 (fun σ18 => ?_)
  refine zr_aloadn C 0 eX2_askLine_116 rfl ?_
  refine zr_getR C ff_X2_9 rfl h0 rfl ((zk_2_0 h0).1) eX2_askLine_117 ?_
  refine zr_bipush (a := 8) C eX2_askLine_120 rfl ?_
  refine zr_iloadn C 3 eX2_askLine_122 rfl ?_
  refine zr_aloadn C 0 eX2_askLine_123 rfl ?_
  refine zr_getI C ff_X2_21 h0 eX2_askLine_124 (fun v19 nv19 => ?_)
  refine zr_irem C eX2_askLine_127 n3 nv19 ?_
  refine zr_iast C ((zk_2_0 h0).2) (zln_2_0 h0) w_8 eX2_askLine_128 (fun σ20 => ?_)
  refine zr_aloadn C 0 eX2_askLine_129 rfl ?_
  refine zr_aloadn C 1 eX2_askLine_130 rfl ?_
  refine zr_iconst C eX2_askLine_131 rfl ?_
  refine zr_iloadn C 3 eX2_askLine_132 rfl ?_
  refine zr_callVv C [.ref (zad G o1), .int (zI 1), .int (zI x3)] zy_X2_askClauses zv_X2_askClauses lk_X2_82 zrm_3_6_2 h0 (by decide) rfl (fun r hr => zqJ_askClauses l G σ20 o0 o1 1 x3 h0 h1 w_1 n3 r hr) rfl rfl (Nat.le_of_ble_eq_true rfl) eX2_askLine_133 (fun σ21 => ?_)
  exact zr_vret C eX2_askLine_136
theorem zqJ_askLine (l : Launch) (G : Zg) (σ : Zm) (o0 : Nat) (o1 : Nat) (o2 : Nat) (x3 : Int) (h0 : zin 294 o0 2) (h1 : zin 294 o1 6) (h2 : zin 294 o2 3) (n3 : zw x3 = x3) (res : Int × Zm) (he : fJ_askLine σ o0 o1 o2 x3 = some res) : zM l yX2_askLine cX2_askLine 6 none 3 G 294 ztt σ [.ref (zad G o0), .ref (zad G o1), .ref (zad G o2), .int (zI x3)] none res.2 := by
  refine zM_of he (by decide +kernel) (Nat.le_of_ble_eq_true rfl) (lv := [(0, .ref (zad G o0)), (1, .ref (zad G o1)), (2, .ref (zad G o2)), (3, .int (zI x3))]) rfl (fun p e s m below meth c C => ?_)
  unfold fJ_askLine
  refine zr_aloadn C 2 eX2_askLine_0 rfl ?_
  refine zr_iloadn C 3 eX2_askLine_1 rfl ?_
  refine zr_callVi C [.int (zI x3)] zy_X3_noteAhead zv_X3_noteAhead lk_X2_86 zrm_3_3_1 h2 (by decide) rfl (fun r hr => zqL_noteAhead l G σ o2 x3 h2 n3 r hr) rfl rfl (Nat.le_of_ble_eq_true rfl) eX2_askLine_2 (fun v2 nv2 σ1 => ?_)
  refine zr_istore (lv' := [(4, .int (zI v2)), (0, .ref (zad G o0)), (1, .ref (zad G o1)), (2, .ref (zad G o2)), (3, .int (zI x3))]) C eX2_askLine_5 (by decide) rfl ?_
  refine zr_aloadn C 3 eX2_askLine_7 rfl ?_
  refine zr_iloadn C 4 eX2_askLine_8 rfl ?_
  refine zr_callVi C [.int (zI x3)] zy_X3_sounds zv_X3_sounds lk_X2_69 zrm_3_2_1 h2 (by decide) rfl (fun r hr => zqL_sounds l G σ1 o2 x3 h2 n3 r hr) rfl rfl (Nat.le_of_ble_eq_true rfl) eX2_askLine_9 (fun v4 nv4 σ3 => ?_)
  refine zr_if_eq C eX2_askLine_12 nv4 ?_ ?_
  · exact zr_vret C eX2_askLine_30
  refine zr_aloadn C 3 eX2_askLine_15 rfl ?_
  refine zr_getR C ff_X2_75 rfl h2 rfl ((zk_3_1 h2).1) eX2_askLine_16 ?_
  refine zr_iloadn C 4 eX2_askLine_19 rfl ?_
  refine zr_iald C ((zk_3_1 h2).2) rfl n3 eX2_askLine_20 (fun v5 nv5 => ?_)
  refine zr_iconst C eX2_askLine_21 rfl ?_
  refine zr_icmp_ne C eX2_askLine_22 nv5 w_1 ?_ ?_
  · exact zr_vret C eX2_askLine_30
  refine zr_iload C 0 eX2_askLine_25 rfl ?_
  refine zr_if_ge C eX2_askLine_27 nv2 ?_ ?_
  · refine zr_aloadn C 3 eX2_askLine_31 rfl ?_
    refine zr_iload C 0 eX2_askLine_32 rfl ?_
    refine zr_callVi C [.int (zI v2)] zy_X3_noteAhead zv_X3_noteAhead lk_X2_86 zrm_3_3_1 h2 (by decide) rfl (fun r hr => zqL_noteAhead l G σ3 o2 v2 h2 nv2 r hr) rfl rfl (Nat.le_of_ble_eq_true rfl) eX2_askLine_34 (fun v7 nv7 σ6 => ?_)
    refine zr_istore (lv' := [(5, .int (zI v7)), (4, .int (zI v2)), (0, .ref (zad G o0)), (1, .ref (zad G o1)), (2, .ref (zad G o2)), (3, .int (zI x3))]) C eX2_askLine_37 (by decide) rfl ?_
    refine zr_aloadn C 2 eX2_askLine_39 rfl ?_
    refine zr_getR C ff_X2_9 rfl h0 rfl ((zk_2_0 h0).1) eX2_askLine_40 ?_
    refine zr_bipush (a := 9) C eX2_askLine_43 rfl ?_
    refine zr_aloadn C 4 eX2_askLine_45 rfl ?_
    refine zr_getR C ff_X2_72 rfl h2 rfl ((zk_3_0 h2).1) eX2_askLine_46 ?_
    refine zr_iloadn C 5 eX2_askLine_49 rfl ?_
    refine zr_iald C ((zk_3_0 h2).2) rfl n3 eX2_askLine_50 (fun v8 nv8 => ?_)
    refine zr_aloadn C 4 eX2_askLine_51 rfl ?_
    refine zr_getR C ff_X2_72 rfl h2 rfl ((zk_3_0 h2).1) eX2_askLine_52 ?_
    refine zr_iload C 1 eX2_askLine_55 rfl ?_
    refine zr_iald C ((zk_3_0 h2).2) rfl nv2 eX2_askLine_57 (fun v9 nv9 => ?_)
    refine zr_isub C eX2_askLine_58 ?_
    refine zr_iast C ((zk_2_0 h0).2) (zln_2_0 h0) w_9 eX2_askLine_59 (fun σ10 => ?_)
    refine zr_aloadn C 2 eX2_askLine_60 rfl ?_
    refine zr_getR C ff_X2_9 rfl h0 rfl ((zk_2_0 h0).1) eX2_askLine_61 ?_
    refine zr_bipush (a := 10) C eX2_askLine_64 rfl ?_
    refine zr_iload C 0 eX2_askLine_66 rfl ?_
    refine zr_if_ge C eX2_askLine_68 nv7 ?_ ?_
    · refine zr_aloadn C 4 eX2_askLine_75 rfl ?_
      refine zr_getR C ff_X2_72 rfl h2 rfl ((zk_3_0 h2).1) eX2_askLine_76 ?_
      refine zr_iload C 1 eX2_askLine_79 rfl ?_
      refine zr_iald C ((zk_3_0 h2).2) rfl nv2 eX2_askLine_81 (fun v11 nv11 => ?_)
      refine zr_aloadn C 4 eX2_askLine_82 rfl ?_
      refine zr_getR C ff_X2_72 rfl h2 rfl ((zk_3_0 h2).1) eX2_askLine_83 ?_
      refine zr_iload C 0 eX2_askLine_86 rfl ?_
      refine zr_iald C ((zk_3_0 h2).2) rfl nv7 eX2_askLine_88 (fun v12 nv12 => ?_)
      refine zr_isub C eX2_askLine_89 ?_
      refine zr_iast C ((zk_2_0 h0).2) (zln_2_0 h0) w_10 eX2_askLine_90 (fun σ13 => ?_)
      refine zr_lv [2, 3, 4, 5] rfl ?_
      exact wJ_askLine_91 C o0 o1 o2 x3 h0 h1 h2 n3 σ13
    refine zr_iconst C eX2_askLine_71 rfl ?_
    refine zr_goto C eX2_askLine_72 ?_
    refine zr_iast C ((zk_2_0 h0).2) (zln_2_0 h0) w_10 eX2_askLine_90 (fun σ22 => ?_)
    refine zr_lv [2, 3, 4, 5] rfl ?_
    exact wJ_askLine_91 C o0 o1 o2 x3 h0 h1 h2 n3 σ22
  exact zr_vret C eX2_askLine_30
theorem wJ_askPiece_58 {G : Zg} {p : Program} {l : Launch} {e : Env} {s : State} {m : MethodId} {args : Array Value} {below : List Frame} {meth : Method} {c : Code} (C : zC G p s m args meth c cX2_askPiece 10 RX2 none) {res : Int × Zm} (K101 : Nat → Nat → Nat → Int → Int → Int → Int → Int → Zm → Zr) (hK101 : ∀ (o0 : Nat) (o1 : Nat) (o2 : Nat) (x3 : Int) (x5 : Int) (x6 : Int) (x7 : Int) (x8 : Int) (h0 : zin 294 o0 2) (h1 : zin 294 o1 6) (h2 : zin 294 o2 23) (n3 : zw x3 = x3) (n5 : zw x5 = x5) (n6 : zw x6 = x6) (n7 : zw x7 = x7) (n8 : zw x8 = x8) (σ : Zm), zR G p l e (zrm 4) s m args below meth c 10 0 0 (zQm below args s G 294 ztt none res.2) 294 ztt res σ (K101 o0 o1 o2 x3 x5 x6 x7 x8 σ) [(0, .ref (zad G o0)), (1, .ref (zad G o1)), (2, .ref (zad G o2)), (3, .int (zI x3)), (5, .int (zI x5)), (6, .int (zI x6)), (7, .int (zI x7)), (8, .int (zI x8))] 101 []) : ∀ (n : Nat) (o0 : Nat) (o1 : Nat) (o2 : Nat) (x3 : Int) (x5 : Int) (x6 : Int) (x7 : Int) (x8 : Int) (x9 : Int) (h0 : zin 294 o0 2) (h1 : zin 294 o1 6) (h2 : zin 294 o2 23) (n3 : zw x3 = x3) (n5 : zw x5 = x5) (n6 : zw x6 = x6) (n7 : zw x7 = x7) (n8 : zw x8 = x8) (n9 : zw x9 = x9) (σ : Zm), zR G p l e (zrm 4) s m args below meth c 10 0 0 (zQm below args s G 294 ztt none res.2) 294 ztt res σ (fJ_askPiece_58 n o0 o1 o2 x3 x5 x6 x7 x8 x9 σ K101) [(0, .ref (zad G o0)), (1, .ref (zad G o1)), (2, .ref (zad G o2)), (3, .int (zI x3)), (5, .int (zI x5)), (6, .int (zI x6)), (7, .int (zI x7)), (8, .int (zI x8)), (9, .int (zI x9))] 58 []
  | 0, _, _, _, _, _, _, _, _, _, _, _, _, _, _, _, _, _, _, _ => zr_none
  | n + 1, o0, o1, o2, x3, x5, x6, x7, x8, x9, h0, h1, h2, n3, n5, n6, n7, n8, n9, σ => by
    have ih := fun (o0 : Nat) (o1 : Nat) (o2 : Nat) (x3 : Int) (x5 : Int) (x6 : Int) (x7 : Int) (x8 : Int) (x9 : Int) (h0 : zin 294 o0 2) (h1 : zin 294 o1 6) (h2 : zin 294 o2 23) (n3 : zw x3 = x3) (n5 : zw x5 = x5) (n6 : zw x6 = x6) (n7 : zw x7 = x7) (n8 : zw x8 = x8) (n9 : zw x9 = x9) (σ : Zm) => wJ_askPiece_58 (l := l) (e := e) (below := below) C K101 hK101 (res := res) n o0 o1 o2 x3 x5 x6 x7 x8 x9 h0 h1 h2 n3 n5 n6 n7 n8 n9 σ
    rw [fJ_askPiece_58]
    refine zr_letf (fun R0 hR0 => ?_)
    have ih : ∀ (o0 : Nat) (o1 : Nat) (o2 : Nat) (x3 : Int) (x5 : Int) (x6 : Int) (x7 : Int) (x8 : Int) (x9 : Int) (h0 : zin 294 o0 2) (h1 : zin 294 o1 6) (h2 : zin 294 o2 23) (n3 : zw x3 = x3) (n5 : zw x5 = x5) (n6 : zw x6 = x6) (n7 : zw x7 = x7) (n8 : zw x8 = x8) (n9 : zw x9 = x9) (σ : Zm), zR G p l e (zrm 4) s m args below meth c 10 0 0 (zQm below args s G 294 ztt none res.2) 294 ztt res σ (R0 o0 o1 o2 x3 x5 x6 x7 x8 x9 σ) [(0, .ref (zad G o0)), (1, .ref (zad G o1)), (2, .ref (zad G o2)), (3, .int (zI x3)), (5, .int (zI x5)), (6, .int (zI x6)), (7, .int (zI x7)), (8, .int (zI x8)), (9, .int (zI x9))] 58 [] := by rw [hR0]; exact ih
    clear hR0
    refine zr_iload C 8 eX2_askPiece_58 rfl ?_
    refine zr_iconst C eX2_askPiece_60 rfl ?_
    refine zr_icmp_ge C eX2_askPiece_61 n9 w_4 ?_ ?_
    · refine zr_lv [0, 1, 2, 3, 4, 5, 6, 7] rfl ?_
      exact hK101 o0 o1 o2 x3 x5 x6 x7 x8 h0 h1 h2 n3 n5 n6 n7 n8 _
    refine zr_aloadn C 0 eX2_askPiece_64 rfl ?_
    refine zr_iload C 7 eX2_askPiece_65 rfl ?_
    refine zr_putI C ff_X2_34 rfl h0 eX2_askPiece_67 (fun σ6 => ?_)
    refine zr_aloadn C 0 eX2_askPiece_70 rfl ?_
    refine zr_iload C 8 eX2_askPiece_71 rfl ?_
    refine zr_putI C ff_X2_37 rfl h0 eX2_askPiece_73 (fun σ7 => ?_)
    refine zr_aloadn C 0 eX2_askPiece_76 rfl ?_
    refine zr_aloadn C 1 eX2_askPiece_77 rfl ?_
    refine zr_aloadn C 2 eX2_askPiece_78 rfl ?_
    refine zr_iloadn C 3 eX2_askPiece_79 rfl ?_
    refine zr_iload C 7 eX2_askPiece_80 rfl ?_
    refine zr_iadd C eX2_askPiece_82 ?_
    refine zr_aald23 C h2 rfl rfl (fun _ _ => rfl) eX2_askPiece_83 (fun hh8 => ?_)
    refine zr_aloadn C 2 eX2_askPiece_84 rfl ?_
    refine zr_iloadn C 3 eX2_askPiece_85 rfl ?_
    refine zr_iload C 8 eX2_askPiece_86 rfl ?_
    refine zr_iadd C eX2_askPiece_88 ?_
    refine zr_aald23 C h2 rfl rfl (fun _ _ => rfl) eX2_askPiece_89 (fun hh9 => ?_)
    refine zr_iload C 6 eX2_askPiece_90 rfl ?_
    refine zr_callVv C [.ref (zad G o1), .ref (zad G (zRF o2 (zw (x3 + x8)).toNat)), .ref (zad G (zRF o2 (zw (x3 + x9)).toNat)), .int (zI x7)] zy_X2_askPair zv_X2_askPair lk_X2_52 zrm_4_11_3 h0 (by decide) rfl (fun r hr => zqJ_askPair l G σ7 o0 o1 (zRF o2 (zw (x3 + x8)).toNat) (zRF o2 (zw (x3 + x9)).toNat) x7 h0 h1 (ze_23 h2 rfl hh8) (ze_23 h2 rfl hh9) n7 r hr) rfl rfl (Nat.le_of_ble_eq_true rfl) eX2_askPiece_92 (fun σ10 => ?_)
    refine zr_iinc (lv' := [(9, .int (zI (x9 + 1))), (0, .ref (zad G o0)), (1, .ref (zad G o1)), (2, .ref (zad G o2)), (3, .int (zI x3)), (5, .int (zI x5)), (6, .int (zI x6)), (7, .int (zI x7)), (8, .int (zI x8))]) C 8 eX2_askPiece_95 rfl (by decide) rfl ?_
    refine zr_goto C eX2_askPiece_98 ?_
    refine zr_lv [1, 2, 3, 4, 5, 6, 7, 8, 0] rfl ?_
    exact zr_lve (zs_p (zs_p (zs_p (zs_p (zs_p (zs_p (zs_p (zs_p (zs_pi (zI_w (x9 + 1)).symm rfl))))))))) (ih o0 o1 o2 x3 x5 x6 x7 x8 (zw (x9 + 1)) h0 h1 h2 n3 n5 n6 n7 n8 (zw_w (x9 + 1)) _)
theorem wJ_askPiece_41 {G : Zg} {p : Program} {l : Launch} {e : Env} {s : State} {m : MethodId} {args : Array Value} {below : List Frame} {meth : Method} {c : Code} (C : zC G p s m args meth c cX2_askPiece 10 RX2 none) {res : Int × Zm} (K107 : Nat → Nat → Nat → Int → Int → Int → Int → Zm → Zr) (hK107 : ∀ (o0 : Nat) (o1 : Nat) (o2 : Nat) (x3 : Int) (x5 : Int) (x6 : Int) (x7 : Int) (h0 : zin 294 o0 2) (h1 : zin 294 o1 6) (h2 : zin 294 o2 23) (n3 : zw x3 = x3) (n5 : zw x5 = x5) (n6 : zw x6 = x6) (n7 : zw x7 = x7) (σ : Zm), zR G p l e (zrm 4) s m args below meth c 10 0 0 (zQm below args s G 294 ztt none res.2) 294 ztt res σ (K107 o0 o1 o2 x3 x5 x6 x7 σ) [(0, .ref (zad G o0)), (1, .ref (zad G o1)), (2, .ref (zad G o2)), (3, .int (zI x3)), (5, .int (zI x5)), (6, .int (zI x6)), (7, .int (zI x7))] 107 []) : ∀ (n : Nat) (o0 : Nat) (o1 : Nat) (o2 : Nat) (x3 : Int) (x5 : Int) (x6 : Int) (x7 : Int) (x8 : Int) (h0 : zin 294 o0 2) (h1 : zin 294 o1 6) (h2 : zin 294 o2 23) (n3 : zw x3 = x3) (n5 : zw x5 = x5) (n6 : zw x6 = x6) (n7 : zw x7 = x7) (n8 : zw x8 = x8) (σ : Zm), zR G p l e (zrm 4) s m args below meth c 10 0 0 (zQm below args s G 294 ztt none res.2) 294 ztt res σ (fJ_askPiece_41 n o0 o1 o2 x3 x5 x6 x7 x8 σ K107) [(0, .ref (zad G o0)), (1, .ref (zad G o1)), (2, .ref (zad G o2)), (3, .int (zI x3)), (5, .int (zI x5)), (6, .int (zI x6)), (7, .int (zI x7)), (8, .int (zI x8))] 41 []
  | 0, _, _, _, _, _, _, _, _, _, _, _, _, _, _, _, _, _ => zr_none
  | n + 1, o0, o1, o2, x3, x5, x6, x7, x8, h0, h1, h2, n3, n5, n6, n7, n8, σ => by
    have ih := fun (o0 : Nat) (o1 : Nat) (o2 : Nat) (x3 : Int) (x5 : Int) (x6 : Int) (x7 : Int) (x8 : Int) (h0 : zin 294 o0 2) (h1 : zin 294 o1 6) (h2 : zin 294 o2 23) (n3 : zw x3 = x3) (n5 : zw x5 = x5) (n6 : zw x6 = x6) (n7 : zw x7 = x7) (n8 : zw x8 = x8) (σ : Zm) => wJ_askPiece_41 (l := l) (e := e) (below := below) C K107 hK107 (res := res) n o0 o1 o2 x3 x5 x6 x7 x8 h0 h1 h2 n3 n5 n6 n7 n8 σ
    rw [fJ_askPiece_41]
    refine zr_letf (fun R0 hR0 => ?_)
    have ih : ∀ (o0 : Nat) (o1 : Nat) (o2 : Nat) (x3 : Int) (x5 : Int) (x6 : Int) (x7 : Int) (x8 : Int) (h0 : zin 294 o0 2) (h1 : zin 294 o1 6) (h2 : zin 294 o2 23) (n3 : zw x3 = x3) (n5 : zw x5 = x5) (n6 : zw x6 = x6) (n7 : zw x7 = x7) (n8 : zw x8 = x8) (σ : Zm), zR G p l e (zrm 4) s m args below meth c 10 0 0 (zQm below args s G 294 ztt none res.2) 294 ztt res σ (R0 o0 o1 o2 x3 x5 x6 x7 x8 σ) [(0, .ref (zad G o0)), (1, .ref (zad G o1)), (2, .ref (zad G o2)), (3, .int (zI x3)), (5, .int (zI x5)), (6, .int (zI x6)), (7, .int (zI x7)), (8, .int (zI x8))] 41 [] := by rw [hR0]; exact ih
    clear hR0
    refine zr_iload C 4 eX2_askPiece_41 rfl ?_
    refine zr_if_eq C eX2_askPiece_43 n5 ?_ ?_
    · refine zr_lv [0, 1, 2, 3, 4, 5, 6] rfl ?_
      exact hK107 o0 o1 o2 x3 x5 x6 x7 h0 h1 h2 n3 n5 n6 n7 _
    refine zr_iload C 7 eX2_askPiece_46 rfl ?_
    refine zr_iconst C eX2_askPiece_48 rfl ?_
    refine zr_icmp_ge C eX2_askPiece_49 n8 w_4 ?_ ?_
    · refine zr_lv [0, 1, 2, 3, 4, 5, 6] rfl ?_
      exact hK107 o0 o1 o2 x3 x5 x6 x7 h0 h1 h2 n3 n5 n6 n7 _
    refine zr_iload C 7 eX2_askPiece_52 rfl ?_
    refine zr_iconst C eX2_askPiece_54 rfl ?_
    refine zr_iadd C eX2_askPiece_55 ?_
    refine zr_st (show _ = .int (zI (zw (x8 + 1))) :: _ from congrArg (· :: _) (congrArg Value.int (zI_w (x8 + 1)).symm)) ?_
    refine zr_letw (P := fun z => .int (zI z) :: _) (zw_w (x8 + 1)) (fun v5 nv5 => ?_)
    refine zr_istore (lv' := [(9, .int (zI v5)), (0, .ref (zad G o0)), (1, .ref (zad G o1)), (2, .ref (zad G o2)), (3, .int (zI x3)), (5, .int (zI x5)), (6, .int (zI x6)), (7, .int (zI x7)), (8, .int (zI x8))]) C eX2_askPiece_56 (by decide) rfl ?_
    refine zr_lv [1, 2, 3, 4, 5, 6, 7, 8, 0] rfl ?_
    refine wJ_askPiece_58 C _ ?_ 5000 o0 o1 o2 x3 x5 x6 x7 x8 v5 h0 h1 h2 n3 n5 n6 n7 n8 nv5 σ
    intro o12 o13 o14 y15 y16 y17 y18 y19 ho12 ho13 ho14 ny15 ny16 ny17 ny18 ny19 σ11
    refine zr_iinc (lv' := [(8, .int (zI (y19 + 1))), (0, .ref (zad G o12)), (1, .ref (zad G o13)), (2, .ref (zad G o14)), (3, .int (zI y15)), (5, .int (zI y16)), (6, .int (zI y17)), (7, .int (zI y18))]) C 7 eX2_askPiece_101 rfl (by decide) rfl ?_
    refine zr_goto C eX2_askPiece_104 ?_
    refine zr_lv [1, 2, 3, 4, 5, 6, 7, 0] rfl ?_
    exact zr_lve (zs_p (zs_p (zs_p (zs_p (zs_p (zs_p (zs_p (zs_pi (zI_w (y19 + 1)).symm rfl)))))))) (ih o12 o13 o14 y15 y16 y17 y18 (zw (y19 + 1)) ho12 ho13 ho14 ny15 ny16 ny17 ny18 (zw_w (y19 + 1)) _)
theorem wJ_askPiece_110 {G : Zg} {p : Program} {l : Launch} {e : Env} {s : State} {m : MethodId} {args : Array Value} {below : List Frame} {meth : Method} {c : Code} (C : zC G p s m args meth c cX2_askPiece 10 RX2 none) {res : Int × Zm} (K151 : Nat → Nat → Nat → Int → Int → Int → Int → Zm → Zr) (hK151 : ∀ (o0 : Nat) (o1 : Nat) (o2 : Nat) (x3 : Int) (x5 : Int) (x6 : Int) (x7 : Int) (h0 : zin 294 o0 2) (h1 : zin 294 o1 6) (h2 : zin 294 o2 23) (n3 : zw x3 = x3) (n5 : zw x5 = x5) (n6 : zw x6 = x6) (n7 : zw x7 = x7) (σ : Zm), zR G p l e (zrm 4) s m args below meth c 10 0 0 (zQm below args s G 294 ztt none res.2) 294 ztt res σ (K151 o0 o1 o2 x3 x5 x6 x7 σ) [(0, .ref (zad G o0)), (1, .ref (zad G o1)), (2, .ref (zad G o2)), (3, .int (zI x3)), (5, .int (zI x5)), (6, .int (zI x6)), (7, .int (zI x7))] 151 []) : ∀ (n : Nat) (o0 : Nat) (o1 : Nat) (o2 : Nat) (x3 : Int) (x5 : Int) (x6 : Int) (x7 : Int) (x8 : Int) (h0 : zin 294 o0 2) (h1 : zin 294 o1 6) (h2 : zin 294 o2 23) (n3 : zw x3 = x3) (n5 : zw x5 = x5) (n6 : zw x6 = x6) (n7 : zw x7 = x7) (n8 : zw x8 = x8) (σ : Zm), zR G p l e (zrm 4) s m args below meth c 10 0 0 (zQm below args s G 294 ztt none res.2) 294 ztt res σ (fJ_askPiece_110 n o0 o1 o2 x3 x5 x6 x7 x8 σ K151) [(0, .ref (zad G o0)), (1, .ref (zad G o1)), (2, .ref (zad G o2)), (3, .int (zI x3)), (5, .int (zI x5)), (6, .int (zI x6)), (7, .int (zI x7)), (8, .int (zI x8))] 110 []
  | 0, _, _, _, _, _, _, _, _, _, _, _, _, _, _, _, _, _ => zr_none
  | n + 1, o0, o1, o2, x3, x5, x6, x7, x8, h0, h1, h2, n3, n5, n6, n7, n8, σ => by
    have ih := fun (o0 : Nat) (o1 : Nat) (o2 : Nat) (x3 : Int) (x5 : Int) (x6 : Int) (x7 : Int) (x8 : Int) (h0 : zin 294 o0 2) (h1 : zin 294 o1 6) (h2 : zin 294 o2 23) (n3 : zw x3 = x3) (n5 : zw x5 = x5) (n6 : zw x6 = x6) (n7 : zw x7 = x7) (n8 : zw x8 = x8) (σ : Zm) => wJ_askPiece_110 (l := l) (e := e) (below := below) C K151 hK151 (res := res) n o0 o1 o2 x3 x5 x6 x7 x8 h0 h1 h2 n3 n5 n6 n7 n8 σ
    rw [fJ_askPiece_110]
    refine zr_letf (fun R0 hR0 => ?_)
    have ih : ∀ (o0 : Nat) (o1 : Nat) (o2 : Nat) (x3 : Int) (x5 : Int) (x6 : Int) (x7 : Int) (x8 : Int) (h0 : zin 294 o0 2) (h1 : zin 294 o1 6) (h2 : zin 294 o2 23) (n3 : zw x3 = x3) (n5 : zw x5 = x5) (n6 : zw x6 = x6) (n7 : zw x7 = x7) (n8 : zw x8 = x8) (σ : Zm), zR G p l e (zrm 4) s m args below meth c 10 0 0 (zQm below args s G 294 ztt none res.2) 294 ztt res σ (R0 o0 o1 o2 x3 x5 x6 x7 x8 σ) [(0, .ref (zad G o0)), (1, .ref (zad G o1)), (2, .ref (zad G o2)), (3, .int (zI x3)), (5, .int (zI x5)), (6, .int (zI x6)), (7, .int (zI x7)), (8, .int (zI x8))] 110 [] := by rw [hR0]; exact ih
    clear hR0
    refine zr_iload C 5 eX2_askPiece_110 rfl ?_
    refine zr_if_eq C eX2_askPiece_112 n6 ?_ ?_
    · refine zr_lv [0, 1, 2, 3, 4, 5, 6] rfl ?_
      exact hK151 o0 o1 o2 x3 x5 x6 x7 h0 h1 h2 n3 n5 n6 n7 _
    refine zr_iload C 7 eX2_askPiece_115 rfl ?_
    refine zr_iconst C eX2_askPiece_117 rfl ?_
    refine zr_icmp_ge C eX2_askPiece_118 n8 w_4 ?_ ?_
    · refine zr_lv [0, 1, 2, 3, 4, 5, 6] rfl ?_
      exact hK151 o0 o1 o2 x3 x5 x6 x7 h0 h1 h2 n3 n5 n6 n7 _
    refine zr_aloadn C 0 eX2_askPiece_121 rfl ?_
    refine zr_iload C 7 eX2_askPiece_122 rfl ?_
    refine zr_putI C ff_X2_34 rfl h0 eX2_askPiece_124 (fun σ28 => ?_)
    refine zr_aloadn C 0 eX2_askPiece_127 rfl ?_
    refine zr_iconst C eX2_askPiece_128 rfl ?_
    refine zr_putI C ff_X2_37 rfl h0 eX2_askPiece_129 (fun σ29 => ?_)
    refine zr_aloadn C 0 eX2_askPiece_132 rfl ?_
    refine zr_aloadn C 1 eX2_askPiece_133 rfl ?_
    refine zr_aloadn C 2 eX2_askPiece_134 rfl ?_
    refine zr_iloadn C 3 eX2_askPiece_135 rfl ?_
    refine zr_iload C 7 eX2_askPiece_136 rfl ?_
    refine zr_iadd C eX2_askPiece_138 ?_
    refine zr_aald23 C h2 rfl rfl (fun _ _ => rfl) eX2_askPiece_139 (fun hh30 => ?_)
    refine zr_iload C 6 eX2_askPiece_140 rfl ?_
    refine zr_callVv C [.ref (zad G o1), .ref (zad G (zRF o2 (zw (x3 + x8)).toNat)), .int (zI x7)] zy_X2_askLine zv_X2_askLine lk_X2_56 zrm_4_6_3 h0 (by decide) rfl (fun r hr => zqJ_askLine l G σ29 o0 o1 (zRF o2 (zw (x3 + x8)).toNat) x7 h0 h1 (ze_23 h2 rfl hh30) n7 r hr) rfl rfl (Nat.le_of_ble_eq_true rfl) eX2_askPiece_142 (fun σ31 => ?_)
    refine zr_iinc (lv' := [(8, .int (zI (x8 + 1))), (0, .ref (zad G o0)), (1, .ref (zad G o1)), (2, .ref (zad G o2)), (3, .int (zI x3)), (5, .int (zI x5)), (6, .int (zI x6)), (7, .int (zI x7))]) C 7 eX2_askPiece_145 rfl (by decide) rfl ?_
    refine zr_goto C eX2_askPiece_148 ?_
    refine zr_lv [1, 2, 3, 4, 5, 6, 7, 0] rfl ?_
    exact zr_lve (zs_p (zs_p (zs_p (zs_p (zs_p (zs_p (zs_p (zs_pi (zI_w (x8 + 1)).symm rfl)))))))) (ih o0 o1 o2 x3 x5 x6 x7 (zw (x8 + 1)) h0 h1 h2 n3 n5 n6 n7 (zw_w (x8 + 1)) _)
theorem wJ_askPiece_31 {G : Zg} {p : Program} {l : Launch} {e : Env} {s : State} {m : MethodId} {args : Array Value} {below : List Frame} {meth : Method} {c : Code} (C : zC G p s m args meth c cX2_askPiece 10 RX2 none) {res : Int × Zm} : ∀ (n : Nat) (o0 : Nat) (o1 : Nat) (o2 : Nat) (x3 : Int) (x5 : Int) (x6 : Int) (x7 : Int) (h0 : zin 294 o0 2) (h1 : zin 294 o1 6) (h2 : zin 294 o2 23) (n3 : zw x3 = x3) (n5 : zw x5 = x5) (n6 : zw x6 = x6) (n7 : zw x7 = x7) (σ : Zm), zR G p l e (zrm 4) s m args below meth c 10 0 0 (zQm below args s G 294 ztt none res.2) 294 ztt res σ (fJ_askPiece_31 n o0 o1 o2 x3 x5 x6 x7 σ) [(0, .ref (zad G o0)), (1, .ref (zad G o1)), (2, .ref (zad G o2)), (3, .int (zI x3)), (5, .int (zI x5)), (6, .int (zI x6)), (7, .int (zI x7))] 31 []
  | 0, _, _, _, _, _, _, _, _, _, _, _, _, _, _, _ => zr_none
  | n + 1, o0, o1, o2, x3, x5, x6, x7, h0, h1, h2, n3, n5, n6, n7, σ => by
    have ih := fun (o0 : Nat) (o1 : Nat) (o2 : Nat) (x3 : Int) (x5 : Int) (x6 : Int) (x7 : Int) (h0 : zin 294 o0 2) (h1 : zin 294 o1 6) (h2 : zin 294 o2 23) (n3 : zw x3 = x3) (n5 : zw x5 = x5) (n6 : zw x6 = x6) (n7 : zw x7 = x7) (σ : Zm) => wJ_askPiece_31 (l := l) (e := e) (below := below) C (res := res) n o0 o1 o2 x3 x5 x6 x7 h0 h1 h2 n3 n5 n6 n7 σ
    rw [fJ_askPiece_31]
    refine zr_letf (fun R0 hR0 => ?_)
    have ih : ∀ (o0 : Nat) (o1 : Nat) (o2 : Nat) (x3 : Int) (x5 : Int) (x6 : Int) (x7 : Int) (h0 : zin 294 o0 2) (h1 : zin 294 o1 6) (h2 : zin 294 o2 23) (n3 : zw x3 = x3) (n5 : zw x5 = x5) (n6 : zw x6 = x6) (n7 : zw x7 = x7) (σ : Zm), zR G p l e (zrm 4) s m args below meth c 10 0 0 (zQm below args s G 294 ztt none res.2) 294 ztt res σ (R0 o0 o1 o2 x3 x5 x6 x7 σ) [(0, .ref (zad G o0)), (1, .ref (zad G o1)), (2, .ref (zad G o2)), (3, .int (zI x3)), (5, .int (zI x5)), (6, .int (zI x6)), (7, .int (zI x7))] 31 [] := by rw [hR0]; exact ih
    clear hR0
    refine zr_iload C 6 eX2_askPiece_31 rfl ?_
    refine zr_bipush (a := 32) C eX2_askPiece_33 rfl ?_
    refine zr_icmp_ge C eX2_askPiece_35 n7 w_32 ?_ ?_
    · exact zr_vret C eX2_askPiece_157
    refine zr_iconst C eX2_askPiece_38 rfl ?_
    refine zr_istore (lv' := [(8, .int (zI 0)), (0, .ref (zad G o0)), (1, .ref (zad G o1)), (2, .ref (zad G o2)), (3, .int (zI x3)), (5, .int (zI x5)), (6, .int (zI x6)), (7, .int (zI x7))]) C eX2_askPiece_39 (by decide) rfl ?_
    refine zr_lv [1, 2, 3, 4, 5, 6, 7, 0] rfl ?_
    refine wJ_askPiece_41 C _ ?_ 5000 o0 o1 o2 x3 x5 x6 x7 0 h0 h1 h2 n3 n5 n6 n7 w_0 σ
    intro o21 o22 o23 y24 y25 y26 y27 ho21 ho22 ho23 ny24 ny25 ny26 ny27 σ20
    refine zr_iconst C eX2_askPiece_107 rfl ?_
    refine zr_istore (lv' := [(8, .int (zI 0)), (0, .ref (zad G o21)), (1, .ref (zad G o22)), (2, .ref (zad G o23)), (3, .int (zI y24)), (5, .int (zI y25)), (6, .int (zI y26)), (7, .int (zI y27))]) C eX2_askPiece_108 (by decide) rfl ?_
    refine zr_lv [1, 2, 3, 4, 5, 6, 7, 0] rfl ?_
    refine wJ_askPiece_110 C _ ?_ 5000 o21 o22 o23 y24 y25 y26 y27 0 ho21 ho22 ho23 ny24 ny25 ny26 ny27 w_0 σ20
    intro o33 o34 o35 y36 y37 y38 y39 ho33 ho34 ho35 ny36 ny37 ny38 ny39 σ32
    refine zr_iinc (lv' := [(7, .int (zI (y39 + 1))), (0, .ref (zad G o33)), (1, .ref (zad G o34)), (2, .ref (zad G o35)), (3, .int (zI y36)), (5, .int (zI y37)), (6, .int (zI y38))]) C 6 eX2_askPiece_151 rfl (by decide) rfl ?_
    refine zr_goto C eX2_askPiece_154 ?_
    refine zr_lv [1, 2, 3, 4, 5, 6, 0] rfl ?_
    exact zr_lve (zs_p (zs_p (zs_p (zs_p (zs_p (zs_p (zs_pi (zI_w (y39 + 1)).symm rfl))))))) (ih o33 o34 o35 y36 y37 y38 (zw (y39 + 1)) ho33 ho34 ho35 ny36 ny37 ny38 (zw_w (y39 + 1)) _)
theorem zqJ_askPiece (l : Launch) (G : Zg) (σ : Zm) (o0 : Nat) (o1 : Nat) (o2 : Nat) (x3 : Int) (x4 : Int) (h0 : zin 294 o0 2) (h1 : zin 294 o1 6) (h2 : zin 294 o2 23) (n3 : zw x3 = x3) (n4 : zw x4 = x4) (res : Int × Zm) (he : fJ_askPiece σ o0 o1 o2 x3 x4 = some res) : zM l yX2_askPiece cX2_askPiece 10 none 4 G 294 ztt σ [.ref (zad G o0), .ref (zad G o1), .ref (zad G o2), .int (zI x3), .int (zI x4)] none res.2 := by
  refine zM_of he (by decide +kernel) (Nat.le_of_ble_eq_true rfl) (lv := [(0, .ref (zad G o0)), (1, .ref (zad G o1)), (2, .ref (zad G o2)), (3, .int (zI x3)), (4, .int (zI x4))]) rfl (fun p e s m below meth c C => ?_)
  unfold fJ_askPiece
  refine zr_iloadn C 3 eX2_askPiece_0 rfl ?_
  refine zr_if_lt C eX2_askPiece_1 n3 ?_ ?_
  · exact zr_vret C eX2_askPiece_12
  refine zr_iloadn C 3 eX2_askPiece_4 rfl ?_
  refine zr_iconst C eX2_askPiece_5 rfl ?_
  refine zr_iadd C eX2_askPiece_6 ?_
  refine zr_aloadn C 2 eX2_askPiece_7 rfl ?_
  refine zr_alen (A := ((zLN o2 : Nat) : Int)) C h2 (by decide) rfl rfl eX2_askPiece_8 ?_
  refine zr_icmp_le C eX2_askPiece_9 rfl (zw_LN _) ?_ ?_
  · refine zr_aloadn C 1 eX2_askPiece_13 rfl ?_
    refine zr_iconst C eX2_askPiece_14 rfl ?_
    refine zr_callVi C [.int (zI 0)] zy_X6_has zv_X6_has lk_X2_46 zrm_4_3_0 h1 (by decide) rfl (fun r hr => zqU_has l G σ o1 0 h1 w_0 r hr) rfl rfl (Nat.le_of_ble_eq_true rfl) eX2_askPiece_15 (fun v2 nv2 σ1 => ?_)
    refine zr_istore (lv' := [(5, .int (zI v2)), (0, .ref (zad G o0)), (1, .ref (zad G o1)), (2, .ref (zad G o2)), (3, .int (zI x3)), (4, .int (zI x4))]) C eX2_askPiece_18 (by decide) rfl ?_
    refine zr_aloadn C 2 eX2_askPiece_20 rfl ?_
    refine zr_iconst C eX2_askPiece_21 rfl ?_
    refine zr_callVi C [.int (zI 1)] zy_X6_has zv_X6_has lk_X2_46 zrm_4_3_0 h1 (by decide) rfl (fun r hr => zqU_has l G σ1 o1 1 h1 w_1 r hr) rfl rfl (Nat.le_of_ble_eq_true rfl) eX2_askPiece_22 (fun v4 nv4 σ3 => ?_)
    refine zr_istore (lv' := [(6, .int (zI v4)), (5, .int (zI v2)), (0, .ref (zad G o0)), (1, .ref (zad G o1)), (2, .ref (zad G o2)), (3, .int (zI x3)), (4, .int (zI x4))]) C eX2_askPiece_25 (by decide) rfl ?_
    refine zr_iload C 6 eX2_askPiece_27 rfl ?_
    refine zr_istore (lv' := [(7, .int (zI x4)), (6, .int (zI v4)), (5, .int (zI v2)), (0, .ref (zad G o0)), (1, .ref (zad G o1)), (2, .ref (zad G o2)), (3, .int (zI x3)), (4, .int (zI x4))]) C eX2_askPiece_29 (by decide) rfl ?_
    refine zr_lv [3, 4, 5, 6, 2, 1, 0] rfl ?_
    refine wJ_askPiece_31 C 5000 o0 o1 o2 x3 v2 v4 x4 h0 h1 h2 n3 nv2 nv4 n4 σ3
  exact zr_vret C eX2_askPiece_12
theorem wJ_askPairs_28 {G : Zg} {p : Program} {l : Launch} {e : Env} {s : State} {m : MethodId} {args : Array Value} {below : List Frame} {meth : Method} {c : Code} (C : zC G p s m args meth c cX2_askPairs 7 RX2 none) {res : Int × Zm} : ∀ (n : Nat) (o0 : Nat) (o1 : Nat) (o2 : Nat) (o3 : Nat) (x4 : Int) (x5 : Int) (x6 : Int) (h0 : zin 294 o0 2) (h1 : zin 294 o1 6) (h2 : zin 294 o2 3) (h3 : zin 294 o3 3) (n4 : zw x4 = x4) (n5 : zw x5 = x5) (n6 : zw x6 = x6) (σ : Zm), zR G p l e (zrm 4) s m args below meth c 7 0 0 (zQm below args s G 294 ztt none res.2) 294 ztt res σ (fJ_askPairs_28 n o0 o1 o2 o3 x4 x5 x6 σ) [(0, .ref (zad G o0)), (1, .ref (zad G o1)), (2, .ref (zad G o2)), (3, .ref (zad G o3)), (4, .int (zI x4)), (5, .int (zI x5)), (6, .int (zI x6))] 28 []
  | 0, _, _, _, _, _, _, _, _, _, _, _, _, _, _, _ => zr_none
  | n + 1, o0, o1, o2, o3, x4, x5, x6, h0, h1, h2, h3, n4, n5, n6, σ => by
    have ih := fun (o0 : Nat) (o1 : Nat) (o2 : Nat) (o3 : Nat) (x4 : Int) (x5 : Int) (x6 : Int) (h0 : zin 294 o0 2) (h1 : zin 294 o1 6) (h2 : zin 294 o2 3) (h3 : zin 294 o3 3) (n4 : zw x4 = x4) (n5 : zw x5 = x5) (n6 : zw x6 = x6) (σ : Zm) => wJ_askPairs_28 (l := l) (e := e) (below := below) C (res := res) n o0 o1 o2 o3 x4 x5 x6 h0 h1 h2 h3 n4 n5 n6 σ
    rw [fJ_askPairs_28]
    refine zr_letf (fun R0 hR0 => ?_)
    have ih : ∀ (o0 : Nat) (o1 : Nat) (o2 : Nat) (o3 : Nat) (x4 : Int) (x5 : Int) (x6 : Int) (h0 : zin 294 o0 2) (h1 : zin 294 o1 6) (h2 : zin 294 o2 3) (h3 : zin 294 o3 3) (n4 : zw x4 = x4) (n5 : zw x5 = x5) (n6 : zw x6 = x6) (σ : Zm), zR G p l e (zrm 4) s m args below meth c 7 0 0 (zQm below args s G 294 ztt none res.2) 294 ztt res σ (R0 o0 o1 o2 o3 x4 x5 x6 σ) [(0, .ref (zad G o0)), (1, .ref (zad G o1)), (2, .ref (zad G o2)), (3, .ref (zad G o3)), (4, .int (zI x4)), (5, .int (zI x5)), (6, .int (zI x6))] 28 [] := by rw [hR0]; exact ih
    clear hR0
    refine zr_iload C 6 eX2_askPairs_28 rfl ?_
    refine zr_iload C 5 eX2_askPairs_30 rfl ?_
    refine zr_icmp_ge C eX2_askPairs_32 n6 n5 ?_ ?_
    · exact zr_vret C eX2_askPairs_59
    refine zr_aloadn C 0 eX2_askPairs_35 rfl ?_
    refine zr_getI C ff_X2_31 h0 eX2_askPairs_36 (fun v3 nv3 => ?_)
    refine zr_iload C 4 eX2_askPairs_39 rfl ?_
    refine zr_icmp_gt C eX2_askPairs_41 nv3 n4 ?_ ?_
    · exact zr_vret C eX2_askPairs_59
    refine zr_aloadn C 0 eX2_askPairs_44 rfl ?_
    refine zr_aloadn C 1 eX2_askPairs_45 rfl ?_
    refine zr_aloadn C 2 eX2_askPairs_46 rfl ?_
    refine zr_aloadn C 3 eX2_askPairs_47 rfl ?_
    refine zr_iload C 6 eX2_askPairs_48 rfl ?_
    refine zr_callVv C [.ref (zad G o1), .ref (zad G o2), .ref (zad G o3), .int (zI x6)] zy_X2_askPair zv_X2_askPair lk_X2_52 zrm_4_11_3 h0 (by decide) rfl (fun r hr => zqJ_askPair l G σ o0 o1 o2 o3 x6 h0 h1 h2 h3 n6 r hr) rfl rfl (Nat.le_of_ble_eq_true rfl) eX2_askPairs_50 (fun σ4 => ?_)
    refine zr_iinc (lv' := [(6, .int (zI (x6 + 1))), (0, .ref (zad G o0)), (1, .ref (zad G o1)), (2, .ref (zad G o2)), (3, .ref (zad G o3)), (4, .int (zI x4)), (5, .int (zI x5))]) C 6 eX2_askPairs_53 rfl (by decide) rfl ?_
    refine zr_goto C eX2_askPairs_56 ?_
    refine zr_lv [1, 2, 3, 4, 5, 6, 0] rfl ?_
    exact zr_lve (zs_p (zs_p (zs_p (zs_p (zs_p (zs_p (zs_pi (zI_w (x6 + 1)).symm rfl))))))) (ih o0 o1 o2 o3 x4 x5 (zw (x6 + 1)) h0 h1 h2 h3 n4 n5 (zw_w (x6 + 1)) _)
theorem zqJ_askPairs (l : Launch) (G : Zg) (σ : Zm) (o0 : Nat) (o1 : Nat) (o2 : Nat) (o3 : Nat) (x4 : Int) (h0 : zin 294 o0 2) (h1 : zin 294 o1 6) (h2 : zin 294 o2 3) (h3 : zin 294 o3 3) (n4 : zw x4 = x4) (res : Int × Zm) (he : fJ_askPairs σ o0 o1 o2 o3 x4 = some res) : zM l yX2_askPairs cX2_askPairs 7 none 4 G 294 ztt σ [.ref (zad G o0), .ref (zad G o1), .ref (zad G o2), .ref (zad G o3), .int (zI x4)] none res.2 := by
  refine zM_of he (by decide +kernel) (Nat.le_of_ble_eq_true rfl) (lv := [(0, .ref (zad G o0)), (1, .ref (zad G o1)), (2, .ref (zad G o2)), (3, .ref (zad G o3)), (4, .int (zI x4))]) rfl (fun p e s m below meth c C => ?_)
  unfold fJ_askPairs
  refine zr_aloadn C 1 eX2_askPairs_0 rfl ?_
  refine zr_iconst C eX2_askPairs_1 rfl ?_
  refine zr_callVi C [.int (zI 0)] zy_X6_has zv_X6_has lk_X2_46 zrm_4_3_0 h1 (by decide) rfl (fun r hr => zqU_has l G σ o1 0 h1 w_0 r hr) rfl rfl (Nat.le_of_ble_eq_true rfl) eX2_askPairs_2 (fun v2 nv2 σ1 => ?_)
  refine zr_if_eq C eX2_askPairs_5 nv2 ?_ ?_
  · refine zr_iconst C eX2_askPairs_22 rfl ?_
    refine zr_istore (lv' := [(5, .int (zI 0)), (0, .ref (zad G o0)), (1, .ref (zad G o1)), (2, .ref (zad G o2)), (3, .ref (zad G o3)), (4, .int (zI x4))]) C eX2_askPairs_23 (by decide) rfl ?_
    refine zr_iconst C eX2_askPairs_25 rfl ?_
    refine zr_istore (lv' := [(6, .int (zI 0)), (5, .int (zI 0)), (0, .ref (zad G o0)), (1, .ref (zad G o1)), (2, .ref (zad G o2)), (3, .ref (zad G o3)), (4, .int (zI x4))]) C eX2_askPairs_26 (by decide) rfl ?_
    refine zr_lv [2, 3, 4, 5, 6, 1, 0] rfl ?_
    refine wJ_askPairs_28 C 5000 o0 o1 o2 o3 x4 0 0 h0 h1 h2 h3 n4 w_0 w_0 σ1
  refine zr_aloadn C 2 eX2_askPairs_8 rfl ?_
  refine zr_callVi C [] zy_X3_beats zv_X3_beats lk_X2_60 zrm_4_2_0 h2 (by decide) rfl (fun r hr => zqL_beats l G σ1 o2 h2 r hr) rfl rfl (Nat.le_of_ble_eq_true rfl) eX2_askPairs_9 (fun v6 nv6 σ5 => ?_)
  refine zr_aloadn C 3 eX2_askPairs_12 rfl ?_
  refine zr_callVi C [] zy_X3_beats zv_X3_beats lk_X2_60 zrm_4_2_0 h3 (by decide) rfl (fun r hr => zqL_beats l G σ5 o3 h3 r hr) rfl rfl (Nat.le_of_ble_eq_true rfl) eX2_askPairs_13 (fun v8 nv8 σ7 => ?_)
  refine zr_mmin C lk_X2_66 zy_mmin zrm_4_2_0 (Nat.le_of_ble_eq_true rfl) nv6 nv8 eX2_askPairs_16 (fun v9 nv9 => ?_)
  refine zr_goto C eX2_askPairs_19 ?_
  refine zr_istore (lv' := [(5, .int (zI v9)), (0, .ref (zad G o0)), (1, .ref (zad G o1)), (2, .ref (zad G o2)), (3, .ref (zad G o3)), (4, .int (zI x4))]) C eX2_askPairs_23 (by decide) rfl ?_
  refine zr_iconst C eX2_askPairs_25 rfl ?_
  refine zr_istore (lv' := [(6, .int (zI 0)), (5, .int (zI v9)), (0, .ref (zad G o0)), (1, .ref (zad G o1)), (2, .ref (zad G o2)), (3, .ref (zad G o3)), (4, .int (zI x4))]) C eX2_askPairs_26 (by decide) rfl ?_
  refine zr_lv [2, 3, 4, 5, 6, 1, 0] rfl ?_
  refine wJ_askPairs_28 C 5000 o0 o1 o2 o3 x4 v9 0 h0 h1 h2 h3 n4 nv9 w_0 σ7
theorem wJ_askLines_21 {G : Zg} {p : Program} {l : Launch} {e : Env} {s : State} {m : MethodId} {args : Array Value} {below : List Frame} {meth : Method} {c : Code} (C : zC G p s m args meth c cX2_askLines 6 RX2 none) {res : Int × Zm} : ∀ (n : Nat) (o0 : Nat) (o1 : Nat) (o2 : Nat) (x3 : Int) (x4 : Int) (x5 : Int) (h0 : zin 294 o0 2) (h1 : zin 294 o1 6) (h2 : zin 294 o2 3) (n3 : zw x3 = x3) (n4 : zw x4 = x4) (n5 : zw x5 = x5) (σ : Zm), zR G p l e (zrm 4) s m args below meth c 6 0 0 (zQm below args s G 294 ztt none res.2) 294 ztt res σ (fJ_askLines_21 n o0 o1 o2 x3 x4 x5 σ) [(0, .ref (zad G o0)), (1, .ref (zad G o1)), (2, .ref (zad G o2)), (3, .int (zI x3)), (4, .int (zI x4)), (5, .int (zI x5))] 21 []
  | 0, _, _, _, _, _, _, _, _, _, _, _, _, _ => zr_none
  | n + 1, o0, o1, o2, x3, x4, x5, h0, h1, h2, n3, n4, n5, σ => by
    have ih := fun (o0 : Nat) (o1 : Nat) (o2 : Nat) (x3 : Int) (x4 : Int) (x5 : Int) (h0 : zin 294 o0 2) (h1 : zin 294 o1 6) (h2 : zin 294 o2 3) (n3 : zw x3 = x3) (n4 : zw x4 = x4) (n5 : zw x5 = x5) (σ : Zm) => wJ_askLines_21 (l := l) (e := e) (below := below) C (res := res) n o0 o1 o2 x3 x4 x5 h0 h1 h2 n3 n4 n5 σ
    rw [fJ_askLines_21]
    refine zr_letf (fun R0 hR0 => ?_)
    have ih : ∀ (o0 : Nat) (o1 : Nat) (o2 : Nat) (x3 : Int) (x4 : Int) (x5 : Int) (h0 : zin 294 o0 2) (h1 : zin 294 o1 6) (h2 : zin 294 o2 3) (n3 : zw x3 = x3) (n4 : zw x4 = x4) (n5 : zw x5 = x5) (σ : Zm), zR G p l e (zrm 4) s m args below meth c 6 0 0 (zQm below args s G 294 ztt none res.2) 294 ztt res σ (R0 o0 o1 o2 x3 x4 x5 σ) [(0, .ref (zad G o0)), (1, .ref (zad G o1)), (2, .ref (zad G o2)), (3, .int (zI x3)), (4, .int (zI x4)), (5, .int (zI x5))] 21 [] := by rw [hR0]; exact ih
    clear hR0
    refine zr_iload C 5 eX2_askLines_21 rfl ?_
    refine zr_iload C 4 eX2_askLines_23 rfl ?_
    refine zr_icmp_ge C eX2_askLines_25 n5 n4 ?_ ?_
    · exact zr_vret C eX2_askLines_50
    refine zr_aloadn C 0 eX2_askLines_28 rfl ?_
    refine zr_getI C ff_X2_31 h0 eX2_askLines_29 (fun v3 nv3 => ?_)
    refine zr_iloadn C 3 eX2_askLines_32 rfl ?_
    refine zr_icmp_gt C eX2_askLines_33 nv3 n3 ?_ ?_
    · exact zr_vret C eX2_askLines_50
    refine zr_aloadn C 0 eX2_askLines_36 rfl ?_
    refine zr_aloadn C 1 eX2_askLines_37 rfl ?_
    refine zr_aloadn C 2 eX2_askLines_38 rfl ?_
    refine zr_iload C 5 eX2_askLines_39 rfl ?_
    refine zr_callVv C [.ref (zad G o1), .ref (zad G o2), .int (zI x5)] zy_X2_askLine zv_X2_askLine lk_X2_56 zrm_4_6_3 h0 (by decide) rfl (fun r hr => zqJ_askLine l G σ o0 o1 o2 x5 h0 h1 h2 n5 r hr) rfl rfl (Nat.le_of_ble_eq_true rfl) eX2_askLines_41 (fun σ4 => ?_)
    refine zr_iinc (lv' := [(5, .int (zI (x5 + 1))), (0, .ref (zad G o0)), (1, .ref (zad G o1)), (2, .ref (zad G o2)), (3, .int (zI x3)), (4, .int (zI x4))]) C 5 eX2_askLines_44 rfl (by decide) rfl ?_
    refine zr_goto C eX2_askLines_47 ?_
    refine zr_lv [1, 2, 3, 4, 5, 0] rfl ?_
    exact zr_lve (zs_p (zs_p (zs_p (zs_p (zs_p (zs_pi (zI_w (x5 + 1)).symm rfl)))))) (ih o0 o1 o2 x3 x4 (zw (x5 + 1)) h0 h1 h2 n3 n4 (zw_w (x5 + 1)) _)
theorem zqJ_askLines (l : Launch) (G : Zg) (σ : Zm) (o0 : Nat) (o1 : Nat) (o2 : Nat) (x3 : Int) (h0 : zin 294 o0 2) (h1 : zin 294 o1 6) (h2 : zin 294 o2 3) (n3 : zw x3 = x3) (res : Int × Zm) (he : fJ_askLines σ o0 o1 o2 x3 = some res) : zM l yX2_askLines cX2_askLines 6 none 4 G 294 ztt σ [.ref (zad G o0), .ref (zad G o1), .ref (zad G o2), .int (zI x3)] none res.2 := by
  refine zM_of he (by decide +kernel) (Nat.le_of_ble_eq_true rfl) (lv := [(0, .ref (zad G o0)), (1, .ref (zad G o1)), (2, .ref (zad G o2)), (3, .int (zI x3))]) rfl (fun p e s m below meth c C => ?_)
  unfold fJ_askLines
  refine zr_aloadn C 1 eX2_askLines_0 rfl ?_
  refine zr_iconst C eX2_askLines_1 rfl ?_
  refine zr_callVi C [.int (zI 1)] zy_X6_has zv_X6_has lk_X2_46 zrm_4_3_0 h1 (by decide) rfl (fun r hr => zqU_has l G σ o1 1 h1 w_1 r hr) rfl rfl (Nat.le_of_ble_eq_true rfl) eX2_askLines_2 (fun v2 nv2 σ1 => ?_)
  refine zr_if_eq C eX2_askLines_5 nv2 ?_ ?_
  · refine zr_iconst C eX2_askLines_15 rfl ?_
    refine zr_istore (lv' := [(4, .int (zI 0)), (0, .ref (zad G o0)), (1, .ref (zad G o1)), (2, .ref (zad G o2)), (3, .int (zI x3))]) C eX2_askLines_16 (by decide) rfl ?_
    refine zr_iconst C eX2_askLines_18 rfl ?_
    refine zr_istore (lv' := [(5, .int (zI 0)), (4, .int (zI 0)), (0, .ref (zad G o0)), (1, .ref (zad G o1)), (2, .ref (zad G o2)), (3, .int (zI x3))]) C eX2_askLines_19 (by decide) rfl ?_
    refine zr_lv [2, 3, 4, 5, 1, 0] rfl ?_
    refine wJ_askLines_21 C 5000 o0 o1 o2 x3 0 0 h0 h1 h2 n3 w_0 w_0 σ1
  refine zr_aloadn C 2 eX2_askLines_8 rfl ?_
  refine zr_callVi C [] zy_X3_beats zv_X3_beats lk_X2_60 zrm_4_2_0 h2 (by decide) rfl (fun r hr => zqL_beats l G σ1 o2 h2 r hr) rfl rfl (Nat.le_of_ble_eq_true rfl) eX2_askLines_9 (fun v6 nv6 σ5 => ?_)
  refine zr_goto C eX2_askLines_12 ?_
  refine zr_istore (lv' := [(4, .int (zI v6)), (0, .ref (zad G o0)), (1, .ref (zad G o1)), (2, .ref (zad G o2)), (3, .int (zI x3))]) C eX2_askLines_16 (by decide) rfl ?_
  refine zr_iconst C eX2_askLines_18 rfl ?_
  refine zr_istore (lv' := [(5, .int (zI 0)), (4, .int (zI v6)), (0, .ref (zad G o0)), (1, .ref (zad G o1)), (2, .ref (zad G o2)), (3, .int (zI x3))]) C eX2_askLines_19 (by decide) rfl ?_
  refine zr_lv [2, 3, 4, 5, 1, 0] rfl ?_
  refine wJ_askLines_21 C 5000 o0 o1 o2 x3 v6 0 h0 h1 h2 n3 nv6 w_0 σ5
theorem wJ_asksAny_5 {G : Zg} {p : Program} {l : Launch} {e : Env} {s : State} {m : MethodId} {args : Array Value} {below : List Frame} {meth : Method} {c : Code} (C : zC G p s m args meth c cX2_asksAny 5 RX2 (some .boolean)) {res : Int × Zm} : ∀ (n : Nat) (o0 : Nat) (o1 : Nat) (x2 : Int) (x3 : Int) (x4 : Int) (h0 : zin 294 o0 2) (h1 : zin 294 o1 6) (n2 : zw x2 = x2) (n3 : zw x3 = x3) (n4 : zw x4 = x4) (σ : Zm), zR G p l e (zrm 2) s m args below meth c 5 0 0 (zQm below args s G 294 ztt (some (.int (zI res.1))) res.2) 294 ztt res σ (fJ_asksAny_5 n o0 o1 x2 x3 x4 σ) [(0, .ref (zad G o0)), (1, .ref (zad G o1)), (2, .int (zI x2)), (3, .int (zI x3)), (4, .int (zI x4))] 5 []
  | 0, _, _, _, _, _, _, _, _, _, _, _ => zr_none
  | n + 1, o0, o1, x2, x3, x4, h0, h1, n2, n3, n4, σ => by
    have ih := fun (o0 : Nat) (o1 : Nat) (x2 : Int) (x3 : Int) (x4 : Int) (h0 : zin 294 o0 2) (h1 : zin 294 o1 6) (n2 : zw x2 = x2) (n3 : zw x3 = x3) (n4 : zw x4 = x4) (σ : Zm) => wJ_asksAny_5 (l := l) (e := e) (below := below) C (res := res) n o0 o1 x2 x3 x4 h0 h1 n2 n3 n4 σ
    rw [fJ_asksAny_5]
    refine zr_letf (fun R0 hR0 => ?_)
    have ih : ∀ (o0 : Nat) (o1 : Nat) (x2 : Int) (x3 : Int) (x4 : Int) (h0 : zin 294 o0 2) (h1 : zin 294 o1 6) (n2 : zw x2 = x2) (n3 : zw x3 = x3) (n4 : zw x4 = x4) (σ : Zm), zR G p l e (zrm 2) s m args below meth c 5 0 0 (zQm below args s G 294 ztt (some (.int (zI res.1))) res.2) 294 ztt res σ (R0 o0 o1 x2 x3 x4 σ) [(0, .ref (zad G o0)), (1, .ref (zad G o1)), (2, .int (zI x2)), (3, .int (zI x3)), (4, .int (zI x4))] 5 [] := by rw [hR0]; exact ih
    clear hR0
    refine zr_iload C 4 eX2_asksAny_5 rfl ?_
    refine zr_aloadn C 1 eX2_asksAny_7 rfl ?_
    refine zr_getI C ff_X2_92 h1 eX2_asksAny_8 (fun v1 nv1 => ?_)
    refine zr_icmp_ge C eX2_asksAny_11 n4 nv1 ?_ ?_
    · refine zr_iloadn C 3 eX2_asksAny_66 rfl ?_
      exact zr_zretg C eX2_asksAny_67
    refine zr_iloadn C 3 eX2_asksAny_14 rfl ?_
    refine zr_if_ne C eX2_asksAny_15 n3 ?_ ?_
    · refine zr_iloadn C 3 eX2_asksAny_66 rfl ?_
      exact zr_zretg C eX2_asksAny_67
    refine zr_aloadn C 1 eX2_asksAny_18 rfl ?_
    refine zr_getR C ff_X2_95 rfl h1 rfl ((zk_6_1 h1).1) eX2_asksAny_19 ?_
    refine zr_iload C 4 eX2_asksAny_22 rfl ?_
    refine zr_iald C ((zk_6_1 h1).2) (zln_6_1 h1) n4 eX2_asksAny_24 (fun v2 nv2 => ?_)
    refine zr_iloadn C 2 eX2_asksAny_25 rfl ?_
    refine zr_icmp_ne C eX2_asksAny_26 nv2 n2 ?_ ?_
    · refine zr_iconst C eX2_asksAny_58 rfl ?_
      refine zr_istoren (lv' := [(3, .int (zI 0)), (0, .ref (zad G o0)), (1, .ref (zad G o1)), (2, .int (zI x2)), (4, .int (zI x4))]) C eX2_asksAny_59 (by decide) rfl ?_
      refine zr_iinc (lv' := [(4, .int (zI (x4 + 1))), (3, .int (zI 0)), (0, .ref (zad G o0)), (1, .ref (zad G o1)), (2, .int (zI x2))]) C 4 eX2_asksAny_60 rfl (by decide) rfl ?_
      refine zr_goto C eX2_asksAny_63 ?_
      refine zr_lv [2, 3, 4, 1, 0] rfl ?_
      exact zr_lve (zs_p (zs_p (zs_p (zs_p (zs_pi (zI_w (x4 + 1)).symm rfl))))) (ih o0 o1 x2 0 (zw (x4 + 1)) h0 h1 n2 w_0 (zw_w (x4 + 1)) _)
    refine zr_aloadn C 0 eX2_asksAny_29 rfl ?_
    refine zr_aloadn C 1 eX2_asksAny_30 rfl ?_
    refine zr_getR C ff_X2_98 rfl h1 rfl ((zk_6_0 h1).1) eX2_asksAny_31 ?_
    refine zr_aloadn C 1 eX2_asksAny_34 rfl ?_
    refine zr_getR C ff_X2_101 rfl h1 rfl ((zk_6_3 h1).1) eX2_asksAny_35 ?_
    refine zr_iload C 4 eX2_asksAny_38 rfl ?_
    refine zr_iald C ((zk_6_3 h1).2) (zln_6_3 h1) n4 eX2_asksAny_40 (fun v3 nv3 => ?_)
    refine zr_aloadn C 1 eX2_asksAny_41 rfl ?_
    refine zr_getR C ff_X2_104 rfl h1 rfl ((zk_6_4 h1).1) eX2_asksAny_42 ?_
    refine zr_iload C 4 eX2_asksAny_45 rfl ?_
    refine zr_iald C ((zk_6_4 h1).2) (zln_6_4 h1) n4 eX2_asksAny_47 (fun v4 nv4 => ?_)
    refine zr_callVi C [.ref (zad G (o1 + 1)), .int (zI v3), .int (zI v4)] zy_X2_value zv_X2_value lk_X2_107 zrm_2_10_1 h0 (by decide) rfl (fun r hr => zqJ_value l G σ o0 (o1 + 1) v3 v4 h0 ((zk_6_0 h1).2) nv3 nv4 r hr) rfl rfl (Nat.le_of_ble_eq_true rfl) eX2_asksAny_48 (fun v6 nv6 σ5 => ?_)
    refine zr_if_eq C eX2_asksAny_51 nv6 ?_ ?_
    · refine zr_iconst C eX2_asksAny_58 rfl ?_
      refine zr_istoren (lv' := [(3, .int (zI 0)), (0, .ref (zad G o0)), (1, .ref (zad G o1)), (2, .int (zI x2)), (4, .int (zI x4))]) C eX2_asksAny_59 (by decide) rfl ?_
      refine zr_iinc (lv' := [(4, .int (zI (x4 + 1))), (3, .int (zI 0)), (0, .ref (zad G o0)), (1, .ref (zad G o1)), (2, .int (zI x2))]) C 4 eX2_asksAny_60 rfl (by decide) rfl ?_
      refine zr_goto C eX2_asksAny_63 ?_
      refine zr_lv [2, 3, 4, 1, 0] rfl ?_
      exact zr_lve (zs_p (zs_p (zs_p (zs_p (zs_pi (zI_w (x4 + 1)).symm rfl))))) (ih o0 o1 x2 0 (zw (x4 + 1)) h0 h1 n2 w_0 (zw_w (x4 + 1)) _)
    refine zr_iconst C eX2_asksAny_54 rfl ?_
    refine zr_goto C eX2_asksAny_55 ?_
    refine zr_istoren (lv' := [(3, .int (zI 1)), (0, .ref (zad G o0)), (1, .ref (zad G o1)), (2, .int (zI x2)), (4, .int (zI x4))]) C eX2_asksAny_59 (by decide) rfl ?_
    refine zr_iinc (lv' := [(4, .int (zI (x4 + 1))), (3, .int (zI 1)), (0, .ref (zad G o0)), (1, .ref (zad G o1)), (2, .int (zI x2))]) C 4 eX2_asksAny_60 rfl (by decide) rfl ?_
    refine zr_goto C eX2_asksAny_63 ?_
    refine zr_lv [2, 3, 4, 1, 0] rfl ?_
    exact zr_lve (zs_p (zs_p (zs_p (zs_p (zs_pi (zI_w (x4 + 1)).symm rfl))))) (ih o0 o1 x2 1 (zw (x4 + 1)) h0 h1 n2 w_1 (zw_w (x4 + 1)) _)
theorem zqJ_asksAny (l : Launch) (G : Zg) (σ : Zm) (o0 : Nat) (o1 : Nat) (x2 : Int) (h0 : zin 294 o0 2) (h1 : zin 294 o1 6) (n2 : zw x2 = x2) (res : Int × Zm) (he : fJ_asksAny σ o0 o1 x2 = some res) : zM l yX2_asksAny cX2_asksAny 5 (some .boolean) 2 G 294 ztt σ [.ref (zad G o0), .ref (zad G o1), .int (zI x2)] (some (.int (zI res.1))) res.2 := by
  refine zM_of he (by decide +kernel) (Nat.le_of_ble_eq_true rfl) (lv := [(0, .ref (zad G o0)), (1, .ref (zad G o1)), (2, .int (zI x2))]) rfl (fun p e s m below meth c C => ?_)
  unfold fJ_asksAny
  refine zr_iconst C eX2_asksAny_0 rfl ?_
  refine zr_istoren (lv' := [(3, .int (zI 0)), (0, .ref (zad G o0)), (1, .ref (zad G o1)), (2, .int (zI x2))]) C eX2_asksAny_1 (by decide) rfl ?_
  refine zr_iconst C eX2_asksAny_2 rfl ?_
  refine zr_istore (lv' := [(4, .int (zI 0)), (3, .int (zI 0)), (0, .ref (zad G o0)), (1, .ref (zad G o1)), (2, .int (zI x2))]) C eX2_asksAny_3 (by decide) rfl ?_
  refine zr_lv [2, 3, 4, 1, 0] rfl ?_
  refine wJ_asksAny_5 C 5000 o0 o1 x2 0 0 h0 h1 n2 w_0 w_0 σ
theorem wJ_setPages_3 {G : Zg} {p : Program} {l : Launch} {e : Env} {s : State} {m : MethodId} {args : Array Value} {below : List Frame} {meth : Method} {c : Code} (C : zC G p s m args meth c cX2_setPages 7 RX2 none) {res : Int × Zm} : ∀ (n : Nat) (o0 : Nat) (o1 : Nat) (x2 : Int) (x3 : Int) (x4 : Int) (h0 : zin 294 o0 2) (h1 : zin 294 o1 20) (n2 : zw x2 = x2) (n3 : zw x3 = x3) (n4 : zw x4 = x4) (σ : Zm), zR G p l e (zrm 1) s m args below meth c 7 0 0 (zQm below args s G 294 ztt none res.2) 294 ztt res σ (fJ_setPages_3 n o0 o1 x2 x3 x4 σ) [(0, .ref (zad G o0)), (1, .ref (zad G o1)), (2, .int (zI x2)), (3, .int (zI x3)), (4, .int (zI x4))] 3 []
  | 0, _, _, _, _, _, _, _, _, _, _, _ => zr_none
  | n + 1, o0, o1, x2, x3, x4, h0, h1, n2, n3, n4, σ => by
    have ih := fun (o0 : Nat) (o1 : Nat) (x2 : Int) (x3 : Int) (x4 : Int) (h0 : zin 294 o0 2) (h1 : zin 294 o1 20) (n2 : zw x2 = x2) (n3 : zw x3 = x3) (n4 : zw x4 = x4) (σ : Zm) => wJ_setPages_3 (l := l) (e := e) (below := below) C (res := res) n o0 o1 x2 x3 x4 h0 h1 n2 n3 n4 σ
    rw [fJ_setPages_3]
    refine zr_letf (fun R0 hR0 => ?_)
    have ih : ∀ (o0 : Nat) (o1 : Nat) (x2 : Int) (x3 : Int) (x4 : Int) (h0 : zin 294 o0 2) (h1 : zin 294 o1 20) (n2 : zw x2 = x2) (n3 : zw x3 = x3) (n4 : zw x4 = x4) (σ : Zm), zR G p l e (zrm 1) s m args below meth c 7 0 0 (zQm below args s G 294 ztt none res.2) 294 ztt res σ (R0 o0 o1 x2 x3 x4 σ) [(0, .ref (zad G o0)), (1, .ref (zad G o1)), (2, .int (zI x2)), (3, .int (zI x3)), (4, .int (zI x4))] 3 [] := by rw [hR0]; exact ih
    clear hR0
    refine zr_iload C 4 eX2_setPages_3 rfl ?_
    refine zr_iconst C eX2_setPages_5 rfl ?_
    refine zr_icmp_ge C eX2_setPages_6 n4 w_4 ?_ ?_
    · exact zr_vret C eX2_setPages_85
    refine zr_iloadn C 2 eX2_setPages_9 rfl ?_
    refine zr_iconst C eX2_setPages_10 rfl ?_
    refine zr_imul C eX2_setPages_11 ?_
    refine zr_iload C 4 eX2_setPages_12 rfl ?_
    refine zr_iadd C eX2_setPages_14 ?_
    refine zr_st (show _ = .int (zI (zw ((x2 * 4) + x4))) :: _ from congrArg (· :: _) (congrArg Value.int (zI_w ((x2 * 4) + x4)).symm)) ?_
    refine zr_letw (P := fun z => .int (zI z) :: _) (zw_w ((x2 * 4) + x4)) (fun v1 nv1 => ?_)
    refine zr_istore (lv' := [(5, .int (zI v1)), (0, .ref (zad G o0)), (1, .ref (zad G o1)), (2, .int (zI x2)), (3, .int (zI x3)), (4, .int (zI x4))]) C eX2_setPages_15 (by decide) rfl ?_
    refine zr_iloadn C 4 eX2_setPages_17 rfl ?_
    refine zr_iconst C eX2_setPages_18 rfl ?_
    refine zr_imul C eX2_setPages_19 ?_
    refine zr_iload C 5 eX2_setPages_20 rfl ?_
    refine zr_iadd C eX2_setPages_22 ?_
    refine zr_st (show _ = .int (zI (zw ((x3 * 4) + x4))) :: _ from congrArg (· :: _) (congrArg Value.int (zI_w ((x3 * 4) + x4)).symm)) ?_
    refine zr_letw (P := fun z => .int (zI z) :: _) (zw_w ((x3 * 4) + x4)) (fun v2 nv2 => ?_)
    refine zr_istore (lv' := [(6, .int (zI v2)), (5, .int (zI v1)), (0, .ref (zad G o0)), (1, .ref (zad G o1)), (2, .int (zI x2)), (3, .int (zI x3)), (4, .int (zI x4))]) C eX2_setPages_23 (by decide) rfl ?_
    refine zr_iload C 1 eX2_setPages_25 rfl ?_
    refine zr_iconst C eX2_setPages_27 rfl ?_
    refine zr_aloadn C 3 eX2_setPages_28 rfl ?_
    refine zr_alen (A := ((zLN o1 : Nat) : Int)) C h1 (by decide) rfl rfl eX2_setPages_29 ?_
    refine zr_iconst C eX2_setPages_30 rfl ?_
    refine zr_isub C eX2_setPages_31 ?_
    refine zr_callSi C [.int (zI v1), .int (zI 0), .int (zI (zw (((zLN o1 : Nat) : Int) - 1)))] zy_X9_within zs_X9_within lk_X2_114 zrm_1_3_0 (fun r hr => zqX_within l G σ v1 0 (zw (((zLN o1 : Nat) : Int) - 1)) nv1 w_0 (zw_w (((zLN o1 : Nat) : Int) - 1)) r hr) rfl (zs_i (zI_w (((zLN o1 : Nat) : Int) - 1)).symm (zs_k (zs_k rfl))) (Nat.le_of_ble_eq_true rfl) eX2_setPages_32 (fun v4 nv4 σ3 => ?_)
    refine zr_if_eq C eX2_setPages_35 nv4 ?_ ?_
    · refine zr_iinc (lv' := [(4, .int (zI (x4 + 1))), (6, .int (zI v2)), (5, .int (zI v1)), (0, .ref (zad G o0)), (1, .ref (zad G o1)), (2, .int (zI x2)), (3, .int (zI x3))]) C 6 eX2_setPages_79 rfl (by decide) rfl ?_
      refine zr_goto C eX2_setPages_82 ?_
      refine zr_lv [3, 4, 5, 6, 0] rfl ?_
      exact zr_lve (zs_p (zs_p (zs_p (zs_p (zs_pi (zI_w (x4 + 1)).symm rfl))))) (ih o0 o1 x2 x3 (zw (x4 + 1)) h0 h1 n2 n3 (zw_w (x4 + 1)) _)
    refine zr_iload C 0 eX2_setPages_38 rfl ?_
    refine zr_iconst C eX2_setPages_40 rfl ?_
    refine zr_aloadn C 3 eX2_setPages_41 rfl ?_
    refine zr_alen (A := ((zLN o1 : Nat) : Int)) C h1 (by decide) rfl rfl eX2_setPages_42 ?_
    refine zr_iconst C eX2_setPages_43 rfl ?_
    refine zr_isub C eX2_setPages_44 ?_
    refine zr_callSi C [.int (zI v2), .int (zI 0), .int (zI (zw (((zLN o1 : Nat) : Int) - 1)))] zy_X9_within zs_X9_within lk_X2_114 zrm_1_3_0 (fun r hr => zqX_within l G σ3 v2 0 (zw (((zLN o1 : Nat) : Int) - 1)) nv2 w_0 (zw_w (((zLN o1 : Nat) : Int) - 1)) r hr) rfl (zs_i (zI_w (((zLN o1 : Nat) : Int) - 1)).symm (zs_k (zs_k rfl))) (Nat.le_of_ble_eq_true rfl) eX2_setPages_45 (fun v6 nv6 σ5 => ?_)
    refine zr_if_eq C eX2_setPages_48 nv6 ?_ ?_
    · refine zr_iinc (lv' := [(4, .int (zI (x4 + 1))), (6, .int (zI v2)), (5, .int (zI v1)), (0, .ref (zad G o0)), (1, .ref (zad G o1)), (2, .int (zI x2)), (3, .int (zI x3))]) C 6 eX2_setPages_79 rfl (by decide) rfl ?_
      refine zr_goto C eX2_setPages_82 ?_
      refine zr_lv [3, 4, 5, 6, 0] rfl ?_
      exact zr_lve (zs_p (zs_p (zs_p (zs_p (zs_pi (zI_w (x4 + 1)).symm rfl))))) (ih o0 o1 x2 x3 (zw (x4 + 1)) h0 h1 n2 n3 (zw_w (x4 + 1)) _)
    refine zr_aloadn C 2 eX2_setPages_51 rfl ?_
    refine zr_getR C ff_X2_9 rfl h0 rfl ((zk_2_0 h0).1) eX2_setPages_52 ?_
    refine zr_bipush (a := 13) C eX2_setPages_55 rfl ?_
    refine zr_iload C 6 eX2_setPages_57 rfl ?_
    refine zr_iadd C eX2_setPages_59 ?_
    refine zr_aloadn C 3 eX2_setPages_60 rfl ?_
    refine zr_iload C 1 eX2_setPages_61 rfl ?_
    refine zr_iald C h1 rfl nv1 eX2_setPages_63 (fun v7 nv7 => ?_)
    refine zr_iast C ((zk_2_0 h0).2) (zln_2_0 h0) rfl eX2_setPages_64 (fun σ8 => ?_)
    refine zr_aloadn C 2 eX2_setPages_65 rfl ?_
    refine zr_getR C ff_X2_9 rfl h0 rfl ((zk_2_0 h0).1) eX2_setPages_66 ?_
    refine zr_bipush (a := 17) C eX2_setPages_69 rfl ?_
    refine zr_iload C 6 eX2_setPages_71 rfl ?_
    refine zr_iadd C eX2_setPages_73 ?_
    refine zr_aloadn C 3 eX2_setPages_74 rfl ?_
    refine zr_iload C 0 eX2_setPages_75 rfl ?_
    refine zr_iald C h1 rfl nv2 eX2_setPages_77 (fun v9 nv9 => ?_)
    refine zr_iast C ((zk_2_0 h0).2) (zln_2_0 h0) rfl eX2_setPages_78 (fun σ10 => ?_)
    refine zr_iinc (lv' := [(4, .int (zI (x4 + 1))), (6, .int (zI v2)), (5, .int (zI v1)), (0, .ref (zad G o0)), (1, .ref (zad G o1)), (2, .int (zI x2)), (3, .int (zI x3))]) C 6 eX2_setPages_79 rfl (by decide) rfl ?_
    refine zr_goto C eX2_setPages_82 ?_
    refine zr_lv [3, 4, 5, 6, 0] rfl ?_
    exact zr_lve (zs_p (zs_p (zs_p (zs_p (zs_pi (zI_w (x4 + 1)).symm rfl))))) (ih o0 o1 x2 x3 (zw (x4 + 1)) h0 h1 n2 n3 (zw_w (x4 + 1)) _)
theorem zqJ_setPages (l : Launch) (G : Zg) (σ : Zm) (o0 : Nat) (o1 : Nat) (x2 : Int) (x3 : Int) (h0 : zin 294 o0 2) (h1 : zin 294 o1 20) (n2 : zw x2 = x2) (n3 : zw x3 = x3) (res : Int × Zm) (he : fJ_setPages σ o0 o1 x2 x3 = some res) : zM l yX2_setPages cX2_setPages 7 none 1 G 294 ztt σ [.ref (zad G o0), .ref (zad G o1), .int (zI x2), .int (zI x3)] none res.2 := by
  refine zM_of he (by decide +kernel) (Nat.le_of_ble_eq_true rfl) (lv := [(0, .ref (zad G o0)), (1, .ref (zad G o1)), (2, .int (zI x2)), (3, .int (zI x3))]) rfl (fun p e s m below meth c C => ?_)
  unfold fJ_setPages
  refine zr_iconst C eX2_setPages_0 rfl ?_
  refine zr_istore (lv' := [(4, .int (zI 0)), (0, .ref (zad G o0)), (1, .ref (zad G o1)), (2, .int (zI x2)), (3, .int (zI x3))]) C eX2_setPages_1 (by decide) rfl ?_
  refine zr_lv [1, 2, 3, 4, 0] rfl ?_
  refine wJ_setPages_3 C 5000 o0 o1 x2 x3 0 h0 h1 n2 n3 w_0 σ
