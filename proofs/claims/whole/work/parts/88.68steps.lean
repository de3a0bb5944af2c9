theorem ff_X7_11 : zF RX7 11 7 0 (.array (.object "BrokenFugue$Line")) := Or.inl (by unfold zFd; decide +kernel)
theorem zk_7_0 {o : Nat} (h : zin 294 o 7) : zRF o 0 = o + 1 ∧ zin 294 (o + 1) 23 := by
  have h2 : ∀ o, o < 294 → zSH o = 7 → zRF o 0 = o + 1 ∧ (zSH (o + 1) = 23 ∧ o + 1 < 294) := by decide +kernel
  exact h2 o h.2 h.1
theorem zln_7_0 {o : Nat} (h : zin 294 o 7) : zLN (o + 1) = 16 := by
  have h2 : ∀ o, o < 294 → zSH o = 7 → zLN (o + 1) = 16 := by decide +kernel
  exact h2 o h.2 h.1
theorem lk_X7_58 : zL RX7 58 yX3_take := Or.inl (by decide +kernel)
theorem ff_X7_17 : zF RX7 17 7 1 (.array (.object "BrokenFugue$Line")) := Or.inl (by unfold zFd; decide +kernel)
theorem zk_7_1 {o : Nat} (h : zin 294 o 7) : zRF o 1 = o + 2 ∧ zin 294 (o + 2) 23 := by
  have h2 : ∀ o, o < 294 → zSH o = 7 → zRF o 1 = o + 2 ∧ (zSH (o + 2) = 23 ∧ o + 2 < 294) := by decide +kernel
  exact h2 o h.2 h.1
theorem zln_7_1 {o : Nat} (h : zin 294 o 7) : zLN (o + 2) = 6 := by
  have h2 : ∀ o, o < 294 → zSH o = 7 → zLN (o + 2) = 6 := by decide +kernel
  exact h2 o h.2 h.1
theorem ff_X7_20 : zF RX7 20 7 2 (.array .int) := Or.inl (by unfold zFd; decide +kernel)
theorem zk_7_2 {o : Nat} (h : zin 294 o 7) : zRF o 2 = o + 3 ∧ zin 294 (o + 3) 20 := by
  have h2 : ∀ o, o < 294 → zSH o = 7 → zRF o 2 = o + 3 ∧ (zSH (o + 3) = 20 ∧ o + 3 < 294) := by decide +kernel
  exact h2 o h.2 h.1
theorem zln_7_2 {o : Nat} (h : zin 294 o 7) : zLN (o + 3) = 4 := by
  have h2 : ∀ o, o < 294 → zSH o = 7 → zLN (o + 3) = 4 := by decide +kernel
  exact h2 o h.2 h.1
theorem lk_X7_62 : Cond.methodLink RX7 62 arraycopyName ∈ ztb := by decide +kernel
theorem zrm_2_21_0 : zRm (zrm 2) 0 0 21 0 := by unfold zRm; decide
theorem ff_X7_24 : zF RX7 24 7 3 (.array .int) := Or.inl (by unfold zFd; decide +kernel)
theorem zk_7_3 {o : Nat} (h : zin 294 o 7) : zRF o 3 = o + 4 ∧ zin 294 (o + 4) 20 := by
  have h2 : ∀ o, o < 294 → zSH o = 7 → zRF o 3 = o + 4 ∧ (zSH (o + 4) = 20 ∧ o + 4 < 294) := by decide +kernel
  exact h2 o h.2 h.1
theorem zln_7_3 {o : Nat} (h : zin 294 o 7) : zLN (o + 4) = 6 := by
  have h2 : ∀ o, o < 294 → zSH o = 7 → zLN (o + 4) = 6 := by decide +kernel
  exact h2 o h.2 h.1
theorem ff_X7_27 : zF RX7 27 7 4 (.array .int) := Or.inl (by unfold zFd; decide +kernel)
theorem zk_7_4 {o : Nat} (h : zin 294 o 7) : zRF o 4 = o + 5 ∧ zin 294 (o + 5) 20 := by
  have h2 : ∀ o, o < 294 → zSH o = 7 → zRF o 4 = o + 5 ∧ (zSH (o + 5) = 20 ∧ o + 5 < 294) := by decide +kernel
  exact h2 o h.2 h.1
theorem zln_7_4 {o : Nat} (h : zin 294 o 7) : zLN (o + 5) = 10 := by
  have h2 : ∀ o, o < 294 → zSH o = 7 → zLN (o + 5) = 10 := by decide +kernel
  exact h2 o h.2 h.1
theorem ff_X7_30 : zF RX7 30 7 5 (.array .int) := Or.inl (by unfold zFd; decide +kernel)
theorem zk_7_5 {o : Nat} (h : zin 294 o 7) : zRF o 5 = o + 6 ∧ zin 294 (o + 6) 20 := by
  have h2 : ∀ o, o < 294 → zSH o = 7 → zRF o 5 = o + 6 ∧ (zSH (o + 6) = 20 ∧ o + 6 < 294) := by decide +kernel
  exact h2 o h.2 h.1
theorem zln_7_5 {o : Nat} (h : zin 294 o 7) : zLN (o + 6) = 10 := by
  have h2 : ∀ o, o < 294 → zSH o = 7 → zLN (o + 6) = 10 := by decide +kernel
  exact h2 o h.2 h.1
theorem ff_X7_33 : zF RX7 33 7 6 (.array .int) := Or.inl (by unfold zFd; decide +kernel)
theorem zk_7_6 {o : Nat} (h : zin 294 o 7) : zRF o 6 = o + 7 ∧ zin 294 (o + 7) 20 := by
  have h2 : ∀ o, o < 294 → zSH o = 7 → zRF o 6 = o + 7 ∧ (zSH (o + 7) = 20 ∧ o + 7 < 294) := by decide +kernel
  exact h2 o h.2 h.1
theorem zln_7_6 {o : Nat} (h : zin 294 o 7) : zLN (o + 7) = 32 := by
  have h2 : ∀ o, o < 294 → zSH o = 7 → zLN (o + 7) = 32 := by decide +kernel
  exact h2 o h.2 h.1
theorem ff_X7_36 : zF RX7 36 7 7 .int := Or.inl (by unfold zFd; decide +kernel)
theorem ff_X7_40 : zF RX7 40 7 8 .int := Or.inl (by unfold zFd; decide +kernel)
theorem ff_X7_43 : zF RX7 43 7 9 .int := Or.inl (by unfold zFd; decide +kernel)
theorem ff_X7_46 : zF RX7 46 7 10 .int := Or.inl (by unfold zFd; decide +kernel)
theorem lk_X7_68 : zL RX7 68 yX3_beats := Or.inl (by decide +kernel)
theorem lk_X7_72 : Cond.methodLink RX7 72 Lib.Math.max.name ∈ ztb := by decide +kernel
theorem ff_X8_9 : zF RX8 9 8 0 (.array .int) := Or.inl (by unfold zFd; decide +kernel)
theorem zk_8_0 {o : Nat} (h : zin 294 o 8) : zRF o 0 = o + 1 ∧ zin 294 (o + 1) 20 := by
  have h2 : ∀ o, o < 294 → zSH o = 8 → zRF o 0 = o + 1 ∧ (zSH (o + 1) = 20 ∧ o + 1 < 294) := by decide +kernel
  exact h2 o h.2 h.1
theorem zln_8_0 {o : Nat} (h : zin 294 o 8) : zLN (o + 1) = 25 := by
  have h2 : ∀ o, o < 294 → zSH o = 8 → zLN (o + 1) = 25 := by decide +kernel
  exact h2 o h.2 h.1
theorem lk_X8_25 : zL RX8 25 yJ7_fill_53178 := Or.inl (by decide +kernel)
theorem ff_X8_15 : zF RX8 15 8 1 (.array .int) := Or.inl (by unfold zFd; decide +kernel)
theorem zk_8_1 {o : Nat} (h : zin 294 o 8) : zRF o 1 = o + 2 ∧ zin 294 (o + 2) 20 := by
  have h2 : ∀ o, o < 294 → zSH o = 8 → zRF o 1 = o + 2 ∧ (zSH (o + 2) = 20 ∧ o + 2 < 294) := by decide +kernel
  exact h2 o h.2 h.1
theorem zln_8_1 {o : Nat} (h : zin 294 o 8) : zLN (o + 2) = 25 := by
  have h2 : ∀ o, o < 294 → zSH o = 8 → zLN (o + 2) = 25 := by decide +kernel
  exact h2 o h.2 h.1
theorem ff_X8_18 : zF RX8 18 8 2 .int := Or.inl (by unfold zFd; decide +kernel)
theorem ff_X8_22 : zF RX8 22 8 3 .int := Or.inl (by unfold zFd; decide +kernel)
theorem ff_X8_31 : zF RX8 31 3 1 (.array .int) := Or.inr ⟨"BrokenFugue", by unfold zFn; decide +kernel⟩
theorem ff_X8_36 : zF RX8 36 3 0 (.array .int) := Or.inr ⟨"BrokenFugue", by unfold zFn; decide +kernel⟩
theorem lk_X8_39 : zL RX8 39 yX9_boundedStep := Or.inr ⟨"BrokenFugue", by decide +kernel⟩
theorem zy_X9_boundedStep : zY yX9_boundedStep cX9_boundedStep 1 (some .int) 1 := by unfold zY; decide +kernel
theorem zs_X9_boundedStep : Cond.static yX9_boundedStep ∈ ztb := by decide +kernel
theorem lk_X8_43 : Cond.methodLink RX8 43 Lib.Math.max.name ∈ ztb := by decide +kernel
theorem lk_X8_49 : Cond.methodLink RX8 49 Lib.Math.abs.name ∈ ztb := by decide +kernel
theorem eX7_take_0 : zD cX7_take 0 (.iconst 0) 1 1 := ⟨by decide +kernel, rfl⟩
theorem eX7_take_1 : zD cX7_take 1 (.istore_n 2) 1 2 := ⟨by decide +kernel, rfl⟩
theorem eX7_take_2 : zD cX7_take 2 (.iload_n 2) 1 3 := ⟨by decide +kernel, rfl⟩
theorem eX7_take_3 : zD cX7_take 3 (.aload_n 0) 1 4 := ⟨by decide +kernel, rfl⟩
theorem eX7_take_4 : zD cX7_take 4 (.getfield 11) 3 7 := ⟨by decide +kernel, rfl⟩
theorem eX7_take_7 : zD cX7_take 7 .arraylength 1 8 := ⟨by decide +kernel, rfl⟩
theorem eX7_take_8 : zDj cX7_take 8 (.if_icmp .ge 24) 24 32 11 := ⟨by decide +kernel, rfl, by decide⟩
theorem eX7_take_11 : zD cX7_take 11 (.aload_n 0) 1 12 := ⟨by decide +kernel, rfl⟩
theorem eX7_take_12 : zD cX7_take 12 (.getfield 11) 3 15 := ⟨by decide +kernel, rfl⟩
theorem eX7_take_15 : zD cX7_take 15 (.iload_n 2) 1 16 := ⟨by decide +kernel, rfl⟩
theorem eX7_take_16 : zD cX7_take 16 .aaload 1 17 := ⟨by decide +kernel, rfl⟩
theorem eX7_take_17 : zD cX7_take 17 (.aload_n 1) 1 18 := ⟨by decide +kernel, rfl⟩
theorem eX7_take_18 : zD cX7_take 18 (.getfield 11) 3 21 := ⟨by decide +kernel, rfl⟩
theorem eX7_take_21 : zD cX7_take 21 (.iload_n 2) 1 22 := ⟨by decide +kernel, rfl⟩
theorem eX7_take_22 : zD cX7_take 22 .aaload 1 23 := ⟨by decide +kernel, rfl⟩
theorem eX7_take_23 : zD cX7_take 23 (.invokevirtual 58) 3 26 := ⟨by decide +kernel, rfl⟩
theorem eX7_take_26 : zD cX7_take 26 (.iinc 2 1) 3 29 := ⟨by decide +kernel, rfl⟩
theorem eX7_take_29 : zDj cX7_take 29 (.goto (-27)) (-27) 2 32 := ⟨by decide +kernel, rfl, by decide⟩
theorem eX7_take_32 : zD cX7_take 32 (.iconst 0) 1 33 := ⟨by decide +kernel, rfl⟩
theorem eX7_take_33 : zD cX7_take 33 (.istore_n 2) 1 34 := ⟨by decide +kernel, rfl⟩
theorem eX7_take_34 : zD cX7_take 34 (.iload_n 2) 1 35 := ⟨by decide +kernel, rfl⟩
theorem eX7_take_35 : zD cX7_take 35 (.aload_n 0) 1 36 := ⟨by decide +kernel, rfl⟩
theorem eX7_take_36 : zD cX7_take 36 (.getfield 17) 3 39 := ⟨by decide +kernel, rfl⟩
theorem eX7_take_39 : zD cX7_take 39 .arraylength 1 40 := ⟨by decide +kernel, rfl⟩
theorem eX7_take_40 : zDj cX7_take 40 (.if_icmp .ge 24) 24 64 43 := ⟨by decide +kernel, rfl, by decide⟩
theorem eX7_take_43 : zD cX7_take 43 (.aload_n 0) 1 44 := ⟨by decide +kernel, rfl⟩
theorem eX7_take_44 : zD cX7_take 44 (.getfield 17) 3 47 := ⟨by decide +kernel, rfl⟩
theorem eX7_take_47 : zD cX7_take 47 (.iload_n 2) 1 48 := ⟨by decide +kernel, rfl⟩
theorem eX7_take_48 : zD cX7_take 48 .aaload 1 49 := ⟨by decide +kernel, rfl⟩
theorem eX7_take_49 : zD cX7_take 49 (.aload_n 1) 1 50 := ⟨by decide +kernel, rfl⟩
theorem eX7_take_50 : zD cX7_take 50 (.getfield 17) 3 53 := ⟨by decide +kernel, rfl⟩
theorem eX7_take_53 : zD cX7_take 53 (.iload_n 2) 1 54 := ⟨by decide +kernel, rfl⟩
theorem eX7_take_54 : zD cX7_take 54 .aaload 1 55 := ⟨by decide +kernel, rfl⟩
theorem eX7_take_55 : zD cX7_take 55 (.invokevirtual 58) 3 58 := ⟨by decide +kernel, rfl⟩
theorem eX7_take_58 : zD cX7_take 58 (.iinc 2 1) 3 61 := ⟨by decide +kernel, rfl⟩
theorem eX7_take_61 : zDj cX7_take 61 (.goto (-27)) (-27) 34 64 := ⟨by decide +kernel, rfl, by decide⟩
theorem eX7_take_64 : zD cX7_take 64 (.aload_n 1) 1 65 := ⟨by decide +kernel, rfl⟩
theorem eX7_take_65 : zD cX7_take 65 (.getfield 20) 3 68 := ⟨by decide +kernel, rfl⟩
theorem eX7_take_68 : zD cX7_take 68 (.iconst 0) 1 69 := ⟨by decide +kernel, rfl⟩
theorem eX7_take_69 : zD cX7_take 69 (.aload_n 0) 1 70 := ⟨by decide +kernel, rfl⟩
theorem eX7_take_70 : zD cX7_take 70 (.getfield 20) 3 73 := ⟨by decide +kernel, rfl⟩
theorem eX7_take_73 : zD cX7_take 73 (.iconst 0) 1 74 := ⟨by decide +kernel, rfl⟩
theorem eX7_take_74 : zD cX7_take 74 (.iconst 4) 1 75 := ⟨by decide +kernel, rfl⟩
theorem eX7_take_75 : zD cX7_take 75 (.invokestatic 62) 3 78 := ⟨by decide +kernel, rfl⟩
theorem eX7_take_78 : zD cX7_take 78 (.aload_n 1) 1 79 := ⟨by decide +kernel, rfl⟩
theorem eX7_take_79 : zD cX7_take 79 (.getfield 24) 3 82 := ⟨by decide +kernel, rfl⟩
theorem eX7_take_82 : zD cX7_take 82 (.iconst 0) 1 83 := ⟨by decide +kernel, rfl⟩
theorem eX7_take_83 : zD cX7_take 83 (.aload_n 0) 1 84 := ⟨by decide +kernel, rfl⟩
theorem eX7_take_84 : zD cX7_take 84 (.getfield 24) 3 87 := ⟨by decide +kernel, rfl⟩
theorem eX7_take_87 : zD cX7_take 87 (.iconst 0) 1 88 := ⟨by decide +kernel, rfl⟩
theorem eX7_take_88 : zD cX7_take 88 (.bipush 6) 2 90 := ⟨by decide +kernel, rfl⟩
theorem eX7_take_90 : zD cX7_take 90 (.invokestatic 62) 3 93 := ⟨by decide +kernel, rfl⟩
theorem eX7_take_93 : zD cX7_take 93 (.aload_n 1) 1 94 := ⟨by decide +kernel, rfl⟩
theorem eX7_take_94 : zD cX7_take 94 (.getfield 27) 3 97 := ⟨by decide +kernel, rfl⟩
theorem eX7_take_97 : zD cX7_take 97 (.iconst 0) 1 98 := ⟨by decide +kernel, rfl⟩
theorem eX7_take_98 : zD cX7_take 98 (.aload_n 0) 1 99 := ⟨by decide +kernel, rfl⟩
theorem eX7_take_99 : zD cX7_take 99 (.getfield 27) 3 102 := ⟨by decide +kernel, rfl⟩
theorem eX7_take_102 : zD cX7_take 102 (.iconst 0) 1 103 := ⟨by decide +kernel, rfl⟩
theorem eX7_take_103 : zD cX7_take 103 (.bipush 10) 2 105 := ⟨by decide +kernel, rfl⟩
theorem eX7_take_105 : zD cX7_take 105 (.invokestatic 62) 3 108 := ⟨by decide +kernel, rfl⟩
theorem eX7_take_108 : zD cX7_take 108 (.aload_n 1) 1 109 := ⟨by decide +kernel, rfl⟩
theorem eX7_take_109 : zD cX7_take 109 (.getfield 30) 3 112 := ⟨by decide +kernel, rfl⟩
theorem eX7_take_112 : zD cX7_take 112 (.iconst 0) 1 113 := ⟨by decide +kernel, rfl⟩
theorem eX7_take_113 : zD cX7_take 113 (.aload_n 0) 1 114 := ⟨by decide +kernel, rfl⟩
theorem eX7_take_114 : zD cX7_take 114 (.getfield 30) 3 117 := ⟨by decide +kernel, rfl⟩
theorem eX7_take_117 : zD cX7_take 117 (.iconst 0) 1 118 := ⟨by decide +kernel, rfl⟩
theorem eX7_take_118 : zD cX7_take 118 (.bipush 10) 2 120 := ⟨by decide +kernel, rfl⟩
theorem eX7_take_120 : zD cX7_take 120 (.invokestatic 62) 3 123 := ⟨by decide +kernel, rfl⟩
theorem eX7_take_123 : zD cX7_take 123 (.aload_n 1) 1 124 := ⟨by decide +kernel, rfl⟩
theorem eX7_take_124 : zD cX7_take 124 (.getfield 33) 3 127 := ⟨by decide +kernel, rfl⟩
theorem eX7_take_127 : zD cX7_take 127 (.iconst 0) 1 128 := ⟨by decide +kernel, rfl⟩
theorem eX7_take_128 : zD cX7_take 128 (.aload_n 0) 1 129 := ⟨by decide +kernel, rfl⟩
theorem eX7_take_129 : zD cX7_take 129 (.getfield 33) 3 132 := ⟨by decide +kernel, rfl⟩
theorem eX7_take_132 : zD cX7_take 132 (.iconst 0) 1 133 := ⟨by decide +kernel, rfl⟩
theorem eX7_take_133 : zD cX7_take 133 (.bipush 32) 2 135 := ⟨by decide +kernel, rfl⟩
theorem eX7_take_135 : zD cX7_take 135 (.invokestatic 62) 3 138 := ⟨by decide +kernel, rfl⟩
theorem eX7_take_138 : zD cX7_take 138 (.aload_n 0) 1 139 := ⟨by decide +kernel, rfl⟩
theorem eX7_take_139 : zD cX7_take 139 (.aload_n 1) 1 140 := ⟨by decide +kernel, rfl⟩
theorem eX7_take_140 : zD cX7_take 140 (.getfield 36) 3 143 := ⟨by decide +kernel, rfl⟩
theorem eX7_take_143 : zD cX7_take 143 (.putfield 36) 3 146 := ⟨by decide +kernel, rfl⟩
theorem eX7_take_146 : zD cX7_take 146 (.aload_n 0) 1 147 := ⟨by decide +kernel, rfl⟩
theorem eX7_take_147 : zD cX7_take 147 (.aload_n 1) 1 148 := ⟨by decide +kernel, rfl⟩
theorem eX7_take_148 : zD cX7_take 148 (.getfield 40) 3 151 := ⟨by decide +kernel, rfl⟩
theorem eX7_take_151 : zD cX7_take 151 (.putfield 40) 3 154 := ⟨by decide +kernel, rfl⟩
theorem eX7_take_154 : zD cX7_take 154 (.aload_n 0) 1 155 := ⟨by decide +kernel, rfl⟩
theorem eX7_take_155 : zD cX7_take 155 (.aload_n 1) 1 156 := ⟨by decide +kernel, rfl⟩
theorem eX7_take_156 : zD cX7_take 156 (.getfield 43) 3 159 := ⟨by decide +kernel, rfl⟩
theorem eX7_take_159 : zD cX7_take 159 (.putfield 43) 3 162 := ⟨by decide +kernel, rfl⟩
theorem eX7_take_162 : zD cX7_take 162 (.aload_n 0) 1 163 := ⟨by decide +kernel, rfl⟩
theorem eX7_take_163 : zD cX7_take 163 (.aload_n 1) 1 164 := ⟨by decide +kernel, rfl⟩
theorem eX7_take_164 : zD cX7_take 164 (.getfield 46) 3 167 := ⟨by decide +kernel, rfl⟩
theorem eX7_take_167 : zD cX7_take 167 (.putfield 46) 3 170 := ⟨by decide +kernel, rfl⟩
theorem eX7_take_170 : zD cX7_take 170 .return_ 1 171 := ⟨by decide +kernel, rfl⟩
theorem eX7_lengthOf_0 : zD cX7_lengthOf 0 (.iconst 0) 1 1 := ⟨by decide +kernel, rfl⟩
theorem eX7_lengthOf_1 : zD cX7_lengthOf 1 (.istore_n 2) 1 2 := ⟨by decide +kernel, rfl⟩
theorem eX7_lengthOf_2 : zD cX7_lengthOf 2 (.iconst 0) 1 3 := ⟨by decide +kernel, rfl⟩
theorem eX7_lengthOf_3 : zD cX7_lengthOf 3 (.istore_n 3) 1 4 := ⟨by decide +kernel, rfl⟩
theorem eX7_lengthOf_4 : zD cX7_lengthOf 4 (.iload_n 3) 1 5 := ⟨by decide +kernel, rfl⟩
theorem eX7_lengthOf_5 : zD cX7_lengthOf 5 (.iconst 4) 1 6 := ⟨by decide +kernel, rfl⟩
theorem eX7_lengthOf_6 : zDj cX7_lengthOf 6 (.if_icmp .ge 27) 27 33 9 := ⟨by decide +kernel, rfl, by decide⟩
theorem eX7_lengthOf_9 : zD cX7_lengthOf 9 (.iload_n 2) 1 10 := ⟨by decide +kernel, rfl⟩
theorem eX7_lengthOf_10 : zD cX7_lengthOf 10 (.aload_n 0) 1 11 := ⟨by decide +kernel, rfl⟩
theorem eX7_lengthOf_11 : zD cX7_lengthOf 11 (.getfield 11) 3 14 := ⟨by decide +kernel, rfl⟩
theorem eX7_lengthOf_14 : zD cX7_lengthOf 14 (.iload_n 1) 1 15 := ⟨by decide +kernel, rfl⟩
theorem eX7_lengthOf_15 : zD cX7_lengthOf 15 (.iconst 4) 1 16 := ⟨by decide +kernel, rfl⟩
theorem eX7_lengthOf_16 : zD cX7_lengthOf 16 .imul 1 17 := ⟨by decide +kernel, rfl⟩
theorem eX7_lengthOf_17 : zD cX7_lengthOf 17 (.iload_n 3) 1 18 := ⟨by decide +kernel, rfl⟩
theorem eX7_lengthOf_18 : zD cX7_lengthOf 18 .iadd 1 19 := ⟨by decide +kernel, rfl⟩
theorem eX7_lengthOf_19 : zD cX7_lengthOf 19 .aaload 1 20 := ⟨by decide +kernel, rfl⟩
theorem eX7_lengthOf_20 : zD cX7_lengthOf 20 (.invokevirtual 68) 3 23 := ⟨by decide +kernel, rfl⟩
theorem eX7_lengthOf_23 : zD cX7_lengthOf 23 (.invokestatic 72) 3 26 := ⟨by decide +kernel, rfl⟩
theorem eX7_lengthOf_26 : zD cX7_lengthOf 26 (.istore_n 2) 1 27 := ⟨by decide +kernel, rfl⟩
theorem eX7_lengthOf_27 : zD cX7_lengthOf 27 (.iinc 3 1) 3 30 := ⟨by decide +kernel, rfl⟩
theorem eX7_lengthOf_30 : zDj cX7_lengthOf 30 (.goto (-26)) (-26) 4 33 := ⟨by decide +kernel, rfl, by decide⟩
theorem eX7_lengthOf_33 : zD cX7_lengthOf 33 (.iload_n 2) 1 34 := ⟨by decide +kernel, rfl⟩
theorem eX7_lengthOf_34 : zD cX7_lengthOf 34 .ireturn 1 35 := ⟨by decide +kernel, rfl⟩
theorem eX7_piecesOf_0 : zD cX7_piecesOf 0 (.iconst 0) 1 1 := ⟨by decide +kernel, rfl⟩
theorem eX7_piecesOf_1 : zD cX7_piecesOf 1 (.istore_n 2) 1 2 := ⟨by decide +kernel, rfl⟩
theorem eX7_piecesOf_2 : zD cX7_piecesOf 2 (.iconst 0) 1 3 := ⟨by decide +kernel, rfl⟩
theorem eX7_piecesOf_3 : zD cX7_piecesOf 3 (.istore_n 3) 1 4 := ⟨by decide +kernel, rfl⟩
theorem eX7_piecesOf_4 : zD cX7_piecesOf 4 (.iload_n 3) 1 5 := ⟨by decide +kernel, rfl⟩
theorem eX7_piecesOf_5 : zD cX7_piecesOf 5 (.iconst 4) 1 6 := ⟨by decide +kernel, rfl⟩
theorem eX7_piecesOf_6 : zDj cX7_piecesOf 6 (.if_icmp .ge 25) 25 31 9 := ⟨by decide +kernel, rfl, by decide⟩
theorem eX7_piecesOf_9 : zD cX7_piecesOf 9 (.aload_n 0) 1 10 := ⟨by decide +kernel, rfl⟩
theorem eX7_piecesOf_10 : zD cX7_piecesOf 10 (.getfield 20) 3 13 := ⟨by decide +kernel, rfl⟩
theorem eX7_piecesOf_13 : zD cX7_piecesOf 13 (.iload_n 3) 1 14 := ⟨by decide +kernel, rfl⟩
theorem eX7_piecesOf_14 : zD cX7_piecesOf 14 .iaload 1 15 := ⟨by decide +kernel, rfl⟩
theorem eX7_piecesOf_15 : zD cX7_piecesOf 15 (.iload_n 1) 1 16 := ⟨by decide +kernel, rfl⟩
theorem eX7_piecesOf_16 : zDj cX7_piecesOf 16 (.if_icmp .ne 9) 9 25 19 := ⟨by decide +kernel, rfl, by decide⟩
theorem eX7_piecesOf_19 : zD cX7_piecesOf 19 (.iload_n 2) 1 20 := ⟨by decide +kernel, rfl⟩
theorem eX7_piecesOf_20 : zD cX7_piecesOf 20 (.iconst 1) 1 21 := ⟨by decide +kernel, rfl⟩
theorem eX7_piecesOf_21 : zD cX7_piecesOf 21 (.iload_n 3) 1 22 := ⟨by decide +kernel, rfl⟩
theorem eX7_piecesOf_22 : zD cX7_piecesOf 22 .ishl 1 23 := ⟨by decide +kernel, rfl⟩
theorem eX7_piecesOf_23 : zD cX7_piecesOf 23 .ior 1 24 := ⟨by decide +kernel, rfl⟩
theorem eX7_piecesOf_24 : zD cX7_piecesOf 24 (.istore_n 2) 1 25 := ⟨by decide +kernel, rfl⟩
theorem eX7_piecesOf_25 : zD cX7_piecesOf 25 (.iinc 3 1) 3 28 := ⟨by decide +kernel, rfl⟩
theorem eX7_piecesOf_28 : zDj cX7_piecesOf 28 (.goto (-24)) (-24) 4 31 := ⟨by decide +kernel, rfl, by decide⟩
theorem eX7_piecesOf_31 : zD cX7_piecesOf 31 (.iload_n 2) 1 32 := ⟨by decide +kernel, rfl⟩
theorem eX7_piecesOf_32 : zD cX7_piecesOf 32 .ireturn 1 33 := ⟨by decide +kernel, rfl⟩
theorem eX8_clear_0 : zD cX8_clear 0 (.aload_n 0) 1 1 := ⟨by decide +kernel, rfl⟩
theorem eX8_clear_1 : zD cX8_clear 1 (.getfield 9) 3 4 := ⟨by decide +kernel, rfl⟩
theorem eX8_clear_4 : zD cX8_clear 4 (.iconst 0) 1 5 := ⟨by decide +kernel, rfl⟩
theorem eX8_clear_5 : zD cX8_clear 5 (.invokestatic 25) 3 8 := ⟨by decide +kernel, rfl⟩
theorem eX8_clear_8 : zD cX8_clear 8 (.aload_n 0) 1 9 := ⟨by decide +kernel, rfl⟩
theorem eX8_clear_9 : zD cX8_clear 9 (.getfield 15) 3 12 := ⟨by decide +kernel, rfl⟩
theorem eX8_clear_12 : zD cX8_clear 12 (.iconst 0) 1 13 := ⟨by decide +kernel, rfl⟩
theorem eX8_clear_13 : zD cX8_clear 13 (.invokestatic 25) 3 16 := ⟨by decide +kernel, rfl⟩
theorem eX8_clear_16 : zD cX8_clear 16 (.aload_n 0) 1 17 := ⟨by decide +kernel, rfl⟩
theorem eX8_clear_17 : zD cX8_clear 17 (.iconst 0) 1 18 := ⟨by decide +kernel, rfl⟩
theorem eX8_clear_18 : zD cX8_clear 18 (.putfield 18) 3 21 := ⟨by decide +kernel, rfl⟩
theorem eX8_clear_21 : zD cX8_clear 21 (.aload_n 0) 1 22 := ⟨by decide +kernel, rfl⟩
theorem eX8_clear_22 : zD cX8_clear 22 (.iconst 0) 1 23 := ⟨by decide +kernel, rfl⟩
theorem eX8_clear_23 : zD cX8_clear 23 (.putfield 22) 3 26 := ⟨by decide +kernel, rfl⟩
theorem eX8_clear_26 : zD cX8_clear 26 .return_ 1 27 := ⟨by decide +kernel, rfl⟩
theorem eX8_add_0 : zD cX8_add 0 (.bipush 100) 2 2 := ⟨by decide +kernel, rfl⟩
theorem eX8_add_2 : zD cX8_add 2 (.istore_n 3) 1 3 := ⟨by decide +kernel, rfl⟩
theorem eX8_add_3 : zD cX8_add 3 (.iconst (-1)) 1 4 := ⟨by decide +kernel, rfl⟩
theorem eX8_add_4 : zD cX8_add 4 (.istore 4) 2 6 := ⟨by decide +kernel, rfl⟩
theorem eX8_add_6 : zD cX8_add 6 (.iconst 0) 1 7 := ⟨by decide +kernel, rfl⟩
theorem eX8_add_7 : zD cX8_add 7 (.istore 5) 2 9 := ⟨by decide +kernel, rfl⟩
theorem eX8_add_9 : zD cX8_add 9 (.iload 5) 2 11 := ⟨by decide +kernel, rfl⟩
theorem eX8_add_11 : zD cX8_add 11 (.aload_n 1) 1 12 := ⟨by decide +kernel, rfl⟩
theorem eX8_add_12 : zD cX8_add 12 (.getfield 31) 3 15 := ⟨by decide +kernel, rfl⟩
theorem eX8_add_15 : zD cX8_add 15 .arraylength 1 16 := ⟨by decide +kernel, rfl⟩
theorem eX8_add_16 : zDj cX8_add 16 (.if_icmp .ge 108) 108 124 19 := ⟨by decide +kernel, rfl, by decide⟩
theorem eX8_add_19 : zD cX8_add 19 (.aload_n 1) 1 20 := ⟨by decide +kernel, rfl⟩
theorem eX8_add_20 : zD cX8_add 20 (.getfield 31) 3 23 := ⟨by decide +kernel, rfl⟩
theorem eX8_add_23 : zD cX8_add 23 (.iload 5) 2 25 := ⟨by decide +kernel, rfl⟩
theorem eX8_add_25 : zD cX8_add 25 .iaload 1 26 := ⟨by decide +kernel, rfl⟩
theorem eX8_add_26 : zD cX8_add 26 (.iconst 1) 1 27 := ⟨by decide +kernel, rfl⟩
theorem eX8_add_27 : zDj cX8_add 27 (.if_icmp .eq 6) 6 33 30 := ⟨by decide +kernel, rfl, by decide⟩
theorem eX8_add_30 : zDj cX8_add 30 (.goto 88) 88 118 33 := ⟨by decide +kernel, rfl, by decide⟩
theorem eX8_add_33 : zD cX8_add 33 (.iload 4) 2 35 := ⟨by decide +kernel, rfl⟩
theorem eX8_add_35 : zDj cX8_add 35 (.ifCond .lt 79) 79 114 38 := ⟨by decide +kernel, rfl, by decide⟩
theorem eX8_add_38 : zD cX8_add 38 (.aload_n 1) 1 39 := ⟨by decide +kernel, rfl⟩
theorem eX8_add_39 : zD cX8_add 39 (.getfield 36) 3 42 := ⟨by decide +kernel, rfl⟩
theorem eX8_add_42 : zD cX8_add 42 (.iload 5) 2 44 := ⟨by decide +kernel, rfl⟩
theorem eX8_add_44 : zD cX8_add 44 .iaload 1 45 := ⟨by decide +kernel, rfl⟩
theorem eX8_add_45 : zD cX8_add 45 (.aload_n 1) 1 46 := ⟨by decide +kernel, rfl⟩
theorem eX8_add_46 : zD cX8_add 46 (.getfield 36) 3 49 := ⟨by decide +kernel, rfl⟩
theorem eX8_add_49 : zD cX8_add 49 (.iload 4) 2 51 := ⟨by decide +kernel, rfl⟩
theorem eX8_add_51 : zD cX8_add 51 .iaload 1 52 := ⟨by decide +kernel, rfl⟩
theorem eX8_add_52 : zD cX8_add 52 .isub 1 53 := ⟨by decide +kernel, rfl⟩
theorem eX8_add_53 : zD cX8_add 53 (.invokestatic 39) 3 56 := ⟨by decide +kernel, rfl⟩
theorem eX8_add_56 : zD cX8_add 56 (.istore 6) 2 58 := ⟨by decide +kernel, rfl⟩
theorem eX8_add_58 : zD cX8_add 58 (.aload_n 0) 1 59 := ⟨by decide +kernel, rfl⟩
theorem eX8_add_59 : zD cX8_add 59 (.getfield 9) 3 62 := ⟨by decide +kernel, rfl⟩
theorem eX8_add_62 : zD cX8_add 62 (.iload 6) 2 64 := ⟨by decide +kernel, rfl⟩
theorem eX8_add_64 : zD cX8_add 64 (.bipush 12) 2 66 := ⟨by decide +kernel, rfl⟩
theorem eX8_add_66 : zD cX8_add 66 .iadd 1 67 := ⟨by decide +kernel, rfl⟩
theorem eX8_add_67 : zD cX8_add 67 .dup2 1 68 := ⟨by decide +kernel, rfl⟩
theorem eX8_add_68 : zD cX8_add 68 .iaload 1 69 := ⟨by decide +kernel, rfl⟩
theorem eX8_add_69 : zD cX8_add 69 (.iconst 1) 1 70 := ⟨by decide +kernel, rfl⟩
theorem eX8_add_70 : zD cX8_add 70 .iadd 1 71 := ⟨by decide +kernel, rfl⟩
theorem eX8_add_71 : zD cX8_add 71 .iastore 1 72 := ⟨by decide +kernel, rfl⟩
theorem eX8_add_72 : zD cX8_add 72 (.aload_n 0) 1 73 := ⟨by decide +kernel, rfl⟩
theorem eX8_add_73 : zD cX8_add 73 .dup 1 74 := ⟨by decide +kernel, rfl⟩
theorem eX8_add_74 : zD cX8_add 74 (.getfield 18) 3 77 := ⟨by decide +kernel, rfl⟩
theorem eX8_add_77 : zD cX8_add 77 (.iconst 1) 1 78 := ⟨by decide +kernel, rfl⟩
theorem eX8_add_78 : zD cX8_add 78 .iadd 1 79 := ⟨by decide +kernel, rfl⟩
theorem eX8_add_79 : zD cX8_add 79 (.putfield 18) 3 82 := ⟨by decide +kernel, rfl⟩
theorem eX8_add_82 : zD cX8_add 82 (.iload_n 3) 1 83 := ⟨by decide +kernel, rfl⟩
theorem eX8_add_83 : zD cX8_add 83 (.iload_n 2) 1 84 := ⟨by decide +kernel, rfl⟩
theorem eX8_add_84 : zDj cX8_add 84 (.if_icmp .ne 27) 27 111 87 := ⟨by decide +kernel, rfl, by decide⟩
theorem eX8_add_87 : zD cX8_add 87 (.aload_n 0) 1 88 := ⟨by decide +kernel, rfl⟩
theorem eX8_add_88 : zD cX8_add 88 (.getfield 15) 3 91 := ⟨by decide +kernel, rfl⟩
theorem eX8_add_91 : zD cX8_add 91 (.iload 6) 2 93 := ⟨by decide +kernel, rfl⟩
theorem eX8_add_93 : zD cX8_add 93 (.bipush 12) 2 95 := ⟨by decide +kernel, rfl⟩
theorem eX8_add_95 : zD cX8_add 95 .iadd 1 96 := ⟨by decide +kernel, rfl⟩
theorem eX8_add_96 : zD cX8_add 96 .dup2 1 97 := ⟨by decide +kernel, rfl⟩
theorem eX8_add_97 : zD cX8_add 97 .iaload 1 98 := ⟨by decide +kernel, rfl⟩
theorem eX8_add_98 : zD cX8_add 98 (.iconst 1) 1 99 := ⟨by decide +kernel, rfl⟩
theorem eX8_add_99 : zD cX8_add 99 .iadd 1 100 := ⟨by decide +kernel, rfl⟩
theorem eX8_add_100 : zD cX8_add 100 .iastore 1 101 := ⟨by decide +kernel, rfl⟩
theorem eX8_add_101 : zD cX8_add 101 (.aload_n 0) 1 102 := ⟨by decide +kernel, rfl⟩
theorem eX8_add_102 : zD cX8_add 102 .dup 1 103 := ⟨by decide +kernel, rfl⟩
theorem eX8_add_103 : zD cX8_add 103 (.getfield 22) 3 106 := ⟨by decide +kernel, rfl⟩
theorem eX8_add_106 : zD cX8_add 106 (.iconst 1) 1 107 := ⟨by decide +kernel, rfl⟩
theorem eX8_add_107 : zD cX8_add 107 .iadd 1 108 := ⟨by decide +kernel, rfl⟩
theorem eX8_add_108 : zD cX8_add 108 (.putfield 22) 3 111 := ⟨by decide +kernel, rfl⟩
theorem eX8_add_111 : zD cX8_add 111 (.iload 6) 2 113 := ⟨by decide +kernel, rfl⟩
theorem eX8_add_113 : zD cX8_add 113 (.istore_n 3) 1 114 := ⟨by decide +kernel, rfl⟩
theorem eX8_add_114 : zD cX8_add 114 (.iload 5) 2 116 := ⟨by decide +kernel, rfl⟩
theorem eX8_add_116 : zD cX8_add 116 (.istore 4) 2 118 := ⟨by decide +kernel, rfl⟩
theorem eX8_add_118 : zD cX8_add 118 (.iinc 5 1) 3 121 := ⟨by decide +kernel, rfl⟩
theorem eX8_add_121 : zDj cX8_add 121 (.goto (-112)) (-112) 9 124 := ⟨by decide +kernel, rfl, by decide⟩
theorem eX8_add_124 : zD cX8_add 124 .return_ 1 125 := ⟨by decide +kernel, rfl⟩
theorem eX8_strangeBy_0 : zD cX8_strangeBy 0 (.iconst 0) 1 1 := ⟨by decide +kernel, rfl⟩
theorem eX8_strangeBy_1 : zD cX8_strangeBy 1 (.istore_n 2) 1 2 := ⟨by decide +kernel, rfl⟩
theorem eX8_strangeBy_2 : zD cX8_strangeBy 2 (.iconst 0) 1 3 := ⟨by decide +kernel, rfl⟩
theorem eX8_strangeBy_3 : zD cX8_strangeBy 3 (.istore_n 3) 1 4 := ⟨by decide +kernel, rfl⟩
theorem eX8_strangeBy_4 : zD cX8_strangeBy 4 (.iload_n 3) 1 5 := ⟨by decide +kernel, rfl⟩
theorem eX8_strangeBy_5 : zD cX8_strangeBy 5 (.bipush 25) 2 7 := ⟨by decide +kernel, rfl⟩
theorem eX8_strangeBy_7 : zDj cX8_strangeBy 7 (.if_icmp .ge 20) 20 27 10 := ⟨by decide +kernel, rfl, by decide⟩
theorem eX8_strangeBy_10 : zD cX8_strangeBy 10 (.iload_n 2) 1 11 := ⟨by decide +kernel, rfl⟩
theorem eX8_strangeBy_11 : zD cX8_strangeBy 11 (.aload_n 1) 1 12 := ⟨by decide +kernel, rfl⟩
theorem eX8_strangeBy_12 : zD cX8_strangeBy 12 (.getfield 9) 3 15 := ⟨by decide +kernel, rfl⟩
theorem eX8_strangeBy_15 : zD cX8_strangeBy 15 (.iload_n 3) 1 16 := ⟨by decide +kernel, rfl⟩
theorem eX8_strangeBy_16 : zD cX8_strangeBy 16 .iaload 1 17 := ⟨by decide +kernel, rfl⟩
theorem eX8_strangeBy_17 : zD cX8_strangeBy 17 (.invokestatic 43) 3 20 := ⟨by decide +kernel, rfl⟩
theorem eX8_strangeBy_20 : zD cX8_strangeBy 20 (.istore_n 2) 1 21 := ⟨by decide +kernel, rfl⟩
theorem eX8_strangeBy_21 : zD cX8_strangeBy 21 (.iinc 3 1) 3 24 := ⟨by decide +kernel, rfl⟩
theorem eX8_strangeBy_24 : zDj cX8_strangeBy 24 (.goto (-20)) (-20) 4 27 := ⟨by decide +kernel, rfl, by decide⟩
theorem eX8_strangeBy_27 : zD cX8_strangeBy 27 (.aload_n 0) 1 28 := ⟨by decide +kernel, rfl⟩
theorem eX8_strangeBy_28 : zD cX8_strangeBy 28 (.getfield 18) 3 31 := ⟨by decide +kernel, rfl⟩
theorem eX8_strangeBy_31 : zD cX8_strangeBy 31 (.iconst 1) 1 32 := ⟨by decide +kernel, rfl⟩
theorem eX8_strangeBy_32 : zDj cX8_strangeBy 32 (.if_icmp .lt 8) 8 40 35 := ⟨by decide +kernel, rfl, by decide⟩
theorem eX8_strangeBy_35 : zD cX8_strangeBy 35 (.iload_n 2) 1 36 := ⟨by decide +kernel, rfl⟩
theorem eX8_strangeBy_36 : zD cX8_strangeBy 36 (.iconst 1) 1 37 := ⟨by decide +kernel, rfl⟩
theorem eX8_strangeBy_37 : zDj cX8_strangeBy 37 (.if_icmp .ge 5) 5 42 40 := ⟨by decide +kernel, rfl, by decide⟩
theorem eX8_strangeBy_40 : zD cX8_strangeBy 40 (.iconst (-1)) 1 41 := ⟨by decide +kernel, rfl⟩
theorem eX8_strangeBy_41 : zD cX8_strangeBy 41 .ireturn 1 42 := ⟨by decide +kernel, rfl⟩
theorem eX8_strangeBy_42 : zD cX8_strangeBy 42 (.iconst 0) 1 43 := ⟨by decide +kernel, rfl⟩
theorem eX8_strangeBy_43 : zD cX8_strangeBy 43 (.istore_n 3) 1 44 := ⟨by decide +kernel, rfl⟩
theorem eX8_strangeBy_44 : zD cX8_strangeBy 44 (.iconst 0) 1 45 := ⟨by decide +kernel, rfl⟩
theorem eX8_strangeBy_45 : zD cX8_strangeBy 45 (.istore 4) 2 47 := ⟨by decide +kernel, rfl⟩
theorem eX8_strangeBy_47 : zD cX8_strangeBy 47 (.iload 4) 2 49 := ⟨by decide +kernel, rfl⟩
theorem eX8_strangeBy_49 : zD cX8_strangeBy 49 (.bipush 25) 2 51 := ⟨by decide +kernel, rfl⟩
theorem eX8_strangeBy_51 : zDj cX8_strangeBy 51 (.if_icmp .ge 37) 37 88 54 := ⟨by decide +kernel, rfl, by decide⟩
theorem eX8_strangeBy_54 : zD cX8_strangeBy 54 (.iload_n 3) 1 55 := ⟨by decide +kernel, rfl⟩
theorem eX8_strangeBy_55 : zD cX8_strangeBy 55 (.aload_n 0) 1 56 := ⟨by decide +kernel, rfl⟩
theorem eX8_strangeBy_56 : zD cX8_strangeBy 56 (.getfield 9) 3 59 := ⟨by decide +kernel, rfl⟩
theorem eX8_strangeBy_59 : zD cX8_strangeBy 59 (.iload 4) 2 61 := ⟨by decide +kernel, rfl⟩
theorem eX8_strangeBy_61 : zD cX8_strangeBy 61 .iaload 1 62 := ⟨by decide +kernel, rfl⟩
theorem eX8_strangeBy_62 : zD cX8_strangeBy 62 (.sipush 1000) 3 65 := ⟨by decide +kernel, rfl⟩
theorem eX8_strangeBy_65 : zD cX8_strangeBy 65 (.sipush 1000) 3 68 := ⟨by decide +kernel, rfl⟩
theorem eX8_strangeBy_68 : zD cX8_strangeBy 68 (.aload_n 1) 1 69 := ⟨by decide +kernel, rfl⟩
theorem eX8_strangeBy_69 : zD cX8_strangeBy 69 (.getfield 9) 3 72 := ⟨by decide +kernel, rfl⟩
theorem eX8_strangeBy_72 : zD cX8_strangeBy 72 (.iload 4) 2 74 := ⟨by decide +kernel, rfl⟩
theorem eX8_strangeBy_74 : zD cX8_strangeBy 74 .iaload 1 75 := ⟨by decide +kernel, rfl⟩
theorem eX8_strangeBy_75 : zD cX8_strangeBy 75 .imul 1 76 := ⟨by decide +kernel, rfl⟩
theorem eX8_strangeBy_76 : zD cX8_strangeBy 76 (.iload_n 2) 1 77 := ⟨by decide +kernel, rfl⟩
theorem eX8_strangeBy_77 : zD cX8_strangeBy 77 .idiv 1 78 := ⟨by decide +kernel, rfl⟩
theorem eX8_strangeBy_78 : zD cX8_strangeBy 78 .isub 1 79 := ⟨by decide +kernel, rfl⟩
theorem eX8_strangeBy_79 : zD cX8_strangeBy 79 .imul 1 80 := ⟨by decide +kernel, rfl⟩
theorem eX8_strangeBy_80 : zD cX8_strangeBy 80 .iadd 1 81 := ⟨by decide +kernel, rfl⟩
theorem eX8_strangeBy_81 : zD cX8_strangeBy 81 (.istore_n 3) 1 82 := ⟨by decide +kernel, rfl⟩
theorem eX8_strangeBy_82 : zD cX8_strangeBy 82 (.iinc 4 1) 3 85 := ⟨by decide +kernel, rfl⟩
theorem eX8_strangeBy_85 : zDj cX8_strangeBy 85 (.goto (-38)) (-38) 47 88 := ⟨by decide +kernel, rfl, by decide⟩
theorem eX8_strangeBy_88 : zD cX8_strangeBy 88 (.iload_n 3) 1 89 := ⟨by decide +kernel, rfl⟩
theorem eX8_strangeBy_89 : zD cX8_strangeBy 89 (.aload_n 0) 1 90 := ⟨by decide +kernel, rfl⟩
theorem eX8_strangeBy_90 : zD cX8_strangeBy 90 (.getfield 18) 3 93 := ⟨by decide +kernel, rfl⟩
theorem eX8_strangeBy_93 : zD cX8_strangeBy 93 .idiv 1 94 := ⟨by decide +kernel, rfl⟩
theorem eX8_strangeBy_94 : zD cX8_strangeBy 94 .ireturn 1 95 := ⟨by decide +kernel, rfl⟩
theorem eX8_distanceTo_0 : zD cX8_distanceTo 0 (.aload_n 0) 1 1 := ⟨by decide +kernel, rfl⟩
theorem eX8_distanceTo_1 : zD cX8_distanceTo 1 (.getfield 18) 3 4 := ⟨by decide +kernel, rfl⟩
theorem eX8_distanceTo_4 : zD cX8_distanceTo 4 (.iconst 1) 1 5 := ⟨by decide +kernel, rfl⟩
theorem eX8_distanceTo_5 : zDj cX8_distanceTo 5 (.if_icmp .lt 11) 11 16 8 := ⟨by decide +kernel, rfl, by decide⟩
theorem eX8_distanceTo_8 : zD cX8_distanceTo 8 (.aload_n 1) 1 9 := ⟨by decide +kernel, rfl⟩
theorem eX8_distanceTo_9 : zD cX8_distanceTo 9 (.getfield 18) 3 12 := ⟨by decide +kernel, rfl⟩
theorem eX8_distanceTo_12 : zD cX8_distanceTo 12 (.iconst 1) 1 13 := ⟨by decide +kernel, rfl⟩
theorem eX8_distanceTo_13 : zDj cX8_distanceTo 13 (.if_icmp .ge 5) 5 18 16 := ⟨by decide +kernel, rfl, by decide⟩
theorem eX8_distanceTo_16 : zD cX8_distanceTo 16 (.iconst (-1)) 1 17 := ⟨by decide +kernel, rfl⟩
theorem eX8_distanceTo_17 : zD cX8_distanceTo 17 .ireturn 1 18 := ⟨by decide +kernel, rfl⟩
theorem eX8_distanceTo_18 : zD cX8_distanceTo 18 (.iconst 0) 1 19 := ⟨by decide +kernel, rfl⟩
theorem eX8_distanceTo_19 : zD cX8_distanceTo 19 (.istore_n 2) 1 20 := ⟨by decide +kernel, rfl⟩
theorem eX8_distanceTo_20 : zD cX8_distanceTo 20 (.iconst 0) 1 21 := ⟨by decide +kernel, rfl⟩
theorem eX8_distanceTo_21 : zD cX8_distanceTo 21 (.istore_n 3) 1 22 := ⟨by decide +kernel, rfl⟩
theorem eX8_distanceTo_22 : zD cX8_distanceTo 22 (.iload_n 3) 1 23 := ⟨by decide +kernel, rfl⟩
theorem eX8_distanceTo_23 : zD cX8_distanceTo 23 (.bipush 25) 2 25 := ⟨by decide +kernel, rfl⟩
theorem eX8_distanceTo_25 : zDj cX8_distanceTo 25 (.if_icmp .ge 46) 46 71 28 := ⟨by decide +kernel, rfl, by decide⟩
theorem eX8_distanceTo_28 : zD cX8_distanceTo 28 (.iload_n 2) 1 29 := ⟨by decide +kernel, rfl⟩
theorem eX8_distanceTo_29 : zD cX8_distanceTo 29 (.sipush 1000) 3 32 := ⟨by decide +kernel, rfl⟩
theorem eX8_distanceTo_32 : zD cX8_distanceTo 32 (.aload_n 0) 1 33 := ⟨by decide +kernel, rfl⟩
theorem eX8_distanceTo_33 : zD cX8_distanceTo 33 (.getfield 9) 3 36 := ⟨by decide +kernel, rfl⟩
theorem eX8_distanceTo_36 : zD cX8_distanceTo 36 (.iload_n 3) 1 37 := ⟨by decide +kernel, rfl⟩
theorem eX8_distanceTo_37 : zD cX8_distanceTo 37 .iaload 1 38 := ⟨by decide +kernel, rfl⟩
theorem eX8_distanceTo_38 : zD cX8_distanceTo 38 .imul 1 39 := ⟨by decide +kernel, rfl⟩
theorem eX8_distanceTo_39 : zD cX8_distanceTo 39 (.aload_n 0) 1 40 := ⟨by decide +kernel, rfl⟩
theorem eX8_distanceTo_40 : zD cX8_distanceTo 40 (.getfield 18) 3 43 := ⟨by decide +kernel, rfl⟩
theorem eX8_distanceTo_43 : zD cX8_distanceTo 43 .idiv 1 44 := ⟨by decide +kernel, rfl⟩
theorem eX8_distanceTo_44 : zD cX8_distanceTo 44 (.sipush 1000) 3 47 := ⟨by decide +kernel, rfl⟩
theorem eX8_distanceTo_47 : zD cX8_distanceTo 47 (.aload_n 1) 1 48 := ⟨by decide +kernel, rfl⟩
theorem eX8_distanceTo_48 : zD cX8_distanceTo 48 (.getfield 9) 3 51 := ⟨by decide +kernel, rfl⟩
theorem eX8_distanceTo_51 : zD cX8_distanceTo 51 (.iload_n 3) 1 52 := ⟨by decide +kernel, rfl⟩
theorem eX8_distanceTo_52 : zD cX8_distanceTo 52 .iaload 1 53 := ⟨by decide +kernel, rfl⟩
theorem eX8_distanceTo_53 : zD cX8_distanceTo 53 .imul 1 54 := ⟨by decide +kernel, rfl⟩
theorem eX8_distanceTo_54 : zD cX8_distanceTo 54 (.aload_n 1) 1 55 := ⟨by decide +kernel, rfl⟩
theorem eX8_distanceTo_55 : zD cX8_distanceTo 55 (.getfield 18) 3 58 := ⟨by decide +kernel, rfl⟩
theorem eX8_distanceTo_58 : zD cX8_distanceTo 58 .idiv 1 59 := ⟨by decide +kernel, rfl⟩
theorem eX8_distanceTo_59 : zD cX8_distanceTo 59 .isub 1 60 := ⟨by decide +kernel, rfl⟩
theorem eX8_distanceTo_60 : zD cX8_distanceTo 60 (.invokestatic 49) 3 63 := ⟨by decide +kernel, rfl⟩
theorem eX8_distanceTo_63 : zD cX8_distanceTo 63 .iadd 1 64 := ⟨by decide +kernel, rfl⟩
theorem eX8_distanceTo_64 : zD cX8_distanceTo 64 (.istore_n 2) 1 65 := ⟨by decide +kernel, rfl⟩
theorem eX8_distanceTo_65 : zD cX8_distanceTo 65 (.iinc 3 1) 3 68 := ⟨by decide +kernel, rfl⟩
theorem eX8_distanceTo_68 : zDj cX8_distanceTo 68 (.goto (-46)) (-46) 22 71 := ⟨by decide +kernel, rfl, by decide⟩
theorem eX8_distanceTo_71 : zD cX8_distanceTo 71 (.iload_n 2) 1 72 := ⟨by decide +kernel, rfl⟩
theorem eX8_distanceTo_72 : zD cX8_distanceTo 72 .ireturn 1 73 := ⟨by decide +kernel, rfl⟩
theorem wS_take_2 {G : Zg} {p : Program} {l : Launch} {e : Env} {s : State} {m : MethodId} {args : Array Value} {below : List Frame} {meth : Method} {c : Code} (C : zC G p s m args meth c cX7_take 3 RX7 none) {res : Int × Zm} (K32 : Nat → Nat → Zm → Zr) (hK32 : ∀ (o0 : Nat) (o1 : Nat) (h0 : zin 294 o0 7) (h1 : zin 294 o1 7) (σ : Zm), zR G p l e (zrm 2) s m args below meth c 3 0 0 (zQm below args s G 294 ztt none res.2) 294 ztt res σ (K32 o0 o1 σ) [(0, .ref (zad G o0)), (1, .ref (zad G o1))] 32 []) : ∀ (n : Nat) (o0 : Nat) (o1 : Nat) (x2 : Int) (h0 : zin 294 o0 7) (h1 : zin 294 o1 7) (n2 : zw x2 = x2) (σ : Zm), zR G p l e (zrm 2) s m args below meth c 3 0 0 (zQm below args s G 294 ztt none res.2) 294 ztt res σ (fS_take_2 n o0 o1 x2 σ K32) [(0, .ref (zad G o0)), (1, .ref (zad G o1)), (2, .int (zI x2))] 2 []
  | 0, _, _, _, _, _, _, _ => zr_none
  | n + 1, o0, o1, x2, h0, h1, n2, σ => by
    have ih := fun (o0 : Nat) (o1 : Nat) (x2 : Int) (h0 : zin 294 o0 7) (h1 : zin 294 o1 7) (n2 : zw x2 = x2) (σ : Zm) => wS_take_2 (l := l) (e := e) (below := below) C K32 hK32 (res := res) n o0 o1 x2 h0 h1 n2 σ
    rw [fS_take_2]
    refine zr_letf (fun R0 hR0 => ?_)
    have ih : ∀ (o0 : Nat) (o1 : Nat) (x2 : Int) (h0 : zin 294 o0 7) (h1 : zin 294 o1 7) (n2 : zw x2 = x2) (σ : Zm), zR G p l e (zrm 2) s m args below meth c 3 0 0 (zQm below args s G 294 ztt none res.2) 294 ztt res σ (R0 o0 o1 x2 σ) [(0, .ref (zad G o0)), (1, .ref (zad G o1)), (2, .int (zI x2))] 2 [] := by rw [hR0]; exact ih
    clear hR0
    refine zr_iloadn C 2 eX7_take_2 rfl ?_
    refine zr_aloadn C 0 eX7_take_3 rfl ?_
    refine zr_getR C ff_X7_11 rfl h0 rfl ((zk_7_0 h0).1) eX7_take_4 ?_
    refine zr_alen (A := 16) C ((zk_7_0 h0).2) (by decide) (zln_7_0 h0) rfl eX7_take_7 ?_
    refine zr_icmp_ge C eX7_take_8 n2 w_16 ?_ ?_
    · refine zr_lv [0, 1] rfl ?_
      exact hK32 o0 o1 h0 h1 _
    refine zr_aloadn C 0 eX7_take_11 rfl ?_
    refine zr_getR C ff_X7_11 rfl h0 rfl ((zk_7_0 h0).1) eX7_take_12 ?_
    refine zr_iloadn C 2 eX7_take_15 rfl ?_
    refine zr_aald23 C ((zk_7_0 h0).2) (zln_7_0 h0) n2 (fun _ _ => rfl) eX7_take_16 (fun hh1 => ?_)
    refine zr_aloadn C 1 eX7_take_17 rfl ?_
    refine zr_getR C ff_X7_11 rfl h1 rfl ((zk_7_0 h1).1) eX7_take_18 ?_
    refine zr_iloadn C 2 eX7_take_21 rfl ?_
    refine zr_aald23 C ((zk_7_0 h1).2) (zln_7_0 h1) n2 (fun _ _ => rfl) eX7_take_22 (fun hh2 => ?_)
    refine zr_callVv C [.ref (zad G (zRF (o1 + 1) x2.toNat))] zy_X3_take zv_X3_take lk_X7_58 zrm_2_3_1 (ze_23 ((zk_7_0 h0).2) (zln_7_0 h0) hh1) (by decide) rfl (fun r hr => zqL_take l G σ (zRF (o0 + 1) x2.toNat) (zRF (o1 + 1) x2.toNat) (ze_23 ((zk_7_0 h0).2) (zln_7_0 h0) hh1) (ze_23 ((zk_7_0 h1).2) (zln_7_0 h1) hh2) r hr) rfl rfl (Nat.le_of_ble_eq_true rfl) eX7_take_23 (fun σ3 => ?_)
    refine zr_iinc (lv' := [(2, .int (zI (x2 + 1))), (0, .ref (zad G o0)), (1, .ref (zad G o1))]) C 2 eX7_take_26 rfl (by decide) rfl ?_
    refine zr_goto C eX7_take_29 ?_
    refine zr_lv [1, 2, 0] rfl ?_
    exact zr_lve (zs_p (zs_p (zs_pi (zI_w (x2 + 1)).symm rfl))) (ih o0 o1 (zw (x2 + 1)) h0 h1 (zw_w (x2 + 1)) _)
theorem wS_take_34 {G : Zg} {p : Program} {l : Launch} {e : Env} {s : State} {m : MethodId} {args : Array Value} {below : List Frame} {meth : Method} {c : Code} (C : zC G p s m args meth c cX7_take 3 RX7 none) {res : Int × Zm} (K64 : Nat → Nat → Zm → Zr) (hK64 : ∀ (o0 : Nat) (o1 : Nat) (h0 : zin 294 o0 7) (h1 : zin 294 o1 7) (σ : Zm), zR G p l e (zrm 2) s m args below meth c 3 0 0 (zQm below args s G 294 ztt none res.2) 294 ztt res σ (K64 o0 o1 σ) [(0, .ref (zad G o0)), (1, .ref (zad G o1))] 64 []) : ∀ (n : Nat) (o0 : Nat) (o1 : Nat) (x2 : Int) (h0 : zin 294 o0 7) (h1 : zin 294 o1 7) (n2 : zw x2 = x2) (σ : Zm), zR G p l e (zrm 2) s m args below meth c 3 0 0 (zQm below args s G 294 ztt none res.2) 294 ztt res σ (fS_take_34 n o0 o1 x2 σ K64) [(0, .ref (zad G o0)), (1, .ref (zad G o1)), (2, .int (zI x2))] 34 []
  | 0, _, _, _, _, _, _, _ => zr_none
  | n + 1, o0, o1, x2, h0, h1, n2, σ => by
    have ih := fun (o0 : Nat) (o1 : Nat) (x2 : Int) (h0 : zin 294 o0 7) (h1 : zin 294 o1 7) (n2 : zw x2 = x2) (σ : Zm) => wS_take_34 (l := l) (e := e) (below := below) C K64 hK64 (res := res) n o0 o1 x2 h0 h1 n2 σ
    rw [fS_take_34]
    refine zr_letf (fun R0 hR0 => ?_)
    have ih : ∀ (o0 : Nat) (o1 : Nat) (x2 : Int) (h0 : zin 294 o0 7) (h1 : zin 294 o1 7) (n2 : zw x2 = x2) (σ : Zm), zR G p l e (zrm 2) s m args below meth c 3 0 0 (zQm below args s G 294 ztt none res.2) 294 ztt res σ (R0 o0 o1 x2 σ) [(0, .ref (zad G o0)), (1, .ref (zad G o1)), (2, .int (zI x2))] 34 [] := by rw [hR0]; exact ih
    clear hR0
    refine zr_iloadn C 2 eX7_take_34 rfl ?_
    refine zr_aloadn C 0 eX7_take_35 rfl ?_
    refine zr_getR C ff_X7_17 rfl h0 rfl ((zk_7_1 h0).1) eX7_take_36 ?_
    refine zr_alen (A := 6) C ((zk_7_1 h0).2) (by decide) (zln_7_1 h0) rfl eX7_take_39 ?_
    refine zr_icmp_ge C eX7_take_40 n2 w_6 ?_ ?_
    · refine zr_lv [0, 1] rfl ?_
      exact hK64 o0 o1 h0 h1 _
    refine zr_aloadn C 0 eX7_take_43 rfl ?_
    refine zr_getR C ff_X7_17 rfl h0 rfl ((zk_7_1 h0).1) eX7_take_44 ?_
    refine zr_iloadn C 2 eX7_take_47 rfl ?_
    refine zr_aald23 C ((zk_7_1 h0).2) (zln_7_1 h0) n2 (fun _ _ => rfl) eX7_take_48 (fun hh7 => ?_)
    refine zr_aloadn C 1 eX7_take_49 rfl ?_
    refine zr_getR C ff_X7_17 rfl h1 rfl ((zk_7_1 h1).1) eX7_take_50 ?_
    refine zr_iloadn C 2 eX7_take_53 rfl ?_
    refine zr_aald23 C ((zk_7_1 h1).2) (zln_7_1 h1) n2 (fun _ _ => rfl) eX7_take_54 (fun hh8 => ?_)
    refine zr_callVv C [.ref (zad G (zRF (o1 + 2) x2.toNat))] zy_X3_take zv_X3_take lk_X7_58 zrm_2_3_1 (ze_23 ((zk_7_1 h0).2) (zln_7_1 h0) hh7) (by decide) rfl (fun r hr => zqL_take l G σ (zRF (o0 + 2) x2.toNat) (zRF (o1 + 2) x2.toNat) (ze_23 ((zk_7_1 h0).2) (zln_7_1 h0) hh7) (ze_23 ((zk_7_1 h1).2) (zln_7_1 h1) hh8) r hr) rfl rfl (Nat.le_of_ble_eq_true rfl) eX7_take_55 (fun σ9 => ?_)
    refine zr_iinc (lv' := [(2, .int (zI (x2 + 1))), (0, .ref (zad G o0)), (1, .ref (zad G o1))]) C 2 eX7_take_58 rfl (by decide) rfl ?_
    refine zr_goto C eX7_take_61 ?_
    refine zr_lv [1, 2, 0] rfl ?_
    exact zr_lve (zs_p (zs_p (zs_pi (zI_w (x2 + 1)).symm rfl))) (ih o0 o1 (zw (x2 + 1)) h0 h1 (zw_w (x2 + 1)) _)
theorem zqS_take (l : Launch) (G : Zg) (σ : Zm) (o0 : Nat) (o1 : Nat) (h0 : zin 294 o0 7) (h1 : zin 294 o1 7) (res : Int × Zm) (he : fS_take σ o0 o1 = some res) : zM l yX7_take cX7_take 3 none 2 G 294 ztt σ [.ref (zad G o0), .ref (zad G o1)] none res.2 := by
  refine zM_of he (by decide +kernel) (Nat.le_of_ble_eq_true rfl) (lv := [(0, .ref (zad G o0)), (1, .ref (zad G o1))]) rfl (fun p e s m below meth c C => ?_)
  unfold fS_take
  refine zr_iconst C eX7_take_0 rfl ?_
  refine zr_istoren (lv' := [(2, .int (zI 0)), (0, .ref (zad G o0)), (1, .ref (zad G o1))]) C eX7_take_1 (by decide) rfl ?_
  refine zr_lv [1, 2, 0] rfl ?_
  refine wS_take_2 C _ ?_ 5000 o0 o1 0 h0 h1 w_0 σ
  intro o5 o6 ho5 ho6 σ4
  refine zr_iconst C eX7_take_32 rfl ?_
  refine zr_istoren (lv' := [(2, .int (zI 0)), (0, .ref (zad G o5)), (1, .ref (zad G o6))]) C eX7_take_33 (by decide) rfl ?_
  refine zr_lv [1, 2, 0] rfl ?_
  refine wS_take_34 C _ ?_ 5000 o5 o6 0 ho5 ho6 w_0 σ4
  intro o11 o12 ho11 ho12 σ10
  refine zr_aloadn C 1 eX7_take_64 rfl ?_
  refine zr_getR C ff_X7_20 rfl ho12 rfl ((zk_7_2 ho12).1) eX7_take_65 ?_
  refine zr_iconst C eX7_take_68 rfl ?_
  refine zr_aloadn C 0 eX7_take_69 rfl ?_
  refine zr_getR C ff_X7_20 rfl ho11 rfl ((zk_7_2 ho11).1) eX7_take_70 ?_
  refine zr_iconst C eX7_take_73 rfl ?_
  refine zr_iconst C eX7_take_74 rfl ?_
  refine zr_acopy C lk_X7_62 zy_acopy zrm_2_21_0 (by exact Nat.le_of_ble_eq_true rfl) ((zk_7_2 ho12).2) ((zk_7_2 ho11).2) (zln_7_2 ho12) (zln_7_2 ho11) w_0 w_0 w_4 eX7_take_75 (fun σ13 => ?_)
  refine zr_aloadn C 1 eX7_take_78 rfl ?_
  refine zr_getR C ff_X7_24 rfl ho12 rfl ((zk_7_3 ho12).1) eX7_take_79 ?_
  refine zr_iconst C eX7_take_82 rfl ?_
  refine zr_aloadn C 0 eX7_take_83 rfl ?_
  refine zr_getR C ff_X7_24 rfl ho11 rfl ((zk_7_3 ho11).1) eX7_take_84 ?_
  refine zr_iconst C eX7_take_87 rfl ?_
  refine zr_bipush (a := 6) C eX7_take_88 rfl ?_
  refine zr_acopy C lk_X7_62 zy_acopy zrm_2_21_0 (by exact Nat.le_of_ble_eq_true rfl) ((zk_7_3 ho12).2) ((zk_7_3 ho11).2) (zln_7_3 ho12) (zln_7_3 ho11) w_0 w_0 w_6 eX7_take_90 (fun σ14 => ?_)
  refine zr_aloadn C 1 eX7_take_93 rfl ?_
  refine zr_getR C ff_X7_27 rfl ho12 rfl ((zk_7_4 ho12).1) eX7_take_94 ?_
  refine zr_iconst C eX7_take_97 rfl ?_
  refine zr_aloadn C 0 eX7_take_98 rfl ?_
  refine zr_getR C ff_X7_27 rfl ho11 rfl ((zk_7_4 ho11).1) eX7_take_99 ?_
  refine zr_iconst C eX7_take_102 rfl ?_
  refine zr_bipush (a := 10) C eX7_take_103 rfl ?_
  refine zr_acopy C lk_X7_62 zy_acopy zrm_2_21_0 (by exact Nat.le_of_ble_eq_true rfl) ((zk_7_4 ho12).2) ((zk_7_4 ho11).2) (zln_7_4 ho12) (zln_7_4 ho11) w_0 w_0 w_10 eX7_take_105 (fun σ15 => ?_)
  refine zr_aloadn C 1 eX7_take_108 rfl ?_
  refine zr_getR C ff_X7_30 rfl ho12 rfl ((zk_7_5 ho12).1) eX7_take_109 ?_
  refine zr_iconst C eX7_take_112 rfl ?_
  refine zr_aloadn C 0 eX7_take_113 rfl ?_
  refine zr_getR C ff_X7_30 rfl ho11 rfl ((zk_7_5 ho11).1) eX7_take_114 ?_
  refine zr_iconst C eX7_take_117 rfl ?_
  refine zr_bipush (a := 10) C eX7_take_118 rfl ?_
  refine zr_acopy C lk_X7_62 zy_acopy zrm_2_21_0 (by exact Nat.le_of_ble_eq_true rfl) ((zk_7_5 ho12).2) ((zk_7_5 ho11).2) (zln_7_5 ho12) (zln_7_5 ho11) w_0 w_0 w_10 eX7_take_120 (fun σ16 => ?_)
  refine zr_aloadn C 1 eX7_take_123 rfl ?_
  refine zr_getR C ff_X7_33 rfl ho12 rfl ((zk_7_6 ho12).1) eX7_take_124 ?_
  refine zr_iconst C eX7_take_127 rfl ?_
  refine zr_aloadn C 0 eX7_take_128 rfl ?_
  refine zr_getR C ff_X7_33 rfl ho11 rfl ((zk_7_6 ho11).1) eX7_take_129 ?_
  refine zr_iconst C eX7_take_132 rfl ?_
  refine zr_bipush (a := 32) C eX7_take_133 rfl ?_
  refine zr_acopy C lk_X7_62 zy_acopy zrm_2_21_0 (by exact Nat.le_of_ble_eq_true rfl) ((zk_7_6 ho12).2) ((zk_7_6 ho11).2) (zln_7_6 ho12) (zln_7_6 ho11) w_0 w_0 w_32 eX7_take_135 (fun σ17 => ?_)
  refine zr_aloadn C 0 eX7_take_138 rfl ?_
  refine zr_aloadn C 1 eX7_take_139 rfl ?_
  refine zr_getI C ff_X7_36 ho12 eX7_take_140 (fun v18 nv18 => ?_)
  refine zr_putI C ff_X7_36 rfl ho11 eX7_take_143 (fun σ19 => ?_)
  refine zr_aloadn C 0 eX7_take_146 rfl ?_
  refine zr_aloadn C 1 eX7_take_147 rfl ?_
  refine zr_getI C ff_X7_40 ho12 eX7_take_148 (fun v20 nv20 => ?_)
  refine zr_putI C ff_X7_40 rfl ho11 eX7_take_151 (fun σ21 => ?_)
  refine zr_aloadn C 0 eX7_take_154 rfl ?_
  refine zr_aloadn C 1 eX7_take_155 rfl ?_
  refine zr_getI C ff_X7_43 ho12 eX7_take_156 (fun v22 nv22 => ?_)
  refine zr_putI C ff_X7_43 rfl ho11 eX7_take_159 (fun σ23 => ?_)
  refine zr_aloadn C 0 eX7_take_162 rfl ?_
  refine zr_aloadn C 1 eX7_take_163 rfl ?_
  refine zr_getI C ff_X7_46 ho12 eX7_take_164 (fun v24 nv24 => ?_)
  refine zr_putI C ff_X7_46 rfl ho11 eX7_take_167 (fun σ25 => ?_)
  exact zr_vret C eX7_take_170
theorem wS_lengthOf_4 {G : Zg} {p : Program} {l : Launch} {e : Env} {s : State} {m : MethodId} {args : Array Value} {below : List Frame} {meth : Method} {c : Code} (C : zC G p s m args meth c cX7_lengthOf 4 RX7 (some .int)) {res : Int × Zm} : ∀ (n : Nat) (o0 : Nat) (x1 : Int) (x2 : Int) (x3 : Int) (h0 : zin 294 o0 7) (n1 : zw x1 = x1) (n2 : zw x2 = x2) (n3 : zw x3 = x3) (σ : Zm), zR G p l e (zrm 1) s m args below meth c 4 0 0 (zQm below args s G 294 ztt (some (.int (zI res.1))) res.2) 294 ztt res σ (fS_lengthOf_4 n o0 x1 x2 x3 σ) [(0, .ref (zad G o0)), (1, .int (zI x1)), (2, .int (zI x2)), (3, .int (zI x3))] 4 []
  | 0, _, _, _, _, _, _, _, _, _ => zr_none
  | n + 1, o0, x1, x2, x3, h0, n1, n2, n3, σ => by
    have ih := fun (o0 : Nat) (x1 : Int) (x2 : Int) (x3 : Int) (h0 : zin 294 o0 7) (n1 : zw x1 = x1) (n2 : zw x2 = x2) (n3 : zw x3 = x3) (σ : Zm) => wS_lengthOf_4 (l := l) (e := e) (below := below) C (res := res) n o0 x1 x2 x3 h0 n1 n2 n3 σ
    rw [fS_lengthOf_4]
    refine zr_letf (fun R0 hR0 => ?_)
    have ih : ∀ (o0 : Nat) (x1 : Int) (x2 : Int) (x3 : Int) (h0 : zin 294 o0 7) (n1 : zw x1 = x1) (n2 : zw x2 = x2) (n3 : zw x3 = x3) (σ : Zm), zR G p l e (zrm 1) s m args below meth c 4 0 0 (zQm below args s G 294 ztt (some (.int (zI res.1))) res.2) 294 ztt res σ (R0 o0 x1 x2 x3 σ) [(0, .ref (zad G o0)), (1, .int (zI x1)), (2, .int (zI x2)), (3, .int (zI x3))] 4 [] := by rw [hR0]; exact ih
    clear hR0
    refine zr_iloadn C 3 eX7_lengthOf_4 rfl ?_
    refine zr_iconst C eX7_lengthOf_5 rfl ?_
    refine zr_icmp_ge C eX7_lengthOf_6 n3 w_4 ?_ ?_
    · refine zr_iloadn C 2 eX7_lengthOf_33 rfl ?_
      exact zr_iret C eX7_lengthOf_34
    refine zr_iloadn C 2 eX7_lengthOf_9 rfl ?_
    refine zr_aloadn C 0 eX7_lengthOf_10 rfl ?_
    refine zr_getR C ff_X7_11 rfl h0 rfl ((zk_7_0 h0).1) eX7_lengthOf_11 ?_
    refine zr_iloadn C 1 eX7_lengthOf_14 rfl ?_
    refine zr_iconst C eX7_lengthOf_15 rfl ?_
    refine zr_imul C eX7_lengthOf_16 ?_
    refine zr_iloadn C 3 eX7_lengthOf_17 rfl ?_
    refine zr_iadd C eX7_lengthOf_18 ?_
    refine zr_aald23 C ((zk_7_0 h0).2) (zln_7_0 h0) rfl (fun _ _ => rfl) eX7_lengthOf_19 (fun hh1 => ?_)
    refine zr_callVi C [] zy_X3_beats zv_X3_beats lk_X7_68 zrm_1_2_0 (ze_23 ((zk_7_0 h0).2) (zln_7_0 h0) hh1) (by decide) rfl (fun r hr => zqL_beats l G σ (zRF (o0 + 1) (zw ((x1 * 4) + x3)).toNat) (ze_23 ((zk_7_0 h0).2) (zln_7_0 h0) hh1) r hr) rfl rfl (Nat.le_of_ble_eq_true rfl) eX7_lengthOf_20 (fun v3 nv3 σ2 => ?_)
    refine zr_mmax C lk_X7_72 zy_mmax zrm_1_2_0 (Nat.le_of_ble_eq_true rfl) n2 nv3 eX7_lengthOf_23 (fun v4 nv4 => ?_)
    refine zr_istoren (lv' := [(2, .int (zI v4)), (0, .ref (zad G o0)), (1, .int (zI x1)), (3, .int (zI x3))]) C eX7_lengthOf_26 (by decide) rfl ?_
    refine zr_iinc (lv' := [(3, .int (zI (x3 + 1))), (2, .int (zI v4)), (0, .ref (zad G o0)), (1, .int (zI x1))]) C 3 eX7_lengthOf_27 rfl (by decide) rfl ?_
    refine zr_goto C eX7_lengthOf_30 ?_
    refine zr_lv [2, 3, 1, 0] rfl ?_
    exact zr_lve (zs_p (zs_p (zs_p (zs_pi (zI_w (x3 + 1)).symm rfl)))) (ih o0 x1 v4 (zw (x3 + 1)) h0 n1 nv4 (zw_w (x3 + 1)) _)
theorem zqS_lengthOf (l : Launch) (G : Zg) (σ : Zm) (o0 : Nat) (x1 : Int) (h0 : zin 294 o0 7) (n1 : zw x1 = x1) (res : Int × Zm) (he : fS_lengthOf σ o0 x1 = some res) : zM l yX7_lengthOf cX7_lengthOf 4 (some .int) 1 G 294 ztt σ [.ref (zad G o0), .int (zI x1)] (some (.int (zI res.1))) res.2 := by
  refine zM_of he (by decide +kernel) (Nat.le_of_ble_eq_true rfl) (lv := [(0, .ref (zad G o0)), (1, .int (zI x1))]) rfl (fun p e s m below meth c C => ?_)
  unfold fS_lengthOf
  refine zr_iconst C eX7_lengthOf_0 rfl ?_
  refine zr_istoren (lv' := [(2, .int (zI 0)), (0, .ref (zad G o0)), (1, .int (zI x1))]) C eX7_lengthOf_1 (by decide) rfl ?_
  refine zr_iconst C eX7_lengthOf_2 rfl ?_
  refine zr_istoren (lv' := [(3, .int (zI 0)), (2, .int (zI 0)), (0, .ref (zad G o0)), (1, .int (zI x1))]) C eX7_lengthOf_3 (by decide) rfl ?_
  refine zr_lv [2, 3, 1, 0] rfl ?_
  refine wS_lengthOf_4 C 5000 o0 x1 0 0 h0 n1 w_0 w_0 σ
theorem wS_piecesOf_4 {G : Zg} {p : Program} {l : Launch} {e : Env} {s : State} {m : MethodId} {args : Array Value} {below : List Frame} {meth : Method} {c : Code} (C : zC G p s m args meth c cX7_piecesOf 4 RX7 (some .int)) {res : Int × Zm} : ∀ (n : Nat) (o0 : Nat) (x1 : Int) (x2 : Int) (x3 : Int) (h0 : zin 294 o0 7) (n1 : zw x1 = x1) (n2 : zw x2 = x2) (n3 : zw x3 = x3) (σ : Zm), zR G p l e (zrm 0) s m args below meth c 4 0 0 (zQm below args s G 294 ztt (some (.int (zI res.1))) res.2) 294 ztt res σ (fS_piecesOf_4 n o0 x1 x2 x3 σ) [(0, .ref (zad G o0)), (1, .int (zI x1)), (2, .int (zI x2)), (3, .int (zI x3))] 4 []
  | 0, _, _, _, _, _, _, _, _, _ => zr_none
  | n + 1, o0, x1, x2, x3, h0, n1, n2, n3, σ => by
    have ih := fun (o0 : Nat) (x1 : Int) (x2 : Int) (x3 : Int) (h0 : zin 294 o0 7) (n1 : zw x1 = x1) (n2 : zw x2 = x2) (n3 : zw x3 = x3) (σ : Zm) => wS_piecesOf_4 (l := l) (e := e) (below := below) C (res := res) n o0 x1 x2 x3 h0 n1 n2 n3 σ
    rw [fS_piecesOf_4]
    refine zr_letf (fun R0 hR0 => ?_)
    have ih : ∀ (o0 : Nat) (x1 : Int) (x2 : Int) (x3 : Int) (h0 : zin 294 o0 7) (n1 : zw x1 = x1) (n2 : zw x2 = x2) (n3 : zw x3 = x3) (σ : Zm), zR G p l e (zrm 0) s m args below meth c 4 0 0 (zQm below args s G 294 ztt (some (.int (zI res.1))) res.2) 294 ztt res σ (R0 o0 x1 x2 x3 σ) [(0, .ref (zad G o0)), (1, .int (zI x1)), (2, .int (zI x2)), (3, .int (zI x3))] 4 [] := by rw [hR0]; exact ih
    clear hR0
    refine zr_iloadn C 3 eX7_piecesOf_4 rfl ?_
    refine zr_iconst C eX7_piecesOf_5 rfl ?_
    refine zr_icmp_ge C eX7_piecesOf_6 n3 w_4 ?_ ?_
    · refine zr_iloadn C 2 eX7_piecesOf_31 rfl ?_
      exact zr_iret C eX7_piecesOf_32
    refine zr_aloadn C 0 eX7_piecesOf_9 rfl ?_
    refine zr_getR C ff_X7_20 rfl h0 rfl ((zk_7_2 h0).1) eX7_piecesOf_10 ?_
    refine zr_iloadn C 3 eX7_piecesOf_13 rfl ?_
    refine zr_iald C ((zk_7_2 h0).2) (zln_7_2 h0) n3 eX7_piecesOf_14 (fun v1 nv1 => ?_)
    refine zr_iloadn C 1 eX7_piecesOf_15 rfl ?_
    refine zr_icmp_ne C eX7_piecesOf_16 nv1 n1 ?_ ?_
    · refine zr_iinc (lv' := [(3, .int (zI (x3 + 1))), (0, .ref (zad G o0)), (1, .int (zI x1)), (2, .int (zI x2))]) C 3 eX7_piecesOf_25 rfl (by decide) rfl ?_
      refine zr_goto C eX7_piecesOf_28 ?_
      refine zr_lv [1, 2, 3, 0] rfl ?_
      exact zr_lve (zs_p (zs_p (zs_p (zs_pi (zI_w (x3 + 1)).symm rfl)))) (ih o0 x1 x2 (zw (x3 + 1)) h0 n1 n2 (zw_w (x3 + 1)) _)
    refine zr_iloadn C 2 eX7_piecesOf_19 rfl ?_
    refine zr_iconst C eX7_piecesOf_20 rfl ?_
    refine zr_iloadn C 3 eX7_piecesOf_21 rfl ?_
    refine zr_ishl C eX7_piecesOf_22 ?_
    refine zr_ior C eX7_piecesOf_23 ?_
    refine zr_istoren (lv' := [(2, .int (zI (zor x2 (zshl 1 x3)))), (0, .ref (zad G o0)), (1, .int (zI x1)), (3, .int (zI x3))]) C eX7_piecesOf_24 (by decide) rfl ?_
    refine zr_iinc (lv' := [(3, .int (zI (x3 + 1))), (2, .int (zI (zor x2 (zshl 1 x3)))), (0, .ref (zad G o0)), (1, .int (zI x1))]) C 3 eX7_piecesOf_25 rfl (by decide) rfl ?_
    refine zr_goto C eX7_piecesOf_28 ?_
    refine zr_lv [2, 3, 1, 0] rfl ?_
    exact zr_lve (zs_p (zs_p (zs_p (zs_pi (zI_w (x3 + 1)).symm rfl)))) (ih o0 x1 (zor x2 (zshl 1 x3)) (zw (x3 + 1)) h0 n1 ((zw_n _)) (zw_w (x3 + 1)) _)
theorem zqS_piecesOf (l : Launch) (G : Zg) (σ : Zm) (o0 : Nat) (x1 : Int) (h0 : zin 294 o0 7) (n1 : zw x1 = x1) (res : Int × Zm) (he : fS_piecesOf σ o0 x1 = some res) : zM l yX7_piecesOf cX7_piecesOf 4 (some .int) 0 G 294 ztt σ [.ref (zad G o0), .int (zI x1)] (some (.int (zI res.1))) res.2 := by
  refine zM_of he (by decide +kernel) (Nat.le_of_ble_eq_true rfl) (lv := [(0, .ref (zad G o0)), (1, .int (zI x1))]) rfl (fun p e s m below meth c C => ?_)
  unfold fS_piecesOf
  refine zr_iconst C eX7_piecesOf_0 rfl ?_
  refine zr_istoren (lv' := [(2, .int (zI 0)), (0, .ref (zad G o0)), (1, .int (zI x1))]) C eX7_piecesOf_1 (by decide) rfl ?_
  refine zr_iconst C eX7_piecesOf_2 rfl ?_
  refine zr_istoren (lv' := [(3, .int (zI 0)), (2, .int (zI 0)), (0, .ref (zad G o0)), (1, .int (zI x1))]) C eX7_piecesOf_3 (by decide) rfl ?_
  refine zr_lv [2, 3, 1, 0] rfl ?_
  refine wS_piecesOf_4 C 5000 o0 x1 0 0 h0 n1 w_0 w_0 σ
theorem zqT_clear (l : Launch) (G : Zg) (σ : Zm) (o0 : Nat) (h0 : zin 294 o0 8) (res : Int × Zm) (he : fT_clear σ o0 = some res) : zM l yX8_clear cX8_clear 1 none 1 G 294 ztt σ [.ref (zad G o0)] none res.2 := by
  refine zM_of he (by decide +kernel) (Nat.le_of_ble_eq_true rfl) (lv := [(0, .ref (zad G o0))]) rfl (fun p e s m below meth c C => ?_)
  unfold fT_clear
  refine zr_aloadn C 0 eX8_clear_0 rfl ?_
  refine zr_getR C ff_X8_9 rfl h0 rfl ((zk_8_0 h0).1) eX8_clear_1 ?_
  refine zr_iconst C eX8_clear_4 rfl ?_
  refine zr_callSv C [.ref (zad G (o0 + 1)), .int (zI 0)] zy_J7_fill_53178 zs_J7_fill_53178 lk_X8_25 zrm_1_4_0 (fun r hr => qJ7_fill_53178 l G σ (o0 + 1) 0 ((zk_8_0 h0).2) w_0 r hr) rfl rfl (Nat.le_of_ble_eq_true rfl) eX8_clear_5 (fun σ1 => ?_)
  refine zr_aloadn C 0 eX8_clear_8 rfl ?_
  refine zr_getR C ff_X8_15 rfl h0 rfl ((zk_8_1 h0).1) eX8_clear_9 ?_
  refine zr_iconst C eX8_clear_12 rfl ?_
  refine zr_callSv C [.ref (zad G (o0 + 2)), .int (zI 0)] zy_J7_fill_53178 zs_J7_fill_53178 lk_X8_25 zrm_1_4_0 (fun r hr => qJ7_fill_53178 l G σ1 (o0 + 2) 0 ((zk_8_1 h0).2) w_0 r hr) rfl rfl (Nat.le_of_ble_eq_true rfl) eX8_clear_13 (fun σ2 => ?_)
  refine zr_aloadn C 0 eX8_clear_16 rfl ?_
  refine zr_iconst C eX8_clear_17 rfl ?_
  refine zr_putI C ff_X8_18 rfl h0 eX8_clear_18 (fun σ3 => ?_)
  refine zr_aloadn C 0 eX8_clear_21 rfl ?_
  refine zr_iconst C eX8_clear_22 rfl ?_
  refine zr_putI C ff_X8_22 rfl h0 eX8_clear_23 (fun σ4 => ?_)
  exact zr_vret C eX8_clear_26
theorem wT_add_9 {G : Zg} {p : Program} {l : Launch} {e : Env} {s : State} {m : MethodId} {args : Array Value} {below : List Frame} {meth : Method} {c : Code} (C : zC G p s m args meth c cX8_add 7 RX8 none) {res : Int × Zm} : ∀ (n : Nat) (o0 : Nat) (o1 : Nat) (x2 : Int) (x3 : Int) (x4 : Int) (x5 : Int) (h0 : zin 294 o0 8) (h1 : zin 294 o1 3) (n2 : zw x2 = x2) (n3 : zw x3 = x3) (n4 : zw x4 = x4) (n5 : zw x5 = x5) (σ : Zm), zR G p l e (zrm 2) s m args below meth c 7 0 0 (zQm below args s G 294 ztt none res.2) 294 ztt res σ (fT_add_9 n o0 o1 x2 x3 x4 x5 σ) [(0, .ref (zad G o0)), (1, .ref (zad G o1)), (2, .int (zI x2)), (3, .int (zI x3)), (4, .int (zI x4)), (5, .int (zI x5))] 9 []
  | 0, _, _, _, _, _, _, _, _, _, _, _, _, _ => zr_none
  | n + 1, o0, o1, x2, x3, x4, x5, h0, h1, n2, n3, n4, n5, σ => by
    have ih := fun (o0 : Nat) (o1 : Nat) (x2 : Int) (x3 : Int) (x4 : Int) (x5 : Int) (h0 : zin 294 o0 8) (h1 : zin 294 o1 3) (n2 : zw x2 = x2) (n3 : zw x3 = x3) (n4 : zw x4 = x4) (n5 : zw x5 = x5) (σ : Zm) => wT_add_9 (l := l) (e := e) (below := below) C (res := res) n o0 o1 x2 x3 x4 x5 h0 h1 n2 n3 n4 n5 σ
    rw [fT_add_9]
    refine zr_letf (fun R0 hR0 => ?_)
    have ih : ∀ (o0 : Nat) (o1 : Nat) (x2 : Int) (x3 : Int) (x4 : Int) (x5 : Int) (h0 : zin 294 o0 8) (h1 : zin 294 o1 3) (n2 : zw x2 = x2) (n3 : zw x3 = x3) (n4 : zw x4 = x4) (n5 : zw x5 = x5) (σ : Zm), zR G p l e (zrm 2) s m args below meth c 7 0 0 (zQm below args s G 294 ztt none res.2) 294 ztt res σ (R0 o0 o1 x2 x3 x4 x5 σ) [(0, .ref (zad G o0)), (1, .ref (zad G o1)), (2, .int (zI x2)), (3, .int (zI x3)), (4, .int (zI x4)), (5, .int (zI x5))] 9 [] := by rw [hR0]; exact ih
    clear hR0
    refine zr_iload C 5 eX8_add_9 rfl ?_
    refine zr_aloadn C 1 eX8_add_11 rfl ?_
    refine zr_getR C ff_X8_31 rfl h1 rfl ((zk_3_1 h1).1) eX8_add_12 ?_
    refine zr_alen (A := ((zLN (o1 + 2) : Nat) : Int)) C ((zk_3_1 h1).2) (by decide) rfl rfl eX8_add_15 ?_
    refine zr_icmp_ge C eX8_add_16 n5 (zw_LN _) ?_ ?_
    · exact zr_vret C eX8_add_124
    refine zr_aloadn C 1 eX8_add_19 rfl ?_
    refine zr_getR C ff_X8_31 rfl h1 rfl ((zk_3_1 h1).1) eX8_add_20 ?_
    refine zr_iload C 5 eX8_add_23 rfl ?_
    refine zr_iald C ((zk_3_1 h1).2) rfl n5 eX8_add_25 (fun v1 nv1 => ?_)
    refine zr_iconst C eX8_add_26 rfl ?_
    refine zr_icmp_eq C eX8_add_27 nv1 w_1 ?_ ?_
    · refine zr_iload C 4 eX8_add_33 rfl ?_
      refine zr_if_lt C eX8_add_35 n4 ?_ ?_
      · refine zr_iload C 5 eX8_add_114 rfl ?_
        refine zr_istore (lv' := [(4, .int (zI x5)), (0, .ref (zad G o0)), (1, .ref (zad G o1)), (2, .int (zI x2)), (3, .int (zI x3)), (5, .int (zI x5))]) C eX8_add_116 (by decide) rfl ?_
        refine zr_iinc (lv' := [(5, .int (zI (x5 + 1))), (4, .int (zI x5)), (0, .ref (zad G o0)), (1, .ref (zad G o1)), (2, .int (zI x2)), (3, .int (zI x3))]) C 5 eX8_add_118 rfl (by decide) rfl ?_
        refine zr_goto C eX8_add_121 ?_
        refine zr_lv [2, 3, 4, 5, 1, 0] rfl ?_
        exact zr_lve (zs_p (zs_p (zs_p (zs_p (zs_p (zs_pi (zI_w (x5 + 1)).symm rfl)))))) (ih o0 o1 x2 x3 x5 (zw (x5 + 1)) h0 h1 n2 n3 n5 (zw_w (x5 + 1)) _)
      refine zr_aloadn C 1 eX8_add_38 rfl ?_
      refine zr_getR C ff_X8_36 rfl h1 rfl ((zk_3_0 h1).1) eX8_add_39 ?_
      refine zr_iload C 5 eX8_add_42 rfl ?_
      refine zr_iald C ((zk_3_0 h1).2) rfl n5 eX8_add_44 (fun v2 nv2 => ?_)
      refine zr_aloadn C 1 eX8_add_45 rfl ?_
      refine zr_getR C ff_X8_36 rfl h1 rfl ((zk_3_0 h1).1) eX8_add_46 ?_
      refine zr_iload C 4 eX8_add_49 rfl ?_
      refine zr_iald C ((zk_3_0 h1).2) rfl n4 eX8_add_51 (fun v3 nv3 => ?_)
      refine zr_isub C eX8_add_52 ?_
      refine zr_callSi C [.int (zI (zw (v2 - v3)))] zy_X9_boundedStep zs_X9_boundedStep lk_X8_39 zrm_2_1_1 (fun r hr => zqX_boundedStep l G σ (zw (v2 - v3)) (zw_w (v2 - v3)) r hr) rfl (zs_i (zI_w (v2 - v3)).symm rfl) (Nat.le_of_ble_eq_true rfl) eX8_add_53 (fun v5 nv5 σ4 => ?_)
      refine zr_istore (lv' := [(6, .int (zI v5)), (0, .ref (zad G o0)), (1, .ref (zad G o1)), (2, .int (zI x2)), (3, .int (zI x3)), (4, .int (zI x4)), (5, .int (zI x5))]) C eX8_add_56 (by decide) rfl ?_
      refine zr_aloadn C 1 eX8_add_58 rfl ?_
      refine zr_getR C ff_X8_9 rfl h0 rfl ((zk_8_0 h0).1) eX8_add_59 ?_
      refine zr_iload C 0 eX8_add_62 rfl ?_
      refine zr_bipush (a := 12) C eX8_add_64 rfl ?_
      refine zr_iadd C eX8_add_66 ?_
      refine zr_dup2 C eX8_add_67 rfl rfl ?_
      refine zr_iald C ((zk_8_0 h0).2) (zln_8_0 h0) rfl eX8_add_68 (fun v6 nv6 => ?_)
      refine zr_iconst C eX8_add_69 rfl ?_
      refine zr_iadd C eX8_add_70 ?_
      refine zr_iast C ((zk_8_0 h0).2) (zln_8_0 h0) rfl eX8_add_71 (fun σ7 => ?_)
      refine zr_aloadn C 1 eX8_add_72 rfl ?_
      refine zr_dup C eX8_add_73 rfl ?_
      refine zr_getI C ff_X8_18 h0 eX8_add_74 (fun v8 nv8 => ?_)
      refine zr_iconst C eX8_add_77 rfl ?_
      refine zr_iadd C eX8_add_78 ?_
      refine zr_putI C ff_X8_18 rfl h0 eX8_add_79 (fun σ9 => ?_)
      refine zr_iloadn C 4 eX8_add_82 rfl ?_
      refine zr_iloadn C 3 eX8_add_83 rfl ?_
      refine zr_icmp_ne C eX8_add_84 n3 n2 ?_ ?_
      · refine zr_iload C 0 eX8_add_111 rfl ?_
        refine zr_istoren (lv' := [(3, .int (zI v5)), (6, .int (zI v5)), (0, .ref (zad G o0)), (1, .ref (zad G o1)), (2, .int (zI x2)), (4, .int (zI x4)), (5, .int (zI x5))]) C eX8_add_113 (by decide) rfl ?_
        refine zr_iload C 6 eX8_add_114 rfl ?_
        refine zr_istore (lv' := [(4, .int (zI x5)), (3, .int (zI v5)), (6, .int (zI v5)), (0, .ref (zad G o0)), (1, .ref (zad G o1)), (2, .int (zI x2)), (5, .int (zI x5))]) C eX8_add_116 (by decide) rfl ?_
        refine zr_iinc (lv' := [(5, .int (zI (x5 + 1))), (4, .int (zI x5)), (3, .int (zI v5)), (6, .int (zI v5)), (0, .ref (zad G o0)), (1, .ref (zad G o1)), (2, .int (zI x2))]) C 6 eX8_add_118 rfl (by decide) rfl ?_
        refine zr_goto C eX8_add_121 ?_
        refine zr_lv [4, 5, 6, 2, 1, 0] rfl ?_
        exact zr_lve (zs_p (zs_p (zs_p (zs_p (zs_p (zs_pi (zI_w (x5 + 1)).symm rfl)))))) (ih o0 o1 x2 v5 x5 (zw (x5 + 1)) h0 h1 n2 nv5 n5 (zw_w (x5 + 1)) _)
      refine zr_aloadn C 1 eX8_add_87 rfl ?_
      refine zr_getR C ff_X8_15 rfl h0 rfl ((zk_8_1 h0).1) eX8_add_88 ?_
      refine zr_iload C 0 eX8_add_91 rfl ?_
      refine zr_bipush (a := 12) C eX8_add_93 rfl ?_
      refine zr_iadd C eX8_add_95 ?_
      refine zr_dup2 C eX8_add_96 rfl rfl ?_
      refine zr_iald C ((zk_8_1 h0).2) (zln_8_1 h0) rfl eX8_add_97 (fun v10 nv10 => ?_)
      refine zr_iconst C eX8_add_98 rfl ?_
      refine zr_iadd C eX8_add_99 ?_
      refine zr_iast C ((zk_8_1 h0).2) (zln_8_1 h0) rfl eX8_add_100 (fun σ11 => ?_)
      refine zr_aloadn C 1 eX8_add_101 rfl ?_
      refine zr_dup C eX8_add_102 rfl ?_
      refine zr_getI C ff_X8_22 h0 eX8_add_103 (fun v12 nv12 => ?_)
      refine zr_iconst C eX8_add_106 rfl ?_
      refine zr_iadd C eX8_add_107 ?_
      refine zr_putI C ff_X8_22 rfl h0 eX8_add_108 (fun σ13 => ?_)
      refine zr_iload C 0 eX8_add_111 rfl ?_
      refine zr_istoren (lv' := [(3, .int (zI v5)), (6, .int (zI v5)), (0, .ref (zad G o0)), (1, .ref (zad G o1)), (2, .int (zI x2)), (4, .int (zI x4)), (5, .int (zI x5))]) C eX8_add_113 (by decide) rfl ?_
      refine zr_iload C 6 eX8_add_114 rfl ?_
      refine zr_istore (lv' := [(4, .int (zI x5)), (3, .int (zI v5)), (6, .int (zI v5)), (0, .ref (zad G o0)), (1, .ref (zad G o1)), (2, .int (zI x2)), (5, .int (zI x5))]) C eX8_add_116 (by decide) rfl ?_
      refine zr_iinc (lv' := [(5, .int (zI (x5 + 1))), (4, .int (zI x5)), (3, .int (zI v5)), (6, .int (zI v5)), (0, .ref (zad G o0)), (1, .ref (zad G o1)), (2, .int (zI x2))]) C 6 eX8_add_118 rfl (by decide) rfl ?_
      refine zr_goto C eX8_add_121 ?_
      refine zr_lv [4, 5, 6, 2, 1, 0] rfl ?_
      exact zr_lve (zs_p (zs_p (zs_p (zs_p (zs_p (zs_pi (zI_w (x5 + 1)).symm rfl)))))) (ih o0 o1 x2 v5 x5 (zw (x5 + 1)) h0 h1 n2 nv5 n5 (zw_w (x5 + 1)) _)
    refine zr_goto C eX8_add_30 ?_
    refine zr_iinc (lv' := [(5, .int (zI (x5 + 1))), (0, .ref (zad G o0)), (1, .ref (zad G o1)), (2, .int (zI x2)), (3, .int (zI x3)), (4, .int (zI x4))]) C 5 eX8_add_118 rfl (by decide) rfl ?_
    refine zr_goto C eX8_add_121 ?_
    refine zr_lv [1, 2, 3, 4, 5, 0] rfl ?_
    exact zr_lve (zs_p (zs_p (zs_p (zs_p (zs_p (zs_pi (zI_w (x5 + 1)).symm rfl)))))) (ih o0 o1 x2 x3 x4 (zw (x5 + 1)) h0 h1 n2 n3 n4 (zw_w (x5 + 1)) _)
theorem zqT_add (l : Launch) (G : Zg) (σ : Zm) (o0 : Nat) (o1 : Nat) (x2 : Int) (h0 : zin 294 o0 8) (h1 : zin 294 o1 3) (n2 : zw x2 = x2) (res : Int × Zm) (he : fT_add σ o0 o1 x2 = some res) : zM l yX8_add cX8_add 7 none 2 G 294 ztt σ [.ref (zad G o0), .ref (zad G o1), .int (zI x2)] none res.2 := by
  refine zM_of he (by decide +kernel) (Nat.le_of_ble_eq_true rfl) (lv := [(0, .ref (zad G o0)), (1, .ref (zad G o1)), (2, .int (zI x2))]) rfl (fun p e s m below meth c C => ?_)
  unfold fT_add
  refine zr_bipush (a := 100) C eX8_add_0 rfl ?_
  refine zr_istoren (lv' := [(3, .int (zI 100)), (0, .ref (zad G o0)), (1, .ref (zad G o1)), (2, .int (zI x2))]) C eX8_add_2 (by decide) rfl ?_
  refine zr_iconst C eX8_add_3 rfl ?_
  refine zr_istore (lv' := [(4, .int (zI (-1))), (3, .int (zI 100)), (0, .ref (zad G o0)), (1, .ref (zad G o1)), (2, .int (zI x2))]) C eX8_add_4 (by decide) rfl ?_
  refine zr_iconst C eX8_add_6 rfl ?_
  refine zr_istore (lv' := [(5, .int (zI 0)), (4, .int (zI (-1))), (3, .int (zI 100)), (0, .ref (zad G o0)), (1, .ref (zad G o1)), (2, .int (zI x2))]) C eX8_add_7 (by decide) rfl ?_
  refine zr_lv [3, 4, 5, 2, 1, 0] rfl ?_
  refine wT_add_9 C 5000 o0 o1 x2 100 (-1) 0 h0 h1 n2 w_100 w_m1 w_0 σ
theorem wT_strangeBy_4 {G : Zg} {p : Program} {l : Launch} {e : Env} {s : State} {m : MethodId} {args : Array Value} {below : List Frame} {meth : Method} {c : Code} (C : zC G p s m args meth c cX8_strangeBy 5 RX8 (some .int)) {res : Int × Zm} (K27 : Nat → Nat → Int → Zm → Zr) (hK27 : ∀ (o0 : Nat) (o1 : Nat) (x2 : Int) (h0 : zin 294 o0 8) (h1 : zin 294 o1 8) (n2 : zw x2 = x2) (σ : Zm), zR G p l e (zrm 1) s m args below meth c 5 0 0 (zQm below args s G 294 ztt (some (.int (zI res.1))) res.2) 294 ztt res σ (K27 o0 o1 x2 σ) [(0, .ref (zad G o0)), (1, .ref (zad G o1)), (2, .int (zI x2))] 27 []) : ∀ (n : Nat) (o0 : Nat) (o1 : Nat) (x2 : Int) (x3 : Int) (h0 : zin 294 o0 8) (h1 : zin 294 o1 8) (n2 : zw x2 = x2) (n3 : zw x3 = x3) (σ : Zm), zR G p l e (zrm 1) s m args below meth c 5 0 0 (zQm below args s G 294 ztt (some (.int (zI res.1))) res.2) 294 ztt res σ (fT_strangeBy_4 n o0 o1 x2 x3 σ K27) [(0, .ref (zad G o0)), (1, .ref (zad G o1)), (2, .int (zI x2)), (3, .int (zI x3))] 4 []
  | 0, _, _, _, _, _, _, _, _, _ => zr_none
  | n + 1, o0, o1, x2, x3, h0, h1, n2, n3, σ => by
    have ih := fun (o0 : Nat) (o1 : Nat) (x2 : Int) (x3 : Int) (h0 : zin 294 o0 8) (h1 : zin 294 o1 8) (n2 : zw x2 = x2) (n3 : zw x3 = x3) (σ : Zm) => wT_strangeBy_4 (l := l) (e := e) (below := below) C K27 hK27 (res := res) n o0 o1 x2 x3 h0 h1 n2 n3 σ
    rw [fT_strangeBy_4]
    refine zr_letf (fun R0 hR0 => ?_)
    have ih : ∀ (o0 : Nat) (o1 : Nat) (x2 : Int) (x3 : Int) (h0 : zin 294 o0 8) (h1 : zin 294 o1 8) (n2 : zw x2 = x2) (n3 : zw x3 = x3) (σ : Zm), zR G p l e (zrm 1) s m args below meth c 5 0 0 (zQm below args s G 294 ztt (some (.int (zI res.1))) res.2) 294 ztt res σ (R0 o0 o1 x2 x3 σ) [(0, .ref (zad G o0)), (1, .ref (zad G o1)), (2, .int (zI x2)), (3, .int (zI x3))] 4 [] := by rw [hR0]; exact ih
    clear hR0
    refine zr_iloadn C 3 eX8_strangeBy_4 rfl ?_
    refine zr_bipush (a := 25) C eX8_strangeBy_5 rfl ?_
    refine zr_icmp_ge C eX8_strangeBy_7 n3 w_25 ?_ ?_
    · refine zr_lv [0, 1, 2] rfl ?_
      exact hK27 o0 o1 x2 h0 h1 n2 _
    refine zr_iloadn C 2 eX8_strangeBy_10 rfl ?_
    refine zr_aloadn C 1 eX8_strangeBy_11 rfl ?_
    refine zr_getR C ff_X8_9 rfl h1 rfl ((zk_8_0 h1).1) eX8_strangeBy_12 ?_
    refine zr_iloadn C 3 eX8_strangeBy_15 rfl ?_
    refine zr_iald C ((zk_8_0 h1).2) (zln_8_0 h1) n3 eX8_strangeBy_16 (fun v1 nv1 => ?_)
    refine zr_mmax C lk_X8_43 zy_mmax zrm_1_2_0 (Nat.le_of_ble_eq_true rfl) n2 nv1 eX8_strangeBy_17 (fun v2 nv2 => ?_)
    refine zr_istoren (lv' := [(2, .int (zI v2)), (0, .ref (zad G o0)), (1, .ref (zad G o1)), (3, .int (zI x3))]) C eX8_strangeBy_20 (by decide) rfl ?_
    refine zr_iinc (lv' := [(3, .int (zI (x3 + 1))), (2, .int (zI v2)), (0, .ref (zad G o0)), (1, .ref (zad G o1))]) C 3 eX8_strangeBy_21 rfl (by decide) rfl ?_
    refine zr_goto C eX8_strangeBy_24 ?_
    refine zr_lv [2, 3, 1, 0] rfl ?_
    exact zr_lve (zs_p (zs_p (zs_p (zs_pi (zI_w (x3 + 1)).symm rfl)))) (ih o0 o1 v2 (zw (x3 + 1)) h0 h1 nv2 (zw_w (x3 + 1)) _)
theorem wT_strangeBy_47 {G : Zg} {p : Program} {l : Launch} {e : Env} {s : State} {m : MethodId} {args : Array Value} {below : List Frame} {meth : Method} {c : Code} (C : zC G p s m args meth c cX8_strangeBy 5 RX8 (some .int)) {res : Int × Zm} : ∀ (n : Nat) (o0 : Nat) (o1 : Nat) (x2 : Int) (x3 : Int) (x4 : Int) (h0 : zin 294 o0 8) (h1 : zin 294 o1 8) (n2 : zw x2 = x2) (n3 : zw x3 = x3) (n4 : zw x4 = x4) (σ : Zm), zR G p l e (zrm 1) s m args below meth c 5 0 0 (zQm below args s G 294 ztt (some (.int (zI res.1))) res.2) 294 ztt res σ (fT_strangeBy_47 n o0 o1 x2 x3 x4 σ) [(0, .ref (zad G o0)), (1, .ref (zad G o1)), (2, .int (zI x2)), (3, .int (zI x3)), (4, .int (zI x4))] 47 []
  | 0, _, _, _, _, _, _, _, _, _, _, _ => zr_none
  | n + 1, o0, o1, x2, x3, x4, h0, h1, n2, n3, n4, σ => by
    have ih := fun (o0 : Nat) (o1 : Nat) (x2 : Int) (x3 : Int) (x4 : Int) (h0 : zin 294 o0 8) (h1 : zin 294 o1 8) (n2 : zw x2 = x2) (n3 : zw x3 = x3) (n4 : zw x4 = x4) (σ : Zm) => wT_strangeBy_47 (l := l) (e := e) (below := below) C (res := res) n o0 o1 x2 x3 x4 h0 h1 n2 n3 n4 σ
    rw [fT_strangeBy_47]
    refine zr_letf (fun R0 hR0 => ?_)
    have ih : ∀ (o0 : Nat) (o1 : Nat) (x2 : Int) (x3 : Int) (x4 : Int) (h0 : zin 294 o0 8) (h1 : zin 294 o1 8) (n2 : zw x2 = x2) (n3 : zw x3 = x3) (n4 : zw x4 = x4) (σ : Zm), zR G p l e (zrm 1) s m args below meth c 5 0 0 (zQm below args s G 294 ztt (some (.int (zI res.1))) res.2) 294 ztt res σ (R0 o0 o1 x2 x3 x4 σ) [(0, .ref (zad G o0)), (1, .ref (zad G o1)), (2, .int (zI x2)), (3, .int (zI x3)), (4, .int (zI x4))] 47 [] := by rw [hR0]; exact ih
    clear hR0
    refine zr_iload C 4 eX8_strangeBy_47 rfl ?_
    refine zr_bipush (a := 25) C eX8_strangeBy_49 rfl ?_
    refine zr_icmp_ge C eX8_strangeBy_51 n4 w_25 ?_ ?_
    · refine zr_iloadn C 3 eX8_strangeBy_88 rfl ?_
      refine zr_aloadn C 0 eX8_strangeBy_89 rfl ?_
      refine zr_getI C ff_X8_18 h0 eX8_strangeBy_90 (fun v8 nv8 => ?_)
      refine zr_idiv C eX8_strangeBy_93 n3 nv8 ?_
      exact zr_iret C eX8_strangeBy_94
    refine zr_iloadn C 3 eX8_strangeBy_54 rfl ?_
    refine zr_aloadn C 0 eX8_strangeBy_55 rfl ?_
    refine zr_getR C ff_X8_9 rfl h0 rfl ((zk_8_0 h0).1) eX8_strangeBy_56 ?_
    refine zr_iload C 4 eX8_strangeBy_59 rfl ?_
    refine zr_iald C ((zk_8_0 h0).2) (zln_8_0 h0) n4 eX8_strangeBy_61 (fun v9 nv9 => ?_)
    refine zr_sipush (a := 1000) C eX8_strangeBy_62 rfl ?_
    refine zr_sipush (a := 1000) C eX8_strangeBy_65 rfl ?_
    refine zr_aloadn C 1 eX8_strangeBy_68 rfl ?_
    refine zr_getR C ff_X8_9 rfl h1 rfl ((zk_8_0 h1).1) eX8_strangeBy_69 ?_
    refine zr_iload C 4 eX8_strangeBy_72 rfl ?_
    refine zr_iald C ((zk_8_0 h1).2) (zln_8_0 h1) n4 eX8_strangeBy_74 (fun v10 nv10 => ?_)
    refine zr_imul C eX8_strangeBy_75 ?_
    refine zr_iloadn C 2 eX8_strangeBy_76 rfl ?_
    refine zr_idiv C eX8_strangeBy_77 rfl n2 ?_
    refine zr_isub C eX8_strangeBy_78 ?_
    refine zr_imul C eX8_strangeBy_79 ?_
    refine zr_iadd C eX8_strangeBy_80 ?_
    refine zr_st (show _ = .int (zI (zw (x3 + (v9 * (1000 - (Int.tdiv (zw (1000 * v10)) x2)))))) :: _ from congrArg (· :: _) (congrArg Value.int (zI_w (x3 + (v9 * (1000 - (Int.tdiv (zw (1000 * v10)) x2))))).symm)) ?_
    refine zr_letw (P := fun z => .int (zI z) :: _) (zw_w (x3 + (v9 * (1000 - (Int.tdiv (zw (1000 * v10)) x2))))) (fun v11 nv11 => ?_)
    refine zr_istoren (lv' := [(3, .int (zI v11)), (0, .ref (zad G o0)), (1, .ref (zad G o1)), (2, .int (zI x2)), (4, .int (zI x4))]) C eX8_strangeBy_81 (by decide) rfl ?_
    refine zr_iinc (lv' := [(4, .int (zI (x4 + 1))), (3, .int (zI v11)), (0, .ref (zad G o0)), (1, .ref (zad G o1)), (2, .int (zI x2))]) C 4 eX8_strangeBy_82 rfl (by decide) rfl ?_
    refine zr_goto C eX8_strangeBy_85 ?_
    refine zr_lv [2, 3, 4, 1, 0] rfl ?_
    exact zr_lve (zs_p (zs_p (zs_p (zs_p (zs_pi (zI_w (x4 + 1)).symm rfl))))) (ih o0 o1 x2 v11 (zw (x4 + 1)) h0 h1 n2 nv11 (zw_w (x4 + 1)) _)
theorem zqT_strangeBy (l : Launch) (G : Zg) (σ : Zm) (o0 : Nat) (o1 : Nat) (h0 : zin 294 o0 8) (h1 : zin 294 o1 8) (res : Int × Zm) (he : fT_strangeBy σ o0 o1 = some res) : zM l yX8_strangeBy cX8_strangeBy 5 (some .int) 1 G 294 ztt σ [.ref (zad G o0), .ref (zad G o1)] (some (.int (zI res.1))) res.2 := by
  refine zM_of he (by decide +kernel) (Nat.le_of_ble_eq_true rfl) (lv := [(0, .ref (zad G o0)), (1, .ref (zad G o1))]) rfl (fun p e s m below meth c C => ?_)
  unfold fT_strangeBy
  refine zr_iconst C eX8_strangeBy_0 rfl ?_
  refine zr_istoren (lv' := [(2, .int (zI 0)), (0, .ref (zad G o0)), (1, .ref (zad G o1))]) C eX8_strangeBy_1 (by decide) rfl ?_
  refine zr_iconst C eX8_strangeBy_2 rfl ?_
  refine zr_istoren (lv' := [(3, .int (zI 0)), (2, .int (zI 0)), (0, .ref (zad G o0)), (1, .ref (zad G o1))]) C eX8_strangeBy_3 (by decide) rfl ?_
  refine zr_lv [2, 3, 1, 0] rfl ?_
  refine wT_strangeBy_4 C _ ?_ 5000 o0 o1 0 0 h0 h1 w_0 w_0 σ
  intro o4 o5 y6 ho4 ho5 ny6 σ3
  refine zr_aloadn C 0 eX8_strangeBy_27 rfl ?_
  refine zr_getI C ff_X8_18 ho4 eX8_strangeBy_28 (fun v7 nv7 => ?_)
  refine zr_iconst C eX8_strangeBy_31 rfl ?_
  refine zr_icmp_lt C eX8_strangeBy_32 nv7 w_1 ?_ ?_
  · refine zr_iconst C eX8_strangeBy_40 rfl ?_
    exact zr_iret C eX8_strangeBy_41
  refine zr_iloadn C 2 eX8_strangeBy_35 rfl ?_
  refine zr_iconst C eX8_strangeBy_36 rfl ?_
  refine zr_icmp_ge C eX8_strangeBy_37 ny6 w_1 ?_ ?_
  · refine zr_iconst C eX8_strangeBy_42 rfl ?_
    refine zr_istoren (lv' := [(3, .int (zI 0)), (0, .ref (zad G o4)), (1, .ref (zad G o5)), (2, .int (zI y6))]) C eX8_strangeBy_43 (by decide) rfl ?_
    refine zr_iconst C eX8_strangeBy_44 rfl ?_
    refine zr_istore (lv' := [(4, .int (zI 0)), (3, .int (zI 0)), (0, .ref (zad G o4)), (1, .ref (zad G o5)), (2, .int (zI y6))]) C eX8_strangeBy_45 (by decide) rfl ?_
    refine zr_lv [2, 3, 4, 1, 0] rfl ?_
    refine wT_strangeBy_47 C 5000 o4 o5 y6 0 0 ho4 ho5 ny6 w_0 w_0 σ3
  refine zr_iconst C eX8_strangeBy_40 rfl ?_
  exact zr_iret C eX8_strangeBy_41
theorem wT_distanceTo_22 {G : Zg} {p : Program} {l : Launch} {e : Env} {s : State} {m : MethodId} {args : Array Value} {below : List Frame} {meth : Method} {c : Code} (C : zC G p s m args meth c cX8_distanceTo 4 RX8 (some .int)) {res : Int × Zm} : ∀ (n : Nat) (o0 : Nat) (o1 : Nat) (x2 : Int) (x3 : Int) (h0 : zin 294 o0 8) (h1 : zin 294 o1 8) (n2 : zw x2 = x2) (n3 : zw x3 = x3) (σ : Zm), zR G p l e (zrm 1) s m args below meth c 4 0 0 (zQm below args s G 294 ztt (some (.int (zI res.1))) res.2) 294 ztt res σ (fT_distanceTo_22 n o0 o1 x2 x3 σ) [(0, .ref (zad G o0)), (1, .ref (zad G o1)), (2, .int (zI x2)), (3, .int (zI x3))] 22 []
  | 0, _, _, _, _, _, _, _, _, _ => zr_none
  | n + 1, o0, o1, x2, x3, h0, h1, n2, n3, σ => by
    have ih := fun (o0 : Nat) (o1 : Nat) (x2 : Int) (x3 : Int) (h0 : zin 294 o0 8) (h1 : zin 294 o1 8) (n2 : zw x2 = x2) (n3 : zw x3 = x3) (σ : Zm) => wT_distanceTo_22 (l := l) (e := e) (below := below) C (res := res) n o0 o1 x2 x3 h0 h1 n2 n3 σ
    rw [fT_distanceTo_22]
    refine zr_letf (fun R0 hR0 => ?_)
    have ih : ∀ (o0 : Nat) (o1 : Nat) (x2 : Int) (x3 : Int) (h0 : zin 294 o0 8) (h1 : zin 294 o1 8) (n2 : zw x2 = x2) (n3 : zw x3 = x3) (σ : Zm), zR G p l e (zrm 1) s m args below meth c 4 0 0 (zQm below args s G 294 ztt (some (.int (zI res.1))) res.2) 294 ztt res σ (R0 o0 o1 x2 x3 σ) [(0, .ref (zad G o0)), (1, .ref (zad G o1)), (2, .int (zI x2)), (3, .int (zI x3))] 22 [] := by rw [hR0]; exact ih
    clear hR0
    refine zr_iloadn C 3 eX8_distanceTo_22 rfl ?_
    refine zr_bipush (a := 25) C eX8_distanceTo_23 rfl ?_
    refine zr_icmp_ge C eX8_distanceTo_25 n3 w_25 ?_ ?_
    · refine zr_iloadn C 2 eX8_distanceTo_71 rfl ?_
      exact zr_iret C eX8_distanceTo_72
    refine zr_iloadn C 2 eX8_distanceTo_28 rfl ?_
    refine zr_sipush (a := 1000) C eX8_distanceTo_29 rfl ?_
    refine zr_aloadn C 0 eX8_distanceTo_32 rfl ?_
    refine zr_getR C ff_X8_9 rfl h0 rfl ((zk_8_0 h0).1) eX8_distanceTo_33 ?_
    refine zr_iloadn C 3 eX8_distanceTo_36 rfl ?_
    refine zr_iald C ((zk_8_0 h0).2) (zln_8_0 h0) n3 eX8_distanceTo_37 (fun v3 nv3 => ?_)
    refine zr_imul C eX8_distanceTo_38 ?_
    refine zr_aloadn C 0 eX8_distanceTo_39 rfl ?_
    refine zr_getI C ff_X8_18 h0 eX8_distanceTo_40 (fun v4 nv4 => ?_)
    refine zr_idiv C eX8_distanceTo_43 rfl nv4 ?_
    refine zr_sipush (a := 1000) C eX8_distanceTo_44 rfl ?_
    refine zr_aloadn C 1 eX8_distanceTo_47 rfl ?_
    refine zr_getR C ff_X8_9 rfl h1 rfl ((zk_8_0 h1).1) eX8_distanceTo_48 ?_
    refine zr_iloadn C 3 eX8_distanceTo_51 rfl ?_
    refine zr_iald C ((zk_8_0 h1).2) (zln_8_0 h1) n3 eX8_distanceTo_52 (fun v5 nv5 => ?_)
    refine zr_imul C eX8_distanceTo_53 ?_
    refine zr_aloadn C 1 eX8_distanceTo_54 rfl ?_
    refine zr_getI C ff_X8_18 h1 eX8_distanceTo_55 (fun v6 nv6 => ?_)
    refine zr_idiv C eX8_distanceTo_58 rfl nv6 ?_
    refine zr_isub C eX8_distanceTo_59 ?_
    refine zr_mabs C lk_X8_49 zy_mabs zrm_1_2_0 (Nat.le_of_ble_eq_true rfl) rfl eX8_distanceTo_60 (fun v7 nv7 => ?_)
    refine zr_iadd C eX8_distanceTo_63 ?_
    refine zr_st (show _ = .int (zI (zw (x2 + v7))) :: _ from congrArg (· :: _) (congrArg Value.int (zI_w (x2 + v7)).symm)) ?_
    refine zr_letw (P := fun z => .int (zI z) :: _) (zw_w (x2 + v7)) (fun v8 nv8 => ?_)
    refine zr_istoren (lv' := [(2, .int (zI v8)), (0, .ref (zad G o0)), (1, .ref (zad G o1)), (3, .int (zI x3))]) C eX8_distanceTo_64 (by decide) rfl ?_
    refine zr_iinc (lv' := [(3, .int (zI (x3 + 1))), (2, .int (zI v8)), (0, .ref (zad G o0)), (1, .ref (zad G o1))]) C 3 eX8_distanceTo_65 rfl (by decide) rfl ?_
    refine zr_goto C eX8_distanceTo_68 ?_
    refine zr_lv [2, 3, 1, 0] rfl ?_
    exact zr_lve (zs_p (zs_p (zs_p (zs_pi (zI_w (x3 + 1)).symm rfl)))) (ih o0 o1 v8 (zw (x3 + 1)) h0 h1 nv8 (zw_w (x3 + 1)) _)
theorem zqT_distanceTo (l : Launch) (G : Zg) (σ : Zm) (o0 : Nat) (o1 : Nat) (h0 : zin 294 o0 8) (h1 : zin 294 o1 8) (res : Int × Zm) (he : fT_distanceTo σ o0 o1 = some res) : zM l yX8_distanceTo cX8_distanceTo 4 (some .int) 1 G 294 ztt σ [.ref (zad G o0), .ref (zad G o1)] (some (.int (zI res.1))) res.2 := by
  refine zM_of he (by decide +kernel) (Nat.le_of_ble_eq_true rfl) (lv := [(0, .ref (zad G o0)), (1, .ref (zad G o1))]) rfl (fun p e s m below meth c C => ?_)
  unfold fT_distanceTo
  refine zr_aloadn C 0 eX8_distanceTo_0 rfl ?_
  refine zr_getI C ff_X8_18 h0 eX8_distanceTo_1 (fun v1 nv1 => ?_)
  refine zr_iconst C eX8_distanceTo_4 rfl ?_
  refine zr_icmp_lt C eX8_distanceTo_5 nv1 w_1 ?_ ?_
  · refine zr_iconst C eX8_distanceTo_16 rfl ?_
    exact zr_iret C eX8_distanceTo_17
  refine zr_aloadn C 1 eX8_distanceTo_8 rfl ?_
  refine zr_getI C ff_X8_18 h1 eX8_distanceTo_9 (fun v2 nv2 => ?_)
  refine zr_iconst C eX8_distanceTo_12 rfl ?_
  refine zr_icmp_ge C eX8_distanceTo_13 nv2 w_1 ?_ ?_
  · refine zr_iconst C eX8_distanceTo_18 rfl ?_
    refine zr_istoren (lv' := [(2, .int (zI 0)), (0, .ref (zad G o0)), (1, .ref (zad G o1))]) C eX8_distanceTo_19 (by decide) rfl ?_
    refine zr_iconst C eX8_distanceTo_20 rfl ?_
    refine zr_istoren (lv' := [(3, .int (zI 0)), (2, .int (zI 0)), (0, .ref (zad G o0)), (1, .ref (zad G o1))]) C eX8_distanceTo_21 (by decide) rfl ?_
    refine zr_lv [2, 3, 1, 0] rfl ?_
    refine wT_distanceTo_22 C 5000 o0 o1 0 0 h0 h1 w_0 w_0 σ
  refine zr_iconst C eX8_distanceTo_16 rfl ?_
  exact zr_iret C eX8_distanceTo_17
