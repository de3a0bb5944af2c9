theorem ff_X6_31 : zF RX6 31 6 6 .int := Or.inl (by unfold zFd; decide +kernel)
theorem ff_X6_9 : zF RX6 9 6 0 (.array .int) := Or.inl (by unfold zFd; decide +kernel)
theorem zk_6_0 {o : Nat} (h : zin 294 o 6) : zRF o 0 = o + 1 ∧ zin 294 (o + 1) 20 := by
  have h2 : ∀ o, o < 294 → zSH o = 6 → zRF o 0 = o + 1 ∧ (zSH (o + 1) = 20 ∧ o + 1 < 294) := by decide +kernel
  exact h2 o h.2 h.1
theorem zln_6_0 {o : Nat} (h : zin 294 o 6) : zLN (o + 1) = 300 := by
  have h2 : ∀ o, o < 294 → zSH o = 6 → zLN (o + 1) = 300 := by decide +kernel
  exact h2 o h.2 h.1
theorem w_300 : zw 300 = 300 := by decide +kernel
theorem ff_X6_27 : zF RX6 27 6 5 .int := Or.inl (by unfold zFd; decide +kernel)
theorem w_10 : zw 10 = 10 := by decide +kernel
theorem ff_X6_15 : zF RX6 15 6 1 (.array .int) := Or.inl (by unfold zFd; decide +kernel)
theorem zk_6_1 {o : Nat} (h : zin 294 o 6) : zRF o 1 = o + 2 ∧ zin 294 (o + 2) 20 := by
  have h2 : ∀ o, o < 294 → zSH o = 6 → zRF o 1 = o + 2 ∧ (zSH (o + 2) = 20 ∧ o + 2 < 294) := by decide +kernel
  exact h2 o h.2 h.1
theorem zln_6_1 {o : Nat} (h : zin 294 o 6) : zLN (o + 2) = 10 := by
  have h2 : ∀ o, o < 294 → zSH o = 6 → zLN (o + 2) = 10 := by decide +kernel
  exact h2 o h.2 h.1
theorem ff_X6_18 : zF RX6 18 6 2 (.array .int) := Or.inl (by unfold zFd; decide +kernel)
theorem zk_6_2 {o : Nat} (h : zin 294 o 6) : zRF o 2 = o + 3 ∧ zin 294 (o + 3) 20 := by
  have h2 : ∀ o, o < 294 → zSH o = 6 → zRF o 2 = o + 3 ∧ (zSH (o + 3) = 20 ∧ o + 3 < 294) := by decide +kernel
  exact h2 o h.2 h.1
theorem zln_6_2 {o : Nat} (h : zin 294 o 6) : zLN (o + 3) = 10 := by
  have h2 : ∀ o, o < 294 → zSH o = 6 → zLN (o + 3) = 10 := by decide +kernel
  exact h2 o h.2 h.1
theorem ff_X6_21 : zF RX6 21 6 3 (.array .int) := Or.inl (by unfold zFd; decide +kernel)
theorem zk_6_3 {o : Nat} (h : zin 294 o 6) : zRF o 3 = o + 4 ∧ zin 294 (o + 4) 20 := by
  have h2 : ∀ o, o < 294 → zSH o = 6 → zRF o 3 = o + 4 ∧ (zSH (o + 4) = 20 ∧ o + 4 < 294) := by decide +kernel
  exact h2 o h.2 h.1
theorem zln_6_3 {o : Nat} (h : zin 294 o 6) : zLN (o + 4) = 10 := by
  have h2 : ∀ o, o < 294 → zSH o = 6 → zLN (o + 4) = 10 := by decide +kernel
  exact h2 o h.2 h.1
theorem ff_X6_24 : zF RX6 24 6 4 (.array .int) := Or.inl (by unfold zFd; decide +kernel)
theorem zk_6_4 {o : Nat} (h : zin 294 o 6) : zRF o 4 = o + 5 ∧ zin 294 (o + 5) 20 := by
  have h2 : ∀ o, o < 294 → zSH o = 6 → zRF o 4 = o + 5 ∧ (zSH (o + 5) = 20 ∧ o + 5 < 294) := by decide +kernel
  exact h2 o h.2 h.1
theorem zln_6_4 {o : Nat} (h : zin 294 o 6) : zLN (o + 5) = 10 := by
  have h2 : ∀ o, o < 294 → zSH o = 6 → zLN (o + 5) = 10 := by decide +kernel
  exact h2 o h.2 h.1
theorem eX6_emit_0 : zD cX6_emit 0 (.aload_n 0) 1 1 := ⟨by decide +kernel, rfl⟩
theorem eX6_emit_1 : zD cX6_emit 1 (.getfield 31) 3 4 := ⟨by decide +kernel, rfl⟩
theorem eX6_emit_4 : zD cX6_emit 4 (.aload_n 0) 1 5 := ⟨by decide +kernel, rfl⟩
theorem eX6_emit_5 : zD cX6_emit 5 (.getfield 9) 3 8 := ⟨by decide +kernel, rfl⟩
theorem eX6_emit_8 : zD cX6_emit 8 .arraylength 1 9 := ⟨by decide +kernel, rfl⟩
theorem eX6_emit_9 : zDj cX6_emit 9 (.if_icmp .ge 23) 23 32 12 := ⟨by decide +kernel, rfl, by decide⟩
theorem eX6_emit_12 : zD cX6_emit 12 (.aload_n 0) 1 13 := ⟨by decide +kernel, rfl⟩
theorem eX6_emit_13 : zD cX6_emit 13 (.getfield 9) 3 16 := ⟨by decide +kernel, rfl⟩
theorem eX6_emit_16 : zD cX6_emit 16 (.aload_n 0) 1 17 := ⟨by decide +kernel, rfl⟩
theorem eX6_emit_17 : zD cX6_emit 17 (.getfield 31) 3 20 := ⟨by decide +kernel, rfl⟩
theorem eX6_emit_20 : zD cX6_emit 20 (.iload_n 1) 1 21 := ⟨by decide +kernel, rfl⟩
theorem eX6_emit_21 : zD cX6_emit 21 .iastore 1 22 := ⟨by decide +kernel, rfl⟩
theorem eX6_emit_22 : zD cX6_emit 22 (.aload_n 0) 1 23 := ⟨by decide +kernel, rfl⟩
theorem eX6_emit_23 : zD cX6_emit 23 .dup 1 24 := ⟨by decide +kernel, rfl⟩
theorem eX6_emit_24 : zD cX6_emit 24 (.getfield 31) 3 27 := ⟨by decide +kernel, rfl⟩
theorem eX6_emit_27 : zD cX6_emit 27 (.iconst 1) 1 28 := ⟨by decide +kernel, rfl⟩
theorem eX6_emit_28 : zD cX6_emit 28 .iadd 1 29 := ⟨by decide +kernel, rfl⟩
theorem eX6_emit_29 : zD cX6_emit 29 (.putfield 31) 3 32 := ⟨by decide +kernel, rfl⟩
theorem eX6_emit_32 : zD cX6_emit 32 .return_ 1 33 := ⟨by decide +kernel, rfl⟩
theorem eX6_open_0 : zD cX6_open 0 (.aload_n 0) 1 1 := ⟨by decide +kernel, rfl⟩
theorem eX6_open_1 : zD cX6_open 1 (.getfield 27) 3 4 := ⟨by decide +kernel, rfl⟩
theorem eX6_open_4 : zD cX6_open 4 (.bipush 10) 2 6 := ⟨by decide +kernel, rfl⟩
theorem eX6_open_6 : zDj cX6_open 6 (.if_icmp .ge 39) 39 45 9 := ⟨by decide +kernel, rfl, by decide⟩
theorem eX6_open_9 : zD cX6_open 9 (.aload_n 0) 1 10 := ⟨by decide +kernel, rfl⟩
theorem eX6_open_10 : zD cX6_open 10 (.getfield 15) 3 13 := ⟨by decide +kernel, rfl⟩
theorem eX6_open_13 : zD cX6_open 13 (.aload_n 0) 1 14 := ⟨by decide +kernel, rfl⟩
theorem eX6_open_14 : zD cX6_open 14 (.getfield 27) 3 17 := ⟨by decide +kernel, rfl⟩
theorem eX6_open_17 : zD cX6_open 17 (.iload_n 1) 1 18 := ⟨by decide +kernel, rfl⟩
theorem eX6_open_18 : zD cX6_open 18 .iastore 1 19 := ⟨by decide +kernel, rfl⟩
theorem eX6_open_19 : zD cX6_open 19 (.aload_n 0) 1 20 := ⟨by decide +kernel, rfl⟩
theorem eX6_open_20 : zD cX6_open 20 (.getfield 18) 3 23 := ⟨by decide +kernel, rfl⟩
theorem eX6_open_23 : zD cX6_open 23 (.aload_n 0) 1 24 := ⟨by decide +kernel, rfl⟩
theorem eX6_open_24 : zD cX6_open 24 (.getfield 27) 3 27 := ⟨by decide +kernel, rfl⟩
theorem eX6_open_27 : zD cX6_open 27 (.aload_n 0) 1 28 := ⟨by decide +kernel, rfl⟩
theorem eX6_open_28 : zD cX6_open 28 (.getfield 31) 3 31 := ⟨by decide +kernel, rfl⟩
theorem eX6_open_31 : zD cX6_open 31 .iastore 1 32 := ⟨by decide +kernel, rfl⟩
theorem eX6_open_32 : zD cX6_open 32 (.aload_n 0) 1 33 := ⟨by decide +kernel, rfl⟩
theorem eX6_open_33 : zD cX6_open 33 (.getfield 21) 3 36 := ⟨by decide +kernel, rfl⟩
theorem eX6_open_36 : zD cX6_open 36 (.aload_n 0) 1 37 := ⟨by decide +kernel, rfl⟩
theorem eX6_open_37 : zD cX6_open 37 (.getfield 27) 3 40 := ⟨by decide +kernel, rfl⟩
theorem eX6_open_40 : zD cX6_open 40 (.aload_n 0) 1 41 := ⟨by decide +kernel, rfl⟩
theorem eX6_open_41 : zD cX6_open 41 (.getfield 31) 3 44 := ⟨by decide +kernel, rfl⟩
theorem eX6_open_44 : zD cX6_open 44 .iastore 1 45 := ⟨by decide +kernel, rfl⟩
theorem eX6_open_45 : zD cX6_open 45 .return_ 1 46 := ⟨by decide +kernel, rfl⟩
theorem eX6_beginCondition_0 : zD cX6_beginCondition 0 (.aload_n 0) 1 1 := ⟨by decide +kernel, rfl⟩
theorem eX6_beginCondition_1 : zD cX6_beginCondition 1 (.getfield 27) 3 4 := ⟨by decide +kernel, rfl⟩
theorem eX6_beginCondition_4 : zD cX6_beginCondition 4 (.bipush 10) 2 6 := ⟨by decide +kernel, rfl⟩
theorem eX6_beginCondition_6 : zDj cX6_beginCondition 6 (.if_icmp .ge 16) 16 22 9 := ⟨by decide +kernel, rfl, by decide⟩
theorem eX6_beginCondition_9 : zD cX6_beginCondition 9 (.aload_n 0) 1 10 := ⟨by decide +kernel, rfl⟩
theorem eX6_beginCondition_10 : zD cX6_beginCondition 10 (.getfield 21) 3 13 := ⟨by decide +kernel, rfl⟩
theorem eX6_beginCondition_13 : zD cX6_beginCondition 13 (.aload_n 0) 1 14 := ⟨by decide +kernel, rfl⟩
theorem eX6_beginCondition_14 : zD cX6_beginCondition 14 (.getfield 27) 3 17 := ⟨by decide +kernel, rfl⟩
theorem eX6_beginCondition_17 : zD cX6_beginCondition 17 (.aload_n 0) 1 18 := ⟨by decide +kernel, rfl⟩
theorem eX6_beginCondition_18 : zD cX6_beginCondition 18 (.getfield 31) 3 21 := ⟨by decide +kernel, rfl⟩
theorem eX6_beginCondition_21 : zD cX6_beginCondition 21 .iastore 1 22 := ⟨by decide +kernel, rfl⟩
theorem eX6_beginCondition_22 : zD cX6_beginCondition 22 .return_ 1 23 := ⟨by decide +kernel, rfl⟩
theorem eX6_close_0 : zD cX6_close 0 (.aload_n 0) 1 1 := ⟨by decide +kernel, rfl⟩
theorem eX6_close_1 : zD cX6_close 1 (.getfield 27) 3 4 := ⟨by decide +kernel, rfl⟩
theorem eX6_close_4 : zD cX6_close 4 (.bipush 10) 2 6 := ⟨by decide +kernel, rfl⟩
theorem eX6_close_6 : zDj cX6_close 6 (.if_icmp .ge 26) 26 32 9 := ⟨by decide +kernel, rfl, by decide⟩
theorem eX6_close_9 : zD cX6_close 9 (.aload_n 0) 1 10 := ⟨by decide +kernel, rfl⟩
theorem eX6_close_10 : zD cX6_close 10 (.getfield 24) 3 13 := ⟨by decide +kernel, rfl⟩
theorem eX6_close_13 : zD cX6_close 13 (.aload_n 0) 1 14 := ⟨by decide +kernel, rfl⟩
theorem eX6_close_14 : zD cX6_close 14 (.getfield 27) 3 17 := ⟨by decide +kernel, rfl⟩
theorem eX6_close_17 : zD cX6_close 17 (.aload_n 0) 1 18 := ⟨by decide +kernel, rfl⟩
theorem eX6_close_18 : zD cX6_close 18 (.getfield 31) 3 21 := ⟨by decide +kernel, rfl⟩
theorem eX6_close_21 : zD cX6_close 21 .iastore 1 22 := ⟨by decide +kernel, rfl⟩
theorem eX6_close_22 : zD cX6_close 22 (.aload_n 0) 1 23 := ⟨by decide +kernel, rfl⟩
theorem eX6_close_23 : zD cX6_close 23 .dup 1 24 := ⟨by decide +kernel, rfl⟩
theorem eX6_close_24 : zD cX6_close 24 (.getfield 27) 3 27 := ⟨by decide +kernel, rfl⟩
theorem eX6_close_27 : zD cX6_close 27 (.iconst 1) 1 28 := ⟨by decide +kernel, rfl⟩
theorem eX6_close_28 : zD cX6_close 28 .iadd 1 29 := ⟨by decide +kernel, rfl⟩
theorem eX6_close_29 : zD cX6_close 29 (.putfield 27) 3 32 := ⟨by decide +kernel, rfl⟩
theorem eX6_close_32 : zD cX6_close 32 .return_ 1 33 := ⟨by decide +kernel, rfl⟩
theorem eX6_has_0 : zD cX6_has 0 (.iconst 0) 1 1 := ⟨by decide +kernel, rfl⟩
theorem eX6_has_1 : zD cX6_has 1 (.istore_n 2) 1 2 := ⟨by decide +kernel, rfl⟩
theorem eX6_has_2 : zD cX6_has 2 (.iload_n 2) 1 3 := ⟨by decide +kernel, rfl⟩
theorem eX6_has_3 : zD cX6_has 3 (.aload_n 0) 1 4 := ⟨by decide +kernel, rfl⟩
theorem eX6_has_4 : zD cX6_has 4 (.getfield 27) 3 7 := ⟨by decide +kernel, rfl⟩
theorem eX6_has_7 : zDj cX6_has 7 (.if_icmp .ge 21) 21 28 10 := ⟨by decide +kernel, rfl, by decide⟩
theorem eX6_has_10 : zD cX6_has 10 (.aload_n 0) 1 11 := ⟨by decide +kernel, rfl⟩
theorem eX6_has_11 : zD cX6_has 11 (.getfield 15) 3 14 := ⟨by decide +kernel, rfl⟩
theorem eX6_has_14 : zD cX6_has 14 (.iload_n 2) 1 15 := ⟨by decide +kernel, rfl⟩
theorem eX6_has_15 : zD cX6_has 15 .iaload 1 16 := ⟨by decide +kernel, rfl⟩
theorem eX6_has_16 : zD cX6_has 16 (.iload_n 1) 1 17 := ⟨by decide +kernel, rfl⟩
theorem eX6_has_17 : zDj cX6_has 17 (.if_icmp .ne 5) 5 22 20 := ⟨by decide +kernel, rfl, by decide⟩
theorem eX6_has_20 : zD cX6_has 20 (.iconst 1) 1 21 := ⟨by decide +kernel, rfl⟩
theorem eX6_has_21 : zD cX6_has 21 .ireturn 1 22 := ⟨by decide +kernel, rfl⟩
theorem eX6_has_22 : zD cX6_has 22 (.iinc 2 1) 3 25 := ⟨by decide +kernel, rfl⟩
theorem eX6_has_25 : zDj cX6_has 25 (.goto (-23)) (-23) 2 28 := ⟨by decide +kernel, rfl, by decide⟩
theorem eX6_has_28 : zD cX6_has 28 (.iconst 0) 1 29 := ⟨by decide +kernel, rfl⟩
theorem eX6_has_29 : zD cX6_has 29 .ireturn 1 30 := ⟨by decide +kernel, rfl⟩
theorem zqU_emit (l : Launch) (G : Zg) (σ : Zm) (o0 : Nat) (x1 : Int) (h0 : zin 294 o0 6) (n1 : zw x1 = x1) (res : Int × Zm) (he : fU_emit σ o0 x1 = some res) : zM l yX6_emit cX6_emit 2 none 0 G 294 ztt σ [.ref (zad G o0), .int (zI x1)] none res.2 := by
  refine zM_of he (by decide +kernel) (Nat.le_of_ble_eq_true rfl) (lv := [(0, .ref (zad G o0)), (1, .int (zI x1))]) rfl (fun p e s m below meth c C => ?_)
  unfold fU_emit
  refine zr_aloadn C 0 eX6_emit_0 rfl ?_
  refine zr_getI C ff_X6_31 h0 eX6_emit_1 (fun v1 nv1 => ?_)
  refine zr_aloadn C 0 eX6_emit_4 rfl ?_
  refine zr_getR C ff_X6_9 rfl h0 rfl ((zk_6_0 h0).1) eX6_emit_5 ?_
  refine zr_alen (A := 300) C ((zk_6_0 h0).2) (by decide) (zln_6_0 h0) rfl eX6_emit_8 ?_
  refine zr_icmp_ge C eX6_emit_9 nv1 w_300 ?_ ?_
  · exact zr_vret C eX6_emit_32
  refine zr_aloadn C 0 eX6_emit_12 rfl ?_
  refine zr_getR C ff_X6_9 rfl h0 rfl ((zk_6_0 h0).1) eX6_emit_13 ?_
  refine zr_aloadn C 0 eX6_emit_16 rfl ?_
  refine zr_getI C ff_X6_31 h0 eX6_emit_17 (fun v2 nv2 => ?_)
  refine zr_iloadn C 1 eX6_emit_20 rfl ?_
  refine zr_iast C ((zk_6_0 h0).2) (zln_6_0 h0) nv2 eX6_emit_21 (fun σ3 => ?_)
  refine zr_aloadn C 0 eX6_emit_22 rfl ?_
  refine zr_dup C eX6_emit_23 rfl ?_
  refine zr_getI C ff_X6_31 h0 eX6_emit_24 (fun v4 nv4 => ?_)
  refine zr_iconst C eX6_emit_27 rfl ?_
  refine zr_iadd C eX6_emit_28 ?_
  refine zr_putI C ff_X6_31 rfl h0 eX6_emit_29 (fun σ5 => ?_)
  exact zr_vret C eX6_emit_32
theorem zqU_open (l : Launch) (G : Zg) (σ : Zm) (o0 : Nat) (x1 : Int) (h0 : zin 294 o0 6) (n1 : zw x1 = x1) (res : Int × Zm) (he : fU_open σ o0 x1 = some res) : zM l yX6_open cX6_open 2 none 0 G 294 ztt σ [.ref (zad G o0), .int (zI x1)] none res.2 := by
  refine zM_of he (by decide +kernel) (Nat.le_of_ble_eq_true rfl) (lv := [(0, .ref (zad G o0)), (1, .int (zI x1))]) rfl (fun p e s m below meth c C => ?_)
  unfold fU_open
  refine zr_aloadn C 0 eX6_open_0 rfl ?_
  refine zr_getI C ff_X6_27 h0 eX6_open_1 (fun v1 nv1 => ?_)
  refine zr_bipush (a := 10) C eX6_open_4 rfl ?_
  refine zr_icmp_ge C eX6_open_6 nv1 w_10 ?_ ?_
  · exact zr_vret C eX6_open_45
  refine zr_aloadn C 0 eX6_open_9 rfl ?_
  refine zr_getR C ff_X6_15 rfl h0 rfl ((zk_6_1 h0).1) eX6_open_10 ?_
  refine zr_aloadn C 0 eX6_open_13 rfl ?_
  refine zr_getI C ff_X6_27 h0 eX6_open_14 (fun v2 nv2 => ?_)
  refine zr_iloadn C 1 eX6_open_17 rfl ?_
  refine zr_iast C ((zk_6_1 h0).2) (zln_6_1 h0) nv2 eX6_open_18 (fun σ3 => ?_)
  refine zr_aloadn C 0 eX6_open_19 rfl ?_
  refine zr_getR C ff_X6_18 rfl h0 rfl ((zk_6_2 h0).1) eX6_open_20 ?_
  refine zr_aloadn C 0 eX6_open_23 rfl ?_
  refine zr_getI C ff_X6_27 h0 eX6_open_24 (fun v4 nv4 => ?_)
  refine zr_aloadn C 0 eX6_open_27 rfl ?_
  refine zr_getI C ff_X6_31 h0 eX6_open_28 (fun v5 nv5 => ?_)
  refine zr_iast C ((zk_6_2 h0).2) (zln_6_2 h0) nv4 eX6_open_31 (fun σ6 => ?_)
  refine zr_aloadn C 0 eX6_open_32 rfl ?_
  refine zr_getR C ff_X6_21 rfl h0 rfl ((zk_6_3 h0).1) eX6_open_33 ?_
  refine zr_aloadn C 0 eX6_open_36 rfl ?_
  refine zr_getI C ff_X6_27 h0 eX6_open_37 (fun v7 nv7 => ?_)
  refine zr_aloadn C 0 eX6_open_40 rfl ?_
  refine zr_getI C ff_X6_31 h0 eX6_open_41 (fun v8 nv8 => ?_)
  refine zr_iast C ((zk_6_3 h0).2) (zln_6_3 h0) nv7 eX6_open_44 (fun σ9 => ?_)
  exact zr_vret C eX6_open_45
theorem zqU_beginCondition (l : Launch) (G : Zg) (σ : Zm) (o0 : Nat) (h0 : zin 294 o0 6) (res : Int × Zm) (he : fU_beginCondition σ o0 = some res) : zM l yX6_beginCondition cX6_beginCondition 1 none 0 G 294 ztt σ [.ref (zad G o0)] none res.2 := by
  refine zM_of he (by decide +kernel) (Nat.le_of_ble_eq_true rfl) (lv := [(0, .ref (zad G o0))]) rfl (fun p e s m below meth c C => ?_)
  unfold fU_beginCondition
  refine zr_aloadn C 0 eX6_beginCondition_0 rfl ?_
  refine zr_getI C ff_X6_27 h0 eX6_beginCondition_1 (fun v1 nv1 => ?_)
  refine zr_bipush (a := 10) C eX6_beginCondition_4 rfl ?_
  refine zr_icmp_ge C eX6_beginCondition_6 nv1 w_10 ?_ ?_
  · exact zr_vret C eX6_beginCondition_22
  refine zr_aloadn C 0 eX6_beginCondition_9 rfl ?_
  refine zr_getR C ff_X6_21 rfl h0 rfl ((zk_6_3 h0).1) eX6_beginCondition_10 ?_
  refine zr_aloadn C 0 eX6_beginCondition_13 rfl ?_
  refine zr_getI C ff_X6_27 h0 eX6_beginCondition_14 (fun v2 nv2 => ?_)
  refine zr_aloadn C 0 eX6_beginCondition_17 rfl ?_
  refine zr_getI C ff_X6_31 h0 eX6_beginCondition_18 (fun v3 nv3 => ?_)
  refine zr_iast C ((zk_6_3 h0).2) (zln_6_3 h0) nv2 eX6_beginCondition_21 (fun σ4 => ?_)
  exact zr_vret C eX6_beginCondition_22
theorem zqU_close (l : Launch) (G : Zg) (σ : Zm) (o0 : Nat) (h0 : zin 294 o0 6) (res : Int × Zm) (he : fU_close σ o0 = some res) : zM l yX6_close cX6_close 1 none 0 G 294 ztt σ [.ref (zad G o0)] none res.2 := by
  refine zM_of he (by decide +kernel) (Nat.le_of_ble_eq_true rfl) (lv := [(0, .ref (zad G o0))]) rfl (fun p e s m below meth c C => ?_)
  unfold fU_close
  refine zr_aloadn C 0 eX6_close_0 rfl ?_
  refine zr_getI C ff_X6_27 h0 eX6_close_1 (fun v1 nv1 => ?_)
  refine zr_bipush (a := 10) C eX6_close_4 rfl ?_
  refine zr_icmp_ge C eX6_close_6 nv1 w_10 ?_ ?_
  · exact zr_vret C eX6_close_32
  refine zr_aloadn C 0 eX6_close_9 rfl ?_
  refine zr_getR C ff_X6_24 rfl h0 rfl ((zk_6_4 h0).1) eX6_close_10 ?_
  refine zr_aloadn C 0 eX6_close_13 rfl ?_
  refine zr_getI C ff_X6_27 h0 eX6_close_14 (fun v2 nv2 => ?_)
  refine zr_aloadn C 0 eX6_close_17 rfl ?_
  refine zr_getI C ff_X6_31 h0 eX6_close_18 (fun v3 nv3 => ?_)
  refine zr_iast C ((zk_6_4 h0).2) (zln_6_4 h0) nv2 eX6_close_21 (fun σ4 => ?_)
  refine zr_aloadn C 0 eX6_close_22 rfl ?_
  refine zr_dup C eX6_close_23 rfl ?_
  refine zr_getI C ff_X6_27 h0 eX6_close_24 (fun v5 nv5 => ?_)
  refine zr_iconst C eX6_close_27 rfl ?_
  refine zr_iadd C eX6_close_28 ?_
  refine zr_putI C ff_X6_27 rfl h0 eX6_close_29 (fun σ6 => ?_)
  exact zr_vret C eX6_close_32
theorem wU_has_2 {G : Zg} {p : Program} {l : Launch} {e : Env} {s : State} {m : MethodId} {args : Array Value} {below : List Frame} {meth : Method} {c : Code} (C : zC G p s m args meth c cX6_has 3 RX6 (some .boolean)) {res : Int × Zm} : ∀ (n : Nat) (o0 : Nat) (x1 : Int) (x2 : Int) (h0 : zin 294 o0 6) (n1 : zw x1 = x1) (n2 : zw x2 = x2) (σ : Zm), zR G p l e (zrm 0) s m args below meth c 3 0 0 (zQm below args s G 294 ztt (some (.int (zI res.1))) res.2) 294 ztt res σ (fU_has_2 n o0 x1 x2 σ) [(0, .ref (zad G o0)), (1, .int (zI x1)), (2, .int (zI x2))] 2 []
  | 0, _, _, _, _, _, _, _ => zr_none
  | n + 1, o0, x1, x2, h0, n1, n2, σ => by
    have ih := fun (o0 : Nat) (x1 : Int) (x2 : Int) (h0 : zin 294 o0 6) (n1 : zw x1 = x1) (n2 : zw x2 = x2) (σ : Zm) => wU_has_2 (l := l) (e := e) (below := below) C (res := res) n o0 x1 x2 h0 n1 n2 σ
    rw [fU_has_2]
    refine zr_letf (fun R0 hR0 => ?_)
    have ih : ∀ (o0 : Nat) (x1 : Int) (x2 : Int) (h0 : zin 294 o0 6) (n1 : zw x1 = x1) (n2 : zw x2 = x2) (σ : Zm), zR G p l e (zrm 0) s m args below meth c 3 0 0 (zQm below args s G 294 ztt (some (.int (zI res.1))) res.2) 294 ztt res σ (R0 o0 x1 x2 σ) [(0, .ref (zad G o0)), (1, .int (zI x1)), (2, .int (zI x2))] 2 [] := by rw [hR0]; exact ih
    clear hR0
    refine zr_iloadn C 2 eX6_has_2 rfl ?_
    refine zr_aloadn C 0 eX6_has_3 rfl ?_
    refine zr_getI C ff_X6_27 h0 eX6_has_4 (fun v1 nv1 => ?_)
    refine zr_icmp_ge C eX6_has_7 n2 nv1 ?_ ?_
    · refine zr_iconst C eX6_has_28 rfl ?_
      exact zr_zret C eX6_has_29 (Or.inl rfl)
    refine zr_aloadn C 0 eX6_has_10 rfl ?_
    refine zr_getR C ff_X6_15 rfl h0 rfl ((zk_6_1 h0).1) eX6_has_11 ?_
    refine zr_iloadn C 2 eX6_has_14 rfl ?_
    refine zr_iald C ((zk_6_1 h0).2) (zln_6_1 h0) n2 eX6_has_15 (fun v2 nv2 => ?_)
    refine zr_iloadn C 1 eX6_has_16 rfl ?_
    refine zr_icmp_ne C eX6_has_17 nv2 n1 ?_ ?_
    · refine zr_iinc (lv' := [(2, .int (zI (x2 + 1))), (0, .ref (zad G o0)), (1, .int (zI x1))]) C 2 eX6_has_22 rfl (by decide) rfl ?_
      refine zr_goto C eX6_has_25 ?_
      refine zr_lv [1, 2, 0] rfl ?_
      exact zr_lve (zs_p (zs_p (zs_pi (zI_w (x2 + 1)).symm rfl))) (ih o0 x1 (zw (x2 + 1)) h0 n1 (zw_w (x2 + 1)) _)
    refine zr_iconst C eX6_has_20 rfl ?_
    exact zr_zret C eX6_has_21 (Or.inr rfl)
theorem zqU_has (l : Launch) (G : Zg) (σ : Zm) (o0 : Nat) (x1 : Int) (h0 : zin 294 o0 6) (n1 : zw x1 = x1) (res : Int × Zm) (he : fU_has σ o0 x1 = some res) : zM l yX6_has cX6_has 3 (some .boolean) 0 G 294 ztt σ [.ref (zad G o0), .int (zI x1)] (some (.int (zI res.1))) res.2 := by
  refine zM_of he (by decide +kernel) (Nat.le_of_ble_eq_true rfl) (lv := [(0, .ref (zad G o0)), (1, .int (zI x1))]) rfl (fun p e s m below meth c C => ?_)
  unfold fU_has
  refine zr_iconst C eX6_has_0 rfl ?_
  refine zr_istoren (lv' := [(2, .int (zI 0)), (0, .ref (zad G o0)), (1, .int (zI x1))]) C eX6_has_1 (by decide) rfl ?_
  refine zr_lv [1, 2, 0] rfl ?_
  refine wU_has_2 C 5000 o0 x1 0 h0 n1 w_0 σ
