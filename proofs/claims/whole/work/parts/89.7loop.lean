/-! MY OWN: the law's loop (printed by wip/gen/gen89.py) -/
section LAWL
variable {G : Zg} {p : Program} {l : Launch} {e : Env} {s : State} {m : MethodId} {below : List Frame} {meth : Method} {c : Code} {Q : State → Prop} {b L i pc q : Nat} {xs : Nat → Int32} {σ : Zm} {res : Int × Zm} {st rest : List Value}
theorem law_body (C : zC G p s m #[Value.ref b] meth c code 4 R_law ret) (hH : lw_H G s b L xs) (hi : i + 7 < L) (hI : Inv σ) (kk : ∀ σ', Inv σ' → zR G p l e room_1 s m #[Value.ref b] below meth c 4 294 24893 Q 294 ztt res σ' (some res) (lvL G b i) 1728 []) : zR G p l e room_1 s m #[Value.ref b] below meth c 4 294 24893 Q 294 ztt res σ (some res) (lvL G b i) 33 [.int (zI (zand (sx xs i) 63))] := by
  have hA : zw (zand (sx xs i) 63) = zand (sx xs i) 63 := zw_n _
  by_cases h0 : zand (sx xs i) 63 = 0
  · exact zr_tbl C dl_33 0 hA h0 (by decide) (by decide) rfl rfl (lc_0 C hH hi hI kk)
  by_cases h1 : zand (sx xs i) 63 = 1
  · exact zr_tbl C dl_33 1 hA h1 (by decide) (by decide) rfl rfl (lc_1 C hH hi hI kk)
  by_cases h2 : zand (sx xs i) 63 = 2
  · exact zr_tbl C dl_33 2 hA h2 (by decide) (by decide) rfl rfl (lc_2 C hH hi hI kk)
  by_cases h3 : zand (sx xs i) 63 = 3
  · exact zr_tbl C dl_33 3 hA h3 (by decide) (by decide) rfl rfl (lc_3 C hH hi hI kk)
  by_cases h4 : zand (sx xs i) 63 = 4
  · exact zr_tbl C dl_33 4 hA h4 (by decide) (by decide) rfl rfl (lc_4 C hH hi hI kk)
  by_cases h5 : zand (sx xs i) 63 = 5
  · exact zr_tbl C dl_33 5 hA h5 (by decide) (by decide) rfl rfl (lc_5 C hH hi hI kk)
  by_cases h6 : zand (sx xs i) 63 = 6
  · exact zr_tbl C dl_33 6 hA h6 (by decide) (by decide) rfl rfl (lc_6 C hH hi hI kk)
  by_cases h7 : zand (sx xs i) 63 = 7
  · exact zr_tbl C dl_33 7 hA h7 (by decide) (by decide) rfl rfl (lc_7 C hH hi hI kk)
  by_cases h8 : zand (sx xs i) 63 = 8
  · exact zr_tbl C dl_33 8 hA h8 (by decide) (by decide) rfl rfl (lc_8 C hH hi hI kk)
  by_cases h9 : zand (sx xs i) 63 = 9
  · exact zr_tbl C dl_33 9 hA h9 (by decide) (by decide) rfl rfl (lc_9 C hH hi hI kk)
  by_cases h10 : zand (sx xs i) 63 = 10
  · exact zr_tbl C dl_33 10 hA h10 (by decide) (by decide) rfl rfl (lc_10 C hH hi hI kk)
  by_cases h11 : zand (sx xs i) 63 = 11
  · exact zr_tbl C dl_33 11 hA h11 (by decide) (by decide) rfl rfl (lc_11 C hH hi hI kk)
  by_cases h12 : zand (sx xs i) 63 = 12
  · exact zr_tbl C dl_33 12 hA h12 (by decide) (by decide) rfl rfl (lc_12 C hH hi hI kk)
  by_cases h13 : zand (sx xs i) 63 = 13
  · exact zr_tbl C dl_33 13 hA h13 (by decide) (by decide) rfl rfl (lc_13 C hH hi hI kk)
  by_cases h14 : zand (sx xs i) 63 = 14
  · exact zr_tbl C dl_33 14 hA h14 (by decide) (by decide) rfl rfl (lc_14 C hH hi hI kk)
  by_cases h15 : zand (sx xs i) 63 = 15
  · exact zr_tbl C dl_33 15 hA h15 (by decide) (by decide) rfl rfl (lc_15 C hH hi hI kk)
  by_cases h16 : zand (sx xs i) 63 = 16
  · exact zr_tbl C dl_33 16 hA h16 (by decide) (by decide) rfl rfl (lc_16 C hH hi hI kk)
  by_cases h17 : zand (sx xs i) 63 = 17
  · exact zr_tbl C dl_33 17 hA h17 (by decide) (by decide) rfl rfl (lc_17 C hH hi hI kk)
  by_cases h18 : zand (sx xs i) 63 = 18
  · exact zr_tbl C dl_33 18 hA h18 (by decide) (by decide) rfl rfl (lc_18 C hH hi hI kk)
  by_cases h19 : zand (sx xs i) 63 = 19
  · exact zr_tbl C dl_33 19 hA h19 (by decide) (by decide) rfl rfl (lc_19 C hH hi hI kk)
  by_cases h20 : zand (sx xs i) 63 = 20
  · exact zr_tbl C dl_33 20 hA h20 (by decide) (by decide) rfl rfl (lc_20 C hH hi hI kk)
  by_cases h21 : zand (sx xs i) 63 = 21
  · exact zr_tbl C dl_33 21 hA h21 (by decide) (by decide) rfl rfl (lc_21 C hH hi hI kk)
  by_cases h22 : zand (sx xs i) 63 = 22
  · exact zr_tbl C dl_33 22 hA h22 (by decide) (by decide) rfl rfl (lc_22 C hH hi hI kk)
  by_cases h23 : zand (sx xs i) 63 = 23
  · exact zr_tbl C dl_33 23 hA h23 (by decide) (by decide) rfl rfl (lc_23 C hH hi hI kk)
  by_cases h24 : zand (sx xs i) 63 = 24
  · exact zr_tbl C dl_33 24 hA h24 (by decide) (by decide) rfl rfl (lc_24 C hH hi hI kk)
  by_cases h25 : zand (sx xs i) 63 = 25
  · exact zr_tbl C dl_33 25 hA h25 (by decide) (by decide) rfl rfl (lc_25 C hH hi hI kk)
  by_cases h26 : zand (sx xs i) 63 = 26
  · exact zr_tbl C dl_33 26 hA h26 (by decide) (by decide) rfl rfl (lc_26 C hH hi hI kk)
  by_cases h27 : zand (sx xs i) 63 = 27
  · exact zr_tbl C dl_33 27 hA h27 (by decide) (by decide) rfl rfl (lc_27 C hH hi hI kk)
  by_cases h28 : zand (sx xs i) 63 = 28
  · exact zr_tbl C dl_33 28 hA h28 (by decide) (by decide) rfl rfl (lc_28 C hH hi hI kk)
  by_cases h29 : zand (sx xs i) 63 = 29
  · exact zr_tbl C dl_33 29 hA h29 (by decide) (by decide) rfl rfl (lc_29 C hH hi hI kk)
  by_cases h30 : zand (sx xs i) 63 = 30
  · exact zr_tbl C dl_33 30 hA h30 (by decide) (by decide) rfl rfl (lc_30 C hH hi hI kk)
  by_cases h31 : zand (sx xs i) 63 = 31
  · exact zr_tbl C dl_33 31 hA h31 (by decide) (by decide) rfl rfl (lc_31 C hH hi hI kk)
  by_cases h32 : zand (sx xs i) 63 = 32
  · exact zr_tbl C dl_33 32 hA h32 (by decide) (by decide) rfl rfl (lc_32 C hH hi hI kk)
  by_cases h33 : zand (sx xs i) 63 = 33
  · exact zr_tbl C dl_33 33 hA h33 (by decide) (by decide) rfl rfl (lc_33 C hH hi hI kk)
  by_cases h34 : zand (sx xs i) 63 = 34
  · exact zr_tbl C dl_33 34 hA h34 (by decide) (by decide) rfl rfl (lc_34 C hH hi hI kk)
  by_cases h35 : zand (sx xs i) 63 = 35
  · exact zr_tbl C dl_33 35 hA h35 (by decide) (by decide) rfl rfl (lc_35 C hH hi hI kk)
  refine zr_tblD C dl_33 (tgt := 1728) [0, 1, 2, 3, 4, 5, 6, 7, 8, 9, 10, 11, 12, 13, 14, 15, 16, 17, 18, 19, 20, 21, 22, 23, 24, 25, 26, 27, 28, 29, 30, 31, 32, 33, 34, 35] hA (fun v hv => ?_) (fun j hj => Or.inl ?_) rfl (kk σ hI)
  · rcases List.mem_cons.1 hv with rfl | hv
    · exact h0
    rcases List.mem_cons.1 hv with rfl | hv
    · exact h1
    rcases List.mem_cons.1 hv with rfl | hv
    · exact h2
    rcases List.mem_cons.1 hv with rfl | hv
    · exact h3
    rcases List.mem_cons.1 hv with rfl | hv
    · exact h4
    rcases List.mem_cons.1 hv with rfl | hv
    · exact h5
    rcases List.mem_cons.1 hv with rfl | hv
    · exact h6
    rcases List.mem_cons.1 hv with rfl | hv
    · exact h7
    rcases List.mem_cons.1 hv with rfl | hv
    · exact h8
    rcases List.mem_cons.1 hv with rfl | hv
    · exact h9
    rcases List.mem_cons.1 hv with rfl | hv
    · exact h10
    rcases List.mem_cons.1 hv with rfl | hv
    · exact h11
    rcases List.mem_cons.1 hv with rfl | hv
    · exact h12
    rcases List.mem_cons.1 hv with rfl | hv
    · exact h13
    rcases List.mem_cons.1 hv with rfl | hv
    · exact h14
    rcases List.mem_cons.1 hv with rfl | hv
    · exact h15
    rcases List.mem_cons.1 hv with rfl | hv
    · exact h16
    rcases List.mem_cons.1 hv with rfl | hv
    · exact h17
    rcases List.mem_cons.1 hv with rfl | hv
    · exact h18
    rcases List.mem_cons.1 hv with rfl | hv
    · exact h19
    rcases List.mem_cons.1 hv with rfl | hv
    · exact h20
    rcases List.mem_cons.1 hv with rfl | hv
    · exact h21
    rcases List.mem_cons.1 hv with rfl | hv
    · exact h22
    rcases List.mem_cons.1 hv with rfl | hv
    · exact h23
    rcases List.mem_cons.1 hv with rfl | hv
    · exact h24
    rcases List.mem_cons.1 hv with rfl | hv
    · exact h25
    rcases List.mem_cons.1 hv with rfl | hv
    · exact h26
    rcases List.mem_cons.1 hv with rfl | hv
    · exact h27
    rcases List.mem_cons.1 hv with rfl | hv
    · exact h28
    rcases List.mem_cons.1 hv with rfl | hv
    · exact h29
    rcases List.mem_cons.1 hv with rfl | hv
    · exact h30
    rcases List.mem_cons.1 hv with rfl | hv
    · exact h31
    rcases List.mem_cons.1 hv with rfl | hv
    · exact h32
    rcases List.mem_cons.1 hv with rfl | hv
    · exact h33
    rcases List.mem_cons.1 hv with rfl | hv
    · exact h34
    rcases List.mem_cons.1 hv with rfl | hv
    · exact h35
    exact absurd hv List.not_mem_nil
  · have hj' : j < 36 := hj
    have h36 : ∀ j : Nat, j < 36 → ((0 : Int) + (j : Int)) ∈ [(0 : Int), (1 : Int), (2 : Int), (3 : Int), (4 : Int), (5 : Int), (6 : Int), (7 : Int), (8 : Int), (9 : Int), (10 : Int), (11 : Int), (12 : Int), (13 : Int), (14 : Int), (15 : Int), (16 : Int), (17 : Int), (18 : Int), (19 : Int), (20 : Int), (21 : Int), (22 : Int), (23 : Int), (24 : Int), (25 : Int), (26 : Int), (27 : Int), (28 : Int), (29 : Int), (30 : Int), (31 : Int), (32 : Int), (33 : Int), (34 : Int), (35 : Int)] := by decide
    exact h36 j hj'
theorem law_head (C : zC G p s m #[Value.ref b] meth c code 4 R_law ret) (hH : lw_H G s b L xs) (hend : ∀ i σ, zR G p l e room_1 s m #[Value.ref b] below meth c 4 294 24893 Q 294 ztt res σ (some res) (lvL G b i) 1734 []) (i : Nat) (σ : Zm) (h2 : i ≤ 4096 + 8) (k : i + 8 ≤ L → zR G p l e room_1 s m #[Value.ref b] below meth c 4 294 24893 Q 294 ztt res σ (some res) (lvL G b i) 27 []) : zR G p l e room_1 s m #[Value.ref b] below meth c 4 294 24893 Q 294 ztt res σ (some res) (lvL G b i) 18 [] := by
  have hL := hH.2.2.2
  have hbA : ¬ zA G b := by unfold zA; rw [hH.1]; have := hH.2.2.1; omega
  refine zr_iloadn C 0 (i := 3) dl_18 rfl ?_
  refine zr_aloadn C 3 (i := 0) dl_19 rfl ?_
  have slen : ∀ st : List Value, zR G p l e room_1 s m #[Value.ref b] below meth c 4 294 24893 Q 294 ztt res σ (some res) (lvL G b i) 21 (.int (zI (L : Int)) :: st) → zR G p l e room_1 s m #[Value.ref b] below meth c 4 294 24893 Q 294 ztt res σ (some res) (lvL G b i) 20 (.ref b :: st) := by
    intro st K he ls H locs hl hW hS
    refine va_slen C.1 C.2.1 hH.2.1 hH.2.2.1 hbA hS dl_20.1 ?_
    rw [zI_ofNat]
    exact K he ls H locs hl hW hS
  refine slen _ ?_
  refine zr_bipush C (a := 8) dl_21 rfl ?_
  refine zr_isub C dl_23 ?_
  have hz1 : zw (i : Int) = (i : Int) := zwj (by omega) (by omega)
  have hz2 : zw ((L : Int) - 8) = (L : Int) - 8 := zwj (by omega) (by omega)
  by_cases h : (L : Int) - 8 < (i : Int)
  · refine zr_eq (ex' := if (L : Int) - 8 < (i : Int) then some res else none) (by rw [if_pos h]) ?_
    exact zr_icmp_gt C dl_24 hz1 hz2 (hend i σ) zr_none
  · refine zr_eq (ex' := if (L : Int) - 8 < (i : Int) then none else some res) (by rw [if_neg h]) ?_
    exact zr_icmp_gt C dl_24 hz1 hz2 zr_none (k (by omega))
theorem law_loop (C : zC G p s m #[Value.ref b] meth c code 4 R_law ret) (hH : lw_H G s b L xs) (hend : ∀ i σ, zR G p l e room_1 s m #[Value.ref b] below meth c 4 294 24893 Q 294 ztt res σ (some res) (lvL G b i) 1734 []) : ∀ (d i : Nat) (σ : Zm), L + 8 ≤ i + 8 * d → i ≤ 4096 + 8 → Inv σ → zR G p l e room_1 s m #[Value.ref b] below meth c 4 294 24893 Q 294 ztt res σ (some res) (lvL G b i) 18 []
  | 0, i, σ, h, h2, hI => by
    exact law_head C hH hend i σ h2 (fun z => absurd z (by omega))
  | d + 1, i, σ, h, h2, hI => by
    refine law_head C hH hend i σ h2 (fun z => ?_)
    have hL := hH.2.2.2
    refine zr_aloadn C 3 (i := 0) dl_27 rfl ?_
    refine zr_iloadn C 0 (i := 3) dl_28 rfl ?_
    refine zl_sld C hH (j := i) (by omega) dl_29.1 rfl ?_
    refine zr_bipush C (a := 63) dl_30 rfl ?_
    refine zr_iand C dl_32 ?_
    refine law_body C hH (by omega) hI (fun σ' hI' => ?_)
    refine zr_iinc C 0 (a := (i : Int)) (lv' := lvL G b (i + 8)) dl_1728 rfl (by decide) ?_ ?_
    · rw [show (i : Int) + 8 = ((i + 8 : Nat) : Int) by omega]; rfl
    · exact zr_goto C dl_1731 (law_loop C hH hend d (i + 8) σ' (by omega) (by omega) hI')
end LAWL
