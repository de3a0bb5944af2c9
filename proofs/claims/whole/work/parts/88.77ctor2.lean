section ZC2
variable {G : Zg} {p : Program} {l : Launch} {e : Env} {R : Room} {s : State} {m : MethodId} {args : Array Value} {below : List Frame} {meth : Method} {c : Code} {cc : ByteArray} {nL cells slots : Nat} {own : String} {ret : Option FieldType} {Q : State → Prop} {n : Nat} {ρ : Zp} {res : Int × Zm} {σ : Zm} {ex : Zr} {lv : List (Nat × Value)} {pc q : Nat} {st rest : List Value}
theorem zr_icmp_geh (C : zC G p s m args meth c cc nL own ret) {a b A B off : Int} {tgt : Nat} {e1 e2 : Zr} (d : zDj cc pc (.if_icmp .ge off) off tgt q) (ha : zw a = A) (hb : zw b = B) (kt : B ≤ A → zR G p l e R s m args below meth c nL cells slots Q n ρ res σ e1 lv tgt st) (kf : ¬ B ≤ A → zR G p l e R s m args below meth c nL cells slots Q n ρ res σ e2 lv q st) : zR G p l e R s m args below meth c nL cells slots Q n ρ res σ (if B ≤ A then e1 else e2) lv pc (.int (zI b) :: .int (zI a) :: st) := by
  by_cases h : B ≤ A
  · refine zr_eq (ex' := if B ≤ A then e1 else none) (by rw [if_pos h, if_pos h]) ?_
    exact zr_icmp_ge C d ha hb (kt h) zr_none
  · refine zr_eq (ex' := if B ≤ A then none else e2) (by rw [if_neg h, if_neg h]) ?_
    exact zr_icmp_ge C d ha hb zr_none (kf h)
theorem zr_cs {cells' slots' n' : Nat} (h1 : cells = cells') (h2 : slots = slots') (h3 : n = n') (k : zR G p l e R s m args below meth c nL cells' slots' Q n' ρ res σ ex lv pc st) : zR G p l e R s m args below meth c nL cells slots Q n ρ res σ ex lv pc st := by
  subst h1 h2 h3
  exact k
end ZC2
theorem zρS1_step (ρ : Zp) (o i p k : Nat) : zρs (zcan (zρf (zρS1 ρ o i) (o + 8 + 3 * i)) (o + 8 + 3 * i) (o + 8 + 3 * i + 3)) (o + 1) i p k = zρS1 ρ o (i + 1) p k := by
  unfold zρs zcan zρf zρS1
  grind
theorem zρS2_step (ρ : Zp) (o i p k : Nat) : zρs (zcan (zρf (zρS2 ρ o i) (o + 56 + 3 * i)) (o + 56 + 3 * i) (o + 56 + 3 * i + 3)) (o + 2) i p k = zρS2 ρ o (i + 1) p k := by
  unfold zρs zcan zρf zρS2
  grind
theorem zρK_step (ρ : Zp) (i p k : Nat) : zρs (zcan (zρf (zρK ρ i) (198 + 3 * i)) (198 + 3 * i) (198 + 3 * i + 3)) 182 i p k = zρK ρ (i + 1) p k := by
  unfold zρs zcan zρf zρK
  grind
theorem zρX1_step (ρ : Zp) (i p k : Nat) : zρs (zcan (zρf (zρX1 ρ i) (225 + 6 * i)) (225 + 6 * i) (225 + 6 * i + 6)) 149 i p k = zρX1 ρ (i + 1) p k := by
  unfold zρs zcan zρf zρX1
  grind
theorem zρX2_step (ρ : Zp) (i p k : Nat) : zρs (zcan (zρf (zρX2 ρ i) (261 + 3 * i)) (261 + 3 * i) (261 + 3 * i + 3)) 224 i p k = zρX2 ρ (i + 1) p k := by
  unfold zρs zcan zρf zρX2
  grind
theorem wJ7_fill_53178_5g {G : Zg} {p : Program} {l : Launch} {e : Env} {s : State} {m : MethodId} {args : Array Value} {below : List Frame} {meth : Method} {c : Code} (C : zC G p s m args meth c cJ7_fill_53178 4 RJ7 none) {res : Int × Zm} {n9 : Nat} {ρ9 : Zp} : ∀ (n : Nat) (o0 : Nat) (x1 : Int) (x2 : Int) (x3 : Int) (h0 : zin n9 o0 20) (n1 : zw x1 = x1) (n2 : zw x2 = x2) (n3 : zw x3 = x3) (σ : Zm), zR G p l e (zrm 0) s m args below meth c 4 0 0 (zQm below args s G n9 ρ9 none res.2) n9 ρ9 res σ (fJ7_fill_53178_5 n o0 x1 x2 x3 σ) [(0, .ref (zad G o0)), (1, .int (zI x1)), (2, .int (zI x2)), (3, .int (zI x3))] 5 []
  | 0, _, _, _, _, _, _, _, _, _ => zr_none
  | n + 1, o0, x1, x2, x3, h0, n1, n2, n3, σ => by
    have ih := fun (o0 : Nat) (x1 : Int) (x2 : Int) (x3 : Int) (h0 : zin n9 o0 20) (n1 : zw x1 = x1) (n2 : zw x2 = x2) (n3 : zw x3 = x3) (σ : Zm) => wJ7_fill_53178_5g (l := l) (e := e) (below := below) C (res := res) (n9 := n9) (ρ9 := ρ9) n o0 x1 x2 x3 h0 n1 n2 n3 σ
    rw [fJ7_fill_53178_5]
    refine zr_letf (fun R0 hR0 => ?_)
    have ih : ∀ (o0 : Nat) (x1 : Int) (x2 : Int) (x3 : Int) (h0 : zin n9 o0 20) (n1 : zw x1 = x1) (n2 : zw x2 = x2) (n3 : zw x3 = x3) (σ : Zm), zR G p l e (zrm 0) s m args below meth c 4 0 0 (zQm below args s G n9 ρ9 none res.2) n9 ρ9 res σ (R0 o0 x1 x2 x3 σ) [(0, .ref (zad G o0)), (1, .int (zI x1)), (2, .int (zI x2)), (3, .int (zI x3))] 5 [] := by rw [hR0]; exact ih
    clear hR0
    refine zr_iloadn C 2 eJ7_fill_53178_5 rfl ?_
    refine zr_iloadn C 3 eJ7_fill_53178_6 rfl ?_
    refine zr_icmp_ge C eJ7_fill_53178_7 n2 n3 ?_ ?_
    · exact zr_vret C eJ7_fill_53178_20
    refine zr_aloadn C 0 eJ7_fill_53178_10 rfl ?_
    refine zr_iloadn C 2 eJ7_fill_53178_11 rfl ?_
    refine zr_iloadn C 1 eJ7_fill_53178_12 rfl ?_
    refine zr_iast C h0 rfl n2 eJ7_fill_53178_13 (fun σ1 => ?_)
    refine zr_iinc (lv' := [(2, .int (zI (x2 + 1))), (0, .ref (zad G o0)), (1, .int (zI x1)), (3, .int (zI x3))]) C 2 eJ7_fill_53178_14 rfl (by decide) rfl ?_
    refine zr_goto C eJ7_fill_53178_17 ?_
    refine zr_lv [1, 2, 0, 3] rfl ?_
    exact zr_lve (zs_p (zs_p (zs_pi (zI_w (x2 + 1)).symm (zs_p rfl)))) (ih o0 x1 (zw (x2 + 1)) x3 h0 n1 (zw_w (x2 + 1)) n3 _)
theorem qJ7_fill_53178g (l : Launch) (G : Zg) {n9 : Nat} {ρ9 : Zp} (σ : Zm) (o0 : Nat) (x1 : Int) (h0 : zin n9 o0 20) (n1 : zw x1 = x1) (res : Int × Zm) (he : fJ7_fill_53178 σ o0 x1 = some res) : zM l yJ7_fill_53178 cJ7_fill_53178 4 none 0 G n9 ρ9 σ [.ref (zad G o0), .int (zI x1)] none res.2 := by
  refine zM_of he (by decide +kernel) (Nat.le_of_ble_eq_true rfl) (lv := [(0, .ref (zad G o0)), (1, .int (zI x1))]) rfl (fun p e s m below meth c C => ?_)
  unfold fJ7_fill_53178
  refine zr_iconst C eJ7_fill_53178_0 rfl ?_
  refine zr_istoren (lv' := [(2, .int (zI 0)), (0, .ref (zad G o0)), (1, .int (zI x1))]) C eJ7_fill_53178_1 (by decide) rfl ?_
  refine zr_aloadn C 1 eJ7_fill_53178_2 rfl ?_
  refine zr_alen (A := ((zLN o0 : Nat) : Int)) C h0 (by decide) rfl rfl eJ7_fill_53178_3 ?_
  refine zr_istoren (lv' := [(3, .int (zI ((zLN o0 : Nat) : Int))), (2, .int (zI 0)), (0, .ref (zad G o0)), (1, .int (zI x1))]) C eJ7_fill_53178_4 (by decide) rfl ?_
  refine zr_lv [2, 3, 1, 0] rfl ?_
  refine wJ7_fill_53178_5g C 5000 o0 x1 0 ((zLN o0 : Nat) : Int) h0 n1 w_0 ((zw_LN _)) σ
theorem eX0_init_0 : zD cX0_init 0 (.aload_n 0) 1 1 := ⟨by decide +kernel, rfl⟩
theorem eX0_init_1 : zD cX0_init 1 (.invokespecial 3) 3 4 := ⟨by decide +kernel, rfl⟩
theorem eX0_init_4 : zD cX0_init 4 (.aload_n 0) 1 5 := ⟨by decide +kernel, rfl⟩
theorem eX0_init_5 : zD cX0_init 5 (.new 9) 3 8 := ⟨by decide +kernel, rfl⟩
theorem eX0_init_8 : zD cX0_init 8 .dup 1 9 := ⟨by decide +kernel, rfl⟩
theorem eX0_init_9 : zD cX0_init 9 (.invokespecial 11) 3 12 := ⟨by decide +kernel, rfl⟩
theorem eX0_init_12 : zD cX0_init 12 (.putfield 12) 3 15 := ⟨by decide +kernel, rfl⟩
theorem eX0_init_15 : zD cX0_init 15 (.aload_n 0) 1 16 := ⟨by decide +kernel, rfl⟩
theorem eX0_init_16 : zD cX0_init 16 (.bipush 8) 2 18 := ⟨by decide +kernel, rfl⟩
theorem eX0_init_18 : zD cX0_init 18 (.newarray .int) 2 20 := ⟨by decide +kernel, rfl⟩
theorem eX0_init_20 : zD cX0_init 20 (.putfield 18) 3 23 := ⟨by decide +kernel, rfl⟩
theorem eX0_init_23 : zD cX0_init 23 (.aload_n 0) 1 24 := ⟨by decide +kernel, rfl⟩
theorem eX0_init_24 : zD cX0_init 24 (.bipush 8) 2 26 := ⟨by decide +kernel, rfl⟩
theorem eX0_init_26 : zD cX0_init 26 (.newarray .int) 2 28 := ⟨by decide +kernel, rfl⟩
theorem eX0_init_28 : zD cX0_init 28 (.putfield 22) 3 31 := ⟨by decide +kernel, rfl⟩
theorem eX0_init_31 : zD cX0_init 31 (.aload_n 0) 1 32 := ⟨by decide +kernel, rfl⟩
theorem eX0_init_32 : zD cX0_init 32 (.sipush 2048) 3 35 := ⟨by decide +kernel, rfl⟩
theorem eX0_init_35 : zD cX0_init 35 (.newarray .int) 2 37 := ⟨by decide +kernel, rfl⟩
theorem eX0_init_37 : zD cX0_init 37 (.putfield 25) 3 40 := ⟨by decide +kernel, rfl⟩
theorem eX0_init_40 : zD cX0_init 40 .return_ 1 41 := ⟨by decide +kernel, rfl⟩
theorem eX1_init_0 : zD cX1_init 0 (.aload_n 0) 1 1 := ⟨by decide +kernel, rfl⟩
theorem eX1_init_1 : zD cX1_init 1 (.invokespecial 3) 3 4 := ⟨by decide +kernel, rfl⟩
theorem eX1_init_4 : zD cX1_init 4 (.aload_n 0) 1 5 := ⟨by decide +kernel, rfl⟩
theorem eX1_init_5 : zD cX1_init 5 (.new 9) 3 8 := ⟨by decide +kernel, rfl⟩
theorem eX1_init_8 : zD cX1_init 8 .dup 1 9 := ⟨by decide +kernel, rfl⟩
theorem eX1_init_9 : zD cX1_init 9 (.invokespecial 11) 3 12 := ⟨by decide +kernel, rfl⟩
theorem eX1_init_12 : zD cX1_init 12 (.putfield 12) 3 15 := ⟨by decide +kernel, rfl⟩
theorem eX1_init_15 : zD cX1_init 15 (.aload_n 0) 1 16 := ⟨by decide +kernel, rfl⟩
theorem eX1_init_16 : zD cX1_init 16 (.new 18) 3 19 := ⟨by decide +kernel, rfl⟩
theorem eX1_init_19 : zD cX1_init 19 .dup 1 20 := ⟨by decide +kernel, rfl⟩
theorem eX1_init_20 : zD cX1_init 20 (.bipush 32) 2 22 := ⟨by decide +kernel, rfl⟩
theorem eX1_init_22 : zD cX1_init 22 (.invokespecial 20) 3 25 := ⟨by decide +kernel, rfl⟩
theorem eX1_init_25 : zD cX1_init 25 (.putfield 23) 3 28 := ⟨by decide +kernel, rfl⟩
theorem eX1_init_28 : zD cX1_init 28 (.aload_n 0) 1 29 := ⟨by decide +kernel, rfl⟩
theorem eX1_init_29 : zD cX1_init 29 (.new 18) 3 32 := ⟨by decide +kernel, rfl⟩
theorem eX1_init_32 : zD cX1_init 32 .dup 1 33 := ⟨by decide +kernel, rfl⟩
theorem eX1_init_33 : zD cX1_init 33 (.bipush 32) 2 35 := ⟨by decide +kernel, rfl⟩
theorem eX1_init_35 : zD cX1_init 35 (.invokespecial 20) 3 38 := ⟨by decide +kernel, rfl⟩
theorem eX1_init_38 : zD cX1_init 38 (.putfield 27) 3 41 := ⟨by decide +kernel, rfl⟩
theorem eX1_init_41 : zD cX1_init 41 (.aload_n 0) 1 42 := ⟨by decide +kernel, rfl⟩
theorem eX1_init_42 : zD cX1_init 42 (.new 18) 3 45 := ⟨by decide +kernel, rfl⟩
theorem eX1_init_45 : zD cX1_init 45 .dup 1 46 := ⟨by decide +kernel, rfl⟩
theorem eX1_init_46 : zD cX1_init 46 (.bipush 32) 2 48 := ⟨by decide +kernel, rfl⟩
theorem eX1_init_48 : zD cX1_init 48 (.invokespecial 20) 3 51 := ⟨by decide +kernel, rfl⟩
theorem eX1_init_51 : zD cX1_init 51 (.putfield 30) 3 54 := ⟨by decide +kernel, rfl⟩
theorem eX1_init_54 : zD cX1_init 54 (.aload_n 0) 1 55 := ⟨by decide +kernel, rfl⟩
theorem eX1_init_55 : zD cX1_init 55 (.new 18) 3 58 := ⟨by decide +kernel, rfl⟩
theorem eX1_init_58 : zD cX1_init 58 .dup 1 59 := ⟨by decide +kernel, rfl⟩
theorem eX1_init_59 : zD cX1_init 59 (.bipush 12) 2 61 := ⟨by decide +kernel, rfl⟩
theorem eX1_init_61 : zD cX1_init 61 (.invokespecial 20) 3 64 := ⟨by decide +kernel, rfl⟩
theorem eX1_init_64 : zD cX1_init 64 (.putfield 33) 3 67 := ⟨by decide +kernel, rfl⟩
theorem eX1_init_67 : zD cX1_init 67 (.aload_n 0) 1 68 := ⟨by decide +kernel, rfl⟩
theorem eX1_init_68 : zD cX1_init 68 (.bipush 12) 2 70 := ⟨by decide +kernel, rfl⟩
theorem eX1_init_70 : zD cX1_init 70 (.newarray .int) 2 72 := ⟨by decide +kernel, rfl⟩
theorem eX1_init_72 : zD cX1_init 72 (.putfield 36) 3 75 := ⟨by decide +kernel, rfl⟩
theorem eX1_init_75 : zD cX1_init 75 (.aload_n 0) 1 76 := ⟨by decide +kernel, rfl⟩
theorem eX1_init_76 : zD cX1_init 76 (.bipush 88) 2 78 := ⟨by decide +kernel, rfl⟩
theorem eX1_init_78 : zD cX1_init 78 (.newarray .int) 2 80 := ⟨by decide +kernel, rfl⟩
theorem eX1_init_80 : zD cX1_init 80 (.putfield 40) 3 83 := ⟨by decide +kernel, rfl⟩
theorem eX1_init_83 : zD cX1_init 83 (.aload_n 0) 1 84 := ⟨by decide +kernel, rfl⟩
theorem eX1_init_84 : zD cX1_init 84 (.bipush 88) 2 86 := ⟨by decide +kernel, rfl⟩
theorem eX1_init_86 : zD cX1_init 86 (.newarray .int) 2 88 := ⟨by decide +kernel, rfl⟩
theorem eX1_init_88 : zD cX1_init 88 (.putfield 43) 3 91 := ⟨by decide +kernel, rfl⟩
theorem eX1_init_91 : zD cX1_init 91 (.aload_n 0) 1 92 := ⟨by decide +kernel, rfl⟩
theorem eX1_init_92 : zD cX1_init 92 (.iconst 0) 1 93 := ⟨by decide +kernel, rfl⟩
theorem eX1_init_93 : zD cX1_init 93 (.putfield 46) 3 96 := ⟨by decide +kernel, rfl⟩
theorem eX1_init_96 : zD cX1_init 96 (.aload_n 0) 1 97 := ⟨by decide +kernel, rfl⟩
theorem eX1_init_97 : zD cX1_init 97 (.iconst 0) 1 98 := ⟨by decide +kernel, rfl⟩
theorem eX1_init_98 : zD cX1_init 98 (.putfield 50) 3 101 := ⟨by decide +kernel, rfl⟩
theorem eX1_init_101 : zD cX1_init 101 (.aload_n 0) 1 102 := ⟨by decide +kernel, rfl⟩
theorem eX1_init_102 : zD cX1_init 102 (.iconst 0) 1 103 := ⟨by decide +kernel, rfl⟩
theorem eX1_init_103 : zD cX1_init 103 (.putfield 53) 3 106 := ⟨by decide +kernel, rfl⟩
theorem eX1_init_106 : zD cX1_init 106 (.aload_n 0) 1 107 := ⟨by decide +kernel, rfl⟩
theorem eX1_init_107 : zD cX1_init 107 (.iconst 0) 1 108 := ⟨by decide +kernel, rfl⟩
theorem eX1_init_108 : zD cX1_init 108 (.putfield 56) 3 111 := ⟨by decide +kernel, rfl⟩
theorem eX1_init_111 : zD cX1_init 111 .return_ 1 112 := ⟨by decide +kernel, rfl⟩
theorem eX7_init_0 : zD cX7_init 0 (.aload_n 0) 1 1 := ⟨by decide +kernel, rfl⟩
theorem eX7_init_1 : zD cX7_init 1 (.invokespecial 3) 3 4 := ⟨by decide +kernel, rfl⟩
theorem eX7_init_4 : zD cX7_init 4 (.aload_n 0) 1 5 := ⟨by decide +kernel, rfl⟩
theorem eX7_init_5 : zD cX7_init 5 (.bipush 16) 2 7 := ⟨by decide +kernel, rfl⟩
theorem eX7_init_7 : zD cX7_init 7 (.anewarray 9) 3 10 := ⟨by decide +kernel, rfl⟩
theorem eX7_init_10 : zD cX7_init 10 (.putfield 11) 3 13 := ⟨by decide +kernel, rfl⟩
theorem eX7_init_13 : zD cX7_init 13 (.aload_n 0) 1 14 := ⟨by decide +kernel, rfl⟩
theorem eX7_init_14 : zD cX7_init 14 (.bipush 6) 2 16 := ⟨by decide +kernel, rfl⟩
theorem eX7_init_16 : zD cX7_init 16 (.anewarray 9) 3 19 := ⟨by decide +kernel, rfl⟩
theorem eX7_init_19 : zD cX7_init 19 (.putfield 17) 3 22 := ⟨by decide +kernel, rfl⟩
theorem eX7_init_22 : zD cX7_init 22 (.aload_n 0) 1 23 := ⟨by decide +kernel, rfl⟩
theorem eX7_init_23 : zD cX7_init 23 (.iconst 4) 1 24 := ⟨by decide +kernel, rfl⟩
theorem eX7_init_24 : zD cX7_init 24 (.newarray .int) 2 26 := ⟨by decide +kernel, rfl⟩
theorem eX7_init_26 : zD cX7_init 26 (.putfield 20) 3 29 := ⟨by decide +kernel, rfl⟩
theorem eX7_init_29 : zD cX7_init 29 (.aload_n 0) 1 30 := ⟨by decide +kernel, rfl⟩
theorem eX7_init_30 : zD cX7_init 30 (.bipush 6) 2 32 := ⟨by decide +kernel, rfl⟩
theorem eX7_init_32 : zD cX7_init 32 (.newarray .int) 2 34 := ⟨by decide +kernel, rfl⟩
theorem eX7_init_34 : zD cX7_init 34 (.putfield 24) 3 37 := ⟨by decide +kernel, rfl⟩
theorem eX7_init_37 : zD cX7_init 37 (.aload_n 0) 1 38 := ⟨by decide +kernel, rfl⟩
theorem eX7_init_38 : zD cX7_init 38 (.bipush 10) 2 40 := ⟨by decide +kernel, rfl⟩
theorem eX7_init_40 : zD cX7_init 40 (.newarray .int) 2 42 := ⟨by decide +kernel, rfl⟩
theorem eX7_init_42 : zD cX7_init 42 (.putfield 27) 3 45 := ⟨by decide +kernel, rfl⟩
theorem eX7_init_45 : zD cX7_init 45 (.aload_n 0) 1 46 := ⟨by decide +kernel, rfl⟩
theorem eX7_init_46 : zD cX7_init 46 (.bipush 10) 2 48 := ⟨by decide +kernel, rfl⟩
theorem eX7_init_48 : zD cX7_init 48 (.newarray .int) 2 50 := ⟨by decide +kernel, rfl⟩
theorem eX7_init_50 : zD cX7_init 50 (.putfield 30) 3 53 := ⟨by decide +kernel, rfl⟩
theorem eX7_init_53 : zD cX7_init 53 (.aload_n 0) 1 54 := ⟨by decide +kernel, rfl⟩
theorem eX7_init_54 : zD cX7_init 54 (.bipush 32) 2 56 := ⟨by decide +kernel, rfl⟩
theorem eX7_init_56 : zD cX7_init 56 (.newarray .int) 2 58 := ⟨by decide +kernel, rfl⟩
theorem eX7_init_58 : zD cX7_init 58 (.putfield 33) 3 61 := ⟨by decide +kernel, rfl⟩
theorem eX7_init_61 : zD cX7_init 61 (.aload_n 0) 1 62 := ⟨by decide +kernel, rfl⟩
theorem eX7_init_62 : zD cX7_init 62 (.iconst 4) 1 63 := ⟨by decide +kernel, rfl⟩
theorem eX7_init_63 : zD cX7_init 63 (.putfield 36) 3 66 := ⟨by decide +kernel, rfl⟩
theorem eX7_init_66 : zD cX7_init 66 (.aload_n 0) 1 67 := ⟨by decide +kernel, rfl⟩
theorem eX7_init_67 : zD cX7_init 67 (.iconst 0) 1 68 := ⟨by decide +kernel, rfl⟩
theorem eX7_init_68 : zD cX7_init 68 (.putfield 40) 3 71 := ⟨by decide +kernel, rfl⟩
theorem eX7_init_71 : zD cX7_init 71 (.aload_n 0) 1 72 := ⟨by decide +kernel, rfl⟩
theorem eX7_init_72 : zD cX7_init 72 (.iconst 0) 1 73 := ⟨by decide +kernel, rfl⟩
theorem eX7_init_73 : zD cX7_init 73 (.putfield 43) 3 76 := ⟨by decide +kernel, rfl⟩
theorem eX7_init_76 : zD cX7_init 76 (.aload_n 0) 1 77 := ⟨by decide +kernel, rfl⟩
theorem eX7_init_77 : zD cX7_init 77 (.iconst 0) 1 78 := ⟨by decide +kernel, rfl⟩
theorem eX7_init_78 : zD cX7_init 78 (.putfield 46) 3 81 := ⟨by decide +kernel, rfl⟩
theorem eX7_init_81 : zD cX7_init 81 (.iconst 0) 1 82 := ⟨by decide +kernel, rfl⟩
theorem eX7_init_82 : zD cX7_init 82 (.istore_n 1) 1 83 := ⟨by decide +kernel, rfl⟩
theorem eX7_init_83 : zD cX7_init 83 (.iload_n 1) 1 84 := ⟨by decide +kernel, rfl⟩
theorem eX7_init_84 : zD cX7_init 84 (.aload_n 0) 1 85 := ⟨by decide +kernel, rfl⟩
theorem eX7_init_85 : zD cX7_init 85 (.getfield 11) 3 88 := ⟨by decide +kernel, rfl⟩
theorem eX7_init_88 : zD cX7_init 88 .arraylength 1 89 := ⟨by decide +kernel, rfl⟩
theorem eX7_init_89 : zDj cX7_init 89 (.if_icmp .ge 24) 24 113 92 := ⟨by decide +kernel, rfl, by decide⟩
theorem eX7_init_92 : zD cX7_init 92 (.aload_n 0) 1 93 := ⟨by decide +kernel, rfl⟩
theorem eX7_init_93 : zD cX7_init 93 (.getfield 11) 3 96 := ⟨by decide +kernel, rfl⟩
theorem eX7_init_96 : zD cX7_init 96 (.iload_n 1) 1 97 := ⟨by decide +kernel, rfl⟩
theorem eX7_init_97 : zD cX7_init 97 (.new 9) 3 100 := ⟨by decide +kernel, rfl⟩
theorem eX7_init_100 : zD cX7_init 100 .dup 1 101 := ⟨by decide +kernel, rfl⟩
theorem eX7_init_101 : zD cX7_init 101 (.bipush 32) 2 103 := ⟨by decide +kernel, rfl⟩
theorem eX7_init_103 : zD cX7_init 103 (.invokespecial 49) 3 106 := ⟨by decide +kernel, rfl⟩
theorem eX7_init_106 : zD cX7_init 106 .aastore 1 107 := ⟨by decide +kernel, rfl⟩
theorem eX7_init_107 : zD cX7_init 107 (.iinc 1 1) 3 110 := ⟨by decide +kernel, rfl⟩
theorem eX7_init_110 : zDj cX7_init 110 (.goto (-27)) (-27) 83 113 := ⟨by decide +kernel, rfl, by decide⟩
theorem eX7_init_113 : zD cX7_init 113 (.iconst 0) 1 114 := ⟨by decide +kernel, rfl⟩
theorem eX7_init_114 : zD cX7_init 114 (.istore_n 1) 1 115 := ⟨by decide +kernel, rfl⟩
theorem eX7_init_115 : zD cX7_init 115 (.iload_n 1) 1 116 := ⟨by decide +kernel, rfl⟩
theorem eX7_init_116 : zD cX7_init 116 (.aload_n 0) 1 117 := ⟨by decide +kernel, rfl⟩
theorem eX7_init_117 : zD cX7_init 117 (.getfield 17) 3 120 := ⟨by decide +kernel, rfl⟩
theorem eX7_init_120 : zD cX7_init 120 .arraylength 1 121 := ⟨by decide +kernel, rfl⟩
theorem eX7_init_121 : zDj cX7_init 121 (.if_icmp .ge 24) 24 145 124 := ⟨by decide +kernel, rfl, by decide⟩
theorem eX7_init_124 : zD cX7_init 124 (.aload_n 0) 1 125 := ⟨by decide +kernel, rfl⟩
theorem eX7_init_125 : zD cX7_init 125 (.getfield 17) 3 128 := ⟨by decide +kernel, rfl⟩
theorem eX7_init_128 : zD cX7_init 128 (.iload_n 1) 1 129 := ⟨by decide +kernel, rfl⟩
theorem eX7_init_129 : zD cX7_init 129 (.new 9) 3 132 := ⟨by decide +kernel, rfl⟩
theorem eX7_init_132 : zD cX7_init 132 .dup 1 133 := ⟨by decide +kernel, rfl⟩
theorem eX7_init_133 : zD cX7_init 133 (.bipush 12) 2 135 := ⟨by decide +kernel, rfl⟩
theorem eX7_init_135 : zD cX7_init 135 (.invokespecial 49) 3 138 := ⟨by decide +kernel, rfl⟩
theorem eX7_init_138 : zD cX7_init 138 .aastore 1 139 := ⟨by decide +kernel, rfl⟩
theorem eX7_init_139 : zD cX7_init 139 (.iinc 1 1) 3 142 := ⟨by decide +kernel, rfl⟩
theorem eX7_init_142 : zDj cX7_init 142 (.goto (-27)) (-27) 115 145 := ⟨by decide +kernel, rfl, by decide⟩
theorem eX7_init_145 : zD cX7_init 145 (.aload_n 0) 1 146 := ⟨by decide +kernel, rfl⟩
theorem eX7_init_146 : zD cX7_init 146 (.getfield 20) 3 149 := ⟨by decide +kernel, rfl⟩
theorem eX7_init_149 : zD cX7_init 149 (.iconst (-1)) 1 150 := ⟨by decide +kernel, rfl⟩
theorem eX7_init_150 : zD cX7_init 150 (.invokestatic 52) 3 153 := ⟨by decide +kernel, rfl⟩
theorem eX7_init_153 : zD cX7_init 153 .return_ 1 154 := ⟨by decide +kernel, rfl⟩
theorem eX4_init_0 : zD cX4_init 0 (.aload_n 0) 1 1 := ⟨by decide +kernel, rfl⟩
theorem eX4_init_1 : zD cX4_init 1 (.invokespecial 3) 3 4 := ⟨by decide +kernel, rfl⟩
theorem eX4_init_4 : zD cX4_init 4 (.aload_n 0) 1 5 := ⟨by decide +kernel, rfl⟩
theorem eX4_init_5 : zD cX4_init 5 (.new 9) 3 8 := ⟨by decide +kernel, rfl⟩
theorem eX4_init_8 : zD cX4_init 8 .dup 1 9 := ⟨by decide +kernel, rfl⟩
theorem eX4_init_9 : zD cX4_init 9 (.invokespecial 11) 3 12 := ⟨by decide +kernel, rfl⟩
theorem eX4_init_12 : zD cX4_init 12 (.putfield 12) 3 15 := ⟨by decide +kernel, rfl⟩
theorem eX4_init_15 : zD cX4_init 15 (.aload_n 0) 1 16 := ⟨by decide +kernel, rfl⟩
theorem eX4_init_16 : zD cX4_init 16 (.iconst 4) 1 17 := ⟨by decide +kernel, rfl⟩
theorem eX4_init_17 : zD cX4_init 17 (.anewarray 18) 3 20 := ⟨by decide +kernel, rfl⟩
theorem eX4_init_20 : zD cX4_init 20 (.putfield 20) 3 23 := ⟨by decide +kernel, rfl⟩
theorem eX4_init_23 : zD cX4_init 23 (.aload_n 0) 1 24 := ⟨by decide +kernel, rfl⟩
theorem eX4_init_24 : zD cX4_init 24 (.bipush 6) 2 26 := ⟨by decide +kernel, rfl⟩
theorem eX4_init_26 : zD cX4_init 26 (.sipush 225) 3 29 := ⟨by decide +kernel, rfl⟩
theorem eX4_init_29 : zD cX4_init 29 (.multianewarray 24 2) 4 33 := ⟨by decide +kernel, rfl⟩
theorem eX4_init_33 : zD cX4_init 33 (.putfield 26) 3 36 := ⟨by decide +kernel, rfl⟩
theorem eX4_init_36 : zD cX4_init 36 (.aload_n 0) 1 37 := ⟨by decide +kernel, rfl⟩
theorem eX4_init_37 : zD cX4_init 37 (.bipush 6) 2 39 := ⟨by decide +kernel, rfl⟩
theorem eX4_init_39 : zD cX4_init 39 (.sipush 225) 3 42 := ⟨by decide +kernel, rfl⟩
theorem eX4_init_42 : zD cX4_init 42 (.multianewarray 24 2) 4 46 := ⟨by decide +kernel, rfl⟩
theorem eX4_init_46 : zD cX4_init 46 (.putfield 29) 3 49 := ⟨by decide +kernel, rfl⟩
theorem eX4_init_49 : zD cX4_init 49 (.aload_n 0) 1 50 := ⟨by decide +kernel, rfl⟩
theorem eX4_init_50 : zD cX4_init 50 (.iconst 5) 1 51 := ⟨by decide +kernel, rfl⟩
theorem eX4_init_51 : zD cX4_init 51 (.newarray .int) 2 53 := ⟨by decide +kernel, rfl⟩
theorem eX4_init_53 : zD cX4_init 53 (.putfield 32) 3 56 := ⟨by decide +kernel, rfl⟩
theorem eX4_init_56 : zD cX4_init 56 (.aload_n 0) 1 57 := ⟨by decide +kernel, rfl⟩
theorem eX4_init_57 : zD cX4_init 57 (.iconst 0) 1 58 := ⟨by decide +kernel, rfl⟩
theorem eX4_init_58 : zD cX4_init 58 (.putfield 36) 3 61 := ⟨by decide +kernel, rfl⟩
theorem eX4_init_61 : zD cX4_init 61 (.aload_n 0) 1 62 := ⟨by decide +kernel, rfl⟩
theorem eX4_init_62 : zD cX4_init 62 (.iconst 0) 1 63 := ⟨by decide +kernel, rfl⟩
theorem eX4_init_63 : zD cX4_init 63 (.putfield 40) 3 66 := ⟨by decide +kernel, rfl⟩
theorem eX4_init_66 : zD cX4_init 66 (.aload_n 0) 1 67 := ⟨by decide +kernel, rfl⟩
theorem eX4_init_67 : zD cX4_init 67 (.iconst 1) 1 68 := ⟨by decide +kernel, rfl⟩
theorem eX4_init_68 : zD cX4_init 68 (.putfield 43) 3 71 := ⟨by decide +kernel, rfl⟩
theorem eX4_init_71 : zD cX4_init 71 (.aload_n 0) 1 72 := ⟨by decide +kernel, rfl⟩
theorem eX4_init_72 : zD cX4_init 72 (.iconst 0) 1 73 := ⟨by decide +kernel, rfl⟩
theorem eX4_init_73 : zD cX4_init 73 (.putfield 46) 3 76 := ⟨by decide +kernel, rfl⟩
theorem eX4_init_76 : zD cX4_init 76 (.aload_n 0) 1 77 := ⟨by decide +kernel, rfl⟩
theorem eX4_init_77 : zD cX4_init 77 (.iconst 1) 1 78 := ⟨by decide +kernel, rfl⟩
theorem eX4_init_78 : zD cX4_init 78 (.putfield 49) 3 81 := ⟨by decide +kernel, rfl⟩
theorem eX4_init_81 : zD cX4_init 81 (.aload_n 0) 1 82 := ⟨by decide +kernel, rfl⟩
theorem eX4_init_82 : zD cX4_init 82 (.iconst 0) 1 83 := ⟨by decide +kernel, rfl⟩
theorem eX4_init_83 : zD cX4_init 83 (.putfield 52) 3 86 := ⟨by decide +kernel, rfl⟩
theorem eX4_init_86 : zD cX4_init 86 (.iconst 0) 1 87 := ⟨by decide +kernel, rfl⟩
theorem eX4_init_87 : zD cX4_init 87 (.istore_n 1) 1 88 := ⟨by decide +kernel, rfl⟩
theorem eX4_init_88 : zD cX4_init 88 (.iload_n 1) 1 89 := ⟨by decide +kernel, rfl⟩
theorem eX4_init_89 : zD cX4_init 89 (.iconst 4) 1 90 := ⟨by decide +kernel, rfl⟩
theorem eX4_init_90 : zDj cX4_init 90 (.if_icmp .ge 24) 24 114 93 := ⟨by decide +kernel, rfl, by decide⟩
theorem eX4_init_93 : zD cX4_init 93 (.aload_n 0) 1 94 := ⟨by decide +kernel, rfl⟩
theorem eX4_init_94 : zD cX4_init 94 (.getfield 20) 3 97 := ⟨by decide +kernel, rfl⟩
theorem eX4_init_97 : zD cX4_init 97 (.iload_n 1) 1 98 := ⟨by decide +kernel, rfl⟩
theorem eX4_init_98 : zD cX4_init 98 (.new 18) 3 101 := ⟨by decide +kernel, rfl⟩
theorem eX4_init_101 : zD cX4_init 101 .dup 1 102 := ⟨by decide +kernel, rfl⟩
theorem eX4_init_102 : zD cX4_init 102 (.bipush 32) 2 104 := ⟨by decide +kernel, rfl⟩
theorem eX4_init_104 : zD cX4_init 104 (.invokespecial 55) 3 107 := ⟨by decide +kernel, rfl⟩
theorem eX4_init_107 : zD cX4_init 107 .aastore 1 108 := ⟨by decide +kernel, rfl⟩
theorem eX4_init_108 : zD cX4_init 108 (.iinc 1 1) 3 111 := ⟨by decide +kernel, rfl⟩
theorem eX4_init_111 : zDj cX4_init 111 (.goto (-23)) (-23) 88 114 := ⟨by decide +kernel, rfl, by decide⟩
theorem eX4_init_114 : zD cX4_init 114 .return_ 1 115 := ⟨by decide +kernel, rfl⟩
theorem eX9_init_0 : zD cX9_init 0 (.aload_n 0) 1 1 := ⟨by decide +kernel, rfl⟩
theorem eX9_init_1 : zD cX9_init 1 (.invokespecial 1) 3 4 := ⟨by decide +kernel, rfl⟩
theorem eX9_init_4 : zD cX9_init 4 (.aload_n 0) 1 5 := ⟨by decide +kernel, rfl⟩
theorem eX9_init_5 : zD cX9_init 5 (.new 7) 3 8 := ⟨by decide +kernel, rfl⟩
theorem eX9_init_8 : zD cX9_init 8 .dup 1 9 := ⟨by decide +kernel, rfl⟩
theorem eX9_init_9 : zD cX9_init 9 (.invokespecial 9) 3 12 := ⟨by decide +kernel, rfl⟩
theorem eX9_init_12 : zD cX9_init 12 (.putfield 10) 3 15 := ⟨by decide +kernel, rfl⟩
theorem eX9_init_15 : zD cX9_init 15 (.aload_n 0) 1 16 := ⟨by decide +kernel, rfl⟩
theorem eX9_init_16 : zD cX9_init 16 (.new 7) 3 19 := ⟨by decide +kernel, rfl⟩
theorem eX9_init_19 : zD cX9_init 19 .dup 1 20 := ⟨by decide +kernel, rfl⟩
theorem eX9_init_20 : zD cX9_init 20 (.invokespecial 9) 3 23 := ⟨by decide +kernel, rfl⟩
theorem eX9_init_23 : zD cX9_init 23 (.putfield 16) 3 26 := ⟨by decide +kernel, rfl⟩
theorem eX9_init_26 : zD cX9_init 26 (.aload_n 0) 1 27 := ⟨by decide +kernel, rfl⟩
theorem eX9_init_27 : zD cX9_init 27 (.bipush 6) 2 29 := ⟨by decide +kernel, rfl⟩
theorem eX9_init_29 : zD cX9_init 29 (.anewarray 19) 3 32 := ⟨by decide +kernel, rfl⟩
theorem eX9_init_32 : zD cX9_init 32 (.putfield 21) 3 35 := ⟨by decide +kernel, rfl⟩
theorem eX9_init_35 : zD cX9_init 35 (.aload_n 0) 1 36 := ⟨by decide +kernel, rfl⟩
theorem eX9_init_36 : zD cX9_init 36 (.new 25) 3 39 := ⟨by decide +kernel, rfl⟩
theorem eX9_init_39 : zD cX9_init 39 .dup 1 40 := ⟨by decide +kernel, rfl⟩
theorem eX9_init_40 : zD cX9_init 40 (.invokespecial 27) 3 43 := ⟨by decide +kernel, rfl⟩
theorem eX9_init_43 : zD cX9_init 43 (.putfield 28) 3 46 := ⟨by decide +kernel, rfl⟩
theorem eX9_init_46 : zD cX9_init 46 (.aload_n 0) 1 47 := ⟨by decide +kernel, rfl⟩
theorem eX9_init_47 : zD cX9_init 47 (.new 32) 3 50 := ⟨by decide +kernel, rfl⟩
theorem eX9_init_50 : zD cX9_init 50 .dup 1 51 := ⟨by decide +kernel, rfl⟩
theorem eX9_init_51 : zD cX9_init 51 (.invokespecial 34) 3 54 := ⟨by decide +kernel, rfl⟩
theorem eX9_init_54 : zD cX9_init 54 (.putfield 35) 3 57 := ⟨by decide +kernel, rfl⟩
theorem eX9_init_57 : zD cX9_init 57 (.aload_n 0) 1 58 := ⟨by decide +kernel, rfl⟩
theorem eX9_init_58 : zD cX9_init 58 (.new 39) 3 61 := ⟨by decide +kernel, rfl⟩
theorem eX9_init_61 : zD cX9_init 61 .dup 1 62 := ⟨by decide +kernel, rfl⟩
theorem eX9_init_62 : zD cX9_init 62 (.invokespecial 41) 3 65 := ⟨by decide +kernel, rfl⟩
theorem eX9_init_65 : zD cX9_init 65 (.putfield 42) 3 68 := ⟨by decide +kernel, rfl⟩
theorem eX9_init_68 : zD cX9_init 68 (.aload_n 0) 1 69 := ⟨by decide +kernel, rfl⟩
theorem eX9_init_69 : zD cX9_init 69 (.new 46) 3 72 := ⟨by decide +kernel, rfl⟩
theorem eX9_init_72 : zD cX9_init 72 .dup 1 73 := ⟨by decide +kernel, rfl⟩
theorem eX9_init_73 : zD cX9_init 73 (.invokespecial 48) 3 76 := ⟨by decide +kernel, rfl⟩
theorem eX9_init_76 : zD cX9_init 76 (.putfield 49) 3 79 := ⟨by decide +kernel, rfl⟩
theorem eX9_init_79 : zD cX9_init 79 (.aload_n 0) 1 80 := ⟨by decide +kernel, rfl⟩
theorem eX9_init_80 : zD cX9_init 80 (.new 53) 3 83 := ⟨by decide +kernel, rfl⟩
theorem eX9_init_83 : zD cX9_init 83 .dup 1 84 := ⟨by decide +kernel, rfl⟩
theorem eX9_init_84 : zD cX9_init 84 (.invokespecial 55) 3 87 := ⟨by decide +kernel, rfl⟩
theorem eX9_init_87 : zD cX9_init 87 (.putfield 56) 3 90 := ⟨by decide +kernel, rfl⟩
theorem eX9_init_90 : zD cX9_init 90 (.aload_n 0) 1 91 := ⟨by decide +kernel, rfl⟩
theorem eX9_init_91 : zD cX9_init 91 (.new 60) 3 94 := ⟨by decide +kernel, rfl⟩
theorem eX9_init_94 : zD cX9_init 94 .dup 1 95 := ⟨by decide +kernel, rfl⟩
theorem eX9_init_95 : zD cX9_init 95 (.invokespecial 62) 3 98 := ⟨by decide +kernel, rfl⟩
theorem eX9_init_98 : zD cX9_init 98 (.putfield 63) 3 101 := ⟨by decide +kernel, rfl⟩
theorem eX9_init_101 : zD cX9_init 101 (.aload_n 0) 1 102 := ⟨by decide +kernel, rfl⟩
theorem eX9_init_102 : zD cX9_init 102 (.new 60) 3 105 := ⟨by decide +kernel, rfl⟩
theorem eX9_init_105 : zD cX9_init 105 .dup 1 106 := ⟨by decide +kernel, rfl⟩
theorem eX9_init_106 : zD cX9_init 106 (.invokespecial 62) 3 109 := ⟨by decide +kernel, rfl⟩
theorem eX9_init_109 : zD cX9_init 109 (.putfield 67) 3 112 := ⟨by decide +kernel, rfl⟩
theorem eX9_init_112 : zD cX9_init 112 (.aload_n 0) 1 113 := ⟨by decide +kernel, rfl⟩
theorem eX9_init_113 : zD cX9_init 113 (.iconst 4) 1 114 := ⟨by decide +kernel, rfl⟩
theorem eX9_init_114 : zD cX9_init 114 (.anewarray 70) 3 117 := ⟨by decide +kernel, rfl⟩
theorem eX9_init_117 : zD cX9_init 117 (.putfield 72) 3 120 := ⟨by decide +kernel, rfl⟩
theorem eX9_init_120 : zD cX9_init 120 (.aload_n 0) 1 121 := ⟨by decide +kernel, rfl⟩
theorem eX9_init_121 : zD cX9_init 121 (.iconst 0) 1 122 := ⟨by decide +kernel, rfl⟩
theorem eX9_init_122 : zD cX9_init 122 (.putfield 76) 3 125 := ⟨by decide +kernel, rfl⟩
theorem eX9_init_125 : zD cX9_init 125 (.iconst 0) 1 126 := ⟨by decide +kernel, rfl⟩
theorem eX9_init_126 : zD cX9_init 126 (.istore_n 1) 1 127 := ⟨by decide +kernel, rfl⟩
theorem eX9_init_127 : zD cX9_init 127 (.iload_n 1) 1 128 := ⟨by decide +kernel, rfl⟩
theorem eX9_init_128 : zD cX9_init 128 (.bipush 6) 2 130 := ⟨by decide +kernel, rfl⟩
theorem eX9_init_130 : zDj cX9_init 130 (.if_icmp .ge 22) 22 152 133 := ⟨by decide +kernel, rfl, by decide⟩
theorem eX9_init_133 : zD cX9_init 133 (.aload_n 0) 1 134 := ⟨by decide +kernel, rfl⟩
theorem eX9_init_134 : zD cX9_init 134 (.getfield 21) 3 137 := ⟨by decide +kernel, rfl⟩
theorem eX9_init_137 : zD cX9_init 137 (.iload_n 1) 1 138 := ⟨by decide +kernel, rfl⟩
theorem eX9_init_138 : zD cX9_init 138 (.new 19) 3 141 := ⟨by decide +kernel, rfl⟩
theorem eX9_init_141 : zD cX9_init 141 .dup 1 142 := ⟨by decide +kernel, rfl⟩
theorem eX9_init_142 : zD cX9_init 142 (.invokespecial 80) 3 145 := ⟨by decide +kernel, rfl⟩
theorem eX9_init_145 : zD cX9_init 145 .aastore 1 146 := ⟨by decide +kernel, rfl⟩
theorem eX9_init_146 : zD cX9_init 146 (.iinc 1 1) 3 149 := ⟨by decide +kernel, rfl⟩
theorem eX9_init_149 : zDj cX9_init 149 (.goto (-22)) (-22) 127 152 := ⟨by decide +kernel, rfl, by decide⟩
theorem eX9_init_152 : zD cX9_init 152 (.iconst 0) 1 153 := ⟨by decide +kernel, rfl⟩
theorem eX9_init_153 : zD cX9_init 153 (.istore_n 1) 1 154 := ⟨by decide +kernel, rfl⟩
theorem eX9_init_154 : zD cX9_init 154 (.iload_n 1) 1 155 := ⟨by decide +kernel, rfl⟩
theorem eX9_init_155 : zD cX9_init 155 (.iconst 4) 1 156 := ⟨by decide +kernel, rfl⟩
theorem eX9_init_156 : zDj cX9_init 156 (.if_icmp .ge 24) 24 180 159 := ⟨by decide +kernel, rfl, by decide⟩
theorem eX9_init_159 : zD cX9_init 159 (.aload_n 0) 1 160 := ⟨by decide +kernel, rfl⟩
theorem eX9_init_160 : zD cX9_init 160 (.getfield 72) 3 163 := ⟨by decide +kernel, rfl⟩
theorem eX9_init_163 : zD cX9_init 163 (.iload_n 1) 1 164 := ⟨by decide +kernel, rfl⟩
theorem eX9_init_164 : zD cX9_init 164 (.new 70) 3 167 := ⟨by decide +kernel, rfl⟩
theorem eX9_init_167 : zD cX9_init 167 .dup 1 168 := ⟨by decide +kernel, rfl⟩
theorem eX9_init_168 : zD cX9_init 168 (.bipush 32) 2 170 := ⟨by decide +kernel, rfl⟩
theorem eX9_init_170 : zD cX9_init 170 (.invokespecial 81) 3 173 := ⟨by decide +kernel, rfl⟩
theorem eX9_init_173 : zD cX9_init 173 .aastore 1 174 := ⟨by decide +kernel, rfl⟩
theorem eX9_init_174 : zD cX9_init 174 (.iinc 1 1) 3 177 := ⟨by decide +kernel, rfl⟩
theorem eX9_init_177 : zDj cX9_init 177 (.goto (-23)) (-23) 154 180 := ⟨by decide +kernel, rfl, by decide⟩
theorem eX9_init_180 : zD cX9_init 180 .return_ 1 181 := ⟨by decide +kernel, rfl⟩
theorem eX10_init_0 : zD cX10_init 0 (.aload_n 0) 1 1 := ⟨by decide +kernel, rfl⟩
theorem eX10_init_1 : zD cX10_init 1 (.invokespecial 1) 3 4 := ⟨by decide +kernel, rfl⟩
theorem eX10_init_4 : zD cX10_init 4 (.aload_n 0) 1 5 := ⟨by decide +kernel, rfl⟩
theorem eX10_init_5 : zD cX10_init 5 (.sipush 700) 3 8 := ⟨by decide +kernel, rfl⟩
theorem eX10_init_8 : zD cX10_init 8 (.newarray .int) 2 10 := ⟨by decide +kernel, rfl⟩
theorem eX10_init_10 : zD cX10_init 10 (.putfield 7) 3 13 := ⟨by decide +kernel, rfl⟩
theorem eX10_init_13 : zD cX10_init 13 (.aload_n 0) 1 14 := ⟨by decide +kernel, rfl⟩
theorem eX10_init_14 : zD cX10_init 14 (.sipush 700) 3 17 := ⟨by decide +kernel, rfl⟩
theorem eX10_init_17 : zD cX10_init 17 (.newarray .int) 2 19 := ⟨by decide +kernel, rfl⟩
theorem eX10_init_19 : zD cX10_init 19 (.putfield 13) 3 22 := ⟨by decide +kernel, rfl⟩
theorem eX10_init_22 : zD cX10_init 22 (.aload_n 0) 1 23 := ⟨by decide +kernel, rfl⟩
theorem eX10_init_23 : zD cX10_init 23 (.sipush 5400) 3 26 := ⟨by decide +kernel, rfl⟩
theorem eX10_init_26 : zD cX10_init 26 (.newarray .int) 2 28 := ⟨by decide +kernel, rfl⟩
theorem eX10_init_28 : zD cX10_init 28 (.putfield 16) 3 31 := ⟨by decide +kernel, rfl⟩
theorem eX10_init_31 : zD cX10_init 31 (.aload_n 0) 1 32 := ⟨by decide +kernel, rfl⟩
theorem eX10_init_32 : zD cX10_init 32 (.sipush 300) 3 35 := ⟨by decide +kernel, rfl⟩
theorem eX10_init_35 : zD cX10_init 35 (.newarray .int) 2 37 := ⟨by decide +kernel, rfl⟩
theorem eX10_init_37 : zD cX10_init 37 (.putfield 19) 3 40 := ⟨by decide +kernel, rfl⟩
theorem eX10_init_40 : zD cX10_init 40 (.aload_n 0) 1 41 := ⟨by decide +kernel, rfl⟩
theorem eX10_init_41 : zD cX10_init 41 (.iconst (-1)) 1 42 := ⟨by decide +kernel, rfl⟩
theorem eX10_init_42 : zD cX10_init 42 (.putfield 22) 3 45 := ⟨by decide +kernel, rfl⟩
theorem eX10_init_45 : zD cX10_init 45 (.aload_n 0) 1 46 := ⟨by decide +kernel, rfl⟩
theorem eX10_init_46 : zD cX10_init 46 (.iconst (-1)) 1 47 := ⟨by decide +kernel, rfl⟩
theorem eX10_init_47 : zD cX10_init 47 (.putfield 26) 3 50 := ⟨by decide +kernel, rfl⟩
theorem eX10_init_50 : zD cX10_init 50 (.aload_n 0) 1 51 := ⟨by decide +kernel, rfl⟩
theorem eX10_init_51 : zD cX10_init 51 (.sipush 160) 3 54 := ⟨by decide +kernel, rfl⟩
theorem eX10_init_54 : zD cX10_init 54 (.newarray .int) 2 56 := ⟨by decide +kernel, rfl⟩
theorem eX10_init_56 : zD cX10_init 56 (.putfield 29) 3 59 := ⟨by decide +kernel, rfl⟩
theorem eX10_init_59 : zD cX10_init 59 (.aload_n 0) 1 60 := ⟨by decide +kernel, rfl⟩
theorem eX10_init_60 : zD cX10_init 60 (.bipush 21) 2 62 := ⟨by decide +kernel, rfl⟩
theorem eX10_init_62 : zD cX10_init 62 (.newarray .int) 2 64 := ⟨by decide +kernel, rfl⟩
theorem eX10_init_64 : zD cX10_init 64 (.putfield 32) 3 67 := ⟨by decide +kernel, rfl⟩
theorem eX10_init_67 : zD cX10_init 67 (.aload_n 0) 1 68 := ⟨by decide +kernel, rfl⟩
theorem eX10_init_68 : zD cX10_init 68 (.sipush 330) 3 71 := ⟨by decide +kernel, rfl⟩
theorem eX10_init_71 : zD cX10_init 71 (.newarray .long) 2 73 := ⟨by decide +kernel, rfl⟩
theorem eX10_init_73 : zD cX10_init 73 (.putfield 35) 3 76 := ⟨by decide +kernel, rfl⟩
theorem eX10_init_76 : zD cX10_init 76 (.aload_n 0) 1 77 := ⟨by decide +kernel, rfl⟩
theorem eX10_init_77 : zD cX10_init 77 (.sipush 330) 3 80 := ⟨by decide +kernel, rfl⟩
theorem eX10_init_80 : zD cX10_init 80 (.newarray .boolean) 2 82 := ⟨by decide +kernel, rfl⟩
theorem eX10_init_82 : zD cX10_init 82 (.putfield 39) 3 85 := ⟨by decide +kernel, rfl⟩
theorem eX10_init_85 : zD cX10_init 85 (.aload_n 0) 1 86 := ⟨by decide +kernel, rfl⟩
theorem eX10_init_86 : zD cX10_init 86 (.sipush 128) 3 89 := ⟨by decide +kernel, rfl⟩
theorem eX10_init_89 : zD cX10_init 89 (.newarray .int) 2 91 := ⟨by decide +kernel, rfl⟩
theorem eX10_init_91 : zD cX10_init 91 (.putfield 43) 3 94 := ⟨by decide +kernel, rfl⟩
theorem eX10_init_94 : zD cX10_init 94 (.aload_n 0) 1 95 := ⟨by decide +kernel, rfl⟩
theorem eX10_init_95 : zD cX10_init 95 (.sipush 128) 3 98 := ⟨by decide +kernel, rfl⟩
theorem eX10_init_98 : zD cX10_init 98 (.newarray .boolean) 2 100 := ⟨by decide +kernel, rfl⟩
theorem eX10_init_100 : zD cX10_init 100 (.putfield 46) 3 103 := ⟨by decide +kernel, rfl⟩
theorem eX10_init_103 : zD cX10_init 103 (.aload_n 0) 1 104 := ⟨by decide +kernel, rfl⟩
theorem eX10_init_104 : zD cX10_init 104 (.iconst 5) 1 105 := ⟨by decide +kernel, rfl⟩
theorem eX10_init_105 : zD cX10_init 105 (.newarray .int) 2 107 := ⟨by decide +kernel, rfl⟩
theorem eX10_init_107 : zD cX10_init 107 (.putfield 49) 3 110 := ⟨by decide +kernel, rfl⟩
theorem eX10_init_110 : zD cX10_init 110 (.aload_n 0) 1 111 := ⟨by decide +kernel, rfl⟩
theorem eX10_init_111 : zD cX10_init 111 (.bipush 12) 2 113 := ⟨by decide +kernel, rfl⟩
theorem eX10_init_113 : zD cX10_init 113 (.newarray .int) 2 115 := ⟨by decide +kernel, rfl⟩
theorem eX10_init_115 : zD cX10_init 115 (.putfield 52) 3 118 := ⟨by decide +kernel, rfl⟩
theorem eX10_init_118 : zD cX10_init 118 (.aload_n 0) 1 119 := ⟨by decide +kernel, rfl⟩
theorem eX10_init_119 : zD cX10_init 119 (.bipush 12) 2 121 := ⟨by decide +kernel, rfl⟩
theorem eX10_init_121 : zD cX10_init 121 (.newarray .int) 2 123 := ⟨by decide +kernel, rfl⟩
theorem eX10_init_123 : zD cX10_init 123 (.putfield 55) 3 126 := ⟨by decide +kernel, rfl⟩
theorem eX10_init_126 : zD cX10_init 126 (.aload_n 0) 1 127 := ⟨by decide +kernel, rfl⟩
theorem eX10_init_127 : zD cX10_init 127 (.bipush 25) 2 129 := ⟨by decide +kernel, rfl⟩
theorem eX10_init_129 : zD cX10_init 129 (.newarray .int) 2 131 := ⟨by decide +kernel, rfl⟩
theorem eX10_init_131 : zD cX10_init 131 (.putfield 58) 3 134 := ⟨by decide +kernel, rfl⟩
theorem eX10_init_134 : zD cX10_init 134 (.aload_n 0) 1 135 := ⟨by decide +kernel, rfl⟩
theorem eX10_init_135 : zD cX10_init 135 (.sipush 625) 3 138 := ⟨by decide +kernel, rfl⟩
theorem eX10_init_138 : zD cX10_init 138 (.newarray .int) 2 140 := ⟨by decide +kernel, rfl⟩
theorem eX10_init_140 : zD cX10_init 140 (.putfield 61) 3 143 := ⟨by decide +kernel, rfl⟩
theorem eX10_init_143 : zD cX10_init 143 (.aload_n 0) 1 144 := ⟨by decide +kernel, rfl⟩
theorem eX10_init_144 : zD cX10_init 144 (.bipush 25) 2 146 := ⟨by decide +kernel, rfl⟩
theorem eX10_init_146 : zD cX10_init 146 (.newarray .int) 2 148 := ⟨by decide +kernel, rfl⟩
theorem eX10_init_148 : zD cX10_init 148 (.putfield 64) 3 151 := ⟨by decide +kernel, rfl⟩
theorem eX10_init_151 : zD cX10_init 151 (.aload_n 0) 1 152 := ⟨by decide +kernel, rfl⟩
theorem eX10_init_152 : zD cX10_init 152 (.sipush 1350) 3 155 := ⟨by decide +kernel, rfl⟩
theorem eX10_init_155 : zD cX10_init 155 (.newarray .int) 2 157 := ⟨by decide +kernel, rfl⟩
theorem eX10_init_157 : zD cX10_init 157 (.putfield 67) 3 160 := ⟨by decide +kernel, rfl⟩
theorem eX10_init_160 : zD cX10_init 160 (.aload_n 0) 1 161 := ⟨by decide +kernel, rfl⟩
theorem eX10_init_161 : zD cX10_init 161 (.bipush 8) 2 163 := ⟨by decide +kernel, rfl⟩
theorem eX10_init_163 : zD cX10_init 163 (.newarray .int) 2 165 := ⟨by decide +kernel, rfl⟩
theorem eX10_init_165 : zD cX10_init 165 (.putfield 70) 3 168 := ⟨by decide +kernel, rfl⟩
theorem eX10_init_168 : zD cX10_init 168 (.aload_n 0) 1 169 := ⟨by decide +kernel, rfl⟩
theorem eX10_init_169 : zD cX10_init 169 (.bipush 8) 2 171 := ⟨by decide +kernel, rfl⟩
theorem eX10_init_171 : zD cX10_init 171 (.newarray .int) 2 173 := ⟨by decide +kernel, rfl⟩
theorem eX10_init_173 : zD cX10_init 173 (.putfield 73) 3 176 := ⟨by decide +kernel, rfl⟩
theorem eX10_init_176 : zD cX10_init 176 (.aload_n 0) 1 177 := ⟨by decide +kernel, rfl⟩
theorem eX10_init_177 : zD cX10_init 177 (.sipush 2048) 3 180 := ⟨by decide +kernel, rfl⟩
theorem eX10_init_180 : zD cX10_init 180 (.newarray .int) 2 182 := ⟨by decide +kernel, rfl⟩
theorem eX10_init_182 : zD cX10_init 182 (.putfield 76) 3 185 := ⟨by decide +kernel, rfl⟩
theorem eX10_init_185 : zD cX10_init 185 (.aload_n 0) 1 186 := ⟨by decide +kernel, rfl⟩
theorem eX10_init_186 : zD cX10_init 186 (.getfield 7) 3 189 := ⟨by decide +kernel, rfl⟩
theorem eX10_init_189 : zD cX10_init 189 (.iconst 0) 1 190 := ⟨by decide +kernel, rfl⟩
theorem eX10_init_190 : zD cX10_init 190 (.iconst 4) 1 191 := ⟨by decide +kernel, rfl⟩
theorem eX10_init_191 : zD cX10_init 191 .iastore 1 192 := ⟨by decide +kernel, rfl⟩
theorem eX10_init_192 : zD cX10_init 192 (.iconst 0) 1 193 := ⟨by decide +kernel, rfl⟩
theorem eX10_init_193 : zD cX10_init 193 (.istore_n 1) 1 194 := ⟨by decide +kernel, rfl⟩
theorem eX10_init_194 : zD cX10_init 194 (.iload_n 1) 1 195 := ⟨by decide +kernel, rfl⟩
theorem eX10_init_195 : zD cX10_init 195 (.sipush 512) 3 198 := ⟨by decide +kernel, rfl⟩
theorem eX10_init_198 : zDj cX10_init 198 (.if_icmp .ge 19) 19 217 201 := ⟨by decide +kernel, rfl, by decide⟩
theorem eX10_init_201 : zD cX10_init 201 (.aload_n 0) 1 202 := ⟨by decide +kernel, rfl⟩
theorem eX10_init_202 : zD cX10_init 202 (.getfield 7) 3 205 := ⟨by decide +kernel, rfl⟩
theorem eX10_init_205 : zD cX10_init 205 (.bipush 10) 2 207 := ⟨by decide +kernel, rfl⟩
theorem eX10_init_207 : zD cX10_init 207 (.iload_n 1) 1 208 := ⟨by decide +kernel, rfl⟩
theorem eX10_init_208 : zD cX10_init 208 .iadd 1 209 := ⟨by decide +kernel, rfl⟩
theorem eX10_init_209 : zD cX10_init 209 (.iconst (-1)) 1 210 := ⟨by decide +kernel, rfl⟩
theorem eX10_init_210 : zD cX10_init 210 .iastore 1 211 := ⟨by decide +kernel, rfl⟩
theorem eX10_init_211 : zD cX10_init 211 (.iinc 1 1) 3 214 := ⟨by decide +kernel, rfl⟩
theorem eX10_init_214 : zDj cX10_init 214 (.goto (-20)) (-20) 194 217 := ⟨by decide +kernel, rfl, by decide⟩
theorem eX10_init_217 : zD cX10_init 217 (.iconst 0) 1 218 := ⟨by decide +kernel, rfl⟩
theorem eX10_init_218 : zD cX10_init 218 (.istore_n 1) 1 219 := ⟨by decide +kernel, rfl⟩
theorem eX10_init_219 : zD cX10_init 219 (.iload_n 1) 1 220 := ⟨by decide +kernel, rfl⟩
theorem eX10_init_220 : zD cX10_init 220 (.bipush 72) 2 222 := ⟨by decide +kernel, rfl⟩
theorem eX10_init_222 : zDj cX10_init 222 (.if_icmp .ge 22) 22 244 225 := ⟨by decide +kernel, rfl, by decide⟩
theorem eX10_init_225 : zD cX10_init 225 (.aload_n 0) 1 226 := ⟨by decide +kernel, rfl⟩
theorem eX10_init_226 : zD cX10_init 226 (.getfield 7) 3 229 := ⟨by decide +kernel, rfl⟩
theorem eX10_init_229 : zD cX10_init 229 (.sipush 530) 3 232 := ⟨by decide +kernel, rfl⟩
theorem eX10_init_232 : zD cX10_init 232 (.iload_n 1) 1 233 := ⟨by decide +kernel, rfl⟩
theorem eX10_init_233 : zD cX10_init 233 .iadd 1 234 := ⟨by decide +kernel, rfl⟩
theorem eX10_init_234 : zD cX10_init 234 (.sipush (-1000)) 3 237 := ⟨by decide +kernel, rfl⟩
theorem eX10_init_237 : zD cX10_init 237 .iastore 1 238 := ⟨by decide +kernel, rfl⟩
theorem eX10_init_238 : zD cX10_init 238 (.iinc 1 1) 3 241 := ⟨by decide +kernel, rfl⟩
theorem eX10_init_241 : zDj cX10_init 241 (.goto (-22)) (-22) 219 244 := ⟨by decide +kernel, rfl, by decide⟩
theorem eX10_init_244 : zD cX10_init 244 (.iconst 0) 1 245 := ⟨by decide +kernel, rfl⟩
theorem eX10_init_245 : zD cX10_init 245 (.istore_n 1) 1 246 := ⟨by decide +kernel, rfl⟩
theorem eX10_init_246 : zD cX10_init 246 (.iload_n 1) 1 247 := ⟨by decide +kernel, rfl⟩
theorem eX10_init_247 : zD cX10_init 247 (.iconst 4) 1 248 := ⟨by decide +kernel, rfl⟩
theorem eX10_init_248 : zDj cX10_init 248 (.if_icmp .ge 20) 20 268 251 := ⟨by decide +kernel, rfl, by decide⟩
theorem eX10_init_251 : zD cX10_init 251 (.aload_n 0) 1 252 := ⟨by decide +kernel, rfl⟩
theorem eX10_init_252 : zD cX10_init 252 (.getfield 7) 3 255 := ⟨by decide +kernel, rfl⟩
theorem eX10_init_255 : zD cX10_init 255 (.sipush 610) 3 258 := ⟨by decide +kernel, rfl⟩
theorem eX10_init_258 : zD cX10_init 258 (.iload_n 1) 1 259 := ⟨by decide +kernel, rfl⟩
theorem eX10_init_259 : zD cX10_init 259 .iadd 1 260 := ⟨by decide +kernel, rfl⟩
theorem eX10_init_260 : zD cX10_init 260 (.iconst (-1)) 1 261 := ⟨by decide +kernel, rfl⟩
theorem eX10_init_261 : zD cX10_init 261 .iastore 1 262 := ⟨by decide +kernel, rfl⟩
theorem eX10_init_262 : zD cX10_init 262 (.iinc 1 1) 3 265 := ⟨by decide +kernel, rfl⟩
theorem eX10_init_265 : zDj cX10_init 265 (.goto (-19)) (-19) 246 268 := ⟨by decide +kernel, rfl, by decide⟩
theorem eX10_init_268 : zD cX10_init 268 (.aload_n 0) 1 269 := ⟨by decide +kernel, rfl⟩
theorem eX10_init_269 : zD cX10_init 269 (.getfield 7) 3 272 := ⟨by decide +kernel, rfl⟩
theorem eX10_init_272 : zD cX10_init 272 (.aload_n 0) 1 273 := ⟨by decide +kernel, rfl⟩
theorem eX10_init_273 : zD cX10_init 273 (.getfield 13) 3 276 := ⟨by decide +kernel, rfl⟩
theorem eX10_init_276 : zD cX10_init 276 (.invokestatic 79) 3 279 := ⟨by decide +kernel, rfl⟩
theorem eX10_init_279 : zD cX10_init 279 .return_ 1 280 := ⟨by decide +kernel, rfl⟩
theorem zsz_7 {o : Nat} (h : zin 294 o 7) : o + 74 ≤ 294 := by
  have h2 : ∀ o, o < 294 → zSH o = 7 → o + 74 ≤ 294 := by decide +kernel
  exact h2 o h.2 h.1
theorem zce_7_83 {o0 : Nat} (h0 : zin 294 o0 7) {i : Nat} (hi : i < 16) : zRF (o0 + 1) i = o0 + 8 + 3 * i ∧ zin 294 (o0 + 8 + 3 * i) 3 ∧ zLN (o0 + 8 + 3 * i + 1) = 32 ∧ zLN (o0 + 8 + 3 * i + 2) = 32 := by
  have h2 : ∀ o0, o0 < 294 → zSH o0 = 7 → ∀ i, i < 16 → zRF (o0 + 1) i = o0 + 8 + 3 * i ∧ (zSH (o0 + 8 + 3 * i) = 3 ∧ o0 + 8 + 3 * i < 294) ∧ zLN (o0 + 8 + 3 * i + 1) = 32 ∧ zLN (o0 + 8 + 3 * i + 2) = 32 := by decide +kernel
  exact h2 o0 h0.2 h0.1 i hi
theorem cl_X7_9 : Cond.classLink RX7 9 (zCn 3) ∈ ztb := by decide +kernel
theorem cw_3 : Cond.instantiable (zCn 3) (zNF 3) ∈ ztb ∧ Cond.initialized (zCn 3) ∈ ztb := by decide +kernel
theorem lk_X7_49 : zL RX7 49 yX3_init := Or.inl (by decide +kernel)
theorem zy_X3_init : zY yX3_init cX3_init 2 none 1 := by unfold zY; decide +kernel
theorem zi_X3_init : Cond.instanceMethod yX3_init ∈ ztb := by decide +kernel
theorem zce_7_115 {o0 : Nat} (h0 : zin 294 o0 7) {i : Nat} (hi : i < 6) : zRF (o0 + 2) i = o0 + 56 + 3 * i ∧ zin 294 (o0 + 56 + 3 * i) 3 ∧ zLN (o0 + 56 + 3 * i + 1) = 12 ∧ zLN (o0 + 56 + 3 * i + 2) = 12 := by
  have h2 : ∀ o0, o0 < 294 → zSH o0 = 7 → ∀ i, i < 6 → zRF (o0 + 2) i = o0 + 56 + 3 * i ∧ (zSH (o0 + 56 + 3 * i) = 3 ∧ o0 + 56 + 3 * i < 294) ∧ zLN (o0 + 56 + 3 * i + 1) = 12 ∧ zLN (o0 + 56 + 3 * i + 2) = 12 := by decide +kernel
  exact h2 o0 h0.2 h0.1 i hi
theorem zce_4_88 {i : Nat} (hi : i < 4) : zRF 182 i = 198 + 3 * i ∧ zin 294 (198 + 3 * i) 3 ∧ zLN (198 + 3 * i + 1) = 32 ∧ zLN (198 + 3 * i + 2) = 32 := by
  have h2 : ∀ i, i < 4 → zRF 182 i = 198 + 3 * i ∧ (zSH (198 + 3 * i) = 3 ∧ 198 + 3 * i < 294) ∧ zLN (198 + 3 * i + 1) = 32 ∧ zLN (198 + 3 * i + 2) = 32 := by decide +kernel
  exact h2 i hi
theorem cl_X4_18 : Cond.classLink RX4 18 (zCn 3) ∈ ztb := by decide +kernel
theorem lk_X4_55 : zL RX4 55 yX3_init := Or.inl (by decide +kernel)
theorem zce_9_127 {i : Nat} (hi : i < 6) : zRF 149 i = 225 + 6 * i ∧ zin 294 (225 + 6 * i) 6 ∧ True := by
  have h2 : ∀ i, i < 6 → zRF 149 i = 225 + 6 * i ∧ (zSH (225 + 6 * i) = 6 ∧ 225 + 6 * i < 294) ∧ True := by decide +kernel
  exact h2 i hi
theorem cl_X9_19 : Cond.classLink RX9 19 (zCn 6) ∈ ztb := by decide +kernel
theorem cw_6 : Cond.instantiable (zCn 6) (zNF 6) ∈ ztb ∧ Cond.initialized (zCn 6) ∈ ztb := by decide +kernel
theorem lk_X9_80 : zL RX9 80 yX6_init := Or.inr ⟨"BrokenFugue", by decide +kernel⟩
theorem zy_X6_init : zY yX6_init cX6_init 1 none 0 := by unfold zY; decide +kernel
theorem zi_X6_init : Cond.instanceMethod yX6_init ∈ ztb := by decide +kernel
theorem zce_9_154 {i : Nat} (hi : i < 4) : zRF 224 i = 261 + 3 * i ∧ zin 294 (261 + 3 * i) 3 ∧ zLN (261 + 3 * i + 1) = 32 ∧ zLN (261 + 3 * i + 2) = 32 := by
  have h2 : ∀ i, i < 4 → zRF 224 i = 261 + 3 * i ∧ (zSH (261 + 3 * i) = 3 ∧ 261 + 3 * i < 294) ∧ zLN (261 + 3 * i + 1) = 32 ∧ zLN (261 + 3 * i + 2) = 32 := by decide +kernel
  exact h2 i hi
theorem cl_X9_70 : Cond.classLink RX9 70 (zCn 3) ∈ ztb := by decide +kernel
theorem lk_X9_81 : zL RX9 81 yX3_init := Or.inl (by decide +kernel)
theorem lo_X0_3 : Cond.methodLink RX0 3 objectInit ∈ ztb := by decide +kernel
theorem cl_X0_9 : Cond.classLink RX0 9 (zCn 2) ∈ ztb := by decide +kernel
theorem cw_2 : Cond.instantiable (zCn 2) (zNF 2) ∈ ztb ∧ Cond.initialized (zCn 2) ∈ ztb := by decide +kernel
theorem lk_X0_11 : zL RX0 11 yX2_init := Or.inr ⟨"BrokenFugue", by decide +kernel⟩
theorem zy_X2_init : zY yX2_init cX2_init 1 none 0 := by unfold zY; decide +kernel
theorem zi_X2_init : Cond.instanceMethod yX2_init ∈ ztb := by decide +kernel
theorem fd_X0_12 : zFd RX0 12 0 0 (.object "BrokenFugue$Judge") := by unfold zFd; decide +kernel
theorem fd_X0_18 : zFd RX0 18 0 1 (.array .int) := by unfold zFd; decide +kernel
theorem fd_X0_22 : zFd RX0 22 0 2 (.array .int) := by unfold zFd; decide +kernel
theorem fd_X0_25 : zFd RX0 25 0 3 (.array .int) := by unfold zFd; decide +kernel
theorem lo_X1_3 : Cond.methodLink RX1 3 objectInit ∈ ztb := by decide +kernel
theorem cl_X1_9 : Cond.classLink RX1 9 (zCn 2) ∈ ztb := by decide +kernel
theorem lk_X1_11 : zL RX1 11 yX2_init := Or.inr ⟨"BrokenFugue", by decide +kernel⟩
theorem fd_X1_12 : zFd RX1 12 1 0 (.object "BrokenFugue$Judge") := by unfold zFd; decide +kernel
theorem cl_X1_18 : Cond.classLink RX1 18 (zCn 3) ∈ ztb := by decide +kernel
theorem lk_X1_20 : zL RX1 20 yX3_init := Or.inl (by decide +kernel)
theorem zl2_162 : zLN (162 + 1) = 32 ∧ zLN (162 + 2) = 32 := by decide +kernel
theorem fd_X1_23 : zFd RX1 23 1 1 (.object "BrokenFugue$Line") := by unfold zFd; decide +kernel
theorem zl2_165 : zLN (165 + 1) = 32 ∧ zLN (165 + 2) = 32 := by decide +kernel
theorem fd_X1_27 : zFd RX1 27 1 2 (.object "BrokenFugue$Line") := by unfold zFd; decide +kernel
theorem zl2_168 : zLN (168 + 1) = 32 ∧ zLN (168 + 2) = 32 := by decide +kernel
theorem fd_X1_30 : zFd RX1 30 1 3 (.object "BrokenFugue$Line") := by unfold zFd; decide +kernel
theorem zl2_171 : zLN (171 + 1) = 12 ∧ zLN (171 + 2) = 12 := by decide +kernel
theorem fd_X1_33 : zFd RX1 33 1 4 (.object "BrokenFugue$Line") := by unfold zFd; decide +kernel
theorem fd_X1_36 : zFd RX1 36 1 5 (.array .int) := by unfold zFd; decide +kernel
theorem fd_X1_40 : zFd RX1 40 1 6 (.array .int) := by unfold zFd; decide +kernel
theorem fd_X1_43 : zFd RX1 43 1 7 (.array .int) := by unfold zFd; decide +kernel
theorem lo_X7_3 : Cond.methodLink RX7 3 objectInit ∈ ztb := by decide +kernel
theorem cl_X7_9q : Cond.classLink RX7 9 "BrokenFugue$Line" ∈ ztb := by decide +kernel
theorem fd_X7_11 : zFd RX7 11 7 0 (.array (.object "BrokenFugue$Line")) := by unfold zFd; decide +kernel
theorem fd_X7_17 : zFd RX7 17 7 1 (.array (.object "BrokenFugue$Line")) := by unfold zFd; decide +kernel
theorem fd_X7_20 : zFd RX7 20 7 2 (.array .int) := by unfold zFd; decide +kernel
theorem fd_X7_24 : zFd RX7 24 7 3 (.array .int) := by unfold zFd; decide +kernel
theorem fd_X7_27 : zFd RX7 27 7 4 (.array .int) := by unfold zFd; decide +kernel
theorem fd_X7_30 : zFd RX7 30 7 5 (.array .int) := by unfold zFd; decide +kernel
theorem fd_X7_33 : zFd RX7 33 7 6 (.array .int) := by unfold zFd; decide +kernel
theorem lk_X7_52 : zL RX7 52 yJ7_fill_53178 := Or.inl (by decide +kernel)
theorem lo_X4_3 : Cond.methodLink RX4 3 objectInit ∈ ztb := by decide +kernel
theorem cl_X4_9 : Cond.classLink RX4 9 (zCn 2) ∈ ztb := by decide +kernel
theorem lk_X4_11 : zL RX4 11 yX2_init := Or.inr ⟨"BrokenFugue", by decide +kernel⟩
theorem fd_X4_12 : zFd RX4 12 4 0 (.object "BrokenFugue$Judge") := by unfold zFd; decide +kernel
theorem cl_X4_18q : Cond.classLink RX4 18 "BrokenFugue$Line" ∈ ztb := by decide +kernel
theorem fd_X4_20 : zFd RX4 20 4 1 (.array (.object "BrokenFugue$Line")) := by unfold zFd; decide +kernel
theorem cl_X4_24m : Cond.classLink RX4 24 "[[I" ∈ ztb := by decide +kernel
theorem zmi_183 : ∀ j, j < 6 → zSH (183 + 1 + j) = 20 ∧ zLN (183 + 1 + j) = 225 ∧ zRF 183 j = 183 + 1 + j := by decide +kernel
theorem fd_X4_26 : zFd RX4 26 4 2 (.array (.array .int)) := by unfold zFd; decide +kernel
theorem zmi_190 : ∀ j, j < 6 → zSH (190 + 1 + j) = 20 ∧ zLN (190 + 1 + j) = 225 ∧ zRF 190 j = 190 + 1 + j := by decide +kernel
theorem fd_X4_29 : zFd RX4 29 4 3 (.array (.array .int)) := by unfold zFd; decide +kernel
theorem fd_X4_32 : zFd RX4 32 4 4 (.array .int) := by unfold zFd; decide +kernel
theorem zo_184 : zin 294 184 20 := by unfold zin; decide +kernel
theorem zo_185 : zin 294 185 20 := by unfold zin; decide +kernel
theorem zo_186 : zin 294 186 20 := by unfold zin; decide +kernel
theorem zo_187 : zin 294 187 20 := by unfold zin; decide +kernel
theorem zo_188 : zin 294 188 20 := by unfold zin; decide +kernel
theorem zo_189 : zin 294 189 20 := by unfold zin; decide +kernel
theorem zo_191 : zin 294 191 20 := by unfold zin; decide +kernel
theorem zo_192 : zin 294 192 20 := by unfold zin; decide +kernel
theorem zo_193 : zin 294 193 20 := by unfold zin; decide +kernel
theorem zo_194 : zin 294 194 20 := by unfold zin; decide +kernel
theorem zo_195 : zin 294 195 20 := by unfold zin; decide +kernel
theorem zo_196 : zin 294 196 20 := by unfold zin; decide +kernel
theorem lo_X9_1 : Cond.methodLink RX9 1 objectInit ∈ ztb := by decide +kernel
theorem cl_X9_7 : Cond.classLink RX9 7 (zCn 7) ∈ ztb := by decide +kernel
theorem cw_7 : Cond.instantiable (zCn 7) (zNF 7) ∈ ztb ∧ Cond.initialized (zCn 7) ∈ ztb := by decide +kernel
theorem lk_X9_9 : zL RX9 9 yX7_init := Or.inl (by decide +kernel)
theorem zy_X7_init : zY yX7_init cX7_init 2 none 0 := by unfold zY; decide +kernel
theorem zi_X7_init : Cond.instanceMethod yX7_init ∈ ztb := by decide +kernel
theorem fd_X9_10 : zFd RX9 10 9 0 (.object "BrokenFugue$State") := by unfold zFd; decide +kernel
theorem fd_X9_16 : zFd RX9 16 9 1 (.object "BrokenFugue$State") := by unfold zFd; decide +kernel
theorem cl_X9_19q : Cond.classLink RX9 19 "BrokenFugue$Rules" ∈ ztb := by decide +kernel
theorem fd_X9_21 : zFd RX9 21 9 2 (.array (.object "BrokenFugue$Rules")) := by unfold zFd; decide +kernel
theorem cl_X9_25 : Cond.classLink RX9 25 (zCn 5) ∈ ztb := by decide +kernel
theorem cw_5 : Cond.instantiable (zCn 5) (zNF 5) ∈ ztb ∧ Cond.initialized (zCn 5) ∈ ztb := by decide +kernel
theorem lk_X9_27 : zL RX9 27 yX5_init := Or.inr ⟨"BrokenFugue", by decide +kernel⟩
theorem zy_X5_init : zY yX5_init cX5_init 1 none 0 := by unfold zY; decide +kernel
theorem zi_X5_init : Cond.instanceMethod yX5_init ∈ ztb := by decide +kernel
theorem fd_X9_28 : zFd RX9 28 9 3 (.object "BrokenFugue$Reader") := by unfold zFd; decide +kernel
theorem cl_X9_32 : Cond.classLink RX9 32 (zCn 2) ∈ ztb := by decide +kernel
theorem lk_X9_34 : zL RX9 34 yX2_init := Or.inr ⟨"BrokenFugue", by decide +kernel⟩
theorem fd_X9_35 : zFd RX9 35 9 4 (.object "BrokenFugue$Judge") := by unfold zFd; decide +kernel
theorem cl_X9_39 : Cond.classLink RX9 39 (zCn 1) ∈ ztb := by decide +kernel
theorem cw_1 : Cond.instantiable (zCn 1) (zNF 1) ∈ ztb ∧ Cond.initialized (zCn 1) ∈ ztb := by decide +kernel
theorem lk_X9_41 : zL RX9 41 yX1_init := Or.inr ⟨"BrokenFugue", by decide +kernel⟩
theorem zy_X1_init : zY yX1_init cX1_init 1 none 0 := by unfold zY; decide +kernel
theorem zi_X1_init : Cond.instanceMethod yX1_init ∈ ztb := by decide +kernel
theorem fd_X9_42 : zFd RX9 42 9 5 (.object "BrokenFugue$Fitter") := by unfold zFd; decide +kernel
theorem cl_X9_46 : Cond.classLink RX9 46 (zCn 4) ∈ ztb := by decide +kernel
theorem cw_4 : Cond.instantiable (zCn 4) (zNF 4) ∈ ztb ∧ Cond.initialized (zCn 4) ∈ ztb := by decide +kernel
theorem lk_X9_48 : zL RX9 48 yX4_init := Or.inl (by decide +kernel)
theorem zy_X4_init : zY yX4_init cX4_init 2 none 0 := by unfold zY; decide +kernel
theorem zi_X4_init : Cond.instanceMethod yX4_init ∈ ztb := by decide +kernel
theorem fd_X9_49 : zFd RX9 49 9 6 (.object "BrokenFugue$Maker") := by unfold zFd; decide +kernel
theorem cl_X9_53 : Cond.classLink RX9 53 (zCn 0) ∈ ztb := by decide +kernel
theorem cw_0 : Cond.instantiable (zCn 0) (zNF 0) ∈ ztb ∧ Cond.initialized (zCn 0) ∈ ztb := by decide +kernel
theorem lk_X9_55 : zL RX9 55 yX0_init := Or.inr ⟨"BrokenFugue", by decide +kernel⟩
theorem zy_X0_init : zY yX0_init cX0_init 1 none 0 := by unfold zY; decide +kernel
theorem zi_X0_init : Cond.instanceMethod yX0_init ∈ ztb := by decide +kernel
theorem fd_X9_56 : zFd RX9 56 9 7 (.object "BrokenFugue$Binder") := by unfold zFd; decide +kernel
theorem cl_X9_60 : Cond.classLink RX9 60 (zCn 8) ∈ ztb := by decide +kernel
theorem cw_8 : Cond.instantiable (zCn 8) (zNF 8) ∈ ztb ∧ Cond.initialized (zCn 8) ∈ ztb := by decide +kernel
theorem lk_X9_62 : zL RX9 62 yX8_init := Or.inr ⟨"BrokenFugue", by decide +kernel⟩
theorem zy_X8_init : zY yX8_init cX8_init 1 none 0 := by unfold zY; decide +kernel
theorem zi_X8_init : Cond.instanceMethod yX8_init ∈ ztb := by decide +kernel
theorem fd_X9_63 : zFd RX9 63 9 8 (.object "BrokenFugue$Steps") := by unfold zFd; decide +kernel
theorem fd_X9_67 : zFd RX9 67 9 9 (.object "BrokenFugue$Steps") := by unfold zFd; decide +kernel
theorem cl_X9_70q : Cond.classLink RX9 70 "BrokenFugue$Line" ∈ ztb := by decide +kernel
theorem fd_X9_72 : zFd RX9 72 9 10 (.array (.object "BrokenFugue$Line")) := by unfold zFd; decide +kernel
theorem lo_X10_1 : Cond.methodLink RX10 1 objectInit ∈ ztb := by decide +kernel
theorem fd_X10_7 : zFd RX10 7 10 0 (.array .int) := by unfold zFd; decide +kernel
theorem zn_275 : zLN 275 = 700 := by decide +kernel
theorem fd_X10_13 : zFd RX10 13 10 1 (.array .int) := by unfold zFd; decide +kernel
theorem w_5400 : zw 5400 = 5400 := by decide +kernel
theorem fd_X10_16 : zFd RX10 16 10 2 (.array .int) := by unfold zFd; decide +kernel
theorem fd_X10_19 : zFd RX10 19 10 3 (.array .int) := by unfold zFd; decide +kernel
theorem w_160 : zw 160 = 160 := by decide +kernel
theorem fd_X10_29 : zFd RX10 29 10 16 (.array .int) := by unfold zFd; decide +kernel
theorem fd_X10_32 : zFd RX10 32 10 21 (.array .int) := by unfold zFd; decide +kernel
theorem w_330 : zw 330 = 330 := by decide +kernel
theorem ca_22 : Cond.arrayClass .long ∈ ztb := by decide +kernel
theorem fd_X10_35 : zFd RX10 35 10 22 (.array .long) := by unfold zFd; decide +kernel
theorem ca_21 : Cond.arrayClass .boolean ∈ ztb := by decide +kernel
theorem fd_X10_39 : zFd RX10 39 10 23 (.array .boolean) := by unfold zFd; decide +kernel
theorem fd_X10_43 : zFd RX10 43 10 24 (.array .int) := by unfold zFd; decide +kernel
theorem fd_X10_46 : zFd RX10 46 10 25 (.array .boolean) := by unfold zFd; decide +kernel
theorem fd_X10_49 : zFd RX10 49 10 29 (.array .int) := by unfold zFd; decide +kernel
theorem fd_X10_52 : zFd RX10 52 10 30 (.array .int) := by unfold zFd; decide +kernel
theorem fd_X10_55 : zFd RX10 55 10 35 (.array .int) := by unfold zFd; decide +kernel
theorem fd_X10_58 : zFd RX10 58 10 36 (.array .int) := by unfold zFd; decide +kernel
theorem fd_X10_61 : zFd RX10 61 10 37 (.array .int) := by unfold zFd; decide +kernel
theorem fd_X10_64 : zFd RX10 64 10 39 (.array .int) := by unfold zFd; decide +kernel
theorem w_1350 : zw 1350 = 1350 := by decide +kernel
theorem fd_X10_67 : zFd RX10 67 10 40 (.array .int) := by unfold zFd; decide +kernel
theorem fd_X10_70 : zFd RX10 70 10 41 (.array .int) := by unfold zFd; decide +kernel
theorem fd_X10_73 : zFd RX10 73 10 42 (.array .int) := by unfold zFd; decide +kernel
theorem fd_X10_76 : zFd RX10 76 10 43 (.array .int) := by unfold zFd; decide +kernel
theorem w_512 : zw 512 = 512 := by decide +kernel
theorem w_72 : zw 72 = 72 := by decide +kernel
theorem wS_init_83 {G : Zg} {p : Program} {l : Launch} {e : Env} {s : State} {m : MethodId} {args : Array Value} {below : List Frame} {meth : Method} {c : Code} (C : zC G p s m args meth c cX7_init 2 RX7 none) (hO : zO s) {res : Int × Zm} (o0 : Nat) (h0 : zin 294 o0 7) (ρ ρ0 : Zp) (K : Zm → Zr) (hK : ∀ σ : Zm, zR G p l e (zrc 2 73 1296) s m args below meth c 2 (55) (1140) (MQ below (zQc G (o0 + 74) (zcan ρ0 o0 (o0 + 74)) none res.2) args s 73 1296 (zA G)) (o0 + 56) (zρS1 ρ o0 16) res σ (K σ) [(0, .ref (zad G o0))] 113 []) : ∀ (n : Nat) (x1 : Int) (n1 : zw x1 = x1) (hx : 0 ≤ x1 ∧ x1 ≤ 16) (σ : Zm), zR G p l e (zrc 2 73 1296) s m args below meth c 2 (7 + 3 * x1.toNat) (84 + 66 * x1.toNat) (MQ below (zQc G (o0 + 74) (zcan ρ0 o0 (o0 + 74)) none res.2) args s 73 1296 (zA G)) (o0 + 8 + 3 * x1.toNat) (zρS1 ρ o0 x1.toNat) res σ (fS_init_83 n o0 x1 σ K) [(1, .int (zI x1)), (0, .ref (zad G o0))] 83 []
  | 0, _, _, _, _ => zr_none
  | n + 1, x1, n1, hx, σ => by
    have ih := fun (x1 : Int) (n1 : zw x1 = x1) (hx : 0 ≤ x1 ∧ x1 ≤ 16) (σ : Zm) => wS_init_83 (l := l) (e := e) (below := below) C hO (res := res) o0 h0 ρ ρ0 K hK n x1 n1 hx σ
    rw [fS_init_83]
    refine zr_iloadn C 0 eX7_init_83 rfl ?_
    refine zr_aloadn C 1 eX7_init_84 rfl ?_
    refine zr_getR C ff_X7_11 rfl ⟨(h0).1, by omega⟩ (by unfold zρS1; grind) ((zk_7_0 h0).1) eX7_init_85 ?_
    refine zr_alen (A := 16) C ⟨((zk_7_0 h0).2).1, by omega⟩ (by decide) (zln_7_0 h0) rfl eX7_init_88 ?_
    refine zr_icmp_geh C eX7_init_89 n1 w_16 (fun hc => ?_) (fun hc => ?_)
    · have hx9 : x1 = 16 := by omega
      subst hx9
      refine zr_lv [1] rfl ?_
      exact hK σ
    have hi : x1.toNat < 16 := by omega
    obtain ⟨f1, f2, f3⟩ := zce_7_83 h0 hi
    refine zr_aloadn C 1 eX7_init_92 rfl ?_
    refine zr_getR C ff_X7_11 rfl ⟨(h0).1, by omega⟩ (by unfold zρS1; grind) ((zk_7_0 h0).1) eX7_init_93 ?_
    refine zr_iloadn C 0 eX7_init_96 rfl ?_
    refine zr_new (ci := 3) C (by decide) cl_X7_9 cw_3 f2.1 ⟨by show _ ≤ 73; omega, by show _ + 2 ≤ 1296; omega⟩ eX7_init_97 (fun σ1 => ?_)
    refine zr_dup C eX7_init_100 rfl ?_
    refine zr_bipush (a := 32) C eX7_init_101 rfl ?_
    refine zr_init C hO [.int (zI 32)] zy_X3_init zi_X3_init rfl lk_X7_49 ⟨⟨Nat.le_of_ble_eq_true rfl, Nat.le_of_ble_eq_true rfl⟩, by show _ ≤ 73; omega, by show _ + 2 + 2 * 32 ≤ 1296; omega⟩ (fun r hr => zqL_init l G _ σ1 (o0 + 8 + 3 * x1.toNat) f2 32 f3 32 rfl w_32 r hr) rfl rfl (Nat.le_of_ble_eq_true rfl) eX7_init_103 (fun σ2 => ?_)
    refine zr_aast23 C ⟨((zk_7_0 h0).2).1, by omega⟩ (zln_7_0 h0) n1 (by omega) f1 ⟨f2.1, by omega⟩ eX7_init_106 ?_
    refine zr_iinc (lv' := [(1, .int (zI (x1 + 1))), (0, .ref (zad G o0))]) C 0 eX7_init_107 rfl (by decide) rfl ?_
    refine zr_goto C eX7_init_110 ?_
    have hx1 : zw (x1 + 1) = x1 + 1 := zw_id (by omega) (by omega)
    have hx2 : (x1 + 1).toNat = x1.toNat + 1 := by omega
    rw [hx1]
    refine zr_ρ (ρ' := zρS1 ρ o0 ((x1 + 1).toNat)) (by have := h0.2; have := zsz_7 h0; omega) (fun p hp k hr => ?_) ?_
    · rw [hx2]
      exact zρS1_step _ _ _ _ _
    refine zr_cs (cells' := 7 + 3 * (x1 + 1).toNat) (slots' := 84 + 66 * (x1 + 1).toNat) (n' := o0 + 8 + 3 * (x1 + 1).toNat) (by omega) (by rw [hx2]; show _ + 2 + _ = _; omega) (by omega) ?_
    exact ih (x1 + 1) (zw_id (by omega) (by omega)) (by omega) σ2
theorem wS_init_115 {G : Zg} {p : Program} {l : Launch} {e : Env} {s : State} {m : MethodId} {args : Array Value} {below : List Frame} {meth : Method} {c : Code} (C : zC G p s m args meth c cX7_init 2 RX7 none) (hO : zO s) {res : Int × Zm} (o0 : Nat) (h0 : zin 294 o0 7) (ρ ρ0 : Zp) (K : Zm → Zr) (hK : ∀ σ : Zm, zR G p l e (zrc 2 73 1296) s m args below meth c 2 (73) (1296) (MQ below (zQc G (o0 + 74) (zcan ρ0 o0 (o0 + 74)) none res.2) args s 73 1296 (zA G)) (o0 + 74) (zρS2 ρ o0 6) res σ (K σ) [(0, .ref (zad G o0))] 145 []) : ∀ (n : Nat) (x1 : Int) (n1 : zw x1 = x1) (hx : 0 ≤ x1 ∧ x1 ≤ 6) (σ : Zm), zR G p l e (zrc 2 73 1296) s m args below meth c 2 (55 + 3 * x1.toNat) (1140 + 26 * x1.toNat) (MQ below (zQc G (o0 + 74) (zcan ρ0 o0 (o0 + 74)) none res.2) args s 73 1296 (zA G)) (o0 + 56 + 3 * x1.toNat) (zρS2 ρ o0 x1.toNat) res σ (fS_init_115 n o0 x1 σ K) [(1, .int (zI x1)), (0, .ref (zad G o0))] 115 []
  | 0, _, _, _, _ => zr_none
  | n + 1, x1, n1, hx, σ => by
    have ih := fun (x1 : Int) (n1 : zw x1 = x1) (hx : 0 ≤ x1 ∧ x1 ≤ 6) (σ : Zm) => wS_init_115 (l := l) (e := e) (below := below) C hO (res := res) o0 h0 ρ ρ0 K hK n x1 n1 hx σ
    rw [fS_init_115]
    refine zr_iloadn C 0 eX7_init_115 rfl ?_
    refine zr_aloadn C 1 eX7_init_116 rfl ?_
    refine zr_getR C ff_X7_17 rfl ⟨(h0).1, by omega⟩ (by unfold zρS2; grind) ((zk_7_1 h0).1) eX7_init_117 ?_
    refine zr_alen (A := 6) C ⟨((zk_7_1 h0).2).1, by omega⟩ (by decide) (zln_7_1 h0) rfl eX7_init_120 ?_
    refine zr_icmp_geh C eX7_init_121 n1 w_6 (fun hc => ?_) (fun hc => ?_)
    · have hx9 : x1 = 6 := by omega
      subst hx9
      refine zr_lv [1] rfl ?_
      exact hK σ
    have hi : x1.toNat < 6 := by omega
    obtain ⟨f1, f2, f3⟩ := zce_7_115 h0 hi
    refine zr_aloadn C 1 eX7_init_124 rfl ?_
    refine zr_getR C ff_X7_17 rfl ⟨(h0).1, by omega⟩ (by unfold zρS2; grind) ((zk_7_1 h0).1) eX7_init_125 ?_
    refine zr_iloadn C 0 eX7_init_128 rfl ?_
    refine zr_new (ci := 3) C (by decide) cl_X7_9 cw_3 f2.1 ⟨by show _ ≤ 73; omega, by show _ + 2 ≤ 1296; omega⟩ eX7_init_129 (fun σ1 => ?_)
    refine zr_dup C eX7_init_132 rfl ?_
    refine zr_bipush (a := 12) C eX7_init_133 rfl ?_
    refine zr_init C hO [.int (zI 12)] zy_X3_init zi_X3_init rfl lk_X7_49 ⟨⟨Nat.le_of_ble_eq_true rfl, Nat.le_of_ble_eq_true rfl⟩, by show _ ≤ 73; omega, by show _ + 2 + 2 * 12 ≤ 1296; omega⟩ (fun r hr => zqL_init l G _ σ1 (o0 + 56 + 3 * x1.toNat) f2 12 f3 12 rfl w_12 r hr) rfl rfl (Nat.le_of_ble_eq_true rfl) eX7_init_135 (fun σ2 => ?_)
    refine zr_aast23 C ⟨((zk_7_1 h0).2).1, by omega⟩ (zln_7_1 h0) n1 (by omega) f1 ⟨f2.1, by omega⟩ eX7_init_138 ?_
    refine zr_iinc (lv' := [(1, .int (zI (x1 + 1))), (0, .ref (zad G o0))]) C 0 eX7_init_139 rfl (by decide) rfl ?_
    refine zr_goto C eX7_init_142 ?_
    have hx1 : zw (x1 + 1) = x1 + 1 := zw_id (by omega) (by omega)
    have hx2 : (x1 + 1).toNat = x1.toNat + 1 := by omega
    rw [hx1]
    refine zr_ρ (ρ' := zρS2 ρ o0 ((x1 + 1).toNat)) (by have := h0.2; have := zsz_7 h0; omega) (fun p hp k hr => ?_) ?_
    · rw [hx2]
      exact zρS2_step _ _ _ _ _
    refine zr_cs (cells' := 55 + 3 * (x1 + 1).toNat) (slots' := 1140 + 26 * (x1 + 1).toNat) (n' := o0 + 56 + 3 * (x1 + 1).toNat) (by omega) (by rw [hx2]; show _ + 2 + _ = _; omega) (by omega) ?_
    exact ih (x1 + 1) (zw_id (by omega) (by omega)) (by omega) σ2
theorem wK_init_88 {G : Zg} {p : Program} {l : Launch} {e : Env} {s : State} {m : MethodId} {args : Array Value} {below : List Frame} {meth : Method} {c : Code} (C : zC G p s m args meth c cX4_init 2 RX4 none) (hO : zO s) {res : Int × Zm} (ρ ρ0 : Zp) (K : Zm → Zr) (hK : ∀ σ : Zm, zR G p l e (zrc 2 32 3320) s m args below meth c 2 (32) (3320) (MQ below (zQc G 210 (zcan ρ0 177 210) none res.2) args s 32 3320 (zA G)) (210) (zρK ρ 4) res σ (K σ) [(0, .ref (zad G 177))] 114 []) : ∀ (n : Nat) (x1 : Int) (n1 : zw x1 = x1) (hx : 0 ≤ x1 ∧ x1 ≤ 4) (σ : Zm), zR G p l e (zrc 2 32 3320) s m args below meth c 2 (20 + 3 * x1.toNat) (3056 + 66 * x1.toNat) (MQ below (zQc G 210 (zcan ρ0 177 210) none res.2) args s 32 3320 (zA G)) (198 + 3 * x1.toNat) (zρK ρ x1.toNat) res σ (fK_init_88 n x1 σ K) [(1, .int (zI x1)), (0, .ref (zad G 177))] 88 []
  | 0, _, _, _, _ => zr_none
  | n + 1, x1, n1, hx, σ => by
    have ih := fun (x1 : Int) (n1 : zw x1 = x1) (hx : 0 ≤ x1 ∧ x1 ≤ 4) (σ : Zm) => wK_init_88 (l := l) (e := e) (below := below) C hO (res := res) ρ ρ0 K hK n x1 n1 hx σ
    rw [fK_init_88]
    refine zr_iloadn C 0 eX4_init_88 rfl ?_
    refine zr_iconst C eX4_init_89 rfl ?_
    refine zr_icmp_geh C eX4_init_90 n1 w_4 (fun hc => ?_) (fun hc => ?_)
    · have hx9 : x1 = 4 := by omega
      subst hx9
      refine zr_lv [1] rfl ?_
      exact hK σ
    have hi : x1.toNat < 4 := by omega
    obtain ⟨f1, f2, f3⟩ := zce_4_88 hi
    refine zr_aloadn C 1 eX4_init_93 rfl ?_
    refine zr_getR C ff_X4_20 rfl ⟨(zo_177).1, by omega⟩ (by unfold zρK; grind) zf_177_1 eX4_init_94 ?_
    refine zr_iloadn C 0 eX4_init_97 rfl ?_
    refine zr_new (ci := 3) C (by decide) cl_X4_18 cw_3 f2.1 ⟨by show _ ≤ 32; omega, by show _ + 2 ≤ 3320; omega⟩ eX4_init_98 (fun σ1 => ?_)
    refine zr_dup C eX4_init_101 rfl ?_
    refine zr_bipush (a := 32) C eX4_init_102 rfl ?_
    refine zr_init C hO [.int (zI 32)] zy_X3_init zi_X3_init rfl lk_X4_55 ⟨⟨Nat.le_of_ble_eq_true rfl, Nat.le_of_ble_eq_true rfl⟩, by show _ ≤ 32; omega, by show _ + 2 + 2 * 32 ≤ 3320; omega⟩ (fun r hr => zqL_init l G _ σ1 (198 + 3 * x1.toNat) f2 32 f3 32 rfl w_32 r hr) rfl rfl (Nat.le_of_ble_eq_true rfl) eX4_init_104 (fun σ2 => ?_)
    refine zr_aast23 C ⟨(zo_182).1, by omega⟩ zn_182 n1 (by omega) f1 ⟨f2.1, by omega⟩ eX4_init_107 ?_
    refine zr_iinc (lv' := [(1, .int (zI (x1 + 1))), (0, .ref (zad G 177))]) C 0 eX4_init_108 rfl (by decide) rfl ?_
    refine zr_goto C eX4_init_111 ?_
    have hx1 : zw (x1 + 1) = x1 + 1 := zw_id (by omega) (by omega)
    have hx2 : (x1 + 1).toNat = x1.toNat + 1 := by omega
    rw [hx1]
    refine zr_ρ (ρ' := zρK ρ ((x1 + 1).toNat)) (by omega) (fun p hp k hr => ?_) ?_
    · rw [hx2]
      exact zρK_step _ _ _ _
    refine zr_cs (cells' := 20 + 3 * (x1 + 1).toNat) (slots' := 3056 + 66 * (x1 + 1).toNat) (n' := 198 + 3 * (x1 + 1).toNat) (by omega) (by rw [hx2]; show _ + 2 + _ = _; omega) (by omega) ?_
    exact ih (x1 + 1) (zw_id (by omega) (by omega)) (by omega) σ2
theorem wX_init_127 {G : Zg} {p : Program} {l : Launch} {e : Env} {s : State} {m : MethodId} {args : Array Value} {below : List Frame} {meth : Method} {c : Code} (C : zC G p s m args meth c cX9_init 2 RX9 none) (hO : zO s) {res : Int × Zm} (ρ ρ0 : Zp) (K : Zm → Zr) (hK : ∀ σ : Zm, zR G p l e (zrc 3 272 12522) s m args below meth c 2 (260) (12258) (MQ below (zQc G 273 (zcan ρ0 0 273) none res.2) args s 272 12522 (zA G)) (261) (zρX1 ρ 6) res σ (K σ) [(0, .ref (zad G 0))] 152 []) : ∀ (n : Nat) (x1 : Int) (n1 : zw x1 = x1) (hx : 0 ≤ x1 ∧ x1 ≤ 6) (σ : Zm), zR G p l e (zrc 3 272 12522) s m args below meth c 2 (224 + 6 * x1.toNat) (10176 + 347 * x1.toNat) (MQ below (zQc G 273 (zcan ρ0 0 273) none res.2) args s 272 12522 (zA G)) (225 + 6 * x1.toNat) (zρX1 ρ x1.toNat) res σ (fX_init_127 n x1 σ K) [(1, .int (zI x1)), (0, .ref (zad G 0))] 127 []
  | 0, _, _, _, _ => zr_none
  | n + 1, x1, n1, hx, σ => by
    have ih := fun (x1 : Int) (n1 : zw x1 = x1) (hx : 0 ≤ x1 ∧ x1 ≤ 6) (σ : Zm) => wX_init_127 (l := l) (e := e) (below := below) C hO (res := res) ρ ρ0 K hK n x1 n1 hx σ
    rw [fX_init_127]
    refine zr_iloadn C 0 eX9_init_127 rfl ?_
    refine zr_bipush (a := 6) C eX9_init_128 rfl ?_
    refine zr_icmp_geh C eX9_init_130 n1 w_6 (fun hc => ?_) (fun hc => ?_)
    · have hx9 : x1 = 6 := by omega
      subst hx9
      refine zr_lv [1] rfl ?_
      exact hK σ
    have hi : x1.toNat < 6 := by omega
    obtain ⟨f1, f2, f3⟩ := zce_9_127 hi
    refine zr_aloadn C 1 eX9_init_133 rfl ?_
    refine zr_getR C ff_X9_21 rfl ⟨(zo_0).1, by omega⟩ (by unfold zρX1; grind) zf_0_2 eX9_init_134 ?_
    refine zr_iloadn C 0 eX9_init_137 rfl ?_
    refine zr_new (ci := 6) C (by decide) cl_X9_19 cw_6 f2.1 ⟨by show _ ≤ 272; omega, by show _ + 7 ≤ 12522; omega⟩ eX9_init_138 (fun σ1 => ?_)
    refine zr_dup C eX9_init_141 rfl ?_
    refine zr_init C hO [] zy_X6_init zi_X6_init rfl lk_X9_80 ⟨⟨Nat.le_of_ble_eq_true rfl, Nat.le_of_ble_eq_true rfl⟩, by show _ ≤ 272; omega, by show _ + 7 + 340 ≤ 12522; omega⟩ (fun r hr => zqU_init l G _ σ1 (225 + 6 * x1.toNat) f2 r hr) rfl rfl (Nat.le_of_ble_eq_true rfl) eX9_init_142 (fun σ2 => ?_)
    refine zr_aast24 C ⟨(zo_149).1, by omega⟩ zn_149 n1 (by omega) f1 ⟨f2.1, by omega⟩ eX9_init_145 ?_
    refine zr_iinc (lv' := [(1, .int (zI (x1 + 1))), (0, .ref (zad G 0))]) C 0 eX9_init_146 rfl (by decide) rfl ?_
    refine zr_goto C eX9_init_149 ?_
    have hx1 : zw (x1 + 1) = x1 + 1 := zw_id (by omega) (by omega)
    have hx2 : (x1 + 1).toNat = x1.toNat + 1 := by omega
    rw [hx1]
    refine zr_ρ (ρ' := zρX1 ρ ((x1 + 1).toNat)) (by omega) (fun p hp k hr => ?_) ?_
    · rw [hx2]
      exact zρX1_step _ _ _ _
    refine zr_cs (cells' := 224 + 6 * (x1 + 1).toNat) (slots' := 10176 + 347 * (x1 + 1).toNat) (n' := 225 + 6 * (x1 + 1).toNat) (by omega) (by rw [hx2]; show _ + 7 + _ = _; omega) (by omega) ?_
    exact ih (x1 + 1) (zw_id (by omega) (by omega)) (by omega) σ2
theorem wX_init_154 {G : Zg} {p : Program} {l : Launch} {e : Env} {s : State} {m : MethodId} {args : Array Value} {below : List Frame} {meth : Method} {c : Code} (C : zC G p s m args meth c cX9_init 2 RX9 none) (hO : zO s) {res : Int × Zm} (ρ ρ0 : Zp) (K : Zm → Zr) (hK : ∀ σ : Zm, zR G p l e (zrc 3 272 12522) s m args below meth c 2 (272) (12522) (MQ below (zQc G 273 (zcan ρ0 0 273) none res.2) args s 272 12522 (zA G)) (273) (zρX2 ρ 4) res σ (K σ) [(0, .ref (zad G 0))] 180 []) : ∀ (n : Nat) (x1 : Int) (n1 : zw x1 = x1) (hx : 0 ≤ x1 ∧ x1 ≤ 4) (σ : Zm), zR G p l e (zrc 3 272 12522) s m args below meth c 2 (260 + 3 * x1.toNat) (12258 + 66 * x1.toNat) (MQ below (zQc G 273 (zcan ρ0 0 273) none res.2) args s 272 12522 (zA G)) (261 + 3 * x1.toNat) (zρX2 ρ x1.toNat) res σ (fX_init_154 n x1 σ K) [(1, .int (zI x1)), (0, .ref (zad G 0))] 154 []
  | 0, _, _, _, _ => zr_none
  | n + 1, x1, n1, hx, σ => by
    have ih := fun (x1 : Int) (n1 : zw x1 = x1) (hx : 0 ≤ x1 ∧ x1 ≤ 4) (σ : Zm) => wX_init_154 (l := l) (e := e) (below := below) C hO (res := res) ρ ρ0 K hK n x1 n1 hx σ
    rw [fX_init_154]
    refine zr_iloadn C 0 eX9_init_154 rfl ?_
    refine zr_iconst C eX9_init_155 rfl ?_
    refine zr_icmp_geh C eX9_init_156 n1 w_4 (fun hc => ?_) (fun hc => ?_)
    · have hx9 : x1 = 4 := by omega
      subst hx9
      refine zr_lv [1] rfl ?_
      exact hK σ
    have hi : x1.toNat < 4 := by omega
    obtain ⟨f1, f2, f3⟩ := zce_9_154 hi
    refine zr_aloadn C 1 eX9_init_159 rfl ?_
    refine zr_getR C ff_X9_72 rfl ⟨(zo_0).1, by omega⟩ (by unfold zρX2; grind) zf_0_10 eX9_init_160 ?_
    refine zr_iloadn C 0 eX9_init_163 rfl ?_
    refine zr_new (ci := 3) C (by decide) cl_X9_70 cw_3 f2.1 ⟨by show _ ≤ 272; omega, by show _ + 2 ≤ 12522; omega⟩ eX9_init_164 (fun σ1 => ?_)
    refine zr_dup C eX9_init_167 rfl ?_
    refine zr_bipush (a := 32) C eX9_init_168 rfl ?_
    refine zr_init C hO [.int (zI 32)] zy_X3_init zi_X3_init rfl lk_X9_81 ⟨⟨Nat.le_of_ble_eq_true rfl, Nat.le_of_ble_eq_true rfl⟩, by show _ ≤ 272; omega, by show _ + 2 + 2 * 32 ≤ 12522; omega⟩ (fun r hr => zqL_init l G _ σ1 (261 + 3 * x1.toNat) f2 32 f3 32 rfl w_32 r hr) rfl rfl (Nat.le_of_ble_eq_true rfl) eX9_init_170 (fun σ2 => ?_)
    refine zr_aast23 C ⟨(zo_224).1, by omega⟩ zn_224 n1 (by omega) f1 ⟨f2.1, by omega⟩ eX9_init_173 ?_
    refine zr_iinc (lv' := [(1, .int (zI (x1 + 1))), (0, .ref (zad G 0))]) C 0 eX9_init_174 rfl (by decide) rfl ?_
    refine zr_goto C eX9_init_177 ?_
    have hx1 : zw (x1 + 1) = x1 + 1 := zw_id (by omega) (by omega)
    have hx2 : (x1 + 1).toNat = x1.toNat + 1 := by omega
    rw [hx1]
    refine zr_ρ (ρ' := zρX2 ρ ((x1 + 1).toNat)) (by omega) (fun p hp k hr => ?_) ?_
    · rw [hx2]
      exact zρX2_step _ _ _ _
    refine zr_cs (cells' := 260 + 3 * (x1 + 1).toNat) (slots' := 12258 + 66 * (x1 + 1).toNat) (n' := 261 + 3 * (x1 + 1).toNat) (by omega) (by rw [hx2]; show _ + 2 + _ = _; omega) (by omega) ?_
    exact ih (x1 + 1) (zw_id (by omega) (by omega)) (by omega) σ2
theorem zqB_init (l : Launch) (G : Zg) (ρ : Zp) (σ : Zm) (res : Int × Zm) (he : fB_init σ = some res) : zMc l yX0_init cX0_init 1 2 G 211 ρ σ [.ref (zad G 210)] 218 (zcan ρ 210 218) res.2 7 2399 := by
  refine zMc_of he (by decide +kernel) rfl (Nat.le_of_ble_eq_true rfl) (lv := [(0, .ref (zad G 210))]) rfl (fun p e s m below meth c C hO hnm => ?_)
  unfold fB_init
  refine zr_aloadn C 0 eX0_init_0 rfl ?_
  refine zr_objInit C lo_X0_3 zw_oinit ⟨Nat.le_of_ble_eq_true rfl, Nat.le_of_ble_eq_true rfl⟩ (Nat.le_of_ble_eq_true rfl) eX0_init_1 ?_
  refine zr_aloadn C 0 eX0_init_4 rfl ?_
  refine zr_new (ci := 2) C (by decide) cl_X0_9 cw_2 (zo_211).1 ⟨Nat.le_of_ble_eq_true rfl, Nat.le_of_ble_eq_true rfl⟩ eX0_init_5 (fun σ1 => ?_)
  refine zr_dup C eX0_init_8 rfl ?_
  refine zr_init C hO [] zy_X2_init zi_X2_init rfl lk_X0_11 ⟨⟨Nat.le_of_ble_eq_true rfl, Nat.le_of_ble_eq_true rfl⟩, Nat.le_of_ble_eq_true rfl, Nat.le_of_ble_eq_true rfl⟩ (fun r hr => zqJ_init l G _ σ1 211 zo_211 r hr) rfl rfl (Nat.le_of_ble_eq_true rfl) eX0_init_9 (fun σ2 => ?_)
  refine zr_putR C fd_X0_12 rfl rfl hnm rfl ⟨(zo_210).1, by omega⟩ zf_210_0 eX0_init_12 ?_
  refine zr_aloadn C 0 eX0_init_15 rfl ?_
  refine zr_bipush (a := 8) C eX0_init_16 rfl ?_
  refine zr_newa20 C (N := 8) (A := 8) ca_20 (zo_215).1 zn_215 w_8 rfl (Nat.le_of_ble_eq_true rfl) ⟨Nat.le_of_ble_eq_true rfl, Nat.le_of_ble_eq_true rfl⟩ eX0_init_18 (fun σ3 => ?_)
  refine zr_putR C fd_X0_18 rfl rfl hnm rfl ⟨(zo_210).1, by omega⟩ zf_210_1 eX0_init_20 ?_
  refine zr_aloadn C 0 eX0_init_23 rfl ?_
  refine zr_bipush (a := 8) C eX0_init_24 rfl ?_
  refine zr_newa20 C (N := 8) (A := 8) ca_20 (zo_216).1 zn_216 w_8 rfl (Nat.le_of_ble_eq_true rfl) ⟨Nat.le_of_ble_eq_true rfl, Nat.le_of_ble_eq_true rfl⟩ eX0_init_26 (fun σ4 => ?_)
  refine zr_putR C fd_X0_22 rfl rfl hnm rfl ⟨(zo_210).1, by omega⟩ zf_210_2 eX0_init_28 ?_
  refine zr_aloadn C 0 eX0_init_31 rfl ?_
  refine zr_sipush (a := 2048) C eX0_init_32 rfl ?_
  refine zr_newa20 C (N := 2048) (A := 2048) ca_20 (zo_217).1 zn_217 w_2048 rfl (Nat.le_of_ble_eq_true rfl) ⟨Nat.le_of_ble_eq_true rfl, Nat.le_of_ble_eq_true rfl⟩ eX0_init_35 (fun σ5 => ?_)
  refine zr_putR C fd_X0_25 rfl rfl hnm rfl ⟨(zo_210).1, by omega⟩ zf_210_3 eX0_init_37 ?_
  refine zr_ρ (ρ' := zcan ρ 210 218) (by omega) (fun p hp k hr => ?_) ?_
  · have hk : p = 210 → k = 0 ∨ k = 1 ∨ k = 2 ∨ k = 3 := fun e => zir_0 (by rw [e]; exact (zo_210).1) hr
    have i5 : p ≠ 215 := fun e => zir_no (by rw [e]; rw [(zo_215).1]; decide) hr
    have i6 : p ≠ 216 := fun e => zir_no (by rw [e]; rw [(zo_216).1]; decide) hr
    have i7 : p ≠ 217 := fun e => zir_no (by rw [e]; rw [(zo_217).1]; decide) hr
    clear hr
    simp only [zcan, zρs, zρf, zρm, zρS1, zρS2, zρK, zρX1, zρX2, ztt]
    grind (splits := 200)
  exact zr_cret C (Nat.le_of_ble_eq_true rfl) (Nat.le_of_ble_eq_true rfl) eX0_init_40
theorem zqF_init (l : Launch) (G : Zg) (ρ : Zp) (σ : Zm) (res : Int × Zm) (he : fF_init σ = some res) : zMc l yX1_init cX1_init 1 2 G 158 ρ σ [.ref (zad G 157)] 177 (zcan ρ 157 177) res.2 19 747 := by
  refine zMc_of he (by decide +kernel) rfl (Nat.le_of_ble_eq_true rfl) (lv := [(0, .ref (zad G 157))]) rfl (fun p e s m below meth c C hO hnm => ?_)
  unfold fF_init
  refine zr_aloadn C 0 eX1_init_0 rfl ?_
  refine zr_objInit C lo_X1_3 zw_oinit ⟨Nat.le_of_ble_eq_true rfl, Nat.le_of_ble_eq_true rfl⟩ (Nat.le_of_ble_eq_true rfl) eX1_init_1 ?_
  refine zr_aloadn C 0 eX1_init_4 rfl ?_
  refine zr_new (ci := 2) C (by decide) cl_X1_9 cw_2 (zo_158).1 ⟨Nat.le_of_ble_eq_true rfl, Nat.le_of_ble_eq_true rfl⟩ eX1_init_5 (fun σ1 => ?_)
  refine zr_dup C eX1_init_8 rfl ?_
  refine zr_init C hO [] zy_X2_init zi_X2_init rfl lk_X1_11 ⟨⟨Nat.le_of_ble_eq_true rfl, Nat.le_of_ble_eq_true rfl⟩, Nat.le_of_ble_eq_true rfl, Nat.le_of_ble_eq_true rfl⟩ (fun r hr => zqJ_init l G _ σ1 158 zo_158 r hr) rfl rfl (Nat.le_of_ble_eq_true rfl) eX1_init_9 (fun σ2 => ?_)
  refine zr_putR C fd_X1_12 rfl rfl hnm rfl ⟨(zo_157).1, by omega⟩ zf_157_0 eX1_init_12 ?_
  refine zr_aloadn C 0 eX1_init_15 rfl ?_
  refine zr_new (ci := 3) C (by decide) cl_X1_18 cw_3 (zo_162).1 ⟨Nat.le_of_ble_eq_true rfl, Nat.le_of_ble_eq_true rfl⟩ eX1_init_16 (fun σ3 => ?_)
  refine zr_dup C eX1_init_19 rfl ?_
  refine zr_bipush (a := 32) C eX1_init_20 rfl ?_
  refine zr_init C hO [.int (zI 32)] zy_X3_init zi_X3_init rfl lk_X1_20 ⟨⟨Nat.le_of_ble_eq_true rfl, Nat.le_of_ble_eq_true rfl⟩, Nat.le_of_ble_eq_true rfl, Nat.le_of_ble_eq_true rfl⟩ (fun r hr => zqL_init l G _ σ3 162 zo_162 32 zl2_162 32 rfl w_32 r hr) rfl rfl (Nat.le_of_ble_eq_true rfl) eX1_init_22 (fun σ4 => ?_)
  refine zr_putR C fd_X1_23 rfl rfl hnm rfl ⟨(zo_157).1, by omega⟩ zf_157_1 eX1_init_25 ?_
  refine zr_aloadn C 0 eX1_init_28 rfl ?_
  refine zr_new (ci := 3) C (by decide) cl_X1_18 cw_3 (zo_165).1 ⟨Nat.le_of_ble_eq_true rfl, Nat.le_of_ble_eq_true rfl⟩ eX1_init_29 (fun σ5 => ?_)
  refine zr_dup C eX1_init_32 rfl ?_
  refine zr_bipush (a := 32) C eX1_init_33 rfl ?_
  refine zr_init C hO [.int (zI 32)] zy_X3_init zi_X3_init rfl lk_X1_20 ⟨⟨Nat.le_of_ble_eq_true rfl, Nat.le_of_ble_eq_true rfl⟩, Nat.le_of_ble_eq_true rfl, Nat.le_of_ble_eq_true rfl⟩ (fun r hr => zqL_init l G _ σ5 165 zo_165 32 zl2_165 32 rfl w_32 r hr) rfl rfl (Nat.le_of_ble_eq_true rfl) eX1_init_35 (fun σ6 => ?_)
  refine zr_putR C fd_X1_27 rfl rfl hnm rfl ⟨(zo_157).1, by omega⟩ zf_157_2 eX1_init_38 ?_
  refine zr_aloadn C 0 eX1_init_41 rfl ?_
  refine zr_new (ci := 3) C (by decide) cl_X1_18 cw_3 (zo_168).1 ⟨Nat.le_of_ble_eq_true rfl, Nat.le_of_ble_eq_true rfl⟩ eX1_init_42 (fun σ7 => ?_)
  refine zr_dup C eX1_init_45 rfl ?_
  refine zr_bipush (a := 32) C eX1_init_46 rfl ?_
  refine zr_init C hO [.int (zI 32)] zy_X3_init zi_X3_init rfl lk_X1_20 ⟨⟨Nat.le_of_ble_eq_true rfl, Nat.le_of_ble_eq_true rfl⟩, Nat.le_of_ble_eq_true rfl, Nat.le_of_ble_eq_true rfl⟩ (fun r hr => zqL_init l G _ σ7 168 zo_168 32 zl2_168 32 rfl w_32 r hr) rfl rfl (Nat.le_of_ble_eq_true rfl) eX1_init_48 (fun σ8 => ?_)
  refine zr_putR C fd_X1_30 rfl rfl hnm rfl ⟨(zo_157).1, by omega⟩ zf_157_3 eX1_init_51 ?_
  refine zr_aloadn C 0 eX1_init_54 rfl ?_
  refine zr_new (ci := 3) C (by decide) cl_X1_18 cw_3 (zo_171).1 ⟨Nat.le_of_ble_eq_true rfl, Nat.le_of_ble_eq_true rfl⟩ eX1_init_55 (fun σ9 => ?_)
  refine zr_dup C eX1_init_58 rfl ?_
  refine zr_bipush (a := 12) C eX1_init_59 rfl ?_
  refine zr_init C hO [.int (zI 12)] zy_X3_init zi_X3_init rfl lk_X1_20 ⟨⟨Nat.le_of_ble_eq_true rfl, Nat.le_of_ble_eq_true rfl⟩, Nat.le_of_ble_eq_true rfl, Nat.le_of_ble_eq_true rfl⟩ (fun r hr => zqL_init l G _ σ9 171 zo_171 12 zl2_171 12 rfl w_12 r hr) rfl rfl (Nat.le_of_ble_eq_true rfl) eX1_init_61 (fun σ10 => ?_)
  refine zr_putR C fd_X1_33 rfl rfl hnm rfl ⟨(zo_157).1, by omega⟩ zf_157_4 eX1_init_64 ?_
  refine zr_aloadn C 0 eX1_init_67 rfl ?_
  refine zr_bipush (a := 12) C eX1_init_68 rfl ?_
  refine zr_newa20 C (N := 12) (A := 12) ca_20 (zo_174).1 zn_174 w_12 rfl (Nat.le_of_ble_eq_true rfl) ⟨Nat.le_of_ble_eq_true rfl, Nat.le_of_ble_eq_true rfl⟩ eX1_init_70 (fun σ11 => ?_)
  refine zr_putR C fd_X1_36 rfl rfl hnm rfl ⟨(zo_157).1, by omega⟩ zf_157_5 eX1_init_72 ?_
  refine zr_aloadn C 0 eX1_init_75 rfl ?_
  refine zr_bipush (a := 88) C eX1_init_76 rfl ?_
  refine zr_newa20 C (N := 88) (A := 88) ca_20 (zo_175).1 zn_175 w_88 rfl (Nat.le_of_ble_eq_true rfl) ⟨Nat.le_of_ble_eq_true rfl, Nat.le_of_ble_eq_true rfl⟩ eX1_init_78 (fun σ12 => ?_)
  refine zr_putR C fd_X1_40 rfl rfl hnm rfl ⟨(zo_157).1, by omega⟩ zf_157_6 eX1_init_80 ?_
  refine zr_aloadn C 0 eX1_init_83 rfl ?_
  refine zr_bipush (a := 88) C eX1_init_84 rfl ?_
  refine zr_newa20 C (N := 88) (A := 88) ca_20 (zo_176).1 zn_176 w_88 rfl (Nat.le_of_ble_eq_true rfl) ⟨Nat.le_of_ble_eq_true rfl, Nat.le_of_ble_eq_true rfl⟩ eX1_init_86 (fun σ13 => ?_)
  refine zr_putR C fd_X1_43 rfl rfl hnm rfl ⟨(zo_157).1, by omega⟩ zf_157_7 eX1_init_88 ?_
  refine zr_aloadn C 0 eX1_init_91 rfl ?_
  refine zr_iconst C eX1_init_92 rfl ?_
  refine zr_putI C ff_X1_46 rfl ⟨(zo_157).1, by omega⟩ eX1_init_93 (fun σ14 => ?_)
  refine zr_aloadn C 0 eX1_init_96 rfl ?_
  refine zr_iconst C eX1_init_97 rfl ?_
  refine zr_putI C ff_X1_50 rfl ⟨(zo_157).1, by omega⟩ eX1_init_98 (fun σ15 => ?_)
  refine zr_aloadn C 0 eX1_init_101 rfl ?_
  refine zr_iconst C eX1_init_102 rfl ?_
  refine zr_putI C ff_X1_53 rfl ⟨(zo_157).1, by omega⟩ eX1_init_103 (fun σ16 => ?_)
  refine zr_aloadn C 0 eX1_init_106 rfl ?_
  refine zr_iconst C eX1_init_107 rfl ?_
  refine zr_putI C ff_X1_56 rfl ⟨(zo_157).1, by omega⟩ eX1_init_108 (fun σ17 => ?_)
  refine zr_ρ (ρ' := zcan ρ 157 177) (by omega) (fun p hp k hr => ?_) ?_
  · have hk : p = 157 → k = 0 ∨ k = 1 ∨ k = 2 ∨ k = 3 ∨ k = 4 ∨ k = 5 ∨ k = 6 ∨ k = 7 := fun e => zir_1 (by rw [e]; exact (zo_157).1) hr
    have i17 : p ≠ 174 := fun e => zir_no (by rw [e]; rw [(zo_174).1]; decide) hr
    have i18 : p ≠ 175 := fun e => zir_no (by rw [e]; rw [(zo_175).1]; decide) hr
    have i19 : p ≠ 176 := fun e => zir_no (by rw [e]; rw [(zo_176).1]; decide) hr
    clear hr
    simp only [zcan, zρs, zρf, zρm, zρS1, zρS2, zρK, zρX1, zρX2, ztt]
    grind (splits := 200)
  exact zr_cret C (Nat.le_of_ble_eq_true rfl) (Nat.le_of_ble_eq_true rfl) eX1_init_111
theorem zqS_init (l : Launch) (G : Zg) (ρ : Zp) (σ : Zm) (o0 : Nat) (h0 : zin 294 o0 7) (res : Int × Zm) (he : fS_init σ o0 = some res) : zMc l yX7_init cX7_init 2 2 G (o0 + 1) ρ σ [.ref (zad G o0)] (o0 + 74) (zcan ρ o0 (o0 + 74)) res.2 73 1296 := by
  refine zMc_of he (by decide +kernel) rfl (Nat.le_of_ble_eq_true rfl) (lv := [(0, .ref (zad G o0))]) rfl (fun p e s m below meth c C hO hnm => ?_)
  unfold fS_init
  refine zr_aloadn C 0 eX7_init_0 rfl ?_
  refine zr_objInit C lo_X7_3 zw_oinit ⟨Nat.le_of_ble_eq_true rfl, Nat.le_of_ble_eq_true rfl⟩ (Nat.le_of_ble_eq_true rfl) eX7_init_1 ?_
  refine zr_aloadn C 0 eX7_init_4 rfl ?_
  refine zr_bipush (a := 16) C eX7_init_5 rfl ?_
  refine zr_anew23 C hO (N := 16) (A := 16) cl_X7_9q ((zk_7_0 h0).2).1 (zln_7_0 h0) w_16 rfl (Nat.le_of_ble_eq_true rfl) ⟨Nat.le_of_ble_eq_true rfl, Nat.le_of_ble_eq_true rfl⟩ eX7_init_7 (fun σ1 => ?_)
  refine zr_putR C fd_X7_11 rfl rfl hnm rfl ⟨(h0).1, by omega⟩ ((zk_7_0 h0).1) eX7_init_10 ?_
  refine zr_aloadn C 0 eX7_init_13 rfl ?_
  refine zr_bipush (a := 6) C eX7_init_14 rfl ?_
  refine zr_anew23 C hO (N := 6) (A := 6) cl_X7_9q ((zk_7_1 h0).2).1 (zln_7_1 h0) w_6 rfl (Nat.le_of_ble_eq_true rfl) ⟨Nat.le_of_ble_eq_true rfl, Nat.le_of_ble_eq_true rfl⟩ eX7_init_16 (fun σ2 => ?_)
  refine zr_putR C fd_X7_17 rfl rfl hnm rfl ⟨(h0).1, by omega⟩ ((zk_7_1 h0).1) eX7_init_19 ?_
  refine zr_aloadn C 0 eX7_init_22 rfl ?_
  refine zr_iconst C eX7_init_23 rfl ?_
  refine zr_newa20 C (N := 4) (A := 4) ca_20 ((zk_7_2 h0).2).1 (zln_7_2 h0) w_4 rfl (Nat.le_of_ble_eq_true rfl) ⟨Nat.le_of_ble_eq_true rfl, Nat.le_of_ble_eq_true rfl⟩ eX7_init_24 (fun σ3 => ?_)
  refine zr_putR C fd_X7_20 rfl rfl hnm rfl ⟨(h0).1, by omega⟩ ((zk_7_2 h0).1) eX7_init_26 ?_
  refine zr_aloadn C 0 eX7_init_29 rfl ?_
  refine zr_bipush (a := 6) C eX7_init_30 rfl ?_
  refine zr_newa20 C (N := 6) (A := 6) ca_20 ((zk_7_3 h0).2).1 (zln_7_3 h0) w_6 rfl (Nat.le_of_ble_eq_true rfl) ⟨Nat.le_of_ble_eq_true rfl, Nat.le_of_ble_eq_true rfl⟩ eX7_init_32 (fun σ4 => ?_)
  refine zr_putR C fd_X7_24 rfl rfl hnm rfl ⟨(h0).1, by omega⟩ ((zk_7_3 h0).1) eX7_init_34 ?_
  refine zr_aloadn C 0 eX7_init_37 rfl ?_
  refine zr_bipush (a := 10) C eX7_init_38 rfl ?_
  refine zr_newa20 C (N := 10) (A := 10) ca_20 ((zk_7_4 h0).2).1 (zln_7_4 h0) w_10 rfl (Nat.le_of_ble_eq_true rfl) ⟨Nat.le_of_ble_eq_true rfl, Nat.le_of_ble_eq_true rfl⟩ eX7_init_40 (fun σ5 => ?_)
  refine zr_putR C fd_X7_27 rfl rfl hnm rfl ⟨(h0).1, by omega⟩ ((zk_7_4 h0).1) eX7_init_42 ?_
  refine zr_aloadn C 0 eX7_init_45 rfl ?_
  refine zr_bipush (a := 10) C eX7_init_46 rfl ?_
  refine zr_newa20 C (N := 10) (A := 10) ca_20 ((zk_7_5 h0).2).1 (zln_7_5 h0) w_10 rfl (Nat.le_of_ble_eq_true rfl) ⟨Nat.le_of_ble_eq_true rfl, Nat.le_of_ble_eq_true rfl⟩ eX7_init_48 (fun σ6 => ?_)
  refine zr_putR C fd_X7_30 rfl rfl hnm rfl ⟨(h0).1, by omega⟩ ((zk_7_5 h0).1) eX7_init_50 ?_
  refine zr_aloadn C 0 eX7_init_53 rfl ?_
  refine zr_bipush (a := 32) C eX7_init_54 rfl ?_
  refine zr_newa20 C (N := 32) (A := 32) ca_20 ((zk_7_6 h0).2).1 (zln_7_6 h0) w_32 rfl (Nat.le_of_ble_eq_true rfl) ⟨Nat.le_of_ble_eq_true rfl, Nat.le_of_ble_eq_true rfl⟩ eX7_init_56 (fun σ7 => ?_)
  refine zr_putR C fd_X7_33 rfl rfl hnm rfl ⟨(h0).1, by omega⟩ ((zk_7_6 h0).1) eX7_init_58 ?_
  refine zr_aloadn C 0 eX7_init_61 rfl ?_
  refine zr_iconst C eX7_init_62 rfl ?_
  refine zr_putI C ff_X7_36 rfl ⟨(h0).1, by omega⟩ eX7_init_63 (fun σ8 => ?_)
  refine zr_aloadn C 0 eX7_init_66 rfl ?_
  refine zr_iconst C eX7_init_67 rfl ?_
  refine zr_putI C ff_X7_40 rfl ⟨(h0).1, by omega⟩ eX7_init_68 (fun σ9 => ?_)
  refine zr_aloadn C 0 eX7_init_71 rfl ?_
  refine zr_iconst C eX7_init_72 rfl ?_
  refine zr_putI C ff_X7_43 rfl ⟨(h0).1, by omega⟩ eX7_init_73 (fun σ10 => ?_)
  refine zr_aloadn C 0 eX7_init_76 rfl ?_
  refine zr_iconst C eX7_init_77 rfl ?_
  refine zr_putI C ff_X7_46 rfl ⟨(h0).1, by omega⟩ eX7_init_78 (fun σ11 => ?_)
  refine zr_iconst C eX7_init_81 rfl ?_
  refine zr_istoren (lv' := [(1, .int (zI 0)), (0, .ref (zad G o0))]) C eX7_init_82 (by decide) rfl ?_
  refine zr_ρ (ρ' := zρS1 ρ o0 0) (by have := h0.2; have := zsz_7 h0; omega) (fun p hp k hr => ?_) ?_
  · have hk : p = o0 → k = 0 ∨ k = 1 ∨ k = 2 ∨ k = 3 ∨ k = 4 ∨ k = 5 ∨ k = 6 := fun e => zir_7 (by rw [e]; exact (h0).1) hr
    have i1 : p = (o0 + 1) → k < 16 := fun e => zir_arr (by rw [e, ((zk_7_0 h0).2).1]; decide) (by rw [e]; exact (zln_7_0 h0)) hr
    have i2 : p = (o0 + 2) → k < 6 := fun e => zir_arr (by rw [e, ((zk_7_1 h0).2).1]; decide) (by rw [e]; exact (zln_7_1 h0)) hr
    have i3 : p ≠ (o0 + 3) := fun e => zir_no (by rw [e]; rw [((zk_7_2 h0).2).1]; decide) hr
    have i4 : p ≠ (o0 + 4) := fun e => zir_no (by rw [e]; rw [((zk_7_3 h0).2).1]; decide) hr
    have i5 : p ≠ (o0 + 5) := fun e => zir_no (by rw [e]; rw [((zk_7_4 h0).2).1]; decide) hr
    have i6 : p ≠ (o0 + 6) := fun e => zir_no (by rw [e]; rw [((zk_7_5 h0).2).1]; decide) hr
    have i7 : p ≠ (o0 + 7) := fun e => zir_no (by rw [e]; rw [((zk_7_6 h0).2).1]; decide) hr
    clear hr
    simp only [zcan, zρs, zρf, zρm, zρS1, zρS2, zρK, zρX1, zρX2, ztt]
    grind (splits := 200)
  refine wS_init_83 C hO o0 h0 ρ ρ _ (fun σ8 => ?_) 5000 0 w_0 (by omega) σ11
  refine zr_iconst C eX7_init_113 rfl ?_
  refine zr_istoren (lv' := [(1, .int (zI 0)), (0, .ref (zad G o0))]) C eX7_init_114 (by decide) rfl ?_
  refine zr_ρ (ρ' := zρS2 ρ o0 0) (by have := h0.2; have := zsz_7 h0; omega) (fun p hp k hr => ?_) ?_
  · have hk : p = o0 → k = 0 ∨ k = 1 ∨ k = 2 ∨ k = 3 ∨ k = 4 ∨ k = 5 ∨ k = 6 := fun e => zir_7 (by rw [e]; exact (h0).1) hr
    have i1 : p = (o0 + 1) → k < 16 := fun e => zir_arr (by rw [e, ((zk_7_0 h0).2).1]; decide) (by rw [e]; exact (zln_7_0 h0)) hr
    have i2 : p = (o0 + 2) → k < 6 := fun e => zir_arr (by rw [e, ((zk_7_1 h0).2).1]; decide) (by rw [e]; exact (zln_7_1 h0)) hr
    have i3 : p ≠ (o0 + 3) := fun e => zir_no (by rw [e]; rw [((zk_7_2 h0).2).1]; decide) hr
    have i4 : p ≠ (o0 + 4) := fun e => zir_no (by rw [e]; rw [((zk_7_3 h0).2).1]; decide) hr
    have i5 : p ≠ (o0 + 5) := fun e => zir_no (by rw [e]; rw [((zk_7_4 h0).2).1]; decide) hr
    have i6 : p ≠ (o0 + 6) := fun e => zir_no (by rw [e]; rw [((zk_7_5 h0).2).1]; decide) hr
    have i7 : p ≠ (o0 + 7) := fun e => zir_no (by rw [e]; rw [((zk_7_6 h0).2).1]; decide) hr
    clear hr
    simp only [zcan, zρs, zρf, zρm, zρS1, zρS2, zρK, zρX1, zρX2, ztt]
    grind (splits := 200)
  refine wS_init_115 C hO o0 h0 ρ ρ _ (fun σ9 => ?_) 5000 0 w_0 (by omega) σ8
  refine zr_ρ (ρ' := zcan ρ o0 (o0 + 74)) (by have := h0.2; have := zsz_7 h0; omega) (fun p hp k hr => ?_) ?_
  · have hk : p = o0 → k = 0 ∨ k = 1 ∨ k = 2 ∨ k = 3 ∨ k = 4 ∨ k = 5 ∨ k = 6 := fun e => zir_7 (by rw [e]; exact (h0).1) hr
    have i1 : p = (o0 + 1) → k < 16 := fun e => zir_arr (by rw [e, ((zk_7_0 h0).2).1]; decide) (by rw [e]; exact (zln_7_0 h0)) hr
    have i2 : p = (o0 + 2) → k < 6 := fun e => zir_arr (by rw [e, ((zk_7_1 h0).2).1]; decide) (by rw [e]; exact (zln_7_1 h0)) hr
    have i3 : p ≠ (o0 + 3) := fun e => zir_no (by rw [e]; rw [((zk_7_2 h0).2).1]; decide) hr
    have i4 : p ≠ (o0 + 4) := fun e => zir_no (by rw [e]; rw [((zk_7_3 h0).2).1]; decide) hr
    have i5 : p ≠ (o0 + 5) := fun e => zir_no (by rw [e]; rw [((zk_7_4 h0).2).1]; decide) hr
    have i6 : p ≠ (o0 + 6) := fun e => zir_no (by rw [e]; rw [((zk_7_5 h0).2).1]; decide) hr
    have i7 : p ≠ (o0 + 7) := fun e => zir_no (by rw [e]; rw [((zk_7_6 h0).2).1]; decide) hr
    clear hr
    simp only [zcan, zρs, zρf, zρm, zρS1, zρS2, zρK, zρX1, zρX2, ztt]
    grind (splits := 200)
  refine zr_aloadn C 0 eX7_init_145 rfl ?_
  refine zr_getR C ff_X7_20 rfl ⟨(h0).1, by omega⟩ (by unfold zcan; rw [if_pos (by omega)]) ((zk_7_2 h0).1) eX7_init_146 ?_
  refine zr_iconst C eX7_init_149 rfl ?_
  refine zr_callSv C [.ref (zad G (o0 + 3)), .int (zI (-1))] zy_J7_fill_53178 zs_J7_fill_53178 lk_X7_52 (by unfold zRm; exact ⟨⟨Nat.le_of_ble_eq_true rfl, Nat.le_of_ble_eq_true rfl⟩, Nat.le_of_ble_eq_true rfl, Nat.le_of_ble_eq_true rfl⟩) (fun r hr => qJ7_fill_53178g l G _ (o0 + 3) (-1) ⟨((zk_7_2 h0).2).1, by omega⟩ w_m1 r hr) rfl rfl (Nat.le_of_ble_eq_true rfl) eX7_init_150 (fun σ10 => ?_)
  exact zr_cret C (Nat.le_of_ble_eq_true rfl) (Nat.le_of_ble_eq_true rfl) eX7_init_153
theorem zqK_init (l : Launch) (G : Zg) (ρ : Zp) (σ : Zm) (res : Int × Zm) (he : fK_init σ = some res) : zMc l yX4_init cX4_init 2 2 G 178 ρ σ [.ref (zad G 177)] 210 (zcan ρ 177 210) res.2 32 3320 := by
  refine zMc_of he (by decide +kernel) rfl (Nat.le_of_ble_eq_true rfl) (lv := [(0, .ref (zad G 177))]) rfl (fun p e s m below meth c C hO hnm => ?_)
  unfold fK_init
  refine zr_aloadn C 0 eX4_init_0 rfl ?_
  refine zr_objInit C lo_X4_3 zw_oinit ⟨Nat.le_of_ble_eq_true rfl, Nat.le_of_ble_eq_true rfl⟩ (Nat.le_of_ble_eq_true rfl) eX4_init_1 ?_
  refine zr_aloadn C 0 eX4_init_4 rfl ?_
  refine zr_new (ci := 2) C (by decide) cl_X4_9 cw_2 (zo_178).1 ⟨Nat.le_of_ble_eq_true rfl, Nat.le_of_ble_eq_true rfl⟩ eX4_init_5 (fun σ1 => ?_)
  refine zr_dup C eX4_init_8 rfl ?_
  refine zr_init C hO [] zy_X2_init zi_X2_init rfl lk_X4_11 ⟨⟨Nat.le_of_ble_eq_true rfl, Nat.le_of_ble_eq_true rfl⟩, Nat.le_of_ble_eq_true rfl, Nat.le_of_ble_eq_true rfl⟩ (fun r hr => zqJ_init l G _ σ1 178 zo_178 r hr) rfl rfl (Nat.le_of_ble_eq_true rfl) eX4_init_9 (fun σ2 => ?_)
  refine zr_putR C fd_X4_12 rfl rfl hnm rfl ⟨(zo_177).1, by omega⟩ zf_177_0 eX4_init_12 ?_
  refine zr_aloadn C 0 eX4_init_15 rfl ?_
  refine zr_iconst C eX4_init_16 rfl ?_
  refine zr_anew23 C hO (N := 4) (A := 4) cl_X4_18q (zo_182).1 zn_182 w_4 rfl (Nat.le_of_ble_eq_true rfl) ⟨Nat.le_of_ble_eq_true rfl, Nat.le_of_ble_eq_true rfl⟩ eX4_init_17 (fun σ3 => ?_)
  refine zr_putR C fd_X4_20 rfl rfl hnm rfl ⟨(zo_177).1, by omega⟩ zf_177_1 eX4_init_20 ?_
  refine zr_aloadn C 0 eX4_init_23 rfl ?_
  refine zr_bipush (a := 6) C eX4_init_24 rfl ?_
  refine zr_sipush (a := 225) C eX4_init_26 rfl ?_
  refine zr_mna C hO (N := 6) (K := 225) (A := 6) (B := 225) cl_X4_24m ca_20 (zo_183).1 zn_183 zmi_183 w_6 rfl w_225 rfl (Nat.le_of_ble_eq_true rfl) (Nat.le_of_ble_eq_true rfl) ⟨Nat.le_of_ble_eq_true rfl, Nat.le_of_ble_eq_true rfl⟩ eX4_init_29 (fun σ4 => ?_)
  refine zr_putR C fd_X4_26 rfl rfl hnm rfl ⟨(zo_177).1, by omega⟩ zf_177_2 eX4_init_33 ?_
  refine zr_aloadn C 0 eX4_init_36 rfl ?_
  refine zr_bipush (a := 6) C eX4_init_37 rfl ?_
  refine zr_sipush (a := 225) C eX4_init_39 rfl ?_
  refine zr_mna C hO (N := 6) (K := 225) (A := 6) (B := 225) cl_X4_24m ca_20 (zo_190).1 zn_190 zmi_190 w_6 rfl w_225 rfl (Nat.le_of_ble_eq_true rfl) (Nat.le_of_ble_eq_true rfl) ⟨Nat.le_of_ble_eq_true rfl, Nat.le_of_ble_eq_true rfl⟩ eX4_init_42 (fun σ5 => ?_)
  refine zr_putR C fd_X4_29 rfl rfl hnm rfl ⟨(zo_177).1, by omega⟩ zf_177_3 eX4_init_46 ?_
  refine zr_aloadn C 0 eX4_init_49 rfl ?_
  refine zr_iconst C eX4_init_50 rfl ?_
  refine zr_newa20 C (N := 5) (A := 5) ca_20 (zo_197).1 zn_197 w_5 rfl (Nat.le_of_ble_eq_true rfl) ⟨Nat.le_of_ble_eq_true rfl, Nat.le_of_ble_eq_true rfl⟩ eX4_init_51 (fun σ6 => ?_)
  refine zr_putR C fd_X4_32 rfl rfl hnm rfl ⟨(zo_177).1, by omega⟩ zf_177_4 eX4_init_53 ?_
  refine zr_aloadn C 0 eX4_init_56 rfl ?_
  refine zr_iconst C eX4_init_57 rfl ?_
  refine zr_putI C ff_X4_36 rfl ⟨(zo_177).1, by omega⟩ eX4_init_58 (fun σ7 => ?_)
  refine zr_aloadn C 0 eX4_init_61 rfl ?_
  refine zr_iconst C eX4_init_62 rfl ?_
  refine zr_putI C ff_X4_40 rfl ⟨(zo_177).1, by omega⟩ eX4_init_63 (fun σ8 => ?_)
  refine zr_aloadn C 0 eX4_init_66 rfl ?_
  refine zr_iconst C eX4_init_67 rfl ?_
  refine zr_putI C ff_X4_43 rfl ⟨(zo_177).1, by omega⟩ eX4_init_68 (fun σ9 => ?_)
  refine zr_aloadn C 0 eX4_init_71 rfl ?_
  refine zr_iconst C eX4_init_72 rfl ?_
  refine zr_putI C ff_X4_46 rfl ⟨(zo_177).1, by omega⟩ eX4_init_73 (fun σ10 => ?_)
  refine zr_aloadn C 0 eX4_init_76 rfl ?_
  refine zr_iconst C eX4_init_77 rfl ?_
  refine zr_putI C ff_X4_49 rfl ⟨(zo_177).1, by omega⟩ eX4_init_78 (fun σ11 => ?_)
  refine zr_aloadn C 0 eX4_init_81 rfl ?_
  refine zr_iconst C eX4_init_82 rfl ?_
  refine zr_putI C ff_X4_52 rfl ⟨(zo_177).1, by omega⟩ eX4_init_83 (fun σ12 => ?_)
  refine zr_iconst C eX4_init_86 rfl ?_
  refine zr_istoren (lv' := [(1, .int (zI 0)), (0, .ref (zad G 177))]) C eX4_init_87 (by decide) rfl ?_
  refine zr_ρ (ρ' := zρK ρ 0) (by omega) (fun p hp k hr => ?_) ?_
  · have hk : p = 177 → k = 0 ∨ k = 1 ∨ k = 2 ∨ k = 3 ∨ k = 4 := fun e => zir_4 (by rw [e]; exact (zo_177).1) hr
    have i5 : p = 182 → k < 4 := fun e => zir_arr (by rw [e, (zo_182).1]; decide) (by rw [e]; exact zn_182) hr
    have i6 : p = 183 → k < 6 := fun e => zir_arr (by rw [e, (zo_183).1]; decide) (by rw [e]; exact zn_183) hr
    have i6_1 : p ≠ 184 := fun e => zir_no (by rw [e]; left; exact (zo_184).1) hr
    have i6_2 : p ≠ 185 := fun e => zir_no (by rw [e]; left; exact (zo_185).1) hr
    have i6_3 : p ≠ 186 := fun e => zir_no (by rw [e]; left; exact (zo_186).1) hr
    have i6_4 : p ≠ 187 := fun e => zir_no (by rw [e]; left; exact (zo_187).1) hr
    have i6_5 : p ≠ 188 := fun e => zir_no (by rw [e]; left; exact (zo_188).1) hr
    have i6_6 : p ≠ 189 := fun e => zir_no (by rw [e]; left; exact (zo_189).1) hr
    have i13 : p = 190 → k < 6 := fun e => zir_arr (by rw [e, (zo_190).1]; decide) (by rw [e]; exact zn_190) hr
    have i13_1 : p ≠ 191 := fun e => zir_no (by rw [e]; left; exact (zo_191).1) hr
    have i13_2 : p ≠ 192 := fun e => zir_no (by rw [e]; left; exact (zo_192).1) hr
    have i13_3 : p ≠ 193 := fun e => zir_no (by rw [e]; left; exact (zo_193).1) hr
    have i13_4 : p ≠ 194 := fun e => zir_no (by rw [e]; left; exact (zo_194).1) hr
    have i13_5 : p ≠ 195 := fun e => zir_no (by rw [e]; left; exact (zo_195).1) hr
    have i13_6 : p ≠ 196 := fun e => zir_no (by rw [e]; left; exact (zo_196).1) hr
    have i20 : p ≠ 197 := fun e => zir_no (by rw [e]; rw [(zo_197).1]; decide) hr
    clear hr
    simp only [zcan, zρs, zρf, zρm, zρS1, zρS2, zρK, zρX1, zρX2, ztt]
    grind (splits := 200)
  refine wK_init_88 C hO ρ ρ _ (fun σ8 => ?_) 5000 0 w_0 (by omega) σ12
  refine zr_ρ (ρ' := zcan ρ 177 210) (by omega) (fun p hp k hr => ?_) ?_
  · have hk : p = 177 → k = 0 ∨ k = 1 ∨ k = 2 ∨ k = 3 ∨ k = 4 := fun e => zir_4 (by rw [e]; exact (zo_177).1) hr
    have i5 : p = 182 → k < 4 := fun e => zir_arr (by rw [e, (zo_182).1]; decide) (by rw [e]; exact zn_182) hr
    have i6 : p = 183 → k < 6 := fun e => zir_arr (by rw [e, (zo_183).1]; decide) (by rw [e]; exact zn_183) hr
    have i6_1 : p ≠ 184 := fun e => zir_no (by rw [e]; left; exact (zo_184).1) hr
    have i6_2 : p ≠ 185 := fun e => zir_no (by rw [e]; left; exact (zo_185).1) hr
    have i6_3 : p ≠ 186 := fun e => zir_no (by rw [e]; left; exact (zo_186).1) hr
    have i6_4 : p ≠ 187 := fun e => zir_no (by rw [e]; left; exact (zo_187).1) hr
    have i6_5 : p ≠ 188 := fun e => zir_no (by rw [e]; left; exact (zo_188).1) hr
    have i6_6 : p ≠ 189 := fun e => zir_no (by rw [e]; left; exact (zo_189).1) hr
    have i13 : p = 190 → k < 6 := fun e => zir_arr (by rw [e, (zo_190).1]; decide) (by rw [e]; exact zn_190) hr
    have i13_1 : p ≠ 191 := fun e => zir_no (by rw [e]; left; exact (zo_191).1) hr
    have i13_2 : p ≠ 192 := fun e => zir_no (by rw [e]; left; exact (zo_192).1) hr
    have i13_3 : p ≠ 193 := fun e => zir_no (by rw [e]; left; exact (zo_193).1) hr
    have i13_4 : p ≠ 194 := fun e => zir_no (by rw [e]; left; exact (zo_194).1) hr
    have i13_5 : p ≠ 195 := fun e => zir_no (by rw [e]; left; exact (zo_195).1) hr
    have i13_6 : p ≠ 196 := fun e => zir_no (by rw [e]; left; exact (zo_196).1) hr
    have i20 : p ≠ 197 := fun e => zir_no (by rw [e]; rw [(zo_197).1]; decide) hr
    clear hr
    simp only [zcan, zρs, zρf, zρm, zρS1, zρS2, zρK, zρX1, zρX2, ztt]
    grind (splits := 200)
  exact zr_cret C (Nat.le_of_ble_eq_true rfl) (Nat.le_of_ble_eq_true rfl) eX4_init_114
theorem zqX_init (l : Launch) (G : Zg) (ρ : Zp) (σ : Zm) (res : Int × Zm) (he : fX_init σ = some res) : zMc l yX9_init cX9_init 2 3 G 1 ρ σ [.ref (zad G 0)] 273 (zcan ρ 0 273) res.2 272 12522 := by
  refine zMc_of he (by decide +kernel) rfl (Nat.le_of_ble_eq_true rfl) (lv := [(0, .ref (zad G 0))]) rfl (fun p e s m below meth c C hO hnm => ?_)
  unfold fX_init
  refine zr_aloadn C 0 eX9_init_0 rfl ?_
  refine zr_objInit C lo_X9_1 zw_oinit ⟨Nat.le_of_ble_eq_true rfl, Nat.le_of_ble_eq_true rfl⟩ (Nat.le_of_ble_eq_true rfl) eX9_init_1 ?_
  refine zr_aloadn C 0 eX9_init_4 rfl ?_
  refine zr_new (ci := 7) C (by decide) cl_X9_7 cw_7 (zo_1).1 ⟨Nat.le_of_ble_eq_true rfl, Nat.le_of_ble_eq_true rfl⟩ eX9_init_5 (fun σ1 => ?_)
  refine zr_dup C eX9_init_8 rfl ?_
  refine zr_init C hO [] zy_X7_init zi_X7_init rfl lk_X9_9 ⟨⟨Nat.le_of_ble_eq_true rfl, Nat.le_of_ble_eq_true rfl⟩, Nat.le_of_ble_eq_true rfl, Nat.le_of_ble_eq_true rfl⟩ (fun r hr => zqS_init l G _ σ1 1 zo_1 r hr) rfl rfl (Nat.le_of_ble_eq_true rfl) eX9_init_9 (fun σ2 => ?_)
  refine zr_putR C fd_X9_10 rfl rfl hnm rfl ⟨(zo_0).1, by omega⟩ zf_0_0 eX9_init_12 ?_
  refine zr_aloadn C 0 eX9_init_15 rfl ?_
  refine zr_new (ci := 7) C (by decide) cl_X9_7 cw_7 (zo_75).1 ⟨Nat.le_of_ble_eq_true rfl, Nat.le_of_ble_eq_true rfl⟩ eX9_init_16 (fun σ3 => ?_)
  refine zr_dup C eX9_init_19 rfl ?_
  refine zr_init C hO [] zy_X7_init zi_X7_init rfl lk_X9_9 ⟨⟨Nat.le_of_ble_eq_true rfl, Nat.le_of_ble_eq_true rfl⟩, Nat.le_of_ble_eq_true rfl, Nat.le_of_ble_eq_true rfl⟩ (fun r hr => zqS_init l G _ σ3 75 zo_75 r hr) rfl rfl (Nat.le_of_ble_eq_true rfl) eX9_init_20 (fun σ4 => ?_)
  refine zr_putR C fd_X9_16 rfl rfl hnm rfl ⟨(zo_0).1, by omega⟩ zf_0_1 eX9_init_23 ?_
  refine zr_aloadn C 0 eX9_init_26 rfl ?_
  refine zr_bipush (a := 6) C eX9_init_27 rfl ?_
  refine zr_anew24 C hO (N := 6) (A := 6) cl_X9_19q (zo_149).1 zn_149 w_6 rfl (Nat.le_of_ble_eq_true rfl) ⟨Nat.le_of_ble_eq_true rfl, Nat.le_of_ble_eq_true rfl⟩ eX9_init_29 (fun σ5 => ?_)
  refine zr_putR C fd_X9_21 rfl rfl hnm rfl ⟨(zo_0).1, by omega⟩ zf_0_2 eX9_init_32 ?_
  refine zr_aloadn C 0 eX9_init_35 rfl ?_
  refine zr_new (ci := 5) C (by decide) cl_X9_25 cw_5 (zo_150).1 ⟨Nat.le_of_ble_eq_true rfl, Nat.le_of_ble_eq_true rfl⟩ eX9_init_36 (fun σ6 => ?_)
  refine zr_dup C eX9_init_39 rfl ?_
  refine zr_init C hO [] zy_X5_init zi_X5_init rfl lk_X9_27 ⟨⟨Nat.le_of_ble_eq_true rfl, Nat.le_of_ble_eq_true rfl⟩, Nat.le_of_ble_eq_true rfl, Nat.le_of_ble_eq_true rfl⟩ (fun r hr => zqR_init l G _ σ6 r hr) rfl rfl (Nat.le_of_ble_eq_true rfl) eX9_init_40 (fun σ7 => ?_)
  refine zr_putR C fd_X9_28 rfl rfl hnm rfl ⟨(zo_0).1, by omega⟩ zf_0_3 eX9_init_43 ?_
  refine zr_aloadn C 0 eX9_init_46 rfl ?_
  refine zr_new (ci := 2) C (by decide) cl_X9_32 cw_2 (zo_153).1 ⟨Nat.le_of_ble_eq_true rfl, Nat.le_of_ble_eq_true rfl⟩ eX9_init_47 (fun σ8 => ?_)
  refine zr_dup C eX9_init_50 rfl ?_
  refine zr_init C hO [] zy_X2_init zi_X2_init rfl lk_X9_34 ⟨⟨Nat.le_of_ble_eq_true rfl, Nat.le_of_ble_eq_true rfl⟩, Nat.le_of_ble_eq_true rfl, Nat.le_of_ble_eq_true rfl⟩ (fun r hr => zqJ_init l G _ σ8 153 zo_153 r hr) rfl rfl (Nat.le_of_ble_eq_true rfl) eX9_init_51 (fun σ9 => ?_)
  refine zr_putR C fd_X9_35 rfl rfl hnm rfl ⟨(zo_0).1, by omega⟩ zf_0_4 eX9_init_54 ?_
  refine zr_aloadn C 0 eX9_init_57 rfl ?_
  refine zr_new (ci := 1) C (by decide) cl_X9_39 cw_1 (zo_157).1 ⟨Nat.le_of_ble_eq_true rfl, Nat.le_of_ble_eq_true rfl⟩ eX9_init_58 (fun σ10 => ?_)
  refine zr_dup C eX9_init_61 rfl ?_
  refine zr_init C hO [] zy_X1_init zi_X1_init rfl lk_X9_41 ⟨⟨Nat.le_of_ble_eq_true rfl, Nat.le_of_ble_eq_true rfl⟩, Nat.le_of_ble_eq_true rfl, Nat.le_of_ble_eq_true rfl⟩ (fun r hr => zqF_init l G _ σ10 r hr) rfl rfl (Nat.le_of_ble_eq_true rfl) eX9_init_62 (fun σ11 => ?_)
  refine zr_putR C fd_X9_42 rfl rfl hnm rfl ⟨(zo_0).1, by omega⟩ zf_0_5 eX9_init_65 ?_
  refine zr_aloadn C 0 eX9_init_68 rfl ?_
  refine zr_new (ci := 4) C (by decide) cl_X9_46 cw_4 (zo_177).1 ⟨Nat.le_of_ble_eq_true rfl, Nat.le_of_ble_eq_true rfl⟩ eX9_init_69 (fun σ12 => ?_)
  refine zr_dup C eX9_init_72 rfl ?_
  refine zr_init C hO [] zy_X4_init zi_X4_init rfl lk_X9_48 ⟨⟨Nat.le_of_ble_eq_true rfl, Nat.le_of_ble_eq_true rfl⟩, Nat.le_of_ble_eq_true rfl, Nat.le_of_ble_eq_true rfl⟩ (fun r hr => zqK_init l G _ σ12 r hr) rfl rfl (Nat.le_of_ble_eq_true rfl) eX9_init_73 (fun σ13 => ?_)
  refine zr_putR C fd_X9_49 rfl rfl hnm rfl ⟨(zo_0).1, by omega⟩ zf_0_6 eX9_init_76 ?_
  refine zr_aloadn C 0 eX9_init_79 rfl ?_
  refine zr_new (ci := 0) C (by decide) cl_X9_53 cw_0 (zo_210).1 ⟨Nat.le_of_ble_eq_true rfl, Nat.le_of_ble_eq_true rfl⟩ eX9_init_80 (fun σ14 => ?_)
  refine zr_dup C eX9_init_83 rfl ?_
  refine zr_init C hO [] zy_X0_init zi_X0_init rfl lk_X9_55 ⟨⟨Nat.le_of_ble_eq_true rfl, Nat.le_of_ble_eq_true rfl⟩, Nat.le_of_ble_eq_true rfl, Nat.le_of_ble_eq_true rfl⟩ (fun r hr => zqB_init l G _ σ14 r hr) rfl rfl (Nat.le_of_ble_eq_true rfl) eX9_init_84 (fun σ15 => ?_)
  refine zr_putR C fd_X9_56 rfl rfl hnm rfl ⟨(zo_0).1, by omega⟩ zf_0_7 eX9_init_87 ?_
  refine zr_aloadn C 0 eX9_init_90 rfl ?_
  refine zr_new (ci := 8) C (by decide) cl_X9_60 cw_8 (zo_218).1 ⟨Nat.le_of_ble_eq_true rfl, Nat.le_of_ble_eq_true rfl⟩ eX9_init_91 (fun σ16 => ?_)
  refine zr_dup C eX9_init_94 rfl ?_
  refine zr_init C hO [] zy_X8_init zi_X8_init rfl lk_X9_62 ⟨⟨Nat.le_of_ble_eq_true rfl, Nat.le_of_ble_eq_true rfl⟩, Nat.le_of_ble_eq_true rfl, Nat.le_of_ble_eq_true rfl⟩ (fun r hr => zqT_init l G _ σ16 218 zo_218 r hr) rfl rfl (Nat.le_of_ble_eq_true rfl) eX9_init_95 (fun σ17 => ?_)
  refine zr_putR C fd_X9_63 rfl rfl hnm rfl ⟨(zo_0).1, by omega⟩ zf_0_8 eX9_init_98 ?_
  refine zr_aloadn C 0 eX9_init_101 rfl ?_
  refine zr_new (ci := 8) C (by decide) cl_X9_60 cw_8 (zo_221).1 ⟨Nat.le_of_ble_eq_true rfl, Nat.le_of_ble_eq_true rfl⟩ eX9_init_102 (fun σ18 => ?_)
  refine zr_dup C eX9_init_105 rfl ?_
  refine zr_init C hO [] zy_X8_init zi_X8_init rfl lk_X9_62 ⟨⟨Nat.le_of_ble_eq_true rfl, Nat.le_of_ble_eq_true rfl⟩, Nat.le_of_ble_eq_true rfl, Nat.le_of_ble_eq_true rfl⟩ (fun r hr => zqT_init l G _ σ18 221 zo_221 r hr) rfl rfl (Nat.le_of_ble_eq_true rfl) eX9_init_106 (fun σ19 => ?_)
  refine zr_putR C fd_X9_67 rfl rfl hnm rfl ⟨(zo_0).1, by omega⟩ zf_0_9 eX9_init_109 ?_
  refine zr_aloadn C 0 eX9_init_112 rfl ?_
  refine zr_iconst C eX9_init_113 rfl ?_
  refine zr_anew23 C hO (N := 4) (A := 4) cl_X9_70q (zo_224).1 zn_224 w_4 rfl (Nat.le_of_ble_eq_true rfl) ⟨Nat.le_of_ble_eq_true rfl, Nat.le_of_ble_eq_true rfl⟩ eX9_init_114 (fun σ20 => ?_)
  refine zr_putR C fd_X9_72 rfl rfl hnm rfl ⟨(zo_0).1, by omega⟩ zf_0_10 eX9_init_117 ?_
  refine zr_aloadn C 0 eX9_init_120 rfl ?_
  refine zr_iconst C eX9_init_121 rfl ?_
  refine zr_putZ C ff_X9_76 rfl ⟨(zo_0).1, by omega⟩ (Or.inl rfl) eX9_init_122 (fun σ21 => ?_)
  refine zr_iconst C eX9_init_125 rfl ?_
  refine zr_istoren (lv' := [(1, .int (zI 0)), (0, .ref (zad G 0))]) C eX9_init_126 (by decide) rfl ?_
  refine zr_ρ (ρ' := zρX1 ρ 0) (by omega) (fun p hp k hr => ?_) ?_
  · have hk : p = 0 → k = 0 ∨ k = 1 ∨ k = 2 ∨ k = 3 ∨ k = 4 ∨ k = 5 ∨ k = 6 ∨ k = 7 ∨ k = 8 ∨ k = 9 ∨ k = 10 := fun e => zir_9 (by rw [e]; exact (zo_0).1) hr
    have i149 : p = 149 → k < 6 := fun e => zir_arr (by rw [e, (zo_149).1]; decide) (by rw [e]; exact zn_149) hr
    have i224 : p = 224 → k < 4 := fun e => zir_arr (by rw [e, (zo_224).1]; decide) (by rw [e]; exact zn_224) hr
    clear hr
    simp only [zcan, zρs, zρf, zρm, zρS1, zρS2, zρK, zρX1, zρX2, ztt]
    grind (splits := 200)
  refine wX_init_127 C hO ρ ρ _ (fun σ8 => ?_) 5000 0 w_0 (by omega) σ21
  refine zr_iconst C eX9_init_152 rfl ?_
  refine zr_istoren (lv' := [(1, .int (zI 0)), (0, .ref (zad G 0))]) C eX9_init_153 (by decide) rfl ?_
  refine zr_ρ (ρ' := zρX2 ρ 0) (by omega) (fun p hp k hr => ?_) ?_
  · have hk : p = 0 → k = 0 ∨ k = 1 ∨ k = 2 ∨ k = 3 ∨ k = 4 ∨ k = 5 ∨ k = 6 ∨ k = 7 ∨ k = 8 ∨ k = 9 ∨ k = 10 := fun e => zir_9 (by rw [e]; exact (zo_0).1) hr
    have i149 : p = 149 → k < 6 := fun e => zir_arr (by rw [e, (zo_149).1]; decide) (by rw [e]; exact zn_149) hr
    have i224 : p = 224 → k < 4 := fun e => zir_arr (by rw [e, (zo_224).1]; decide) (by rw [e]; exact zn_224) hr
    clear hr
    simp only [zcan, zρs, zρf, zρm, zρS1, zρS2, zρK, zρX1, zρX2, ztt]
    grind (splits := 200)
  refine wX_init_154 C hO ρ ρ _ (fun σ9 => ?_) 5000 0 w_0 (by omega) σ8
  refine zr_ρ (ρ' := zcan ρ 0 273) (by omega) (fun p hp k hr => ?_) ?_
  · have hk : p = 0 → k = 0 ∨ k = 1 ∨ k = 2 ∨ k = 3 ∨ k = 4 ∨ k = 5 ∨ k = 6 ∨ k = 7 ∨ k = 8 ∨ k = 9 ∨ k = 10 := fun e => zir_9 (by rw [e]; exact (zo_0).1) hr
    have i149 : p = 149 → k < 6 := fun e => zir_arr (by rw [e, (zo_149).1]; decide) (by rw [e]; exact zn_149) hr
    have i224 : p = 224 → k < 4 := fun e => zir_arr (by rw [e, (zo_224).1]; decide) (by rw [e]; exact zn_224) hr
    clear hr
    simp only [zcan, zρs, zρf, zρm, zρS1, zρS2, zρK, zρX1, zρX2, ztt]
    grind (splits := 200)
  exact zr_cret C (Nat.le_of_ble_eq_true rfl) (Nat.le_of_ble_eq_true rfl) eX9_init_180
theorem wM_init_194 {G : Zg} {p : Program} {l : Launch} {e : Env} {s : State} {m : MethodId} {args : Array Value} {below : List Frame} {meth : Method} {c : Code} (C : zC G p s m args meth c cX10_init 2 RX10 none) {res : Int × Zm} (K : Zm → Zr) (hK : ∀ σ : Zm, zR G p l e (zrc 1 20 12315) s m args below meth c 2 (20) (12315) (MQ below (zQc G 294 ztt none res.2) args s 20 12315 (zA G)) (294) (ztt) res σ (K σ) [(0, .ref (zad G 273))] 217 []) : ∀ (n : Nat) (x1 : Int) (n1 : zw x1 = x1) (σ : Zm), zR G p l e (zrc 1 20 12315) s m args below meth c 2 (20) (12315) (MQ below (zQc G 294 ztt none res.2) args s 20 12315 (zA G)) (294) (ztt) res σ (fM_init_194 n x1 σ K) [(1, .int (zI x1)), (0, .ref (zad G 273))] 194 []
  | 0, _, _, _ => zr_none
  | n + 1, x1, n1, σ => by
    have ih := fun (x1 : Int) (n1 : zw x1 = x1) (σ : Zm) => wM_init_194 (l := l) (e := e) (below := below) C (res := res) K hK n x1 n1 σ
    rw [fM_init_194]
    refine zr_iloadn C 0 eX10_init_194 rfl ?_
    refine zr_sipush (a := 512) C eX10_init_195 rfl ?_
    refine zr_icmp_ge C eX10_init_198 n1 w_512 ?_ ?_
    · refine zr_lv [1] rfl ?_
      exact hK σ
    refine zr_aloadn C 1 eX10_init_201 rfl ?_
    refine zr_getR C ff_X10_7 rfl zo_273 rfl zf_273_0 eX10_init_202 ?_
    refine zr_bipush (a := 10) C eX10_init_205 rfl ?_
    refine zr_iloadn C 0 eX10_init_207 rfl ?_
    refine zr_iadd C eX10_init_208 ?_
    refine zr_iconst C eX10_init_209 rfl ?_
    refine zr_iast C zo_274 zn_274 rfl eX10_init_210 (fun σ1 => ?_)
    refine zr_iinc (lv' := [(1, .int (zI (x1 + 1))), (0, .ref (zad G 273))]) C 0 eX10_init_211 rfl (by decide) rfl ?_
    refine zr_goto C eX10_init_214 ?_
    exact zr_lve (zs_pi (zI_w (x1 + 1)).symm rfl) (ih (zw (x1 + 1)) (zw_w (x1 + 1)) σ1)
theorem wM_init_219 {G : Zg} {p : Program} {l : Launch} {e : Env} {s : State} {m : MethodId} {args : Array Value} {below : List Frame} {meth : Method} {c : Code} (C : zC G p s m args meth c cX10_init 2 RX10 none) {res : Int × Zm} (K : Zm → Zr) (hK : ∀ σ : Zm, zR G p l e (zrc 1 20 12315) s m args below meth c 2 (20) (12315) (MQ below (zQc G 294 ztt none res.2) args s 20 12315 (zA G)) (294) (ztt) res σ (K σ) [(0, .ref (zad G 273))] 244 []) : ∀ (n : Nat) (x1 : Int) (n1 : zw x1 = x1) (σ : Zm), zR G p l e (zrc 1 20 12315) s m args below meth c 2 (20) (12315) (MQ below (zQc G 294 ztt none res.2) args s 20 12315 (zA G)) (294) (ztt) res σ (fM_init_219 n x1 σ K) [(1, .int (zI x1)), (0, .ref (zad G 273))] 219 []
  | 0, _, _, _ => zr_none
  | n + 1, x1, n1, σ => by
    have ih := fun (x1 : Int) (n1 : zw x1 = x1) (σ : Zm) => wM_init_219 (l := l) (e := e) (below := below) C (res := res) K hK n x1 n1 σ
    rw [fM_init_219]
    refine zr_iloadn C 0 eX10_init_219 rfl ?_
    refine zr_bipush (a := 72) C eX10_init_220 rfl ?_
    refine zr_icmp_ge C eX10_init_222 n1 w_72 ?_ ?_
    · refine zr_lv [1] rfl ?_
      exact hK σ
    refine zr_aloadn C 1 eX10_init_225 rfl ?_
    refine zr_getR C ff_X10_7 rfl zo_273 rfl zf_273_0 eX10_init_226 ?_
    refine zr_sipush (a := 530) C eX10_init_229 rfl ?_
    refine zr_iloadn C 0 eX10_init_232 rfl ?_
    refine zr_iadd C eX10_init_233 ?_
    refine zr_sipush (a := (-1000)) C eX10_init_234 rfl ?_
    refine zr_iast C zo_274 zn_274 rfl eX10_init_237 (fun σ1 => ?_)
    refine zr_iinc (lv' := [(1, .int (zI (x1 + 1))), (0, .ref (zad G 273))]) C 0 eX10_init_238 rfl (by decide) rfl ?_
    refine zr_goto C eX10_init_241 ?_
    exact zr_lve (zs_pi (zI_w (x1 + 1)).symm rfl) (ih (zw (x1 + 1)) (zw_w (x1 + 1)) σ1)
theorem wM_init_246 {G : Zg} {p : Program} {l : Launch} {e : Env} {s : State} {m : MethodId} {args : Array Value} {below : List Frame} {meth : Method} {c : Code} (C : zC G p s m args meth c cX10_init 2 RX10 none) {res : Int × Zm} (K : Zm → Zr) (hK : ∀ σ : Zm, zR G p l e (zrc 1 20 12315) s m args below meth c 2 (20) (12315) (MQ below (zQc G 294 ztt none res.2) args s 20 12315 (zA G)) (294) (ztt) res σ (K σ) [(0, .ref (zad G 273))] 268 []) : ∀ (n : Nat) (x1 : Int) (n1 : zw x1 = x1) (σ : Zm), zR G p l e (zrc 1 20 12315) s m args below meth c 2 (20) (12315) (MQ below (zQc G 294 ztt none res.2) args s 20 12315 (zA G)) (294) (ztt) res σ (fM_init_246 n x1 σ K) [(1, .int (zI x1)), (0, .ref (zad G 273))] 246 []
  | 0, _, _, _ => zr_none
  | n + 1, x1, n1, σ => by
    have ih := fun (x1 : Int) (n1 : zw x1 = x1) (σ : Zm) => wM_init_246 (l := l) (e := e) (below := below) C (res := res) K hK n x1 n1 σ
    rw [fM_init_246]
    refine zr_iloadn C 0 eX10_init_246 rfl ?_
    refine zr_iconst C eX10_init_247 rfl ?_
    refine zr_icmp_ge C eX10_init_248 n1 w_4 ?_ ?_
    · refine zr_lv [1] rfl ?_
      exact hK σ
    refine zr_aloadn C 1 eX10_init_251 rfl ?_
    refine zr_getR C ff_X10_7 rfl zo_273 rfl zf_273_0 eX10_init_252 ?_
    refine zr_sipush (a := 610) C eX10_init_255 rfl ?_
    refine zr_iloadn C 0 eX10_init_258 rfl ?_
    refine zr_iadd C eX10_init_259 ?_
    refine zr_iconst C eX10_init_260 rfl ?_
    refine zr_iast C zo_274 zn_274 rfl eX10_init_261 (fun σ1 => ?_)
    refine zr_iinc (lv' := [(1, .int (zI (x1 + 1))), (0, .ref (zad G 273))]) C 0 eX10_init_262 rfl (by decide) rfl ?_
    refine zr_goto C eX10_init_265 ?_
    exact zr_lve (zs_pi (zI_w (x1 + 1)).symm rfl) (ih (zw (x1 + 1)) (zw_w (x1 + 1)) σ1)
theorem zqM_init (l : Launch) (G : Zg) (ρ : Zp) (σ : Zm) (hρ : ∀ p k, p < 273 → zisr p k → ρ p k = true) (res : Int × Zm) (he : fM_init σ = some res) : zMc l yX10_init cX10_init 2 1 G 274 ρ σ [.ref (zad G 273)] 294 ztt res.2 20 12315 := by
  refine zMc_of he (by decide +kernel) rfl (Nat.le_of_ble_eq_true rfl) (lv := [(0, .ref (zad G 273))]) rfl (fun p e s m below meth c C hO hnm => ?_)
  unfold fM_init
  refine zr_aloadn C 0 eX10_init_0 rfl ?_
  refine zr_objInit C lo_X10_1 zw_oinit ⟨Nat.le_of_ble_eq_true rfl, Nat.le_of_ble_eq_true rfl⟩ (Nat.le_of_ble_eq_true rfl) eX10_init_1 ?_
  refine zr_aloadn C 0 eX10_init_4 rfl ?_
  refine zr_sipush (a := 700) C eX10_init_5 rfl ?_
  refine zr_newa20 C (N := 700) (A := 700) ca_20 (zo_274).1 zn_274 w_700 rfl (Nat.le_of_ble_eq_true rfl) ⟨Nat.le_of_ble_eq_true rfl, Nat.le_of_ble_eq_true rfl⟩ eX10_init_8 (fun σ1 => ?_)
  refine zr_putR C fd_X10_7 rfl rfl hnm rfl ⟨(zo_273).1, by omega⟩ zf_273_0 eX10_init_10 ?_
  refine zr_aloadn C 0 eX10_init_13 rfl ?_
  refine zr_sipush (a := 700) C eX10_init_14 rfl ?_
  refine zr_newa20 C (N := 700) (A := 700) ca_20 (zo_275).1 zn_275 w_700 rfl (Nat.le_of_ble_eq_true rfl) ⟨Nat.le_of_ble_eq_true rfl, Nat.le_of_ble_eq_true rfl⟩ eX10_init_17 (fun σ2 => ?_)
  refine zr_putR C fd_X10_13 rfl rfl hnm rfl ⟨(zo_273).1, by omega⟩ zf_273_1 eX10_init_19 ?_
  refine zr_aloadn C 0 eX10_init_22 rfl ?_
  refine zr_sipush (a := 5400) C eX10_init_23 rfl ?_
  refine zr_newa20 C (N := 5400) (A := 5400) ca_20 (zo_276).1 zn_276 w_5400 rfl (Nat.le_of_ble_eq_true rfl) ⟨Nat.le_of_ble_eq_true rfl, Nat.le_of_ble_eq_true rfl⟩ eX10_init_26 (fun σ3 => ?_)
  refine zr_putR C fd_X10_16 rfl rfl hnm rfl ⟨(zo_273).1, by omega⟩ zf_273_2 eX10_init_28 ?_
  refine zr_aloadn C 0 eX10_init_31 rfl ?_
  refine zr_sipush (a := 300) C eX10_init_32 rfl ?_
  refine zr_newa20 C (N := 300) (A := 300) ca_20 (zo_277).1 zn_277 w_300 rfl (Nat.le_of_ble_eq_true rfl) ⟨Nat.le_of_ble_eq_true rfl, Nat.le_of_ble_eq_true rfl⟩ eX10_init_35 (fun σ4 => ?_)
  refine zr_putR C fd_X10_19 rfl rfl hnm rfl ⟨(zo_273).1, by omega⟩ zf_273_3 eX10_init_37 ?_
  refine zr_aloadn C 0 eX10_init_40 rfl ?_
  refine zr_iconst C eX10_init_41 rfl ?_
  refine zr_putI C ff_X10_22 rfl ⟨(zo_273).1, by omega⟩ eX10_init_42 (fun σ5 => ?_)
  refine zr_aloadn C 0 eX10_init_45 rfl ?_
  refine zr_iconst C eX10_init_46 rfl ?_
  refine zr_putI C ff_X10_26 rfl ⟨(zo_273).1, by omega⟩ eX10_init_47 (fun σ6 => ?_)
  refine zr_aloadn C 0 eX10_init_50 rfl ?_
  refine zr_sipush (a := 160) C eX10_init_51 rfl ?_
  refine zr_newa20 C (N := 160) (A := 160) ca_20 (zo_278).1 zn_278 w_160 rfl (Nat.le_of_ble_eq_true rfl) ⟨Nat.le_of_ble_eq_true rfl, Nat.le_of_ble_eq_true rfl⟩ eX10_init_54 (fun σ7 => ?_)
  refine zr_putR C fd_X10_29 rfl rfl hnm rfl ⟨(zo_273).1, by omega⟩ zf_273_16 eX10_init_56 ?_
  refine zr_aloadn C 0 eX10_init_59 rfl ?_
  refine zr_bipush (a := 21) C eX10_init_60 rfl ?_
  refine zr_newa20 C (N := 21) (A := 21) ca_20 (zo_279).1 zn_279 w_21 rfl (Nat.le_of_ble_eq_true rfl) ⟨Nat.le_of_ble_eq_true rfl, Nat.le_of_ble_eq_true rfl⟩ eX10_init_62 (fun σ8 => ?_)
  refine zr_putR C fd_X10_32 rfl rfl hnm rfl ⟨(zo_273).1, by omega⟩ zf_273_21 eX10_init_64 ?_
  refine zr_aloadn C 0 eX10_init_67 rfl ?_
  refine zr_sipush (a := 330) C eX10_init_68 rfl ?_
  refine zr_newa22 C (N := 330) (A := 330) ca_22 (zo_280).1 zn_280 w_330 rfl (Nat.le_of_ble_eq_true rfl) ⟨Nat.le_of_ble_eq_true rfl, Nat.le_of_ble_eq_true rfl⟩ eX10_init_71 (fun σ9 => ?_)
  refine zr_putR C fd_X10_35 rfl rfl hnm rfl ⟨(zo_273).1, by omega⟩ zf_273_22 eX10_init_73 ?_
  refine zr_aloadn C 0 eX10_init_76 rfl ?_
  refine zr_sipush (a := 330) C eX10_init_77 rfl ?_
  refine zr_newa21 C (N := 330) (A := 330) ca_21 (zo_281).1 zn_281 w_330 rfl (Nat.le_of_ble_eq_true rfl) ⟨Nat.le_of_ble_eq_true rfl, Nat.le_of_ble_eq_true rfl⟩ eX10_init_80 (fun σ10 => ?_)
  refine zr_putR C fd_X10_39 rfl rfl hnm rfl ⟨(zo_273).1, by omega⟩ zf_273_23 eX10_init_82 ?_
  refine zr_aloadn C 0 eX10_init_85 rfl ?_
  refine zr_sipush (a := 128) C eX10_init_86 rfl ?_
  refine zr_newa20 C (N := 128) (A := 128) ca_20 (zo_282).1 zn_282 w_128 rfl (Nat.le_of_ble_eq_true rfl) ⟨Nat.le_of_ble_eq_true rfl, Nat.le_of_ble_eq_true rfl⟩ eX10_init_89 (fun σ11 => ?_)
  refine zr_putR C fd_X10_43 rfl rfl hnm rfl ⟨(zo_273).1, by omega⟩ zf_273_24 eX10_init_91 ?_
  refine zr_aloadn C 0 eX10_init_94 rfl ?_
  refine zr_sipush (a := 128) C eX10_init_95 rfl ?_
  refine zr_newa21 C (N := 128) (A := 128) ca_21 (zo_283).1 zn_283 w_128 rfl (Nat.le_of_ble_eq_true rfl) ⟨Nat.le_of_ble_eq_true rfl, Nat.le_of_ble_eq_true rfl⟩ eX10_init_98 (fun σ12 => ?_)
  refine zr_putR C fd_X10_46 rfl rfl hnm rfl ⟨(zo_273).1, by omega⟩ zf_273_25 eX10_init_100 ?_
  refine zr_aloadn C 0 eX10_init_103 rfl ?_
  refine zr_iconst C eX10_init_104 rfl ?_
  refine zr_newa20 C (N := 5) (A := 5) ca_20 (zo_284).1 zn_284 w_5 rfl (Nat.le_of_ble_eq_true rfl) ⟨Nat.le_of_ble_eq_true rfl, Nat.le_of_ble_eq_true rfl⟩ eX10_init_105 (fun σ13 => ?_)
  refine zr_putR C fd_X10_49 rfl rfl hnm rfl ⟨(zo_273).1, by omega⟩ zf_273_29 eX10_init_107 ?_
  refine zr_aloadn C 0 eX10_init_110 rfl ?_
  refine zr_bipush (a := 12) C eX10_init_111 rfl ?_
  refine zr_newa20 C (N := 12) (A := 12) ca_20 (zo_285).1 zn_285 w_12 rfl (Nat.le_of_ble_eq_true rfl) ⟨Nat.le_of_ble_eq_true rfl, Nat.le_of_ble_eq_true rfl⟩ eX10_init_113 (fun σ14 => ?_)
  refine zr_putR C fd_X10_52 rfl rfl hnm rfl ⟨(zo_273).1, by omega⟩ zf_273_30 eX10_init_115 ?_
  refine zr_aloadn C 0 eX10_init_118 rfl ?_
  refine zr_bipush (a := 12) C eX10_init_119 rfl ?_
  refine zr_newa20 C (N := 12) (A := 12) ca_20 (zo_286).1 zn_286 w_12 rfl (Nat.le_of_ble_eq_true rfl) ⟨Nat.le_of_ble_eq_true rfl, Nat.le_of_ble_eq_true rfl⟩ eX10_init_121 (fun σ15 => ?_)
  refine zr_putR C fd_X10_55 rfl rfl hnm rfl ⟨(zo_273).1, by omega⟩ zf_273_35 eX10_init_123 ?_
  refine zr_aloadn C 0 eX10_init_126 rfl ?_
  refine zr_bipush (a := 25) C eX10_init_127 rfl ?_
  refine zr_newa20 C (N := 25) (A := 25) ca_20 (zo_287).1 zn_287 w_25 rfl (Nat.le_of_ble_eq_true rfl) ⟨Nat.le_of_ble_eq_true rfl, Nat.le_of_ble_eq_true rfl⟩ eX10_init_129 (fun σ16 => ?_)
  refine zr_putR C fd_X10_58 rfl rfl hnm rfl ⟨(zo_273).1, by omega⟩ zf_273_36 eX10_init_131 ?_
  refine zr_aloadn C 0 eX10_init_134 rfl ?_
  refine zr_sipush (a := 625) C eX10_init_135 rfl ?_
  refine zr_newa20 C (N := 625) (A := 625) ca_20 (zo_288).1 zn_288 w_625 rfl (Nat.le_of_ble_eq_true rfl) ⟨Nat.le_of_ble_eq_true rfl, Nat.le_of_ble_eq_true rfl⟩ eX10_init_138 (fun σ17 => ?_)
  refine zr_putR C fd_X10_61 rfl rfl hnm rfl ⟨(zo_273).1, by omega⟩ zf_273_37 eX10_init_140 ?_
  refine zr_aloadn C 0 eX10_init_143 rfl ?_
  refine zr_bipush (a := 25) C eX10_init_144 rfl ?_
  refine zr_newa20 C (N := 25) (A := 25) ca_20 (zo_289).1 zn_289 w_25 rfl (Nat.le_of_ble_eq_true rfl) ⟨Nat.le_of_ble_eq_true rfl, Nat.le_of_ble_eq_true rfl⟩ eX10_init_146 (fun σ18 => ?_)
  refine zr_putR C fd_X10_64 rfl rfl hnm rfl ⟨(zo_273).1, by omega⟩ zf_273_39 eX10_init_148 ?_
  refine zr_aloadn C 0 eX10_init_151 rfl ?_
  refine zr_sipush (a := 1350) C eX10_init_152 rfl ?_
  refine zr_newa20 C (N := 1350) (A := 1350) ca_20 (zo_290).1 zn_290 w_1350 rfl (Nat.le_of_ble_eq_true rfl) ⟨Nat.le_of_ble_eq_true rfl, Nat.le_of_ble_eq_true rfl⟩ eX10_init_155 (fun σ19 => ?_)
  refine zr_putR C fd_X10_67 rfl rfl hnm rfl ⟨(zo_273).1, by omega⟩ zf_273_40 eX10_init_157 ?_
  refine zr_aloadn C 0 eX10_init_160 rfl ?_
  refine zr_bipush (a := 8) C eX10_init_161 rfl ?_
  refine zr_newa20 C (N := 8) (A := 8) ca_20 (zo_291).1 zn_291 w_8 rfl (Nat.le_of_ble_eq_true rfl) ⟨Nat.le_of_ble_eq_true rfl, Nat.le_of_ble_eq_true rfl⟩ eX10_init_163 (fun σ20 => ?_)
  refine zr_putR C fd_X10_70 rfl rfl hnm rfl ⟨(zo_273).1, by omega⟩ zf_273_41 eX10_init_165 ?_
  refine zr_aloadn C 0 eX10_init_168 rfl ?_
  refine zr_bipush (a := 8) C eX10_init_169 rfl ?_
  refine zr_newa20 C (N := 8) (A := 8) ca_20 (zo_292).1 zn_292 w_8 rfl (Nat.le_of_ble_eq_true rfl) ⟨Nat.le_of_ble_eq_true rfl, Nat.le_of_ble_eq_true rfl⟩ eX10_init_171 (fun σ21 => ?_)
  refine zr_putR C fd_X10_73 rfl rfl hnm rfl ⟨(zo_273).1, by omega⟩ zf_273_42 eX10_init_173 ?_
  refine zr_aloadn C 0 eX10_init_176 rfl ?_
  refine zr_sipush (a := 2048) C eX10_init_177 rfl ?_
  refine zr_newa20 C (N := 2048) (A := 2048) ca_20 (zo_293).1 zn_293 w_2048 rfl (Nat.le_of_ble_eq_true rfl) ⟨Nat.le_of_ble_eq_true rfl, Nat.le_of_ble_eq_true rfl⟩ eX10_init_180 (fun σ22 => ?_)
  refine zr_putR C fd_X10_76 rfl rfl hnm rfl ⟨(zo_273).1, by omega⟩ zf_273_43 eX10_init_182 ?_
  refine zr_ρ (ρ' := ztt) (by omega) (fun p hp k hr => ?_) ?_
  · have hk : p = 273 → k = 0 ∨ k = 1 ∨ k = 2 ∨ k = 3 ∨ k = 16 ∨ k = 21 ∨ k = 22 ∨ k = 23 ∨ k = 24 ∨ k = 25 ∨ k = 29 ∨ k = 30 ∨ k = 35 ∨ k = 36 ∨ k = 37 ∨ k = 39 ∨ k = 40 ∨ k = 41 ∨ k = 42 ∨ k = 43 := fun e => zir_10 (by rw [e]; exact (zo_273).1) hr
    have i1 : p ≠ 274 := fun e => zir_no (by rw [e]; rw [(zo_274).1]; decide) hr
    have i2 : p ≠ 275 := fun e => zir_no (by rw [e]; rw [(zo_275).1]; decide) hr
    have i3 : p ≠ 276 := fun e => zir_no (by rw [e]; rw [(zo_276).1]; decide) hr
    have i4 : p ≠ 277 := fun e => zir_no (by rw [e]; rw [(zo_277).1]; decide) hr
    have i5 : p ≠ 278 := fun e => zir_no (by rw [e]; rw [(zo_278).1]; decide) hr
    have i6 : p ≠ 279 := fun e => zir_no (by rw [e]; rw [(zo_279).1]; decide) hr
    have i7 : p ≠ 280 := fun e => zir_no (by rw [e]; rw [(zo_280).1]; decide) hr
    have i8 : p ≠ 281 := fun e => zir_no (by rw [e]; rw [(zo_281).1]; decide) hr
    have i9 : p ≠ 282 := fun e => zir_no (by rw [e]; rw [(zo_282).1]; decide) hr
    have i10 : p ≠ 283 := fun e => zir_no (by rw [e]; rw [(zo_283).1]; decide) hr
    have i11 : p ≠ 284 := fun e => zir_no (by rw [e]; rw [(zo_284).1]; decide) hr
    have i12 : p ≠ 285 := fun e => zir_no (by rw [e]; rw [(zo_285).1]; decide) hr
    have i13 : p ≠ 286 := fun e => zir_no (by rw [e]; rw [(zo_286).1]; decide) hr
    have i14 : p ≠ 287 := fun e => zir_no (by rw [e]; rw [(zo_287).1]; decide) hr
    have i15 : p ≠ 288 := fun e => zir_no (by rw [e]; rw [(zo_288).1]; decide) hr
    have i16 : p ≠ 289 := fun e => zir_no (by rw [e]; rw [(zo_289).1]; decide) hr
    have i17 : p ≠ 290 := fun e => zir_no (by rw [e]; rw [(zo_290).1]; decide) hr
    have i18 : p ≠ 291 := fun e => zir_no (by rw [e]; rw [(zo_291).1]; decide) hr
    have i19 : p ≠ 292 := fun e => zir_no (by rw [e]; rw [(zo_292).1]; decide) hr
    have i20 : p ≠ 293 := fun e => zir_no (by rw [e]; rw [(zo_293).1]; decide) hr
    have hx := hρ p k
    simp only [zcan, zρs, zρf, zρm, zρS1, zρS2, zρK, zρX1, zρX2, ztt]
    grind (splits := 200)
  refine zr_aloadn C 0 eX10_init_185 rfl ?_
  refine zr_getR C ff_X10_7 rfl ⟨(zo_273).1, by omega⟩ rfl zf_273_0 eX10_init_186 ?_
  refine zr_iconst C eX10_init_189 rfl ?_
  refine zr_iconst C eX10_init_190 rfl ?_
  refine zr_iast C ⟨(zo_274).1, by omega⟩ zn_274 w_0 eX10_init_191 (fun σm => ?_)
  refine zr_iconst C eX10_init_192 rfl ?_
  refine zr_istoren (lv' := [(1, .int (zI 0)), (0, .ref (zad G 273))]) C eX10_init_193 (by decide) rfl ?_
  refine wM_init_194 C _ (fun σa => ?_) 5000 0 w_0 σm
  refine zr_iconst C eX10_init_217 rfl ?_
  refine zr_istoren (lv' := [(1, .int (zI 0)), (0, .ref (zad G 273))]) C eX10_init_218 (by decide) rfl ?_
  refine wM_init_219 C _ (fun σb => ?_) 5000 0 w_0 σa
  refine zr_iconst C eX10_init_244 rfl ?_
  refine zr_istoren (lv' := [(1, .int (zI 0)), (0, .ref (zad G 273))]) C eX10_init_245 (by decide) rfl ?_
  refine wM_init_246 C _ (fun σc => ?_) 5000 0 w_0 σb
  refine zr_aloadn C 0 eX10_init_268 rfl ?_
  refine zr_getR C ff_X10_7 rfl ⟨(zo_273).1, by omega⟩ rfl zf_273_0 eX10_init_269 ?_
  refine zr_aloadn C 0 eX10_init_272 rfl ?_
  refine zr_getR C ff_X10_13 rfl ⟨(zo_273).1, by omega⟩ rfl zf_273_1 eX10_init_273 ?_
  refine zr_callSv C [.ref (zad G 274), .ref (zad G 275)] zy_X10_copyRow zs_X10_copyRow lk_X10_79 (by unfold zRm; exact ⟨⟨Nat.le_of_ble_eq_true rfl, Nat.le_of_ble_eq_true rfl⟩, Nat.le_of_ble_eq_true rfl, Nat.le_of_ble_eq_true rfl⟩) (fun r hr => zqM_copyRow l G σc 274 275 zo_274 zo_275 r hr) rfl rfl (Nat.le_of_ble_eq_true rfl) eX10_init_276 (fun σd => ?_)
  exact zr_cret C (Nat.le_of_ble_eq_true rfl) (Nat.le_of_ble_eq_true rfl) eX10_init_279
