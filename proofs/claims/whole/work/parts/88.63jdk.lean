/-! MY OWN: static LEVELS, rows of rows, String.length and String.charAt of the one text constant -/
section ZJDK
variable {G : Zg} {p : Program} {l : Launch} {e : Env} {R : Room} {s : State} {m : MethodId} {args : Array Value} {below : List Frame} {meth : Method} {c : Code} {cc : ByteArray} {nL cells slots : Nat} {own : String} {ret : Option FieldType} {Q : State → Prop} {n : Nat} {ρ : Zp} {res : Int × Zm} {σ : Zm} {ex : Zr} {lv : List (Nat × Value)} {pc q : Nat} {st rest : List Value}
theorem zr_aald25 (C : zC G p s m args meth c cc nL own ret) {o N : Nat} {i j : Int} (hi : zin n o 25) (hN : zLN o = N) (hj : zw i = j) (hρ : ∀ k, k < N → ρ o k = true) (d : zD cc pc .aaload 1 q) (k : 0 ≤ j ∧ j < (N : Int) → zR G p l e R s m args below meth c nL cells slots Q n ρ res σ ex lv q (.ref (zad G (zRF o j.toNat)) :: st)) : zR G p l e R s m args below meth c nL cells slots Q n ρ res σ (zck j N ex) lv pc (.int (zI i) :: .ref (zad G o) :: st) := by
  obtain ⟨d1, rfl⟩ := d
  subst hN hj
  intro he ls H locs hl hW hS
  obtain ⟨h1, he⟩ := zck_some he
  have hat := hW.2 o hi.2
  rw [zc1_25 hi.1] at hat
  have hlt : (zI i).toNatClampNeg < zLN o := by rw [zI_cl]; omega
  have hin := zI_in h1
  refine W.aald (v := va_rf (zrs G (ρ o) (zRF o) (zI i).toNatClampNeg)) (ty := .array .int) C.1 C.2.1 hat ((C.2.2.2.2.2.1.1.2 5 (G.2.1 5, .array .int) rfl).1 (zLN o) (fun j => va_rf (zrs G (ρ o) (zRF o) j))) rfl (fun z => by cases z) (by show ¬ (zI i < 0 ∨ (arrV _ _ _).slots.size ≤ _); rw [arrV_size]; exact hin) (by show (arrV _ _ _).slots[_]? = _; rw [arrV_read _ _ hlt]) rfl rfl d1 ?_
  have e1 : va_rf (zrs G (ρ o) (zRF o) (zI i).toNatClampNeg) = .ref (zad G (zRF o (zw i).toNat)) := by
    unfold zrs
    rw [zI_cl, if_pos (hρ _ (by omega))]
    rfl
  rw [e1]
  exact k h1 he ls H locs hl hW hS
theorem zr_lev (C : zC G p s m args meth c cc nL own ret) {ix : Nat} (L : Cond.fieldLinkNest own ix "BrokenFugue" "LEVELS" "[I" "BrokenFugue" ∈ znst) (d : zD cc pc (.getstatic ix) 3 q) (k : zR G p l e R s m args below meth c nL cells slots Q n ρ res σ ex lv q (.ref G.2.2.2.1 :: st)) : zR G p l e R s m args below meth c nL cells slots Q n ρ res σ ex lv pc st := by
  obtain ⟨d1, rfl⟩ := d
  exact fun he ls H locs hl hW hS => va_getsN (C := "BrokenFugue") (ref := "BrokenFugue") (host := "BrokenFugue") C.1 C.2.1 C.2.2.2.2.2.1.2.2.1.1 hS C.2.2.2.1 (va_Nw.use (znst_on L) (C.2.2.2.2.2.1.2.1 _ L)) (fun _ h => h) d1 (k he ls H locs hl hW hS)
theorem zLv_I (j : Nat) : zI (zLv j) = zLev j := by
  by_cases h : j < 15
  · have h2 : ∀ j, j < 15 → zI (zLv j) = zLev j := by decide +kernel
    exact h2 j h
  · unfold zLv zLev
    rw [List.getD_eq_getElem?_getD, List.getD_eq_getElem?_getD, List.getElem?_eq_none (by simp; omega), List.getElem?_eq_none (by simp; omega)]
    decide
theorem zLv_n (j : Nat) : zw (zLv j) = zLv j := by
  by_cases h : j < 15
  · have h2 : ∀ j, j < 15 → zw (zLv j) = zLv j := by decide +kernel
    exact h2 j h
  · unfold zLv
    rw [List.getD_eq_getElem?_getD, List.getElem?_eq_none (by simp; omega)]
    decide
theorem zr_levld (C : zC G p s m args meth c cc nL own ret) {i j : Int} {F : Int → Zr} (hj : zw i = j) (d : zD cc pc .iaload 1 q) (k : ∀ v, zw v = v → zR G p l e R s m args below meth c nL cells slots Q n ρ res σ (F v) lv q (.int (zI v) :: st)) : zR G p l e R s m args below meth c nL cells slots Q n ρ res σ (zck j 15 (zlet (zLv j.toNat) F)) lv pc (.int (zI i) :: .ref G.2.2.2.1 :: st) := by
  obtain ⟨d1, rfl⟩ := d
  subst hj
  intro he ls H locs hl hW hS
  obtain ⟨h1, he⟩ := zck_some he
  exact va_ti C.1 C.2.1 C.2.2.2.2.2.1.2.2.1.2 hS (zI_in h1) (v := .int (zI (zLv (zw i).toNat))) (by rw [zLv_I, zI_cl]) d1 (k _ (zLv_n _) he ls H locs hl hW hS)
-- the text
def zKs (G : Zg) : Nat := G.2.2.2.2.1 0
def zVs (G : Zg) : Nat := G.2.2.2.2.2 0
theorem zr_ldcs (C : zC G p s m args meth c cc nL "BrokenFugue$Reader" ret) (d : zD cc pc (.ldc 159) 2 q) (k : zR G p l e R s m args below meth c nL cells slots Q n ρ res σ ex lv q (.ref (G.2.2.2.2.1 0) :: st)) : zR G p l e R s m args below meth c nL cells slots Q n ρ res σ ex lv pc st := by
  obtain ⟨d1, rfl⟩ := d
  exact fun he ls H locs hl hW hS => va_ldcS C.1 C.2.1 C.2.2.2.1 C.2.2.2.2.2.1.2.2.2.1.2 d1 (k he ls H locs hl hW hS)
theorem zr_getOF (C : zC G p s m args meth c cc nL own ret) {ix t : Nat} {nm ds : String} {v : Value} (hE : va_OF "java/lang/String" nm ds v t (zA G) s s.heap) (L : Cond.fieldLink own ix "java/lang/String" nm ds ∈ ztb) (d : zD cc pc (.getfield ix) 3 q) (k : zR G p l e R s m args below meth c nL cells slots Q n ρ res σ ex lv q (v :: st)) : zR G p l e R s m args below meth c nL cells slots Q n ρ res σ ex lv pc (.ref t :: st) := by
  obtain ⟨d1, rfl⟩ := d
  exact fun he ls H locs hl hW hS => vk_getf C.1 C.2.1 hE hS C.2.2.2.1 (C.2.2.2.2.1 _ L) (fun _ h => h) d1 (k he ls H locs hl hW hS)
theorem zr_gets (C : zC G p s m args meth c cc nL own ret) {ix : Nat} {cn nm ds : String} {v : Value} (hE : va_Z cn nm ds v (zA G) s s.heap) (L : Cond.fieldLink own ix cn nm ds ∈ ztb) (d : zD cc pc (.getstatic ix) 3 q) (k : zR G p l e R s m args below meth c nL cells slots Q n ρ res σ ex lv q (v :: st)) : zR G p l e R s m args below meth c nL cells slots Q n ρ res σ ex lv pc st := by
  obtain ⟨d1, rfl⟩ := d
  exact fun he ls H locs hl hW hS => va_gets C.1 C.2.1 hE hS C.2.2.2.1 (C.2.2.2.2.1 _ L) (fun _ h => h) d1 (k he ls H locs hl hW hS)
theorem zr_tlen (C : zC G p s m args meth c cc nL own ret) {t N : Nat} {ty : FieldType} {f : Nat → Value} {A : Int} (hT : va_T ty t N f (zA G) s s.heap) (hA : Int32.ofNat N = zI A) (d : zD cc pc .arraylength 1 q) (k : zR G p l e R s m args below meth c nL cells slots Q n ρ res σ ex lv q (.int (zI A) :: st)) : zR G p l e R s m args below meth c nL cells slots Q n ρ res σ ex lv pc (.ref t :: st) := by
  obtain ⟨d1, rfl⟩ := d
  exact fun he ls H locs hl hW hS => va_tlen C.1 C.2.1 hT hS hA d1 (k he ls H locs hl hW hS)
theorem zr_tb (C : zC G p s m args meth c cc nL own ret) {t N : Nat} {f : Nat → Value} {i j : Int} {v : Value} (hT : va_T .byte t N f (zA G) s s.heap) (hj : zw i = j) (hr : 0 ≤ j ∧ j < (N : Int)) (hv : f j.toNat = v) (d : zD cc pc .baload 1 q) (k : zR G p l e R s m args below meth c nL cells slots Q n ρ res σ ex lv q (v :: st)) : zR G p l e R s m args below meth c nL cells slots Q n ρ res σ ex lv pc (.int (zI i) :: .ref t :: st) := by
  obtain ⟨d1, rfl⟩ := d
  subst hj
  exact fun he ls H locs hl hW hS => va_tb C.1 C.2.1 hT hS (zI_in hr) hv d1 (k he ls H locs hl hW hS)
theorem zr_i2c (C : zC G p s m args meth c cc nL own ret) {x v : Int32} (d : zD cc pc .i2c 1 q) (hv : (x.toUInt32 % 65536).toInt32 = v) (k : zR G p l e R s m args below meth c nL cells slots Q n ρ res σ ex lv q (.int v :: st)) : zR G p l e R s m args below meth c nL cells slots Q n ρ res σ ex lv pc (.int x :: st) := by
  obtain ⟨d1, rfl⟩ := d
  exact fun he ls H locs hl hW hS => lv_i2c C.1 C.2.1 d1 hv (k he ls H locs hl hW hS)
theorem zr_nret {ty : FieldType} (C : zC G p s m args meth c cc nL own (some ty)) {a : Int} (hn : narrow ty (.int (zI a)) = .int (zI a)) (d : zD cc pc .ireturn 1 q) : zR G p l e R s m args below meth c nL 0 0 (zQm below args s G n ρ (some (.int (zI res.1))) res.2) n ρ res σ (some (a, σ)) lv pc [.int (zI a)] := by
  obtain ⟨d1, rfl⟩ := d
  intro he ls H locs hl hW hS
  cases he
  exact W.zret C.1 C.2.1 C.2.2.2.2.2.2.1 hn (zQ_ret hW hS) hS.2.2 d1 C.2.2.2.2.2.2.2
theorem zr_strV (C : zC G p s m args meth c cc nL own ret) {y : MethodName} {b : ByteArray} {mL np dp ix : Nat} {rt : Option FieldType} {fe : Zr} (As : List Value) {F : Int → Zm → Zr} (Y : zY y b mL rt np) (Yv : zYv y) (L : zL own ix y) (hR : zRm R cells slots mL dp) (hcl : y.cls = "java/lang/String") (hM : ∀ r : Int × Zm, fe = some r → zM l y b mL rt dp G n ρ σ (.ref (G.2.2.2.2.1 0) :: As) (some (.int (zI r.1))) r.2) (hn : As.length = np) (hst : st = As.reverse ++ .ref (G.2.2.2.2.1 0) :: rest) (hsum : (rest.map fun v => v.category).sum ≤ 8) (d : zD cc pc (.invokevirtual ix) 3 q) (k : ∀ v, zw v = v → ∀ σ', zR G p l e R s m args below meth c nL cells slots Q n ρ res σ' (F v σ') lv q (.int (zI v) :: rest)) : zR G p l e R s m args below meth c nL cells slots Q n ρ res σ (zbi fe F) lv pc st := by
  obtain ⟨d1, rfl⟩ := d
  intro he ls H locs hl hW hS
  match fe with
  | none => cases he
  | some r =>
    subst hst
    have hts := C.2.2.2.2.1
    have hrec := vk_recv C.2.2.2.2.2.1.2.2.2.1.1 (i := 0) (by decide) hS
    rw [← hcl] at hrec
    have hp : PreV s H y.cls (G.2.2.2.2.1 0) (zPc G n ρ σ (.ref (G.2.2.2.2.1 0) :: As)) As := ⟨zPc_blind, hrec, zPc_U C.2.2.2.2.2.1 hW hS⟩
    have fin : ∀ (H1 : Heap) (locs1 : List Loc), zW G n ρ r.2 H1 → va_S (zA G) s.heap H1 locs1 → W p l e R s m args below meth c H1 locs1 cells slots Q (F0 m (pc + 3) ls ((some (Value.int (zI r.1))).toList ++ rest)) := fun H1 locs1 hW1 hS1 => by
      have h9 := k (zw r.1) (zw_w _) r.2 he ls H1 locs1 hl hW1 hS1
      rw [zI_w] at h9
      exact h9
    rcases L with L | ⟨host, L⟩
    · exact zgo (va_runV ⟨C.1, C.2.1, C.2.2.1, C.2.2.2.1, hts⟩ (hM r rfl) ⟨zcb hts Y L hR, hts _ Yv.1, hts _ Yv.2⟩ hp rfl hn hl.1 rfl (lv_room hsum) d1 ⟨hR.2.1, hR.2.2⟩) hS fin
    · exact zgo (va_runVN ⟨C.1, C.2.1, C.2.2.1, C.2.2.2.1, hts⟩ (hM r rfl) ⟨zcn hts Y (va_Nw.use (znst_on L) (C.2.2.2.2.2.1.2.1 _ L)) hR, hts _ Yv.1, hts _ Yv.2⟩ hp rfl hn hl.1 rfl (lv_room hsum) d1 ⟨hR.2.1, hR.2.2⟩) hS fin
end ZJDK
theorem eJ0_coder_7d493_0 : zD cJ0_coder_7d493 0 (.getstatic 38) 3 3 := ⟨by decide +kernel, rfl⟩
theorem eJ0_coder_7d493_3 : zDj cJ0_coder_7d493 3 (.ifCond .eq 10) 10 13 6 := ⟨by decide +kernel, rfl, by decide⟩
theorem eJ0_coder_7d493_6 : zD cJ0_coder_7d493 6 (.aload_n 0) 1 7 := ⟨by decide +kernel, rfl⟩
theorem eJ0_coder_7d493_7 : zD cJ0_coder_7d493 7 (.getfield 15) 3 10 := ⟨by decide +kernel, rfl⟩
theorem eJ0_coder_7d493_10 : zDj cJ0_coder_7d493 10 (.goto 4) 4 14 13 := ⟨by decide +kernel, rfl, by decide⟩
theorem eJ0_coder_7d493_13 : zD cJ0_coder_7d493 13 (.iconst 1) 1 14 := ⟨by decide +kernel, rfl⟩
theorem eJ0_coder_7d493_14 : zD cJ0_coder_7d493 14 .ireturn 1 15 := ⟨by decide +kernel, rfl⟩
theorem eJ0_isLatin1_aae02_0 : zD cJ0_isLatin1_aae02 0 (.getstatic 38) 3 3 := ⟨by decide +kernel, rfl⟩
theorem eJ0_isLatin1_aae02_3 : zDj cJ0_isLatin1_aae02 3 (.ifCond .eq 14) 14 17 6 := ⟨by decide +kernel, rfl, by decide⟩
theorem eJ0_isLatin1_aae02_6 : zD cJ0_isLatin1_aae02 6 (.aload_n 0) 1 7 := ⟨by decide +kernel, rfl⟩
theorem eJ0_isLatin1_aae02_7 : zD cJ0_isLatin1_aae02 7 (.getfield 15) 3 10 := ⟨by decide +kernel, rfl⟩
theorem eJ0_isLatin1_aae02_10 : zDj cJ0_isLatin1_aae02 10 (.ifCond .ne 7) 7 17 13 := ⟨by decide +kernel, rfl, by decide⟩
theorem eJ0_isLatin1_aae02_13 : zD cJ0_isLatin1_aae02 13 (.iconst 1) 1 14 := ⟨by decide +kernel, rfl⟩
theorem eJ0_isLatin1_aae02_14 : zDj cJ0_isLatin1_aae02 14 (.goto 4) 4 18 17 := ⟨by decide +kernel, rfl, by decide⟩
theorem eJ0_isLatin1_aae02_17 : zD cJ0_isLatin1_aae02 17 (.iconst 0) 1 18 := ⟨by decide +kernel, rfl⟩
theorem eJ0_isLatin1_aae02_18 : zD cJ0_isLatin1_aae02 18 .ireturn 1 19 := ⟨by decide +kernel, rfl⟩
theorem eJ0_length_8abf5_0 : zD cJ0_length_8abf5 0 (.aload_n 0) 1 1 := ⟨by decide +kernel, rfl⟩
theorem eJ0_length_8abf5_1 : zD cJ0_length_8abf5 1 (.getfield 9) 3 4 := ⟨by decide +kernel, rfl⟩
theorem eJ0_length_8abf5_4 : zD cJ0_length_8abf5 4 .arraylength 1 5 := ⟨by decide +kernel, rfl⟩
theorem eJ0_length_8abf5_5 : zD cJ0_length_8abf5 5 (.aload_n 0) 1 6 := ⟨by decide +kernel, rfl⟩
theorem eJ0_length_8abf5_6 : zD cJ0_length_8abf5 6 (.invokevirtual 335) 3 9 := ⟨by decide +kernel, rfl⟩
theorem eJ0_length_8abf5_9 : zD cJ0_length_8abf5 9 .ishr 1 10 := ⟨by decide +kernel, rfl⟩
theorem eJ0_length_8abf5_10 : zD cJ0_length_8abf5 10 .ireturn 1 11 := ⟨by decide +kernel, rfl⟩
theorem eJ0_charAt_5068e_0 : zD cJ0_charAt_5068e 0 (.aload_n 0) 1 1 := ⟨by decide +kernel, rfl⟩
theorem eJ0_charAt_5068e_1 : zD cJ0_charAt_5068e 1 (.invokevirtual 492) 3 4 := ⟨by decide +kernel, rfl⟩
theorem eJ0_charAt_5068e_4 : zDj cJ0_charAt_5068e 4 (.ifCond .eq 12) 12 16 7 := ⟨by decide +kernel, rfl, by decide⟩
theorem eJ0_charAt_5068e_7 : zD cJ0_charAt_5068e 7 (.aload_n 0) 1 8 := ⟨by decide +kernel, rfl⟩
theorem eJ0_charAt_5068e_8 : zD cJ0_charAt_5068e 8 (.getfield 9) 3 11 := ⟨by decide +kernel, rfl⟩
theorem eJ0_charAt_5068e_11 : zD cJ0_charAt_5068e 11 (.iload_n 1) 1 12 := ⟨by decide +kernel, rfl⟩
theorem eJ0_charAt_5068e_12 : zD cJ0_charAt_5068e 12 (.invokestatic 495) 3 15 := ⟨by decide +kernel, rfl⟩
theorem eJ0_charAt_5068e_15 : zD cJ0_charAt_5068e 15 .ireturn 1 16 := ⟨by decide +kernel, rfl⟩
theorem eJ0_charAt_5068e_16 : zD cJ0_charAt_5068e 16 (.aload_n 0) 1 17 := ⟨by decide +kernel, rfl⟩
theorem eJ0_charAt_5068e_17 : zD cJ0_charAt_5068e 17 (.getfield 9) 3 20 := ⟨by decide +kernel, rfl⟩
theorem eJ0_charAt_5068e_20 : zD cJ0_charAt_5068e 20 (.iload_n 1) 1 21 := ⟨by decide +kernel, rfl⟩
theorem eJ0_charAt_5068e_21 : zD cJ0_charAt_5068e 21 (.invokestatic 498) 3 24 := ⟨by decide +kernel, rfl⟩
theorem eJ0_charAt_5068e_24 : zD cJ0_charAt_5068e 24 .ireturn 1 25 := ⟨by decide +kernel, rfl⟩
theorem eJ1_charAt_3b067_0 : zD cJ1_charAt_3b067 0 (.iload_n 1) 1 1 := ⟨by decide +kernel, rfl⟩
theorem eJ1_charAt_3b067_1 : zD cJ1_charAt_3b067 1 (.aload_n 0) 1 2 := ⟨by decide +kernel, rfl⟩
theorem eJ1_charAt_3b067_2 : zD cJ1_charAt_3b067 2 .arraylength 1 3 := ⟨by decide +kernel, rfl⟩
theorem eJ1_charAt_3b067_3 : zD cJ1_charAt_3b067 3 (.invokestatic 9) 3 6 := ⟨by decide +kernel, rfl⟩
theorem eJ1_charAt_3b067_6 : zD cJ1_charAt_3b067 6 (.aload_n 0) 1 7 := ⟨by decide +kernel, rfl⟩
theorem eJ1_charAt_3b067_7 : zD cJ1_charAt_3b067 7 (.iload_n 1) 1 8 := ⟨by decide +kernel, rfl⟩
theorem eJ1_charAt_3b067_8 : zD cJ1_charAt_3b067 8 .baload 1 9 := ⟨by decide +kernel, rfl⟩
theorem eJ1_charAt_3b067_9 : zD cJ1_charAt_3b067 9 (.sipush 255) 3 12 := ⟨by decide +kernel, rfl⟩
theorem eJ1_charAt_3b067_12 : zD cJ1_charAt_3b067 12 .iand 1 13 := ⟨by decide +kernel, rfl⟩
theorem eJ1_charAt_3b067_13 : zD cJ1_charAt_3b067 13 .i2c 1 14 := ⟨by decide +kernel, rfl⟩
theorem eJ1_charAt_3b067_14 : zD cJ1_charAt_3b067 14 .ireturn 1 15 := ⟨by decide +kernel, rfl⟩
theorem eJ0_checkIndex_df160_0 : zD cJ0_checkIndex_df160 0 (.iload_n 0) 1 1 := ⟨by decide +kernel, rfl⟩
theorem eJ0_checkIndex_df160_1 : zD cJ0_checkIndex_df160 1 (.iload_n 1) 1 2 := ⟨by decide +kernel, rfl⟩
theorem eJ0_checkIndex_df160_2 : zD cJ0_checkIndex_df160 2 (.getstatic 1053) 3 5 := ⟨by decide +kernel, rfl⟩
theorem eJ0_checkIndex_df160_5 : zD cJ0_checkIndex_df160 5 (.invokestatic 1059) 3 8 := ⟨by decide +kernel, rfl⟩
theorem eJ0_checkIndex_df160_8 : zD cJ0_checkIndex_df160 8 .pop 1 9 := ⟨by decide +kernel, rfl⟩
theorem eJ0_checkIndex_df160_9 : zD cJ0_checkIndex_df160 9 .return_ 1 10 := ⟨by decide +kernel, rfl⟩
theorem eJ3_checkIndex_8e157_0 : zD cJ3_checkIndex_8e157 0 (.iload_n 0) 1 1 := ⟨by decide +kernel, rfl⟩
theorem eJ3_checkIndex_8e157_1 : zDj cJ3_checkIndex_8e157 1 (.ifCond .lt 8) 8 9 4 := ⟨by decide +kernel, rfl, by decide⟩
theorem eJ3_checkIndex_8e157_4 : zD cJ3_checkIndex_8e157 4 (.iload_n 0) 1 5 := ⟨by decide +kernel, rfl⟩
theorem eJ3_checkIndex_8e157_5 : zD cJ3_checkIndex_8e157 5 (.iload_n 1) 1 6 := ⟨by decide +kernel, rfl⟩
theorem eJ3_checkIndex_8e157_6 : zDj cJ3_checkIndex_8e157 6 (.if_icmp .lt 10) 10 16 9 := ⟨by decide +kernel, rfl, by decide⟩
theorem eJ3_checkIndex_8e157_9 : zD cJ3_checkIndex_8e157 9 (.aload_n 2) 1 10 := ⟨by decide +kernel, rfl⟩
theorem eJ3_checkIndex_8e157_10 : zD cJ3_checkIndex_8e157 10 (.iload_n 0) 1 11 := ⟨by decide +kernel, rfl⟩
theorem eJ3_checkIndex_8e157_11 : zD cJ3_checkIndex_8e157 11 (.iload_n 1) 1 12 := ⟨by decide +kernel, rfl⟩
theorem eJ3_checkIndex_8e157_12 : zD cJ3_checkIndex_8e157 12 (.invokestatic 95) 3 15 := ⟨by decide +kernel, rfl⟩
theorem eJ3_checkIndex_8e157_15 : zD cJ3_checkIndex_8e157 15 .athrow 1 16 := ⟨by decide +kernel, rfl⟩
theorem eJ3_checkIndex_8e157_16 : zD cJ3_checkIndex_8e157 16 (.iload_n 0) 1 17 := ⟨by decide +kernel, rfl⟩
theorem eJ3_checkIndex_8e157_17 : zD cJ3_checkIndex_8e157 17 .ireturn 1 18 := ⟨by decide +kernel, rfl⟩
theorem zWc_ok {j : Nat} (h : j < 155) : zI (zWc j) = zWbyt.getD j 0 ∧ ((zI (zand (zWc j) 255)).toUInt32 % 65536).toInt32 = zI (zWc j) ∧ narrow .char (.int (zI (zWc j))) = .int (zI (zWc j)) := by
  have h2 : ∀ j, j < 155 → zI (zWc j) = zWbyt.getD j 0 ∧ ((zI (zand (zWc j) 255)).toUInt32 % 65536).toInt32 = zI (zWc j) ∧ (zI (zWc j)).toUInt32.toUInt16.toUInt32.toInt32 = zI (zWc j) := by decide +kernel
  obtain ⟨a, b, c⟩ := h2 j h
  exact ⟨a, b, congrArg Value.int c⟩
theorem zWc_n (j : Nat) : zw (zWc j) = zWc j := zw_n _
theorem zg_J0_38 : Cond.fieldLink RJ0 38 "java/lang/String" "COMPACT_STRINGS" "Z" ∈ ztb := by decide +kernel
theorem zg_J0_9 : Cond.fieldLink RJ0 9 "java/lang/String" "value" "[B" ∈ ztb := by decide +kernel
theorem zg_J0_15 : Cond.fieldLink RJ0 15 "java/lang/String" "coder" "B" ∈ ztb := by decide +kernel
theorem zg_J0_1053 : Cond.fieldLink RJ0 1053 "jdk/internal/util/Preconditions" "SIOOBE_FORMATTER" "Ljava/util/function/BiFunction;" ∈ ztb := by decide +kernel
theorem zy_J0_coder_7d493 : zY yJ0_coder_7d493 cJ0_coder_7d493 1 (some .byte) 0 := by unfold zY; decide +kernel
theorem zv_J0_coder_7d493 : zYv yJ0_coder_7d493 := by unfold zYv; decide +kernel
theorem lk_J0_335 : zL RJ0 335 yJ0_coder_7d493 := Or.inl (by decide +kernel)
theorem zrm_1_1_0 : zRm (zrm 1) 0 0 1 0 := by unfold zRm; decide
theorem zy_J3_checkIndex_8e157 : zY yJ3_checkIndex_8e157 cJ3_checkIndex_8e157 3 (some .int) 3 := by unfold zY; decide +kernel
theorem zs_J3_checkIndex_8e157 : Cond.static yJ3_checkIndex_8e157 ∈ ztb := by decide +kernel
theorem lk_J0_1059 : zL RJ0 1059 yJ3_checkIndex_8e157 := Or.inl (by decide +kernel)
theorem zrm_1_3_0 : zRm (zrm 1) 0 0 3 0 := by unfold zRm; decide
theorem zy_J0_checkIndex_df160 : zY yJ0_checkIndex_df160 cJ0_checkIndex_df160 2 none 2 := by unfold zY; decide +kernel
theorem zs_J0_checkIndex_df160 : Cond.static yJ0_checkIndex_df160 ∈ ztb := by decide +kernel
theorem lk_J1_9 : zL RJ1 9 yJ0_checkIndex_df160 := Or.inl (by decide +kernel)
theorem zrm_2_2_1 : zRm (zrm 2) 0 0 2 1 := by unfold zRm; decide
theorem zy_J0_isLatin1_aae02 : zY yJ0_isLatin1_aae02 cJ0_isLatin1_aae02 1 (some .boolean) 0 := by unfold zY; decide +kernel
theorem zv_J0_isLatin1_aae02 : zYv yJ0_isLatin1_aae02 := by unfold zYv; decide +kernel
theorem lk_J0_492 : zL RJ0 492 yJ0_isLatin1_aae02 := Or.inl (by decide +kernel)
theorem zrm_3_1_0 : zRm (zrm 3) 0 0 1 0 := by unfold zRm; decide
theorem zy_J1_charAt_3b067 : zY yJ1_charAt_3b067 cJ1_charAt_3b067 2 (some .char) 2 := by unfold zY; decide +kernel
theorem zs_J1_charAt_3b067 : Cond.static yJ1_charAt_3b067 ∈ ztb := by decide +kernel
theorem lk_J0_495 : zL RJ0 495 yJ1_charAt_3b067 := Or.inl (by decide +kernel)
theorem zrm_3_2_2 : zRm (zrm 3) 0 0 2 2 := by unfold zRm; decide
theorem w_155 : zw 155 = 155 := by decide +kernel
theorem w_0 : zw 0 = 0 := by decide +kernel
theorem w_1 : zw 1 = 1 := by decide +kernel
theorem qJ0_coder_7d493 (l : Launch) (G : Zg) (σ : Zm) (res : Int × Zm) (he : some (0, σ) = some res) : zM l yJ0_coder_7d493 cJ0_coder_7d493 1 (some .byte) 0 G 294 ztt σ [.ref (G.2.2.2.2.1 0)] (some (.int (zI res.1))) res.2 := by
  refine zM_of he (by decide +kernel) (Nat.le_of_ble_eq_true rfl) (lv := [(0, .ref (G.2.2.2.2.1 0))]) rfl (fun p e s m below meth c C => ?_)
  refine zr_gets C C.2.2.2.2.2.1.2.2.2.2.1 zg_J0_38 eJ0_coder_7d493_0 ?_
  refine zr_eq (ex' := if (1 : Int) = 0 then none else some (0, σ)) (by simp) ?_
  refine zr_if_eq (a := 1) C eJ0_coder_7d493_3 w_1 zr_none ?_
  refine zr_aloadn C 0 eJ0_coder_7d493_6 rfl ?_
  refine zr_getOF C (C.2.2.2.2.2.1.2.2.2.1.1.1 0 (by decide)).2.1 zg_J0_15 eJ0_coder_7d493_7 ?_
  refine zr_goto C eJ0_coder_7d493_10 ?_
  exact zr_nret (a := 0) C rfl eJ0_coder_7d493_14
theorem qJ0_isLatin1_aae02 (l : Launch) (G : Zg) (σ : Zm) (res : Int × Zm) (he : some (1, σ) = some res) : zM l yJ0_isLatin1_aae02 cJ0_isLatin1_aae02 1 (some .boolean) 0 G 294 ztt σ [.ref (G.2.2.2.2.1 0)] (some (.int (zI res.1))) res.2 := by
  refine zM_of he (by decide +kernel) (Nat.le_of_ble_eq_true rfl) (lv := [(0, .ref (G.2.2.2.2.1 0))]) rfl (fun p e s m below meth c C => ?_)
  refine zr_gets C C.2.2.2.2.2.1.2.2.2.2.1 zg_J0_38 eJ0_isLatin1_aae02_0 ?_
  refine zr_eq (ex' := if (1 : Int) = 0 then none else if ¬ (0 : Int) = 0 then none else some (1, σ)) (by simp) ?_
  refine zr_if_eq (a := 1) C eJ0_isLatin1_aae02_3 w_1 zr_none ?_
  refine zr_aloadn C 0 eJ0_isLatin1_aae02_6 rfl ?_
  refine zr_getOF C (C.2.2.2.2.2.1.2.2.2.1.1.1 0 (by decide)).2.1 zg_J0_15 eJ0_isLatin1_aae02_7 ?_
  refine zr_if_ne (a := 0) C eJ0_isLatin1_aae02_10 w_0 zr_none ?_
  refine zr_iconst C eJ0_isLatin1_aae02_13 rfl ?_
  refine zr_goto C eJ0_isLatin1_aae02_14 ?_
  exact zr_zret C eJ0_isLatin1_aae02_18 (Or.inr rfl)
theorem qJ0_length_8abf5 (l : Launch) (G : Zg) (σ : Zm) (res : Int × Zm) (he : some (155, σ) = some res) : zM l yJ0_length_8abf5 cJ0_length_8abf5 1 (some .int) 1 G 294 ztt σ [.ref (G.2.2.2.2.1 0)] (some (.int (zI res.1))) res.2 := by
  refine zM_of he (by decide +kernel) (Nat.le_of_ble_eq_true rfl) (lv := [(0, .ref (G.2.2.2.2.1 0))]) rfl (fun p e s m below meth c C => ?_)
  refine zr_aloadn C 0 eJ0_length_8abf5_0 rfl ?_
  refine zr_getOF C (C.2.2.2.2.2.1.2.2.2.1.1.1 0 (by decide)).2.2.1 zg_J0_9 eJ0_length_8abf5_1 ?_
  refine zr_tlen (A := 155) C (C.2.2.2.2.2.1.2.2.2.1.1.1 0 (by decide)).2.2.2 rfl eJ0_length_8abf5_4 ?_
  refine zr_aloadn C 0 eJ0_length_8abf5_5 rfl ?_
  refine zr_eq (ex' := zbi (some (0, σ)) (fun v σ' => some (zshr 155 v, σ'))) (show some (155, σ) = some (zshr 155 (zw 0), σ) by rw [show zshr 155 (zw 0) = 155 by decide +kernel]) ?_
  refine zr_strV C [] zy_J0_coder_7d493 zv_J0_coder_7d493 lk_J0_335 zrm_1_1_0 rfl (fun r hr => qJ0_coder_7d493 l G σ r hr) rfl rfl (Nat.le_of_ble_eq_true rfl) eJ0_length_8abf5_6 (fun v nv σ' => ?_)
  refine zr_ishr C eJ0_length_8abf5_9 ?_
  exact zr_iret C eJ0_length_8abf5_10
theorem qJ3_checkIndex_8e157 (l : Launch) (G : Zg) (σ : Zm) (i k : Int) (v : Value) (hv : v.category = 1) (ni : zw i = i) (nk : zw k = k) (hik : 0 ≤ i ∧ i < k) (res : Int × Zm) (he : some (i, σ) = some res) : zM l yJ3_checkIndex_8e157 cJ3_checkIndex_8e157 3 (some .int) 0 G 294 ztt σ [.int (zI i), .int (zI k), v] (some (.int (zI res.1))) res.2 := by
  refine zM_of he (by decide +kernel) (by unfold lg_sl; simp only [List.flatMap_cons, List.flatMap_nil, hv]; exact Nat.le_of_ble_eq_true rfl) (lv := [(0, .int (zI i)), (1, .int (zI k)), (2, v)]) (by simp [lv_args, Value.category]) (fun p e s m below meth c C => ?_)
  refine zr_iloadn C 0 eJ3_checkIndex_8e157_0 rfl ?_
  refine zr_eq (ex' := if i < 0 then none else if i < k then some (i, σ) else none) (by rw [if_neg (by omega), if_pos hik.2]) ?_
  refine zr_if_lt C eJ3_checkIndex_8e157_1 ni zr_none ?_
  refine zr_iloadn C 0 eJ3_checkIndex_8e157_4 rfl ?_
  refine zr_iloadn C 1 eJ3_checkIndex_8e157_5 rfl ?_
  refine zr_icmp_lt C eJ3_checkIndex_8e157_6 ni nk ?_ zr_none
  refine zr_iloadn C 0 eJ3_checkIndex_8e157_16 rfl ?_
  exact zr_iret C eJ3_checkIndex_8e157_17
theorem qJ0_checkIndex_df160 (l : Launch) (G : Zg) (σ : Zm) (i k : Int) (ni : zw i = i) (nk : zw k = k) (hik : 0 ≤ i ∧ i < k) (res : Int × Zm) (he : some (0, σ) = some res) : zM l yJ0_checkIndex_df160 cJ0_checkIndex_df160 2 none 1 G 294 ztt σ [.int (zI i), .int (zI k)] none res.2 := by
  refine zM_of he (by decide +kernel) (Nat.le_of_ble_eq_true rfl) (lv := [(0, .int (zI i)), (1, .int (zI k))]) rfl (fun p e s m below meth c C => ?_)
  refine zr_iloadn C 0 eJ0_checkIndex_df160_0 rfl ?_
  refine zr_iloadn C 1 eJ0_checkIndex_df160_1 rfl ?_
  rcases C.2.2.2.2.2.1.2.2.2.2.2 with hz | ⟨tz, hz⟩
  · skip
    refine zr_gets C hz zg_J0_1053 eJ0_checkIndex_df160_2 ?_
    refine zr_eq (ex' := zbi (some (i, σ)) (fun _ σ' => some (0, σ'))) rfl ?_
    refine zr_callSi C [.int (zI i), .int (zI k), .null] zy_J3_checkIndex_8e157 zs_J3_checkIndex_8e157 lk_J0_1059 zrm_1_3_0 (fun r hr => qJ3_checkIndex_8e157 l G σ i k .null rfl ni nk hik r hr) rfl rfl (Nat.le_of_ble_eq_true rfl) eJ0_checkIndex_df160_5 (fun v nv σ' => ?_)
    refine zr_pop C eJ0_checkIndex_df160_8 rfl ?_
    exact zr_vret C eJ0_checkIndex_df160_9
  · skip
    refine zr_gets C hz zg_J0_1053 eJ0_checkIndex_df160_2 ?_
    refine zr_eq (ex' := zbi (some (i, σ)) (fun _ σ' => some (0, σ'))) rfl ?_
    refine zr_callSi C [.int (zI i), .int (zI k), (.ref tz)] zy_J3_checkIndex_8e157 zs_J3_checkIndex_8e157 lk_J0_1059 zrm_1_3_0 (fun r hr => qJ3_checkIndex_8e157 l G σ i k (.ref tz) rfl ni nk hik r hr) rfl rfl (Nat.le_of_ble_eq_true rfl) eJ0_checkIndex_df160_5 (fun v nv σ' => ?_)
    refine zr_pop C eJ0_checkIndex_df160_8 rfl ?_
    exact zr_vret C eJ0_checkIndex_df160_9
theorem qJ1_charAt_3b067 (l : Launch) (G : Zg) (σ : Zm) (i : Int) (ni : zw i = i) (hi : 0 ≤ i ∧ i < 155) (res : Int × Zm) (he : some (zWc i.toNat, σ) = some res) : zM l yJ1_charAt_3b067 cJ1_charAt_3b067 2 (some .char) 2 G 294 ztt σ [.ref (G.2.2.2.2.2 0), .int (zI i)] (some (.int (zI res.1))) res.2 := by
  refine zM_of he (by decide +kernel) (Nat.le_of_ble_eq_true rfl) (lv := [(0, .ref (G.2.2.2.2.2 0)), (1, .int (zI i))]) rfl (fun p e s m below meth c C => ?_)
  have hT := (C.2.2.2.2.2.1.2.2.2.1.1.1 0 (by decide)).2.2.2
  refine zr_iloadn C 1 eJ1_charAt_3b067_0 rfl ?_
  refine zr_aloadn C 0 eJ1_charAt_3b067_1 rfl ?_
  refine zr_tlen (A := 155) C hT rfl eJ1_charAt_3b067_2 ?_
  refine zr_eq (ex' := zbv (some (0, σ)) (fun σ' => some (zWc i.toNat, σ'))) rfl ?_
  refine zr_callSv C [.int (zI i), .int (zI 155)] zy_J0_checkIndex_df160 zs_J0_checkIndex_df160 lk_J1_9 zrm_2_2_1 (fun r hr => qJ0_checkIndex_df160 l G σ i 155 ni w_155 hi r hr) rfl rfl (Nat.le_of_ble_eq_true rfl) eJ1_charAt_3b067_3 (fun σ' => ?_)
  refine zr_aloadn C 0 eJ1_charAt_3b067_6 rfl ?_
  refine zr_iloadn C 1 eJ1_charAt_3b067_7 rfl ?_
  refine zr_tb C hT ni hi rfl eJ1_charAt_3b067_8 ?_
  obtain ⟨h1, h2, h3⟩ := zWc_ok (by omega : i.toNat < 155)
  refine zr_st (st' := .int (zI (zWc i.toNat)) :: []) (by rw [h1]; rfl) ?_
  refine zr_sipush (a := 255) C eJ1_charAt_3b067_9 rfl ?_
  refine zr_iand C eJ1_charAt_3b067_12 ?_
  refine zr_i2c C eJ1_charAt_3b067_13 h2 ?_
  exact zr_nret C h3 eJ1_charAt_3b067_14
theorem qJ0_charAt_5068e (l : Launch) (G : Zg) (σ : Zm) (i : Int) (ni : zw i = i) (hi : 0 ≤ i ∧ i < 155) (res : Int × Zm) (he : some (zWc i.toNat, σ) = some res) : zM l yJ0_charAt_5068e cJ0_charAt_5068e 2 (some .char) 3 G 294 ztt σ [.ref (G.2.2.2.2.1 0), .int (zI i)] (some (.int (zI res.1))) res.2 := by
  refine zM_of he (by decide +kernel) (Nat.le_of_ble_eq_true rfl) (lv := [(0, .ref (G.2.2.2.2.1 0)), (1, .int (zI i))]) rfl (fun p e s m below meth c C => ?_)
  refine zr_aloadn C 0 eJ0_charAt_5068e_0 rfl ?_
  refine zr_eq (ex' := zbi (some (1, σ)) (fun v σ' => if v = 0 then none else zbi (some (zWc i.toNat, σ')) (fun w σ'' => if w = zWc i.toNat then some (w, σ'') else none))) ?_ ?_
  · have h9 := (zWc_ok (by omega : i.toNat < 155)).2.2
    simp only [zbi, zw_1]
    rw [if_neg (by decide), zWc_n, if_pos rfl]
  refine zr_strV C [] zy_J0_isLatin1_aae02 zv_J0_isLatin1_aae02 lk_J0_492 zrm_3_1_0 rfl (fun r hr => qJ0_isLatin1_aae02 l G σ r hr) rfl rfl (Nat.le_of_ble_eq_true rfl) eJ0_charAt_5068e_1 (fun v nv σ' => ?_)
  refine zr_if_eq C eJ0_charAt_5068e_4 nv zr_none ?_
  refine zr_aloadn C 0 eJ0_charAt_5068e_7 rfl ?_
  refine zr_getOF C (C.2.2.2.2.2.1.2.2.2.1.1.1 0 (by decide)).2.2.1 zg_J0_9 eJ0_charAt_5068e_8 ?_
  refine zr_iloadn C 1 eJ0_charAt_5068e_11 rfl ?_
  refine zr_callSi C [.ref (G.2.2.2.2.2 0), .int (zI i)] zy_J1_charAt_3b067 zs_J1_charAt_3b067 lk_J0_495 zrm_3_2_2 (fun r hr => qJ1_charAt_3b067 l G σ' i ni hi r hr) rfl rfl (Nat.le_of_ble_eq_true rfl) eJ0_charAt_5068e_12 (fun w nw σ'' => ?_)
  refine zr_if (fun hw => ?_) (fun _ => zr_none)
  exact zr_nret C (by rw [hw]; exact (zWc_ok (by omega : i.toNat < 155)).2.2) eJ0_charAt_5068e_15
theorem zy_J0_length_8abf5 : zY yJ0_length_8abf5 cJ0_length_8abf5 1 (some .int) 0 := by unfold zY; decide +kernel
theorem zv_J0_length_8abf5 : zYv yJ0_length_8abf5 := by unfold zYv; decide +kernel
theorem zy_J0_charAt_5068e : zY yJ0_charAt_5068e cJ0_charAt_5068e 2 (some .char) 1 := by unfold zY; decide +kernel
theorem zv_J0_charAt_5068e : zYv yJ0_charAt_5068e := by unfold zYv; decide +kernel
theorem zr_strlen {G : Zg} {p : Program} {l : Launch} {e : Env} {R : Room} {s : State} {m : MethodId} {args : Array Value} {below : List Frame} {meth : Method} {c : Code} {cc : ByteArray} {nL cells slots : Nat} {own : String} {ret : Option FieldType} {Q : State → Prop} {res : Int × Zm} {σ : Zm} {ex : Zr} {lv : List (Nat × Value)} {pc q ix : Nat} {rest : List Value} (C : zC G p s m args meth c cc nL own ret) (L : zL own ix yJ0_length_8abf5) (hR : zRm R cells slots 1 1) (hsum : (rest.map fun v => v.category).sum ≤ 8) (d : zD cc pc (.invokevirtual ix) 3 q) (k : zR G p l e R s m args below meth c nL cells slots Q 294 ztt res σ ex lv q (.int (zI 155) :: rest)) : zR G p l e R s m args below meth c nL cells slots Q 294 ztt res σ ex lv pc (.ref (G.2.2.2.2.1 0) :: rest) := by
  obtain ⟨d1, rfl⟩ := d
  intro he ls H locs hl hW hS
  have hts := C.2.2.2.2.1
  have hrec := vk_recv C.2.2.2.2.2.1.2.2.2.1.1 (i := 0) (by decide) hS
  have hp : PreV s H "java/lang/String" (G.2.2.2.2.1 0) (zPc G 294 ztt σ (.ref (G.2.2.2.2.1 0) :: [])) [] := ⟨zPc_blind, hrec, zPc_U C.2.2.2.2.2.1 hW hS⟩
  have hM := qJ0_length_8abf5 l G σ (155, σ) rfl
  have fin : ∀ (H1 : Heap) (locs1 : List Loc), zW G 294 ztt σ H1 → va_S (zA G) s.heap H1 locs1 → W p l e R s m args below meth c H1 locs1 cells slots Q (F0 m (pc + 3) ls ((some (Value.int (zI 155))).toList ++ rest)) := fun H1 locs1 hW1 hS1 => k he ls H1 locs1 hl hW1 hS1
  rcases L with L | ⟨host, L⟩
  · exact zgo (va_runV (As := []) ⟨C.1, C.2.1, C.2.2.1, C.2.2.2.1, hts⟩ hM ⟨zcb hts zy_J0_length_8abf5 L hR, hts _ zv_J0_length_8abf5.1, hts _ zv_J0_length_8abf5.2⟩ hp rfl rfl hl.1 rfl (lv_room hsum) d1 ⟨hR.2.1, hR.2.2⟩) hS fin
  · exact zgo (va_runVN (As := []) ⟨C.1, C.2.1, C.2.2.1, C.2.2.2.1, hts⟩ hM ⟨zcn hts zy_J0_length_8abf5 (va_Nw.use (znst_on L) (C.2.2.2.2.2.1.2.1 _ L)) hR, hts _ zv_J0_length_8abf5.1, hts _ zv_J0_length_8abf5.2⟩ hp rfl rfl hl.1 rfl (lv_room hsum) d1 ⟨hR.2.1, hR.2.2⟩) hS fin
theorem zr_charAt {G : Zg} {p : Program} {l : Launch} {e : Env} {R : Room} {s : State} {m : MethodId} {args : Array Value} {below : List Frame} {meth : Method} {c : Code} {cc : ByteArray} {nL cells slots : Nat} {own : String} {ret : Option FieldType} {Q : State → Prop} {res : Int × Zm} {σ : Zm} {F : Int → Zr} {i j : Int} {lv : List (Nat × Value)} {pc q ix : Nat} {rest : List Value} (C : zC G p s m args meth c cc nL own ret) (L : zL own ix yJ0_charAt_5068e) (hR : zRm R cells slots 2 3) (hj : zw i = j) (hsum : (rest.map fun v => v.category).sum ≤ 8) (d : zD cc pc (.invokevirtual ix) 3 q) (k : ∀ v, zw v = v → zR G p l e R s m args below meth c nL cells slots Q 294 ztt res σ (F v) lv q (.int (zI v) :: rest)) : zR G p l e R s m args below meth c nL cells slots Q 294 ztt res σ (zck j 155 (zlet (zWc j.toNat) F)) lv pc (.int (zI i) :: .ref (G.2.2.2.2.1 0) :: rest) := by
  obtain ⟨d1, rfl⟩ := d
  subst hj
  intro he ls H locs hl hW hS
  obtain ⟨h1, he⟩ := zck_some he
  have hts := C.2.2.2.2.1
  have hrec := vk_recv C.2.2.2.2.2.1.2.2.2.1.1 (i := 0) (by decide) hS
  have hp : PreV s H "java/lang/String" (G.2.2.2.2.1 0) (zPc G 294 ztt σ (.ref (G.2.2.2.2.1 0) :: [.int (zI (zw i))])) [.int (zI (zw i))] := ⟨zPc_blind, hrec, zPc_U C.2.2.2.2.2.1 hW hS⟩
  have hM := qJ0_charAt_5068e l G σ (zw i) (zw_w i) h1 (zWc (zw i).toNat, σ) rfl
  have fin : ∀ (H1 : Heap) (locs1 : List Loc), zW G 294 ztt σ H1 → va_S (zA G) s.heap H1 locs1 → W p l e R s m args below meth c H1 locs1 cells slots Q (F0 m (pc + 3) ls ((some (Value.int (zI (zWc (zw i).toNat)))).toList ++ rest)) := fun H1 locs1 hW1 hS1 => k _ (zWc_n _) he ls H1 locs1 hl hW1 hS1
  rcases L with L | ⟨host, L⟩
  · exact zgo (va_runV (As := [.int (zI (zw i))]) ⟨C.1, C.2.1, C.2.2.1, C.2.2.2.1, hts⟩ hM ⟨zcb hts zy_J0_charAt_5068e L hR, hts _ zv_J0_charAt_5068e.1, hts _ zv_J0_charAt_5068e.2⟩ hp rfl rfl hl.1 (by rw [zI_w]; rfl) (lv_room hsum) d1 ⟨hR.2.1, hR.2.2⟩) hS fin
  · exact zgo (va_runVN (As := [.int (zI (zw i))]) ⟨C.1, C.2.1, C.2.2.1, C.2.2.2.1, hts⟩ hM ⟨zcn hts zy_J0_charAt_5068e (va_Nw.use (znst_on L) (C.2.2.2.2.2.1.2.1 _ L)) hR, hts _ zv_J0_charAt_5068e.1, hts _ zv_J0_charAt_5068e.2⟩ hp rfl rfl hl.1 (by rw [zI_w]; rfl) (lv_room hsum) d1 ⟨hR.2.1, hR.2.2⟩) hS fin
