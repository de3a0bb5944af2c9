/-! MY OWN: the rows of zR: an instruction each -/
section ZROWS
variable {G : Zg} {p : Program} {l : Launch} {e : Env} {R : Room} {s : State} {m : MethodId} {args : Array Value} {below : List Frame} {meth : Method} {c : Code} {cc : ByteArray} {nL cells slots : Nat} {own : String} {ret : Option FieldType} {Q : State → Prop} {n : Nat} {ρ : Zp} {res : Int × Zm} {σ : Zm} {ex : Zr} {lv : List (Nat × Value)} {pc q : Nat} {st rest : List Value}
def zD (cc : ByteArray) (pc : Nat) (i : Instr) (len q : Nat) : Prop := decode cc pc = .ok (i, len) ∧ pc + len = q
def zDj (cc : ByteArray) (pc : Nat) (i : Instr) (off : Int) (tgt q : Nat) : Prop := decode cc pc = .ok (i, 3) ∧ pc + 3 = q ∧ (pc : Int) + off = (tgt : Int)
theorem zr_none : zR G p l e R s m args below meth c nL cells slots Q n ρ res σ none lv pc st := fun h => by cases h
theorem zr_eq {ex' : Zr} (h : ex = ex') (k : zR G p l e R s m args below meth c nL cells slots Q n ρ res σ ex' lv pc st) : zR G p l e R s m args below meth c nL cells slots Q n ρ res σ ex lv pc st := h ▸ k
theorem zr_st {st' : List Value} (h : st = st') (k : zR G p l e R s m args below meth c nL cells slots Q n ρ res σ ex lv pc st') : zR G p l e R s m args below meth c nL cells slots Q n ρ res σ ex lv pc st := h ▸ k
/-- the locals as a sublist -/
theorem zr_lv {lv' : List (Nat × Value)} (ks : List Nat) (h : lv_pick lv ks = lv') (k : zR G p l e R s m args below meth c nL cells slots Q n ρ res σ ex lv' pc st) : zR G p l e R s m args below meth c nL cells slots Q n ρ res σ ex lv pc st :=
  fun he ls H locs hl hW hS => k he ls H locs (lv_sub hl ks h) hW hS
theorem zr_if {A : Prop} {dA : Decidable A} {e1 e2 : Zr} (kt : A → zR G p l e R s m args below meth c nL cells slots Q n ρ res σ e1 lv pc st) (kf : ¬ A → zR G p l e R s m args below meth c nL cells slots Q n ρ res σ e2 lv pc st) : zR G p l e R s m args below meth c nL cells slots Q n ρ res σ (if A then e1 else e2) lv pc st := by
  by_cases h : A
  · rw [if_pos h]; exact kt h
  · rw [if_neg h]; exact kf h
theorem zr_let {α : Type} {v : α} {F : α → Zr} (k : zR G p l e R s m args below meth c nL cells slots Q n ρ res σ (F v) lv pc st) : zR G p l e R s m args below meth c nL cells slots Q n ρ res σ (zlet v F) lv pc st := k
-- constants
theorem zr_iconst (C : zC G p s m args meth c cc nL own ret) {a : Int} {i : Int} (d : zD cc pc (.iconst i) 1 q) (h : i = a) (k : zR G p l e R s m args below meth c nL cells slots Q n ρ res σ ex lv q (.int (zI a) :: st)) : zR G p l e R s m args below meth c nL cells slots Q n ρ res σ ex lv pc st := by
  obtain ⟨d1, rfl⟩ := d
  subst h
  exact fun he ls H locs hl hW hS => lv_iconst C.1 C.2.1 d1 rfl (k he ls H locs hl hW hS)
theorem zr_bipush (C : zC G p s m args meth c cc nL own ret) {a : Int} {i : Int} (d : zD cc pc (.bipush i) 2 q) (h : (Int8.ofInt i).toInt32 = zI a) (k : zR G p l e R s m args below meth c nL cells slots Q n ρ res σ ex lv q (.int (zI a) :: st)) : zR G p l e R s m args below meth c nL cells slots Q n ρ res σ ex lv pc st := by
  obtain ⟨d1, rfl⟩ := d
  exact fun he ls H locs hl hW hS => lv_bipush C.1 C.2.1 d1 h (k he ls H locs hl hW hS)
theorem zr_sipush (C : zC G p s m args meth c cc nL own ret) {a : Int} {i : Int} (d : zD cc pc (.sipush i) 3 q) (h : (Int16.ofInt i).toInt32 = zI a) (k : zR G p l e R s m args below meth c nL cells slots Q n ρ res σ ex lv q (.int (zI a) :: st)) : zR G p l e R s m args below meth c nL cells slots Q n ρ res σ ex lv pc st := by
  obtain ⟨d1, rfl⟩ := d
  exact fun he ls H locs hl hW hS => lv_sipush C.1 C.2.1 d1 h (k he ls H locs hl hW hS)
theorem zr_ldc (C : zC G p s m args meth c cc nL own ret) {a : Int} {v : Int32} {ix : Nat} (d : zD cc pc (.ldc ix) 2 q) (hw : Cond.constant own ix v ∈ ztb) (h : v = zI a) (k : zR G p l e R s m args below meth c nL cells slots Q n ρ res σ ex lv q (.int (zI a) :: st)) : zR G p l e R s m args below meth c nL cells slots Q n ρ res σ ex lv pc st := by
  obtain ⟨d1, rfl⟩ := d
  subst h
  exact fun he ls H locs hl hW hS => lv_ldc C.1 C.2.1 C.2.2.2.1 (C.2.2.2.2.1 _ hw) d1 (k he ls H locs hl hW hS)
theorem zr_ldcw (C : zC G p s m args meth c cc nL own ret) {a : Int} {v : Int32} {ix : Nat} (d : zD cc pc (.ldc_w ix) 3 q) (hw : Cond.constant own ix v ∈ ztb) (h : v = zI a) (k : zR G p l e R s m args below meth c nL cells slots Q n ρ res σ ex lv q (.int (zI a) :: st)) : zR G p l e R s m args below meth c nL cells slots Q n ρ res σ ex lv pc st := by
  obtain ⟨d1, rfl⟩ := d
  subst h
  exact fun he ls H locs hl hW hS => lv_ldcw C.1 C.2.1 C.2.2.2.1 (C.2.2.2.2.1 _ hw) d1 (k he ls H locs hl hW hS)
theorem zr_ldc2 (C : zC G p s m args meth c cc nL own ret) {a : Int} {v : Int64} {ix : Nat} (d : zD cc pc (.ldc2_w ix) 3 q) (hw : Cond.constantLong own ix v ∈ ztb) (h : v = zJ a) (k : zR G p l e R s m args below meth c nL cells slots Q n ρ res σ ex lv q (.long (zJ a) :: st)) : zR G p l e R s m args below meth c nL cells slots Q n ρ res σ ex lv pc st := by
  obtain ⟨d1, rfl⟩ := d
  subst h
  exact fun he ls H locs hl hW hS => lv_ldc2 C.1 C.2.1 C.2.2.2.1 (C.2.2.2.2.1 _ hw) d1 (k he ls H locs hl hW hS)
theorem zr_lconst (C : zC G p s m args meth c cc nL own ret) {a : Int} {i : Fin 2} (d : zD cc pc (.lconst i) 1 q) (h : Int64.ofNat (i : Nat) = zJ a) (k : zR G p l e R s m args below meth c nL cells slots Q n ρ res σ ex lv q (.long (zJ a) :: st)) : zR G p l e R s m args below meth c nL cells slots Q n ρ res σ ex lv pc st := by
  obtain ⟨d1, rfl⟩ := d
  exact fun he ls H locs hl hW hS => lv_lconst C.1 C.2.1 d1 h (k he ls H locs hl hW hS)
-- locals: j the place in the list
theorem zr_iload (C : zC G p s m args meth c cc nL own ret) (j : Nat) {i : Nat} {x : Int32} (d : zD cc pc (.iload i) 2 q) (h : lv[j]? = some (i, .int x)) (k : zR G p l e R s m args below meth c nL cells slots Q n ρ res σ ex lv q (.int x :: st)) : zR G p l e R s m args below meth c nL cells slots Q n ρ res σ ex lv pc st := by
  obtain ⟨d1, rfl⟩ := d
  exact fun he ls H locs hl hW hS => lv_iload C.1 C.2.1 d1 (lv_at hl j h) (k he ls H locs hl hW hS)
theorem zr_iloadn (C : zC G p s m args meth c cc nL own ret) (j : Nat) {i : Fin 4} {x : Int32} (d : zD cc pc (.iload_n i) 1 q) (h : lv[j]? = some ((i : Nat), .int x)) (k : zR G p l e R s m args below meth c nL cells slots Q n ρ res σ ex lv q (.int x :: st)) : zR G p l e R s m args below meth c nL cells slots Q n ρ res σ ex lv pc st := by
  obtain ⟨d1, rfl⟩ := d
  exact fun he ls H locs hl hW hS => lv_iload_n C.1 C.2.1 d1 rfl (lv_at hl j h) (k he ls H locs hl hW hS)
theorem zr_lload (C : zC G p s m args meth c cc nL own ret) (j : Nat) {i : Nat} {x : Int64} (d : zD cc pc (.lload i) 2 q) (h : lv[j]? = some (i, .long x)) (k : zR G p l e R s m args below meth c nL cells slots Q n ρ res σ ex lv q (.long x :: st)) : zR G p l e R s m args below meth c nL cells slots Q n ρ res σ ex lv pc st := by
  obtain ⟨d1, rfl⟩ := d
  exact fun he ls H locs hl hW hS => lv_lload C.1 C.2.1 d1 (lv_at hl j h) (k he ls H locs hl hW hS)
theorem zr_lloadn (C : zC G p s m args meth c cc nL own ret) (j : Nat) {i : Fin 4} {x : Int64} (d : zD cc pc (.lload_n i) 1 q) (h : lv[j]? = some ((i : Nat), .long x)) (k : zR G p l e R s m args below meth c nL cells slots Q n ρ res σ ex lv q (.long x :: st)) : zR G p l e R s m args below meth c nL cells slots Q n ρ res σ ex lv pc st := by
  obtain ⟨d1, rfl⟩ := d
  exact fun he ls H locs hl hW hS => lv_lload_n C.1 C.2.1 d1 rfl (lv_at hl j h) (k he ls H locs hl hW hS)
theorem zr_aload (C : zC G p s m args meth c cc nL own ret) (j : Nat) {i : Nat} {x : Nat} (d : zD cc pc (.aload i) 2 q) (h : lv[j]? = some (i, .ref x)) (k : zR G p l e R s m args below meth c nL cells slots Q n ρ res σ ex lv q (.ref x :: st)) : zR G p l e R s m args below meth c nL cells slots Q n ρ res σ ex lv pc st := by
  obtain ⟨d1, rfl⟩ := d
  exact fun he ls H locs hl hW hS => lv_aload C.1 C.2.1 d1 (lv_at hl j h) (k he ls H locs hl hW hS)
theorem zr_aloadn (C : zC G p s m args meth c cc nL own ret) (j : Nat) {i : Fin 4} {x : Nat} (d : zD cc pc (.aload_n i) 1 q) (h : lv[j]? = some ((i : Nat), .ref x)) (k : zR G p l e R s m args below meth c nL cells slots Q n ρ res σ ex lv q (.ref x :: st)) : zR G p l e R s m args below meth c nL cells slots Q n ρ res σ ex lv pc st := by
  obtain ⟨d1, rfl⟩ := d
  exact fun he ls H locs hl hW hS => lv_aload_n C.1 C.2.1 d1 rfl (lv_at hl j h) (k he ls H locs hl hW hS)
def zlv (lv : List (Nat × Value)) (i : Nat) (v : Value) : List (Nat × Value) := (i, v) :: lv.filter (fun q => !(q.1 == i) && !(q.1 + 1 == i && q.2.category == 2))
def zlv2 (lv : List (Nat × Value)) (i : Nat) (v : Value) : List (Nat × Value) := (i, v) :: lv.filter (fun q => !(q.1 == i) && (!(q.1 == i + 1) && !(q.1 + 1 == i && q.2.category == 2)))
theorem zr_istore (C : zC G p s m args meth c cc nL own ret) {i : Nat} {x : Int32} {lv' : List (Nat × Value)} (d : zD cc pc (.istore i) 2 q) (hn : i < nL) (h : zlv lv i (.int x) = lv') (k : zR G p l e R s m args below meth c nL cells slots Q n ρ res σ ex lv' q st) : zR G p l e R s m args below meth c nL cells slots Q n ρ res σ ex lv pc (.int x :: st) := by
  obtain ⟨d1, rfl⟩ := d
  exact fun he ls H locs hl hW hS => lv_istore C.1 C.2.1 d1 hl hn h (fun ls' hl' => k he ls' H locs hl' hW hS)
theorem zr_istoren (C : zC G p s m args meth c cc nL own ret) {i : Fin 4} {x : Int32} {lv' : List (Nat × Value)} (d : zD cc pc (.istore_n i) 1 q) (hn : (i : Nat) < nL) (h : zlv lv i (.int x) = lv') (k : zR G p l e R s m args below meth c nL cells slots Q n ρ res σ ex lv' q st) : zR G p l e R s m args below meth c nL cells slots Q n ρ res σ ex lv pc (.int x :: st) := by
  obtain ⟨d1, rfl⟩ := d
  exact fun he ls H locs hl hW hS => lv_istore_n C.1 C.2.1 d1 rfl hl hn h (fun ls' hl' => k he ls' H locs hl' hW hS)
theorem zr_astore (C : zC G p s m args meth c cc nL own ret) {i : Nat} {x : Nat} {lv' : List (Nat × Value)} (d : zD cc pc (.astore i) 2 q) (hn : i < nL) (h : zlv lv i (.ref x) = lv') (k : zR G p l e R s m args below meth c nL cells slots Q n ρ res σ ex lv' q st) : zR G p l e R s m args below meth c nL cells slots Q n ρ res σ ex lv pc (.ref x :: st) := by
  obtain ⟨d1, rfl⟩ := d
  exact fun he ls H locs hl hW hS => lv_astore C.1 C.2.1 d1 hl hn h (fun ls' hl' => k he ls' H locs hl' hW hS)
theorem zr_astoren (C : zC G p s m args meth c cc nL own ret) {i : Fin 4} {x : Nat} {lv' : List (Nat × Value)} (d : zD cc pc (.astore_n i) 1 q) (hn : (i : Nat) < nL) (h : zlv lv i (.ref x) = lv') (k : zR G p l e R s m args below meth c nL cells slots Q n ρ res σ ex lv' q st) : zR G p l e R s m args below meth c nL cells slots Q n ρ res σ ex lv pc (.ref x :: st) := by
  obtain ⟨d1, rfl⟩ := d
  exact fun he ls H locs hl hW hS => lv_astore_n C.1 C.2.1 d1 rfl hl hn h (fun ls' hl' => k he ls' H locs hl' hW hS)
theorem zr_lstore (C : zC G p s m args meth c cc nL own ret) {i : Nat} {x : Int64} {lv' : List (Nat × Value)} (d : zD cc pc (.lstore i) 2 q) (hn : i + 1 < nL) (h : zlv2 lv i (.long x) = lv') (k : zR G p l e R s m args below meth c nL cells slots Q n ρ res σ ex lv' q st) : zR G p l e R s m args below meth c nL cells slots Q n ρ res σ ex lv pc (.long x :: st) := by
  obtain ⟨d1, rfl⟩ := d
  exact fun he ls H locs hl hW hS => lv_lstore C.1 C.2.1 d1 hl hn h (fun ls' hl' => k he ls' H locs hl' hW hS)
theorem zr_lstoren (C : zC G p s m args meth c cc nL own ret) {i : Fin 4} {x : Int64} {lv' : List (Nat × Value)} (d : zD cc pc (.lstore_n i) 1 q) (hn : (i : Nat) + 1 < nL) (h : zlv2 lv i (.long x) = lv') (k : zR G p l e R s m args below meth c nL cells slots Q n ρ res σ ex lv' q st) : zR G p l e R s m args below meth c nL cells slots Q n ρ res σ ex lv pc (.long x :: st) := by
  obtain ⟨d1, rfl⟩ := d
  exact fun he ls H locs hl hW hS => lv_lstore_n C.1 C.2.1 d1 rfl hl hn h (fun ls' hl' => k he ls' H locs hl' hW hS)
theorem zr_iinc (C : zC G p s m args meth c cc nL own ret) (j : Nat) {i : Nat} {b a : Int} {lv' : List (Nat × Value)} (d : zD cc pc (.iinc i b) 3 q) (hj : lv[j]? = some (i, .int (zI a))) (hn : i < nL) (h : zlv lv i (.int (zI (a + b))) = lv') (k : zR G p l e R s m args below meth c nL cells slots Q n ρ res σ ex lv' q st) : zR G p l e R s m args below meth c nL cells slots Q n ρ res σ ex lv pc st := by
  obtain ⟨d1, rfl⟩ := d
  exact fun he ls H locs hl hW hS => lv_iinc C.1 C.2.1 d1 hl hj (zI_add a b) hn h (fun ls' hl' => k he ls' H locs hl' hW hS)
-- arithmetic
theorem zr_iadd (C : zC G p s m args meth c cc nL own ret) {a b : Int} (d : zD cc pc .iadd 1 q) (k : zR G p l e R s m args below meth c nL cells slots Q n ρ res σ ex lv q (.int (zI (a + b)) :: st)) : zR G p l e R s m args below meth c nL cells slots Q n ρ res σ ex lv pc (.int (zI b) :: .int (zI a) :: st) := by
  obtain ⟨d1, rfl⟩ := d
  rw [← zI_add] at k
  exact fun he ls H locs hl hW hS => lv_iadd C.1 C.2.1 d1 (k he ls H locs hl hW hS)
theorem zr_isub (C : zC G p s m args meth c cc nL own ret) {a b : Int} (d : zD cc pc .isub 1 q) (k : zR G p l e R s m args below meth c nL cells slots Q n ρ res σ ex lv q (.int (zI (a - b)) :: st)) : zR G p l e R s m args below meth c nL cells slots Q n ρ res σ ex lv pc (.int (zI b) :: .int (zI a) :: st) := by
  obtain ⟨d1, rfl⟩ := d
  rw [← zI_sub] at k
  exact fun he ls H locs hl hW hS => lv_isub C.1 C.2.1 d1 (k he ls H locs hl hW hS)
theorem zr_imul (C : zC G p s m args meth c cc nL own ret) {a b : Int} (d : zD cc pc .imul 1 q) (k : zR G p l e R s m args below meth c nL cells slots Q n ρ res σ ex lv q (.int (zI (a * b)) :: st)) : zR G p l e R s m args below meth c nL cells slots Q n ρ res σ ex lv pc (.int (zI b) :: .int (zI a) :: st) := by
  obtain ⟨d1, rfl⟩ := d
  rw [← zI_mul] at k
  exact fun he ls H locs hl hW hS => lv_imul C.1 C.2.1 d1 (k he ls H locs hl hW hS)
theorem zr_ineg (C : zC G p s m args meth c cc nL own ret) {a : Int} (d : zD cc pc .ineg 1 q) (k : zR G p l e R s m args below meth c nL cells slots Q n ρ res σ ex lv q (.int (zI (-a)) :: st)) : zR G p l e R s m args below meth c nL cells slots Q n ρ res σ ex lv pc (.int (zI a) :: st) := by
  obtain ⟨d1, rfl⟩ := d
  rw [← zI_neg] at k
  exact fun he ls H locs hl hW hS => lv_ineg C.1 C.2.1 d1 (k he ls H locs hl hW hS)
/-- by a number that is known not to be 0 -/
theorem zr_idivc (C : zC G p s m args meth c cc nL own ret) {a b A : Int} (d : zD cc pc .idiv 1 q) (ha : zw a = A) (hb : zw b = b) (h0 : b ≠ 0) (k : zR G p l e R s m args below meth c nL cells slots Q n ρ res σ ex lv q (.int (zI (Int.tdiv A b)) :: st)) : zR G p l e R s m args below meth c nL cells slots Q n ρ res σ ex lv pc (.int (zI b) :: .int (zI a) :: st) := by
  obtain ⟨d1, rfl⟩ := d
  subst ha
  have e1 := zI_div a b
  rw [hb] at e1
  rw [← e1] at k
  exact fun he ls H locs hl hW hS => lv_idiv C.1 C.2.1 d1 (fun z => h0 (by rw [← hb, ← zw_0]; exact zI_inj.mp z)) (k he ls H locs hl hW hS)
theorem zr_iremc (C : zC G p s m args meth c cc nL own ret) {a b A : Int} (d : zD cc pc .irem 1 q) (ha : zw a = A) (hb : zw b = b) (h0 : b ≠ 0) (k : zR G p l e R s m args below meth c nL cells slots Q n ρ res σ ex lv q (.int (zI (Int.tmod A b)) :: st)) : zR G p l e R s m args below meth c nL cells slots Q n ρ res σ ex lv pc (.int (zI b) :: .int (zI a) :: st) := by
  obtain ⟨d1, rfl⟩ := d
  subst ha
  have e1 := zI_rem a b
  rw [hb] at e1
  rw [← e1] at k
  exact fun he ls H locs hl hW hS => lv_irem C.1 C.2.1 d1 (fun z => h0 (by rw [← hb, ← zw_0]; exact zI_inj.mp z)) (k he ls H locs hl hW hS)
theorem zr_idiv (C : zC G p s m args meth c cc nL own ret) {a b A B : Int} (d : zD cc pc .idiv 1 q) (ha : zw a = A) (hb : zw b = B) (k : zR G p l e R s m args below meth c nL cells slots Q n ρ res σ ex lv q (.int (zI (Int.tdiv A B)) :: st)) : zR G p l e R s m args below meth c nL cells slots Q n ρ res σ (zdv B ex) lv pc (.int (zI b) :: .int (zI a) :: st) := by
  by_cases h0 : B = 0
  · unfold zdv; rw [if_pos h0]; exact zr_none
  · unfold zdv; rw [if_neg h0]
    obtain ⟨d1, rfl⟩ := d
    subst ha hb
    rw [← zI_div a b] at k
    exact fun he ls H locs hl hW hS => lv_idiv C.1 C.2.1 d1 (fun z => h0 (by rw [← zw_0]; exact zI_inj.mp z)) (k he ls H locs hl hW hS)
theorem zr_irem (C : zC G p s m args meth c cc nL own ret) {a b A B : Int} (d : zD cc pc .irem 1 q) (ha : zw a = A) (hb : zw b = B) (k : zR G p l e R s m args below meth c nL cells slots Q n ρ res σ ex lv q (.int (zI (Int.tmod A B)) :: st)) : zR G p l e R s m args below meth c nL cells slots Q n ρ res σ (zdv B ex) lv pc (.int (zI b) :: .int (zI a) :: st) := by
  by_cases h0 : B = 0
  · unfold zdv; rw [if_pos h0]; exact zr_none
  · unfold zdv; rw [if_neg h0]
    obtain ⟨d1, rfl⟩ := d
    subst ha hb
    rw [← zI_rem a b] at k
    exact fun he ls H locs hl hW hS => lv_irem C.1 C.2.1 d1 (fun z => h0 (by rw [← zw_0]; exact zI_inj.mp z)) (k he ls H locs hl hW hS)
theorem zr_ldiv (C : zC G p s m args meth c cc nL own ret) {a b A B : Int} (d : zD cc pc .ldiv 1 q) (ha : zx a = A) (hb : zx b = B) (k : zR G p l e R s m args below meth c nL cells slots Q n ρ res σ ex lv q (.long (zJ (Int.tdiv A B)) :: st)) : zR G p l e R s m args below meth c nL cells slots Q n ρ res σ (zdv B ex) lv pc (.long (zJ b) :: .long (zJ a) :: st) := by
  by_cases h0 : B = 0
  · unfold zdv; rw [if_pos h0]; exact zr_none
  · unfold zdv; rw [if_neg h0]
    obtain ⟨d1, rfl⟩ := d
    subst ha hb
    rw [← zJ_div a b] at k
    exact fun he ls H locs hl hW hS => lv_ldiv C.1 C.2.1 d1 (fun z => h0 (by have := zJ_inj.mp (show zJ b = zJ 0 from z); rw [this]; decide)) (k he ls H locs hl hW hS)
theorem zr_iand (C : zC G p s m args meth c cc nL own ret) {a b : Int} (d : zD cc pc .iand 1 q) (k : zR G p l e R s m args below meth c nL cells slots Q n ρ res σ ex lv q (.int (zI (zand a b)) :: st)) : zR G p l e R s m args below meth c nL cells slots Q n ρ res σ ex lv pc (.int (zI b) :: .int (zI a) :: st) := by
  obtain ⟨d1, rfl⟩ := d
  rw [show zI (zand a b) = zI a &&& zI b from zI_t _] at k
  exact fun he ls H locs hl hW hS => lv_iand C.1 C.2.1 d1 (k he ls H locs hl hW hS)
theorem zr_ior (C : zC G p s m args meth c cc nL own ret) {a b : Int} (d : zD cc pc .ior 1 q) (k : zR G p l e R s m args below meth c nL cells slots Q n ρ res σ ex lv q (.int (zI (zor a b)) :: st)) : zR G p l e R s m args below meth c nL cells slots Q n ρ res σ ex lv pc (.int (zI b) :: .int (zI a) :: st) := by
  obtain ⟨d1, rfl⟩ := d
  rw [show zI (zor a b) = zI a ||| zI b from zI_t _] at k
  exact fun he ls H locs hl hW hS => lv_ior C.1 C.2.1 d1 (k he ls H locs hl hW hS)
theorem zr_ixor (C : zC G p s m args meth c cc nL own ret) {a b : Int} (d : zD cc pc .ixor 1 q) (k : zR G p l e R s m args below meth c nL cells slots Q n ρ res σ ex lv q (.int (zI (zxor a b)) :: st)) : zR G p l e R s m args below meth c nL cells slots Q n ρ res σ ex lv pc (.int (zI b) :: .int (zI a) :: st) := by
  obtain ⟨d1, rfl⟩ := d
  rw [show zI (zxor a b) = zI a ^^^ zI b from zI_t _] at k
  exact fun he ls H locs hl hW hS => lv_ixor C.1 C.2.1 d1 (k he ls H locs hl hW hS)
theorem zr_ishl (C : zC G p s m args meth c cc nL own ret) {a b : Int} (d : zD cc pc .ishl 1 q) (k : zR G p l e R s m args below meth c nL cells slots Q n ρ res σ ex lv q (.int (zI (zshl a b)) :: st)) : zR G p l e R s m args below meth c nL cells slots Q n ρ res σ ex lv pc (.int (zI b) :: .int (zI a) :: st) := by
  obtain ⟨d1, rfl⟩ := d
  rw [show zI (zshl a b) = zI a <<< (zI b &&& 31) from zI_t _] at k
  exact fun he ls H locs hl hW hS => lv_ishl C.1 C.2.1 d1 (k he ls H locs hl hW hS)
theorem zr_ishr (C : zC G p s m args meth c cc nL own ret) {a b : Int} (d : zD cc pc .ishr 1 q) (k : zR G p l e R s m args below meth c nL cells slots Q n ρ res σ ex lv q (.int (zI (zshr a b)) :: st)) : zR G p l e R s m args below meth c nL cells slots Q n ρ res σ ex lv pc (.int (zI b) :: .int (zI a) :: st) := by
  obtain ⟨d1, rfl⟩ := d
  rw [show zI (zshr a b) = zI a >>> (zI b &&& 31) from zI_t _] at k
  exact fun he ls H locs hl hW hS => lv_ishr C.1 C.2.1 d1 (k he ls H locs hl hW hS)
theorem zr_iushr (C : zC G p s m args meth c cc nL own ret) {a b : Int} (d : zD cc pc .iushr 1 q) (k : zR G p l e R s m args below meth c nL cells slots Q n ρ res σ ex lv q (.int (zI (zushr a b)) :: st)) : zR G p l e R s m args below meth c nL cells slots Q n ρ res σ ex lv pc (.int (zI b) :: .int (zI a) :: st) := by
  obtain ⟨d1, rfl⟩ := d
  exact fun he ls H locs hl hW hS => lv_iushr C.1 C.2.1 d1 (zI_t _).symm (k he ls H locs hl hW hS)
theorem zr_ladd (C : zC G p s m args meth c cc nL own ret) {a b : Int} (d : zD cc pc .ladd 1 q) (k : zR G p l e R s m args below meth c nL cells slots Q n ρ res σ ex lv q (.long (zJ (a + b)) :: st)) : zR G p l e R s m args below meth c nL cells slots Q n ρ res σ ex lv pc (.long (zJ b) :: .long (zJ a) :: st) := by
  obtain ⟨d1, rfl⟩ := d
  rw [← zJ_add] at k
  exact fun he ls H locs hl hW hS => lv_ladd C.1 C.2.1 d1 (k he ls H locs hl hW hS)
theorem zr_lsub (C : zC G p s m args meth c cc nL own ret) {a b : Int} (d : zD cc pc .lsub 1 q) (k : zR G p l e R s m args below meth c nL cells slots Q n ρ res σ ex lv q (.long (zJ (a - b)) :: st)) : zR G p l e R s m args below meth c nL cells slots Q n ρ res σ ex lv pc (.long (zJ b) :: .long (zJ a) :: st) := by
  obtain ⟨d1, rfl⟩ := d
  rw [← zJ_sub] at k
  exact fun he ls H locs hl hW hS => lv_lsub C.1 C.2.1 d1 (k he ls H locs hl hW hS)
theorem zr_lmul (C : zC G p s m args meth c cc nL own ret) {a b : Int} (d : zD cc pc .lmul 1 q) (k : zR G p l e R s m args below meth c nL cells slots Q n ρ res σ ex lv q (.long (zJ (a * b)) :: st)) : zR G p l e R s m args below meth c nL cells slots Q n ρ res σ ex lv pc (.long (zJ b) :: .long (zJ a) :: st) := by
  obtain ⟨d1, rfl⟩ := d
  rw [← zJ_mul] at k
  exact fun he ls H locs hl hW hS => lv_lmul C.1 C.2.1 d1 (k he ls H locs hl hW hS)
theorem zr_lneg (C : zC G p s m args meth c cc nL own ret) {a : Int} (d : zD cc pc .lneg 1 q) (k : zR G p l e R s m args below meth c nL cells slots Q n ρ res σ ex lv q (.long (zJ (-a)) :: st)) : zR G p l e R s m args below meth c nL cells slots Q n ρ res σ ex lv pc (.long (zJ a) :: st) := by
  obtain ⟨d1, rfl⟩ := d
  rw [← zJ_neg] at k
  exact fun he ls H locs hl hW hS => lv_lneg C.1 C.2.1 d1 (k he ls H locs hl hW hS)
theorem zr_land (C : zC G p s m args meth c cc nL own ret) {a b : Int} (d : zD cc pc .land 1 q) (k : zR G p l e R s m args below meth c nL cells slots Q n ρ res σ ex lv q (.long (zJ (zland a b)) :: st)) : zR G p l e R s m args below meth c nL cells slots Q n ρ res σ ex lv pc (.long (zJ b) :: .long (zJ a) :: st) := by
  obtain ⟨d1, rfl⟩ := d
  rw [show zJ (zland a b) = zJ a &&& zJ b from zJ_t _] at k
  exact fun he ls H locs hl hW hS => lv_land C.1 C.2.1 d1 (k he ls H locs hl hW hS)
theorem zr_lor (C : zC G p s m args meth c cc nL own ret) {a b : Int} (d : zD cc pc .lor 1 q) (k : zR G p l e R s m args below meth c nL cells slots Q n ρ res σ ex lv q (.long (zJ (zlor a b)) :: st)) : zR G p l e R s m args below meth c nL cells slots Q n ρ res σ ex lv pc (.long (zJ b) :: .long (zJ a) :: st) := by
  obtain ⟨d1, rfl⟩ := d
  rw [show zJ (zlor a b) = zJ a ||| zJ b from zJ_t _] at k
  exact fun he ls H locs hl hW hS => lv_lor C.1 C.2.1 d1 (k he ls H locs hl hW hS)
theorem zr_lshl (C : zC G p s m args meth c cc nL own ret) {a b : Int} (d : zD cc pc .lshl 1 q) (k : zR G p l e R s m args below meth c nL cells slots Q n ρ res σ ex lv q (.long (zJ (zlshl a b)) :: st)) : zR G p l e R s m args below meth c nL cells slots Q n ρ res σ ex lv pc (.int (zI b) :: .long (zJ a) :: st) := by
  obtain ⟨d1, rfl⟩ := d
  exact fun he ls H locs hl hW hS => lv_lshl C.1 C.2.1 d1 (zJ_t _).symm (k he ls H locs hl hW hS)
theorem zr_lcmp (C : zC G p s m args meth c cc nL own ret) {a b : Int} (d : zD cc pc .lcmp 1 q) (k : zR G p l e R s m args below meth c nL cells slots Q n ρ res σ ex lv q (.int (zI (zlc a b)) :: st)) : zR G p l e R s m args below meth c nL cells slots Q n ρ res σ ex lv pc (.long (zJ b) :: .long (zJ a) :: st) := by
  obtain ⟨d1, rfl⟩ := d
  rw [← zlc_I] at k
  exact fun he ls H locs hl hW hS => W.lcmp C.1 C.2.1 d1 (k he ls H locs hl hW hS)
theorem zr_i2l (C : zC G p s m args meth c cc nL own ret) {a A : Int} (d : zD cc pc .i2l 1 q) (ha : zw a = A) (k : zR G p l e R s m args below meth c nL cells slots Q n ρ res σ ex lv q (.long (zJ A) :: st)) : zR G p l e R s m args below meth c nL cells slots Q n ρ res σ ex lv pc (.int (zI a) :: st) := by
  obtain ⟨d1, rfl⟩ := d
  subst ha
  exact fun he ls H locs hl hW hS => lv_i2l C.1 C.2.1 d1 (zI_l a) (k he ls H locs hl hW hS)
theorem zr_l2i (C : zC G p s m args meth c cc nL own ret) {a : Int} (d : zD cc pc .l2i 1 q) (k : zR G p l e R s m args below meth c nL cells slots Q n ρ res σ ex lv q (.int (zI a) :: st)) : zR G p l e R s m args below meth c nL cells slots Q n ρ res σ ex lv pc (.long (zJ a) :: st) := by
  obtain ⟨d1, rfl⟩ := d
  exact fun he ls H locs hl hW hS => lv_l2i C.1 C.2.1 d1 (zJ_l a) (k he ls H locs hl hW hS)
-- the stack
theorem zr_dup (C : zC G p s m args meth c cc nL own ret) {v : Value} (d : zD cc pc .dup 1 q) (hv : v.category = 1) (k : zR G p l e R s m args below meth c nL cells slots Q n ρ res σ ex lv q (v :: v :: st)) : zR G p l e R s m args below meth c nL cells slots Q n ρ res σ ex lv pc (v :: st) := by
  obtain ⟨d1, rfl⟩ := d
  exact fun he ls H locs hl hW hS => lv_dup C.1 C.2.1 d1 hv (k he ls H locs hl hW hS)
theorem zr_dup2 (C : zC G p s m args meth c cc nL own ret) {v w : Value} (d : zD cc pc .dup2 1 q) (hv : v.category = 1) (hw : w.category = 1) (k : zR G p l e R s m args below meth c nL cells slots Q n ρ res σ ex lv q (v :: w :: v :: w :: st)) : zR G p l e R s m args below meth c nL cells slots Q n ρ res σ ex lv pc (v :: w :: st) := by
  obtain ⟨d1, rfl⟩ := d
  exact fun he ls H locs hl hW hS => lv_dup2_11 C.1 C.2.1 d1 hv hw (k he ls H locs hl hW hS)
theorem zr_pop (C : zC G p s m args meth c cc nL own ret) {v : Value} (d : zD cc pc .pop 1 q) (hv : v.category = 1) (k : zR G p l e R s m args below meth c nL cells slots Q n ρ res σ ex lv q st) : zR G p l e R s m args below meth c nL cells slots Q n ρ res σ ex lv pc (v :: st) := by
  obtain ⟨d1, rfl⟩ := d
  exact fun he ls H locs hl hW hS => lv_pop C.1 C.2.1 d1 hv (k he ls H locs hl hW hS)
-- branches
theorem zr_icmp_eq (C : zC G p s m args meth c cc nL own ret) {a b A B off : Int} {tgt : Nat} {e1 e2 : Zr} (d : zDj cc pc (.if_icmp .eq off) off tgt q) (ha : zw a = A) (hb : zw b = B) (kt : zR G p l e R s m args below meth c nL cells slots Q n ρ res σ e1 lv tgt st) (kf : zR G p l e R s m args below meth c nL cells slots Q n ρ res σ e2 lv q st) : zR G p l e R s m args below meth c nL cells slots Q n ρ res σ (if A = B then e1 else e2) lv pc (.int (zI b) :: .int (zI a) :: st) := by
  obtain ⟨d1, rfl, d2⟩ := d
  subst ha hb
  intro he ls H locs hl hW hS
  refine lv_icmp_eq C.1 C.2.1 d1 d2 (fun h => ?_) (fun h => ?_)
  · exact kt (by rw [if_pos ((zI_inj).mp h)] at he; exact he) ls H locs hl hW hS
  · exact kf (by rw [if_neg (fun z => h ((zI_inj).mpr z))] at he; exact he) ls H locs hl hW hS
theorem zr_if_eq (C : zC G p s m args meth c cc nL own ret) {a A off : Int} {tgt : Nat} {e1 e2 : Zr} (d : zDj cc pc (.ifCond .eq off) off tgt q) (ha : zw a = A) (kt : zR G p l e R s m args below meth c nL cells slots Q n ρ res σ e1 lv tgt st) (kf : zR G p l e R s m args below meth c nL cells slots Q n ρ res σ e2 lv q st) : zR G p l e R s m args below meth c nL cells slots Q n ρ res σ (if A = 0 then e1 else e2) lv pc (.int (zI a) :: st) := by
  obtain ⟨d1, rfl, d2⟩ := d
  subst ha
  intro he ls H locs hl hW hS
  have hf : zI a = zI 0 ↔ zw a = 0 := by
    have h9 : zI a = zI 0 ↔ zw a = zw 0 := zI_inj
    rw [zw_0] at h9
    exact h9
  refine lv_if_eq C.1 C.2.1 d1 d2 (fun h => ?_) (fun h => ?_)
  · exact kt (by rw [if_pos (hf.mp h)] at he; exact he) ls H locs hl hW hS
  · exact kf (by rw [if_neg (fun z => h (hf.mpr z))] at he; exact he) ls H locs hl hW hS
theorem zr_icmp_ne (C : zC G p s m args meth c cc nL own ret) {a b A B off : Int} {tgt : Nat} {e1 e2 : Zr} (d : zDj cc pc (.if_icmp .ne off) off tgt q) (ha : zw a = A) (hb : zw b = B) (kt : zR G p l e R s m args below meth c nL cells slots Q n ρ res σ e1 lv tgt st) (kf : zR G p l e R s m args below meth c nL cells slots Q n ρ res σ e2 lv q st) : zR G p l e R s m args below meth c nL cells slots Q n ρ res σ (if ¬ A = B then e1 else e2) lv pc (.int (zI b) :: .int (zI a) :: st) := by
  obtain ⟨d1, rfl, d2⟩ := d
  subst ha hb
  intro he ls H locs hl hW hS
  refine lv_icmp_ne C.1 C.2.1 d1 d2 (fun h => ?_) (fun h => ?_)
  · exact kt (by rw [if_pos (((not_congr zI_inj)).mp h)] at he; exact he) ls H locs hl hW hS
  · exact kf (by rw [if_neg (fun z => ((not_congr zI_inj).mpr z) h)] at he; exact he) ls H locs hl hW hS
theorem zr_if_ne (C : zC G p s m args meth c cc nL own ret) {a A off : Int} {tgt : Nat} {e1 e2 : Zr} (d : zDj cc pc (.ifCond .ne off) off tgt q) (ha : zw a = A) (kt : zR G p l e R s m args below meth c nL cells slots Q n ρ res σ e1 lv tgt st) (kf : zR G p l e R s m args below meth c nL cells slots Q n ρ res σ e2 lv q st) : zR G p l e R s m args below meth c nL cells slots Q n ρ res σ (if ¬ A = 0 then e1 else e2) lv pc (.int (zI a) :: st) := by
  obtain ⟨d1, rfl, d2⟩ := d
  subst ha
  intro he ls H locs hl hW hS
  have hf : zI a ≠ zI 0 ↔ ¬ zw a = 0 := by
    have h9 : zI a ≠ zI 0 ↔ ¬ zw a = zw 0 := (not_congr zI_inj)
    rw [zw_0] at h9
    exact h9
  refine lv_if_ne C.1 C.2.1 d1 d2 (fun h => ?_) (fun h => ?_)
  · exact kt (by rw [if_pos (hf.mp h)] at he; exact he) ls H locs hl hW hS
  · exact kf (by rw [if_neg (fun z => (hf.mpr z) h)] at he; exact he) ls H locs hl hW hS
theorem zr_icmp_lt (C : zC G p s m args meth c cc nL own ret) {a b A B off : Int} {tgt : Nat} {e1 e2 : Zr} (d : zDj cc pc (.if_icmp .lt off) off tgt q) (ha : zw a = A) (hb : zw b = B) (kt : zR G p l e R s m args below meth c nL cells slots Q n ρ res σ e1 lv tgt st) (kf : zR G p l e R s m args below meth c nL cells slots Q n ρ res σ e2 lv q st) : zR G p l e R s m args below meth c nL cells slots Q n ρ res σ (if A < B then e1 else e2) lv pc (.int (zI b) :: .int (zI a) :: st) := by
  obtain ⟨d1, rfl, d2⟩ := d
  subst ha hb
  intro he ls H locs hl hW hS
  refine lv_icmp_lt C.1 C.2.1 d1 d2 (fun h => ?_) (fun h => ?_)
  · exact kt (by rw [if_pos ((zI_lt).mp h)] at he; exact he) ls H locs hl hW hS
  · exact kf (by rw [if_neg (fun z => h ((zI_lt).mpr z))] at he; exact he) ls H locs hl hW hS
theorem zr_if_lt (C : zC G p s m args meth c cc nL own ret) {a A off : Int} {tgt : Nat} {e1 e2 : Zr} (d : zDj cc pc (.ifCond .lt off) off tgt q) (ha : zw a = A) (kt : zR G p l e R s m args below meth c nL cells slots Q n ρ res σ e1 lv tgt st) (kf : zR G p l e R s m args below meth c nL cells slots Q n ρ res σ e2 lv q st) : zR G p l e R s m args below meth c nL cells slots Q n ρ res σ (if A < 0 then e1 else e2) lv pc (.int (zI a) :: st) := by
  obtain ⟨d1, rfl, d2⟩ := d
  subst ha
  intro he ls H locs hl hW hS
  have hf : zI a < zI 0 ↔ zw a < 0 := by
    have h9 : zI a < zI 0 ↔ zw a < zw 0 := zI_lt
    rw [zw_0] at h9
    exact h9
  refine lv_if_lt C.1 C.2.1 d1 d2 (fun h => ?_) (fun h => ?_)
  · exact kt (by rw [if_pos (hf.mp h)] at he; exact he) ls H locs hl hW hS
  · exact kf (by rw [if_neg (fun z => h (hf.mpr z))] at he; exact he) ls H locs hl hW hS
theorem zr_icmp_ge (C : zC G p s m args meth c cc nL own ret) {a b A B off : Int} {tgt : Nat} {e1 e2 : Zr} (d : zDj cc pc (.if_icmp .ge off) off tgt q) (ha : zw a = A) (hb : zw b = B) (kt : zR G p l e R s m args below meth c nL cells slots Q n ρ res σ e1 lv tgt st) (kf : zR G p l e R s m args below meth c nL cells slots Q n ρ res σ e2 lv q st) : zR G p l e R s m args below meth c nL cells slots Q n ρ res σ (if B ≤ A then e1 else e2) lv pc (.int (zI b) :: .int (zI a) :: st) := by
  obtain ⟨d1, rfl, d2⟩ := d
  subst ha hb
  intro he ls H locs hl hW hS
  refine lv_icmp_ge C.1 C.2.1 d1 d2 (fun h => ?_) (fun h => ?_)
  · exact kt (by rw [if_pos ((zI_le).mp h)] at he; exact he) ls H locs hl hW hS
  · exact kf (by rw [if_neg (fun z => h ((zI_le).mpr z))] at he; exact he) ls H locs hl hW hS
theorem zr_if_ge (C : zC G p s m args meth c cc nL own ret) {a A off : Int} {tgt : Nat} {e1 e2 : Zr} (d : zDj cc pc (.ifCond .ge off) off tgt q) (ha : zw a = A) (kt : zR G p l e R s m args below meth c nL cells slots Q n ρ res σ e1 lv tgt st) (kf : zR G p l e R s m args below meth c nL cells slots Q n ρ res σ e2 lv q st) : zR G p l e R s m args below meth c nL cells slots Q n ρ res σ (if 0 ≤ A then e1 else e2) lv pc (.int (zI a) :: st) := by
  obtain ⟨d1, rfl, d2⟩ := d
  subst ha
  intro he ls H locs hl hW hS
  have hf : zI a ≥ zI 0 ↔ 0 ≤ zw a := by
    have h9 : zI a ≥ zI 0 ↔ zw 0 ≤ zw a := zI_le
    rw [zw_0] at h9
    exact h9
  refine lv_if_ge C.1 C.2.1 d1 d2 (fun h => ?_) (fun h => ?_)
  · exact kt (by rw [if_pos (hf.mp h)] at he; exact he) ls H locs hl hW hS
  · exact kf (by rw [if_neg (fun z => h (hf.mpr z))] at he; exact he) ls H locs hl hW hS
theorem zr_icmp_gt (C : zC G p s m args meth c cc nL own ret) {a b A B off : Int} {tgt : Nat} {e1 e2 : Zr} (d : zDj cc pc (.if_icmp .gt off) off tgt q) (ha : zw a = A) (hb : zw b = B) (kt : zR G p l e R s m args below meth c nL cells slots Q n ρ res σ e1 lv tgt st) (kf : zR G p l e R s m args below meth c nL cells slots Q n ρ res σ e2 lv q st) : zR G p l e R s m args below meth c nL cells slots Q n ρ res σ (if B < A then e1 else e2) lv pc (.int (zI b) :: .int (zI a) :: st) := by
  obtain ⟨d1, rfl, d2⟩ := d
  subst ha hb
  intro he ls H locs hl hW hS
  refine lv_icmp_gt C.1 C.2.1 d1 d2 (fun h => ?_) (fun h => ?_)
  · exact kt (by rw [if_pos ((zI_lt).mp h)] at he; exact he) ls H locs hl hW hS
  · exact kf (by rw [if_neg (fun z => h ((zI_lt).mpr z))] at he; exact he) ls H locs hl hW hS
theorem zr_if_gt (C : zC G p s m args meth c cc nL own ret) {a A off : Int} {tgt : Nat} {e1 e2 : Zr} (d : zDj cc pc (.ifCond .gt off) off tgt q) (ha : zw a = A) (kt : zR G p l e R s m args below meth c nL cells slots Q n ρ res σ e1 lv tgt st) (kf : zR G p l e R s m args below meth c nL cells slots Q n ρ res σ e2 lv q st) : zR G p l e R s m args below meth c nL cells slots Q n ρ res σ (if 0 < A then e1 else e2) lv pc (.int (zI a) :: st) := by
  obtain ⟨d1, rfl, d2⟩ := d
  subst ha
  intro he ls H locs hl hW hS
  have hf : zI a > zI 0 ↔ 0 < zw a := by
    have h9 : zI a > zI 0 ↔ zw 0 < zw a := zI_lt
    rw [zw_0] at h9
    exact h9
  refine lv_if_gt C.1 C.2.1 d1 d2 (fun h => ?_) (fun h => ?_)
  · exact kt (by rw [if_pos (hf.mp h)] at he; exact he) ls H locs hl hW hS
  · exact kf (by rw [if_neg (fun z => h (hf.mpr z))] at he; exact he) ls H locs hl hW hS
theorem zr_icmp_le (C : zC G p s m args meth c cc nL own ret) {a b A B off : Int} {tgt : Nat} {e1 e2 : Zr} (d : zDj cc pc (.if_icmp .le off) off tgt q) (ha : zw a = A) (hb : zw b = B) (kt : zR G p l e R s m args below meth c nL cells slots Q n ρ res σ e1 lv tgt st) (kf : zR G p l e R s m args below meth c nL cells slots Q n ρ res σ e2 lv q st) : zR G p l e R s m args below meth c nL cells slots Q n ρ res σ (if A ≤ B then e1 else e2) lv pc (.int (zI b) :: .int (zI a) :: st) := by
  obtain ⟨d1, rfl, d2⟩ := d
  subst ha hb
  intro he ls H locs hl hW hS
  refine lv_icmp_le C.1 C.2.1 d1 d2 (fun h => ?_) (fun h => ?_)
  · exact kt (by rw [if_pos ((zI_le).mp h)] at he; exact he) ls H locs hl hW hS
  · exact kf (by rw [if_neg (fun z => h ((zI_le).mpr z))] at he; exact he) ls H locs hl hW hS
theorem zr_if_le (C : zC G p s m args meth c cc nL own ret) {a A off : Int} {tgt : Nat} {e1 e2 : Zr} (d : zDj cc pc (.ifCond .le off) off tgt q) (ha : zw a = A) (kt : zR G p l e R s m args below meth c nL cells slots Q n ρ res σ e1 lv tgt st) (kf : zR G p l e R s m args below meth c nL cells slots Q n ρ res σ e2 lv q st) : zR G p l e R s m args below meth c nL cells slots Q n ρ res σ (if A ≤ 0 then e1 else e2) lv pc (.int (zI a) :: st) := by
  obtain ⟨d1, rfl, d2⟩ := d
  subst ha
  intro he ls H locs hl hW hS
  have hf : zI a ≤ zI 0 ↔ zw a ≤ 0 := by
    have h9 : zI a ≤ zI 0 ↔ zw a ≤ zw 0 := zI_le
    rw [zw_0] at h9
    exact h9
  refine lv_if_le C.1 C.2.1 d1 d2 (fun h => ?_) (fun h => ?_)
  · exact kt (by rw [if_pos (hf.mp h)] at he; exact he) ls H locs hl hW hS
  · exact kf (by rw [if_neg (fun z => h (hf.mpr z))] at he; exact he) ls H locs hl hW hS
theorem zr_goto (C : zC G p s m args meth c cc nL own ret) {off : Int} {tgt : Nat} (d : zDj cc pc (.goto off) off tgt q) (k : zR G p l e R s m args below meth c nL cells slots Q n ρ res σ ex lv tgt st) : zR G p l e R s m args below meth c nL cells slots Q n ρ res σ ex lv pc st := by
  obtain ⟨d1, -, d2⟩ := d
  exact fun he ls H locs hl hW hS => lv_goto C.1 C.2.1 d1 d2 (k he ls H locs hl hW hS)
theorem zr_tbl (C : zC G p s m args meth c cc nL own ret) {a off dflt lo hi : Int} {offs : Array Int} {len tgt : Nat} (d : decode cc pc = .ok (.tableswitch dflt lo hi offs, len)) {A : Int} (v : Int) (ha : zw a = A) (hA : A = v) (h1 : ¬ v < lo) (h2 : ¬ hi < v) (ho : offs[(v - lo).toNat]? = some off) (ht : (pc : Int) + off = (tgt : Int)) (k : zR G p l e R s m args below meth c nL cells slots Q n ρ res σ ex lv tgt st) : zR G p l e R s m args below meth c nL cells slots Q n ρ res σ ex lv pc (.int (zI a) :: st) := by
  subst hA ha
  exact fun he ls H locs hl hW hS => lv_tableIn C.1 C.2.1 d h1 h2 ho ht (k he ls H locs hl hW hS)
/-- the rest of a table: every number in it that isn't listed goes where all else goes -/
theorem zr_tblD (C : zC G p s m args meth c cc nL own ret) {a dflt lo hi : Int} {offs : Array Int} {len tgt : Nat} (d : decode cc pc = .ok (.tableswitch dflt lo hi offs, len)) {A : Int} (ks : List Int) (ha : zw a = A) (hA : ∀ v ∈ ks, A ≠ v) (hN : ∀ j : Nat, j < (hi - lo + 1).toNat → (lo + (j : Int)) ∈ ks ∨ offs[j]? = some dflt) (ht : (pc : Int) + dflt = (tgt : Int)) (k : zR G p l e R s m args below meth c nL cells slots Q n ρ res σ ex lv tgt st) : zR G p l e R s m args below meth c nL cells slots Q n ρ res σ ex lv pc (.int (zI a) :: st) := by
  subst ha
  intro he ls H locs hl hW hS
  by_cases h : (zI a).toInt < lo ∨ hi < (zI a).toInt
  · exact lv_tableOut C.1 C.2.1 d h ht (k he ls H locs hl hW hS)
  · have h' : lo ≤ zw a ∧ zw a ≤ hi := by rw [zI_i] at h; omega
    rcases hN (zw a - lo).toNat (by omega) with h3 | h3
    · exact absurd rfl (hA _ (by rw [show lo + (((zw a - lo).toNat : Nat) : Int) = zw a by omega] at h3; exact h3))
    · exact lv_tableIn C.1 C.2.1 d (by rw [zI_i]; omega) (by rw [zI_i]; omega) h3 ht (k he ls H locs hl hW hS)
theorem zr_lkp (C : zC G p s m args meth c cc nL own ret) {a off dflt : Int} {ps : Array (Int × Int)} {len tgt : Nat} (d : decode cc pc = .ok (.lookupswitch dflt ps, len)) (hp : (ps.toList.zip (ps.toList.drop 1)).all (fun (a, next) => a.1 < next.1) = true) {A : Int} (v : Int) (ha : zw a = A) (hA : A = v) (ho : Op.lookupswitch.offset ps.toList dflt v = off) (ht : (pc : Int) + off = (tgt : Int)) (k : zR G p l e R s m args below meth c nL cells slots Q n ρ res σ ex lv tgt st) : zR G p l e R s m args below meth c nL cells slots Q n ρ res σ ex lv pc (.int (zI a) :: st) := by
  subst hA ha
  exact fun he ls H locs hl hW hS => lv_lookup C.1 C.2.1 d hp ho ht (k he ls H locs hl hW hS)
theorem zlkp_out (dflt : Int) {v : Int} : ∀ (ps : List (Int × Int)), (∀ x ∈ ps.map (·.1), v ≠ x) → Op.lookupswitch.offset ps dflt v = dflt
  | [], _ => rfl
  | (a, o) :: r, h => by
    have h1 : v ≠ a := h a (by simp)
    have h2 := zlkp_out dflt r (fun x hx => h x (by simp at hx ⊢; exact Or.inr hx))
    rw [Op.lookupswitch.offset_cons, if_neg (fun z => h1 z.symm)]
    exact h2
theorem zr_lkpD (C : zC G p s m args meth c cc nL own ret) {a dflt : Int} {ps : Array (Int × Int)} {len tgt : Nat} (d : decode cc pc = .ok (.lookupswitch dflt ps, len)) (hp : (ps.toList.zip (ps.toList.drop 1)).all (fun (a, next) => a.1 < next.1) = true) {A : Int} (ha : zw a = A) (hA : ∀ v ∈ ps.toList.map (·.1), A ≠ v) (ht : (pc : Int) + dflt = (tgt : Int)) (k : zR G p l e R s m args below meth c nL cells slots Q n ρ res σ ex lv tgt st) : zR G p l e R s m args below meth c nL cells slots Q n ρ res σ ex lv pc (.int (zI a) :: st) := by
  subst ha
  exact fun he ls H locs hl hW hS => lv_lookup C.1 C.2.1 d hp (zlkp_out dflt ps.toList hA) ht (k he ls H locs hl hW hS)
end ZROWS
