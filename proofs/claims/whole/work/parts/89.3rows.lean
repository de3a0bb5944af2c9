/-! MY OWN: the law's rows and its cases (printed by wip/gen/gen89.py) -/
def zA5 (pc : Nat) (k : Int) : Prop := decode code pc = .ok (.aload_n 0, 1) ∧ decode code (pc + 1) = .ok (.iload_n 3, 1) ∧ decode code (pc + 1 + 1) = .ok (.iconst k, 1) ∧ decode code (pc + 1 + 1 + 1) = .ok (.iadd, 1) ∧ decode code (pc + 1 + 1 + 1 + 1) = .ok (.iaload, 1)
def zA6 (pc : Nat) (k : Int) : Prop := decode code pc = .ok (.aload_n 0, 1) ∧ decode code (pc + 1) = .ok (.iload_n 3, 1) ∧ decode code (pc + 1 + 1) = .ok (.bipush k, 2) ∧ decode code (pc + 1 + 1 + 2) = .ok (.iadd, 1) ∧ decode code (pc + 1 + 1 + 2 + 1) = .ok (.iaload, 1)
def zB4 (pc : Nat) : Prop := decode code pc = .ok (.ifCond .eq 7, 3) ∧ decode code (pc + 3) = .ok (.iconst 1, 1) ∧ decode code (pc + 3 + 1) = .ok (.goto 4, 3) ∧ decode code (pc + 7) = .ok (.iconst 0, 1)
def sx (xs : Nat → Int32) (j : Nat) : Int := (xs j).toInt
theorem sxw (xs : Nat → Int32) (j : Nat) : zw (sx xs j) = sx xs j := zw_n _
def bz (x : Int) : Int := if x = 0 then 0 else 1
theorem bzw (x : Int) : zw (bz x) = bz x := by unfold bz; split <;> rfl
def lvL (G : Zg) (b i : Nat) : List (Nat × Value) := [(3, .int (zI (i : Int))), (2, .ref (zad G 273)), (1, .ref (zad G 0)), (0, .ref b)]
def lw_H (G : Zg) (s : State) (b L : Nat) (xs : Nat → Int32) : Prop := G.2.2.1 = s.heap.size ∧ va_X b L xs s s.heap ∧ b < s.heap.size ∧ L ≤ 4096
theorem zI_ofNat (n : Nat) : Int32.ofNat n = zI (n : Int) := Int32.toBitVec_inj.1 (BitVec.ofInt_natCast 32 n).symm
section LAWC
variable {G : Zg} {p : Program} {l : Launch} {e : Env} {s : State} {m : MethodId} {below : List Frame} {meth : Method} {c : Code} {Q : State → Prop} {b L i pc q : Nat} {xs : Nat → Int32} {σ : Zm} {res : Int × Zm} {st rest : List Value}
theorem zl_sld (C : zC G p s m #[Value.ref b] meth c code 4 R_law ret) (hH : lw_H G s b L xs) {j : Nat} (hj : j < L) (d : decode code pc = .ok (.iaload, 1)) (hq : pc + 1 = q) (k : zR G p l e room_1 s m #[Value.ref b] below meth c 4 294 24893 Q 294 ztt res σ (some res) (lvL G b i) q (.int (zI (sx xs j)) :: st)) : zR G p l e room_1 s m #[Value.ref b] below meth c 4 294 24893 Q 294 ztt res σ (some res) (lvL G b i) pc (.int (zI (j : Int)) :: .ref b :: st) := by
  subst hq
  intro he ls H locs hl hW hS
  have hz : zw (j : Int) = (j : Int) := zwj (by have := hH.2.2.2; omega) (by have := hH.2.2.2; omega)
  have hcl : (zI (j : Int)).toNatClampNeg = j := by rw [zI_cl, hz]; rfl
  have hbA : ¬ zA G b := by unfold zA; rw [hH.1]; have := hH.2.2.1; omega
  refine va_sld C.1 C.2.1 hH.2.1 hH.2.2.1 hbA hS (i := zI (j : Int)) (zI_in (by rw [hz]; omega)) d ?_
  rw [hcl]
  have := k he ls H locs hl hW hS
  rw [show zI (sx xs j) = xs j from zI_t _] at this
  exact this
theorem zl_arg5 (C : zC G p s m #[Value.ref b] meth c code 4 R_law ret) (hH : lw_H G s b L xs) (k : Nat) (hk : i + k < L) (d : zA5 pc (k : Int)) (hq : pc + 1 + 1 + 1 + 1 + 1 = q) (K : zR G p l e room_1 s m #[Value.ref b] below meth c 4 294 24893 Q 294 ztt res σ (some res) (lvL G b i) q (.int (zI (sx xs (i + k))) :: st)) : zR G p l e room_1 s m #[Value.ref b] below meth c 4 294 24893 Q 294 ztt res σ (some res) (lvL G b i) pc st := by
  obtain ⟨d1, d2, d3, d4, d5⟩ := d
  refine zr_aloadn C 3 (i := 0) ⟨d1, rfl⟩ rfl ?_
  refine zr_iloadn C 0 (i := 3) ⟨d2, rfl⟩ rfl ?_
  refine zr_iconst C (a := (k : Int)) ⟨d3, rfl⟩ rfl ?_
  refine zr_iadd C ⟨d4, rfl⟩ ?_
  rw [show (i : Int) + (k : Int) = ((i + k : Nat) : Int) by omega]
  exact zl_sld C hH hk d5 hq K
theorem zl_arg6 (C : zC G p s m #[Value.ref b] meth c code 4 R_law ret) (hH : lw_H G s b L xs) (k : Nat) (hk8 : k < 100) (hk : i + k < L) (d : zA6 pc (k : Int)) (hb8 : (Int8.ofInt (k : Int)).toInt32 = zI (k : Int)) (hq : pc + 1 + 1 + 2 + 1 + 1 = q) (K : zR G p l e room_1 s m #[Value.ref b] below meth c 4 294 24893 Q 294 ztt res σ (some res) (lvL G b i) q (.int (zI (sx xs (i + k))) :: st)) : zR G p l e room_1 s m #[Value.ref b] below meth c 4 294 24893 Q 294 ztt res σ (some res) (lvL G b i) pc st := by
  obtain ⟨d1, d2, d3, d4, d5⟩ := d
  refine zr_aloadn C 3 (i := 0) ⟨d1, rfl⟩ rfl ?_
  refine zr_iloadn C 0 (i := 3) ⟨d2, rfl⟩ rfl ?_
  refine zr_bipush C (a := (k : Int)) ⟨d3, rfl⟩ hb8 ?_
  refine zr_iadd C ⟨d4, rfl⟩ ?_
  rw [show (i : Int) + (k : Int) = ((i + k : Nat) : Int) by omega]
  exact zl_sld C hH hk d5 hq K
theorem zl_bool (C : zC G p s m #[Value.ref b] meth c code 4 R_law ret) {x : Int} (hx : zw x = x) (d : zB4 pc) (K : zR G p l e room_1 s m #[Value.ref b] below meth c 4 294 24893 Q 294 ztt res σ (some res) (lvL G b i) (pc + 8) (.int (zI (bz x)) :: st)) : zR G p l e room_1 s m #[Value.ref b] below meth c 4 294 24893 Q 294 ztt res σ (some res) (lvL G b i) pc (.int (zI x) :: st) := by
  obtain ⟨d1, d2, d3, d4⟩ := d
  by_cases h : x = 0
  · have e : bz x = 0 := by unfold bz; rw [if_pos h]
    rw [e] at K
    refine zr_eq (ex' := if x = 0 then some res else none) (by rw [if_pos h]) ?_
    exact zr_if_eq C (tgt := pc + 7) ⟨d1, rfl, by omega⟩ hx (zr_iconst C (a := 0) ⟨d4, rfl⟩ rfl K) zr_none
  · have e : bz x = 1 := by unfold bz; rw [if_neg h]
    rw [e] at K
    refine zr_eq (ex' := if x = 0 then none else some res) (by rw [if_neg h]) ?_
    refine zr_if_eq C (tgt := pc + 7) ⟨d1, rfl, by omega⟩ hx zr_none ?_
    refine zr_iconst C (a := 1) ⟨d2, rfl⟩ rfl ?_
    exact zr_goto C (tgt := pc + 8) ⟨d3, rfl, by omega⟩ K
theorem zl_call (C : zC G p s m #[Value.ref b] meth c code 4 R_law ret) {y : MethodName} {cb : ByteArray} {mL np ix dp o ci : Nat} {rt : Option FieldType} {fe : Zr} (As : List Value) (Y : zY y cb mL rt np) (Yv : zYv y) (Lk : zL R_law ix y) (hR : zRm room_1 294 24893 mL dp) (hi : zin 294 o ci) (hc : ci < 11) (hcl : zCn ci = y.cls) (hM : ∀ r : Int × Zm, fe = some r → zM l y cb mL rt dp G 294 ztt σ (.ref (zad G o) :: As) (some (.int (zI r.1))) r.2) (hn : As.length = np) (hst : st = As.reverse ++ .ref (zad G o) :: rest) (hsum : (rest.map fun v => v.category).sum ≤ 8) (d : zD code pc (.invokevirtual ix) 3 q) {r1 : Int} {σ1 : Zm} (he : fe = some (r1, σ1)) (k : zR G p l e room_1 s m #[Value.ref b] below meth c 4 294 24893 Q 294 ztt res σ1 (some res) (lvL G b i) q (.int (zI (zw r1)) :: rest)) : zR G p l e room_1 s m #[Value.ref b] below meth c 4 294 24893 Q 294 ztt res σ (some res) (lvL G b i) pc st := by
  intro _ ls H locs hl hW hS
  refine zr_callVi C (res := (zw r1, σ1)) (F := fun v σ' => some (v, σ')) As Y Yv Lk hR hi hc hcl hM hn hst hsum d (fun v _ σ' he' ls H locs hl hW hS => ?_) (by rw [he]; rfl) ls H locs hl hW hS
  cases he'
  exact k rfl ls H locs hl hW hS
theorem zl_cmp (C : zC G p s m #[Value.ref b] meth c code 4 R_law ret) {off : Int} {tgt : Nat} {r1 r2 : Int} (d : zDj code pc (.if_icmp .eq off) off tgt q) (h : r1 = r2) (k : zR G p l e room_1 s m #[Value.ref b] below meth c 4 294 24893 Q 294 ztt res σ (some res) (lvL G b i) tgt st) : zR G p l e room_1 s m #[Value.ref b] below meth c 4 294 24893 Q 294 ztt res σ (some res) (lvL G b i) pc (.int (zI (zw r2)) :: .int (zI (zw r1)) :: st) := by
  subst h
  refine zr_eq (ex' := if zw r1 = zw r1 then some res else none) (by rw [if_pos rfl]) ?_
  exact zr_icmp_eq C d (zw_w _) (zw_w _) k zr_none
end LAWC
