/-! MY OWN: numbers, memory, results -/
abbrev Zm : Type := (Nat → Nat → Int32) × (Nat → Nat → Int64)
abbrev Zr : Type := Option (Int × Zm)
def zI (a : Int) : Int32 := Int32.ofInt a
def zJ (a : Int) : Int64 := Int64.ofInt a
def zw (a : Int) : Int := (Int32.ofInt a).toInt
def zx (a : Int) : Int := (Int64.ofInt a).toInt
def zb (a : Int) : Int := (zI a &&& 1).toInt
def zrd (σ : Zm) (o k : Nat) : Int := (σ.1 o k).toInt
def zrl (σ : Zm) (o k : Nat) : Int := (σ.2 o k).toInt
def zst (σ : Zm) (o k : Nat) (v : Int) : Zm := (fun p j => if p = o ∧ j = k then zI v else σ.1 p j, σ.2)
def zsl (σ : Zm) (o k : Nat) (v : Int) : Zm := (σ.1, fun p j => if p = o ∧ j = k then zJ v else σ.2 p j)
def zcp (σ : Zm) (a sp b dp n : Nat) : Zm := (fun p j => if p = b ∧ dp ≤ j ∧ j < dp + n then σ.1 a (sp + (j - dp)) else σ.1 p j, σ.2)
def zfl (σ : Zm) (a n : Nat) (v : Int) : Zm := (fun p j => if p = a ∧ j < n then zI v else σ.1 p j, σ.2)
def zlet {α : Type} (v : α) (f : α → Zr) : Zr := f v
def zbi (e : Zr) (f : Int → Zm → Zr) : Zr := match e with
  | none => none
  | some q => f (zw q.1) q.2
def zbl (e : Zr) (f : Int → Zm → Zr) : Zr := match e with
  | none => none
  | some q => f (zx q.1) q.2
def zbv (e : Zr) (f : Zm → Zr) : Zr := match e with
  | none => none
  | some q => f q.2
def zck (i : Int) (n : Nat) (e : Zr) : Zr := if 0 ≤ i ∧ i < (n : Int) then e else none
def zdv (b : Int) (e : Zr) : Zr := if b = 0 then none else e
def zand (a b : Int) : Int := (zI a &&& zI b).toInt
def zor (a b : Int) : Int := (zI a ||| zI b).toInt
def zxor (a b : Int) : Int := (zI a ^^^ zI b).toInt
def zshl (a b : Int) : Int := (zI a <<< (zI b &&& 31)).toInt
def zshr (a b : Int) : Int := (zI a >>> (zI b &&& 31)).toInt
def zushr (a b : Int) : Int := ((zI a).toUInt32 >>> ((zI b).toUInt32 &&& Int32.toUInt32 31)).toInt32.toInt
def zland (a b : Int) : Int := (zJ a &&& zJ b).toInt
def zlor (a b : Int) : Int := (zJ a ||| zJ b).toInt
def zlshl (a b : Int) : Int := (zJ a <<< ((zI b).toInt64 &&& 63)).toInt
def zlc (a b : Int) : Int := if zx b < zx a then 1 else if zx a = zx b then 0 else -1

theorem zw_n (x : Int32) : zw x.toInt = x.toInt := by simp [zw]
theorem zx_n (x : Int64) : zx x.toInt = x.toInt := by simp [zx]
theorem zw_w (a : Int) : zw (zw a) = zw a := zw_n _
theorem zx_x (a : Int) : zx (zx a) = zx a := zx_n _
theorem zw_rd (σ : Zm) (o k : Nat) : zw (zrd σ o k) = zrd σ o k := zw_n _
theorem zx_rl (σ : Zm) (o k : Nat) : zx (zrl σ o k) = zrl σ o k := zx_n _
theorem zw_id {a : Int} (h : -2147483648 ≤ a) (h' : a < 2147483648) : zw a = a := Int32.toInt_ofInt_of_le h h'
theorem zx_id {a : Int} (h : -9223372036854775808 ≤ a) (h' : a < 9223372036854775808) : zx a = a := Int64.toInt_ofInt_of_le h h'
theorem zw_lo (a : Int) : -2147483648 ≤ zw a := Int32.le_toInt _
theorem zw_hi (a : Int) : zw a < 2147483648 := Int32.toInt_lt _
theorem zx_lo (a : Int) : -9223372036854775808 ≤ zx a := Int64.le_toInt _
theorem zx_hi (a : Int) : zx a < 9223372036854775808 := Int64.toInt_lt _
theorem zrd_lo (σ : Zm) (o k : Nat) : -2147483648 ≤ zrd σ o k := Int32.le_toInt _
theorem zrd_hi (σ : Zm) (o k : Nat) : zrd σ o k < 2147483648 := Int32.toInt_lt _
theorem zw_x (a : Int) : zx (zw a) = zw a := zx_id (by have := zw_lo a; omega) (by have := zw_hi a; omega)
theorem zxw {a : Int} (h : zw a = a) : zx a = a := by rw [← h]; exact zw_x a
theorem zI_w (a : Int) : zI (zw a) = zI a := Int32.ofInt_toInt _
theorem zJ_x (a : Int) : zJ (zx a) = zJ a := Int64.ofInt_toInt _
theorem zI_t (x : Int32) : zI x.toInt = x := by simp [zI]
theorem zJ_t (x : Int64) : zJ x.toInt = x := by simp [zJ]
theorem zI_i (a : Int) : (zI a).toInt = zw a := rfl
theorem zJ_i (a : Int) : (zJ a).toInt = zx a := rfl
theorem zI_rd (σ : Zm) (o k : Nat) : zI (zrd σ o k) = σ.1 o k := zI_t _
theorem zJ_rl (σ : Zm) (o k : Nat) : zJ (zrl σ o k) = σ.2 o k := zJ_t _
theorem zI_add (a b : Int) : zI a + zI b = zI (a + b) := (Int32.ofInt_add a b).symm
theorem zI_sub (a b : Int) : zI a - zI b = zI (a - b) := (Int32.ofInt_sub a b).symm
theorem zI_mul (a b : Int) : zI a * zI b = zI (a * b) := (Int32.ofInt_mul a b).symm
theorem zI_neg (a : Int) : -zI a = zI (-a) := (Int32.ofInt_neg a).symm
theorem zJ_add (a b : Int) : zJ a + zJ b = zJ (a + b) := (Int64.ofInt_add a b).symm
theorem zJ_sub (a b : Int) : zJ a - zJ b = zJ (a - b) := (Int64.ofInt_sub a b).symm
theorem zJ_mul (a b : Int) : zJ a * zJ b = zJ (a * b) := (Int64.ofInt_mul a b).symm
theorem zJ_neg (a : Int) : -zJ a = zJ (-a) := (Int64.ofInt_neg a).symm
theorem zI_inj {a b : Int} : zI a = zI b ↔ zw a = zw b := Int32.toInt_inj.symm
theorem zJ_inj {a b : Int} : zJ a = zJ b ↔ zx a = zx b := Int64.toInt_inj.symm
theorem zI_lt {a b : Int} : zI a < zI b ↔ zw a < zw b := Int32.lt_iff_toInt_lt
theorem zI_le {a b : Int} : zI a ≤ zI b ↔ zw a ≤ zw b := Int32.le_iff_toInt_le
theorem zJ_lt {a b : Int} : zJ a < zJ b ↔ zx a < zx b := Int64.lt_iff_toInt_lt
theorem zI_div (a b : Int) : zI a / zI b = zI (Int.tdiv (zw a) (zw b)) := by
  apply Int32.toInt.inj
  rw [Int32.toInt_div, zI_i, zI_i, zI_i]
  simp [zw, Int32.toInt_ofInt]
theorem zI_rem (a b : Int) : zI a - zI a / zI b * zI b = zI (Int.tmod (zw a) (zw b)) := by
  rw [zI_div, zI_mul, zI_sub, zI_inj]
  rw [Int.tmod_def, ← zI_inj, ← zI_sub, ← zI_mul, ← zI_sub, zI_w, Int.mul_comm, ← zI_mul, zI_w]
theorem zJ_div (a b : Int) : zJ a / zJ b = zJ (Int.tdiv (zx a) (zx b)) := by
  apply Int64.toInt.inj
  rw [Int64.toInt_div, zJ_i, zJ_i, zJ_i]
  simp [zx, Int64.toInt_ofInt]
theorem zI_l (a : Int) : (zI a).toInt64 = zJ (zw a) := by
  apply Int64.toInt.inj
  rw [Int32.toInt_toInt64, zJ_i, zI_i]
  exact (zw_x a).symm
theorem zJ_l (a : Int) : (zJ a).toInt32 = zI a := by simp [zJ, zI]
theorem zw_0 : zw 0 = 0 := by decide
theorem zw_1 : zw 1 = 1 := by decide
theorem zI_cl {i : Int} : (zI i).toNatClampNeg = (zw i).toNat := rfl
theorem zI_in {i : Int} {n : Nat} (h : 0 ≤ zw i ∧ zw i < (n : Int)) : vp_in (zI i) n := by
  rw [vp_in_iff, zI_i]
  exact h
theorem zcat_i (a : Int32) : (Value.int a).category = 1 := rfl
theorem zlc_n (a b : Int) : zw (zlc a b) = zlc a b := by
  unfold zlc
  split
  · decide
  · split <;> decide
theorem zlc_I (a b : Int) : lg_cmp (zJ a) (zJ b) = zI (zlc a b) := by
  unfold lg_cmp zlc
  by_cases h : zx b < zx a
  · rw [if_pos h, if_pos (show zJ a > zJ b from zJ_lt.mpr h)]; decide
  · rw [if_neg h, if_neg (show ¬ zJ a > zJ b from fun q => h (zJ_lt.mp q))]
    by_cases h2 : zx a = zx b
    · rw [if_pos h2, if_pos (zJ_inj.mpr h2)]; decide
    · rw [if_neg h2, if_neg (fun q => h2 (zJ_inj.mp q))]; decide
theorem zrd_st (σ : Zm) (o k : Nat) (v : Int) (p j : Nat) : zrd (zst σ o k v) p j = if p = o ∧ j = k then zw v else zrd σ p j := by
  unfold zrd zst
  dsimp only
  split <;> rfl
theorem zrl_st (σ : Zm) (o k : Nat) (v : Int) (p j : Nat) : zrl (zst σ o k v) p j = zrl σ p j := rfl
theorem zrl_sl (σ : Zm) (o k : Nat) (v : Int) (p j : Nat) : zrl (zsl σ o k v) p j = if p = o ∧ j = k then zx v else zrl σ p j := by
  unfold zrl zsl
  dsimp only
  split <;> rfl
theorem zrd_sl (σ : Zm) (o k : Nat) (v : Int) (p j : Nat) : zrd (zsl σ o k v) p j = zrd σ p j := rfl
theorem zrd_cp (σ : Zm) (a sp b dp n p j : Nat) : zrd (zcp σ a sp b dp n) p j = if p = b ∧ dp ≤ j ∧ j < dp + n then zrd σ a (sp + (j - dp)) else zrd σ p j := by
  unfold zrd zcp
  dsimp only
  split <;> rfl
theorem zrl_cp (σ : Zm) (a sp b dp n p j : Nat) : zrl (zcp σ a sp b dp n) p j = zrl σ p j := rfl
theorem zrd_fl (σ : Zm) (a n : Nat) (v : Int) (p j : Nat) : zrd (zfl σ a n v) p j = if p = a ∧ j < n then zw v else zrd σ p j := by
  unfold zrd zfl
  dsimp only
  split <;> rfl
theorem zrl_fl (σ : Zm) (a n : Nat) (v : Int) (p j : Nat) : zrl (zfl σ a n v) p j = zrl σ p j := rfl
theorem zext {σ τ : Zm} (h : ∀ p j, zrd σ p j = zrd τ p j) (h' : ∀ p j, zrl σ p j = zrl τ p j) : σ = τ := by
  obtain ⟨a, b⟩ := σ
  obtain ⟨c, d⟩ := τ
  have e1 : a = c := by
    funext p j
    exact Int32.toInt_inj.mp (h p j)
  have e2 : b = d := by
    funext p j
    exact Int64.toInt_inj.mp (h' p j)
  rw [e1, e2]
