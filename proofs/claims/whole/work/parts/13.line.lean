/-! MY OWN: what the class's Line answers -/
/-- 1 more than the last place below n that isn't 0 -/
def pbt (f : Nat → Int) : Nat → Nat
  | 0 => 0
  | i + 1 => if f i = 0 then pbt f i else i + 1
/-- the last place below n at which f is 1, or -1 -/
def pna (f : Nat → Int) : Nat → Int
  | 0 => -1
  | i + 1 => if f i = 1 then (i : Int) else pna f i
/-- how many places right below n are 0 -/
def pra (f : Nat → Int) : Nat → Nat
  | 0 => 0
  | i + 1 => if f i = 0 then pra f i + 1 else 0
theorem zw_nat {i : Nat} (h : i < 2147483648) : zw (i : Int) = (i : Int) := zw_id (by omega) (by omega)
theorem zck_ok {i : Int} {n : Nat} {e : Zr} (h : 0 ≤ i ∧ i < (n : Int)) : zck i n e = e := if_pos h
theorem pL_beats_6 (σ : Zm) (o : Nat) : ∀ (i n : Nat), i ≤ zLN (o + 2) → i < n → fL_beats_6 n o (i : Int) σ = some (((pbt (fun t => zrd σ (o + 2) t) i : Nat) : Int), σ)
  | 0, n + 1, _, _ => by
    rw [fL_beats_6]
    rfl
  | i + 1, n + 1, h, hn => by
    have hl := pLN_le (o + 2)
    have e1 : zw (((i + 1 : Nat) : Int) - 1) = (i : Int) := by rw [show ((i + 1 : Nat) : Int) - 1 = (i : Int) by omega]; exact zw_nat (by omega)
    have e2 : zw (((i + 1 : Nat) : Int) + (-1)) = (i : Int) := by rw [show ((i + 1 : Nat) : Int) + (-1) = (i : Int) by omega]; exact zw_nat (by omega)
    rw [fL_beats_6]
    dsimp only [zlet]
    rw [if_neg (by omega), e1, zck_ok (by omega), e2, Int.toNat_natCast, pL_beats_6 σ o i n (by omega) (by omega)]
    show _ = some (((if zrd σ (o + 2) i = 0 then pbt _ i else i + 1 : Nat) : Int), σ)
    split <;> rfl
theorem pL_beats (σ : Zm) (o : Nat) (h : zLN (o + 2) ≤ 32) : fL_beats σ o = some (((pbt (fun t => zrd σ (o + 2) t) (zLN (o + 2)) : Nat) : Int), σ) := by
  unfold fL_beats
  exact pL_beats_6 σ o _ _ (Nat.le_refl _) (by omega)
theorem pL_noteAhead_12 (σ : Zm) (o : Nat) : ∀ (i n : Nat), i ≤ zLN (o + 2) → i < n → fL_noteAhead_12 n o ((i : Int) - 1) σ = some (pna (fun t => zrd σ (o + 2) t) i, σ)
  | 0, n + 1, _, _ => by
    rw [fL_noteAhead_12]
    rfl
  | i + 1, n + 1, h, hn => by
    have hl := pLN_le (o + 2)
    have e0 : ((i + 1 : Nat) : Int) - 1 = (i : Int) := by omega
    have e2 : zw ((i : Int) + (-1)) = (i : Int) - 1 := zw_id (by omega) (by omega)
    rw [fL_noteAhead_12, e0]
    dsimp only [zlet]
    rw [if_neg (by omega), zck_ok (by omega), e2, Int.toNat_natCast, pL_noteAhead_12 σ o i n (by omega) (by omega)]
    show _ = some (if zrd σ (o + 2) i = 1 then (i : Int) else pna _ i, σ)
    by_cases h1 : zrd σ (o + 2) i = 1
    · rw [if_neg (by simpa using h1), if_pos h1]
    · rw [if_pos h1, if_neg h1]
theorem pL_noteAhead (σ : Zm) (o : Nat) (x : Int) (hx : -1 ≤ x) (h : zLN (o + 2) ≤ 32) : fL_noteAhead σ o x = some (pna (fun t => zrd σ (o + 2) t) (min x.toNat (zLN (o + 2))), σ) := by
  unfold fL_noteAhead
  dsimp only [zlet]
  by_cases h0 : x = -1
  · subst h0
    rw [show zw (min (-1) ((zLN (o + 2) : Nat) : Int) - 1) = -2 by rw [Int.min_eq_left (by omega)]; decide]
    rw [show min (-1 : Int).toNat (zLN (o + 2)) = 0 by simp]
    show fL_noteAhead_12 5000 o (-2) σ = some (-1, σ)
    rw [fL_noteAhead_12]
    rfl
  · have e1 : zw (min x ((zLN (o + 2) : Nat) : Int) - 1) = ((min x.toNat (zLN (o + 2)) : Nat) : Int) - 1 := by
      rw [zw_id (by omega) (by omega)]
      omega
    rw [e1]
    exact pL_noteAhead_12 σ o _ _ (by omega) (by omega)
