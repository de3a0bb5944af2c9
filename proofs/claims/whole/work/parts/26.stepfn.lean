/-! MY OWN: the class's strangeBy, distanceTo -/
def dq (a b : Nat) : Nat := a / b
def mx (B : Nat → Nat) : Nat → Nat
  | 0 => 0
  | s + 1 => max (mx B s) (B s)
def stq (A B : Nat → Nat) (most : Nat) : Nat → Int
  | 0 => 0
  | s + 1 => stq A B most s + (A s : Int) * (1000 - ((dq (1000 * B s) most : Nat) : Int))
def stg (A : Nat → Nat) (n : Nat) (B : Nat → Nat) : Int := if n = 0 ∨ mx B 25 = 0 then -1 else Int.tdiv (stq A B (mx B 25) 25) n
def dsq (A : Nat → Nat) (n : Nat) (B : Nat → Nat) (m : Nat) : Nat → Int
  | 0 => 0
  | s + 1 => dsq A n B m s + iab (((dq (1000 * A s) n : Nat) : Int) - ((dq (1000 * B s) m : Nat) : Int))
def dst (A : Nat → Nat) (n : Nat) (B : Nat → Nat) (m : Nat) : Int := if n = 0 ∨ m = 0 then -1 else dsq A n B m 25
theorem mx_le (B : Nat → Nat) : ∀ (i s : Nat), s < i → B s ≤ mx B i
  | i + 1, s, h => by
    unfold mx
    by_cases c : s = i
    · subst c; omega
    · have := mx_le B i s (by omega); omega
theorem mx_bd (B : Nat → Nat) (hB : ∀ s, B s ≤ 1000) : ∀ i, mx B i ≤ 1000
  | 0 => by simp [mx]
  | i + 1 => by
    have := mx_bd B hB i
    have := hB i
    unfold mx
    omega
theorem div_le1 {b most : Nat} (h : b ≤ most) (hm : most ≠ 0) : dq (1000 * b) most ≤ 1000 := by
  exact Nat.div_le_of_le_mul (by omega)
theorem nmul_bd {x y : Int} (hx : 0 ≤ x ∧ x ≤ 1000) (hy : 0 ≤ y ∧ y ≤ 1000) : 0 ≤ x * y ∧ x * y ≤ 1000000 := by
  refine ⟨Int.mul_nonneg hx.1 hy.1, ?_⟩
  have : x * y ≤ 1000 * 1000 := Int.mul_le_mul hx.2 hy.2 hy.1 (by omega)
  omega
theorem stq_bd (A B : Nat → Nat) (hA : ∀ s, A s ≤ 1000) (most : Nat) (hm : most ≠ 0) (hB : ∀ s, s < 25 → B s ≤ most) : ∀ i : Nat, i ≤ 25 → 0 ≤ stq A B most i ∧ stq A B most i ≤ 1000000 * (i : Int)
  | 0, _ => by simp [stq]
  | i + 1, h => by
    have ih := stq_bd A B hA most hm hB i (by omega)
    have h1 := div_le1 (hB i (by omega)) hm
    have h2 := hA i
    have h3 := nmul_bd (x := (A i : Int)) (y := 1000 - ((dq (1000 * B i) most : Nat) : Int)) (by omega) (by omega)
    unfold stq
    omega
theorem pT_strangeBy_4 (o p : Nat) (σ : Zm) (B : Nat → Nat) (hB : ∀ s, B s ≤ 1000) (hv : ∀ s, s < 25 → zrd σ (p + 1) s = (B s : Int)) (P : Int → Zm → Prop) (K : Nat → Nat → Int → Zm → Zr) (hK : zwp (K o p (mx B 25 : Int) σ) P) : ∀ (d f i : Nat), d < f → i + d = 25 → zwp (fT_strangeBy_4 f o p (mx B i : Int) (i : Int) σ K) P
  | 0, f + 1, i, _, hi => by
    rw [fT_strangeBy_4]
    simp only [zwp_let]
    rw [if_pos (by omega)]
    have : i = 25 := by omega
    subst this
    exact hK
  | d + 1, f + 1, i, hd, hi => by
    have h1 := hB i
    have h2 := mx_bd B hB i
    rw [fT_strangeBy_4]
    simp only [zwp_let]
    rw [if_neg (by omega), zckj (by omega) (by omega), zwp_let, zwp_let, Int.toNat_natCast, hv i (by omega), show zw ((i : Int) + 1) = ((i + 1 : Nat) : Int) from zwj (by omega) (by omega), show max (mx B i : Int) (B i : Int) = (mx B (i + 1) : Int) from (show _ = ((max (mx B i) (B i) : Nat) : Int) by omega)]
    exact pT_strangeBy_4 o p σ B hB hv P K hK d f (i + 1) (by omega) (by omega)
theorem pT_strangeBy_47 (o p : Nat) (σ : Zm) (A B : Nat → Nat) (n : Nat) (hn : 1 ≤ n) (hA : ∀ s, A s ≤ 1000) (hB : ∀ s, B s ≤ 1000) (hu : ∀ s, s < 25 → zrd σ (o + 1) s = (A s : Int)) (hv : ∀ s, s < 25 → zrd σ (p + 1) s = (B s : Int)) (h2 : zrd σ o 2 = (n : Int)) (most : Nat) (hm : 1 ≤ most) (hm2 : most ≤ 1000) (hmB : ∀ s, s < 25 → B s ≤ most) : ∀ (d f i : Nat), d < f → i + d = 25 → fT_strangeBy_47 f o p (most : Int) (stq A B most i) (i : Int) σ = some (Int.tdiv (stq A B most 25) n, σ)
  | 0, f + 1, i, _, hi => by
    rw [fT_strangeBy_47]
    simp only [zlet]
    have : i = 25 := by omega
    subst this
    rw [if_pos (by omega), h2]
    unfold zdv
    rw [if_neg (by omega)]
  | d + 1, f + 1, i, hd, hi => by
    have h1 := hB i
    have h3 := hA i
    have h4 := div_le1 (hmB i (by omega)) (by omega)
    have h5 := nmul_bd (x := (A i : Int)) (y := 1000 - ((dq (1000 * B i) most : Nat) : Int)) (by omega) (by omega)
    have h6 := stq_bd A B hA most (by omega) hmB i (by omega)
    rw [fT_strangeBy_47]
    simp only [zlet]
    rw [if_neg (by omega), zckj (by omega) (by omega), zckj (by omega) (by omega), Int.toNat_natCast, hv i (by omega), hu i (by omega)]
    unfold zdv
    rw [if_neg (by omega), show zw (1000 * (B i : Int)) = ((1000 * B i : Nat) : Int) from zwj (by omega) (by omega), show Int.tdiv ((1000 * B i : Nat) : Int) (most : Int) = ((dq (1000 * B i) most : Nat) : Int) from rfl, show zw ((i : Int) + 1) = ((i + 1 : Nat) : Int) from zwj (by omega) (by omega), zwj (a := stq A B most i + (A i : Int) * (1000 - ((dq (1000 * B i) most : Nat) : Int))) (by omega) (by omega)]
    exact pT_strangeBy_47 o p σ A B n hn hA hB hu hv h2 most hm hm2 hmB d f (i + 1) (by omega) (by omega)
theorem qT_strangeBy (o p : Nat) (σ : Zm) (A B : Nat → Nat) (n : Nat) (hn : n ≤ 1000) (hA : ∀ s, A s ≤ 1000) (hB : ∀ s, B s ≤ 1000) (hu : ∀ s, s < 25 → zrd σ (o + 1) s = (A s : Int)) (hv : ∀ s, s < 25 → zrd σ (p + 1) s = (B s : Int)) (h2 : zrd σ o 2 = (n : Int)) : fT_strangeBy σ o p = some (stg A n B, σ) := by
  have key : zwp (fT_strangeBy σ o p) (fun r σ' => (r, σ') = (stg A n B, σ)) := by
    unfold fT_strangeBy
    refine pT_strangeBy_4 o p σ B hB hv _ _ ?_ 25 5000 0 (by omega) (by omega)
    have hm := mx_bd B hB 25
    simp only [zwp_let]
    rw [h2]
    unfold stg
    by_cases c1 : n = 0
    · rw [if_pos (by omega), zwp_some, if_pos (Or.inl c1)]
    · rw [if_neg (by omega)]
      by_cases c2 : mx B 25 = 0
      · rw [if_neg (by omega), zwp_some, if_pos (Or.inr c2)]
      · rw [if_pos (by omega), if_neg (by omega)]
        have := pT_strangeBy_47 o p σ A B n (by omega) hA hB hu hv h2 (mx B 25) (by omega) hm (fun s hs => mx_le B 25 s hs) 25 5000 0 (by omega) (by omega)
        rw [show stq A B (mx B 25) 0 = 0 from rfl, show ((0 : Nat) : Int) = 0 from rfl] at this
        rw [this, zwp_some]
  obtain ⟨r, σ', h1, h2⟩ := key
  rw [h1, h2]
theorem dsq_bd (A : Nat → Nat) (n : Nat) (B : Nat → Nat) (m : Nat) (hA : ∀ s, A s ≤ 1000) (hB : ∀ s, B s ≤ 1000) : ∀ i : Nat, 0 ≤ dsq A n B m i ∧ dsq A n B m i ≤ 1000000 * (i : Int)
  | 0 => by simp [dsq]
  | i + 1 => by
    have ih := dsq_bd A n B m hA hB i
    have h1 : dq (1000 * A i) n ≤ 1000 * A i := Nat.div_le_self _ _
    have h2 : dq (1000 * B i) m ≤ 1000 * B i := Nat.div_le_self _ _
    have h3 := hA i
    have h4 := hB i
    unfold dsq iab
    split <;> omega
theorem pT_distanceTo_22 (o p : Nat) (σ : Zm) (A B : Nat → Nat) (n m : Nat) (hn : 1 ≤ n) (hm : 1 ≤ m) (hA : ∀ s, A s ≤ 1000) (hB : ∀ s, B s ≤ 1000) (hu : ∀ s, s < 25 → zrd σ (o + 1) s = (A s : Int)) (hv : ∀ s, s < 25 → zrd σ (p + 1) s = (B s : Int)) (h2 : zrd σ o 2 = (n : Int)) (h3 : zrd σ p 2 = (m : Int)) : ∀ (d f i : Nat), d < f → i + d = 25 → fT_distanceTo_22 f o p (dsq A n B m i) (i : Int) σ = some (dsq A n B m 25, σ)
  | 0, f + 1, i, _, hi => by
    rw [fT_distanceTo_22]
    simp only [zlet]
    have : i = 25 := by omega
    subst this
    rw [if_pos (by omega)]
  | d + 1, f + 1, i, hd, hi => by
    have k1 := hB i
    have k2 := hA i
    have k3 : dq (1000 * A i) n ≤ 1000 * A i := Nat.div_le_self _ _
    have k4 : dq (1000 * B i) m ≤ 1000 * B i := Nat.div_le_self _ _
    have k6 := dsq_bd A n B m hA hB i
    have k7 := dsq_bd A n B m hA hB (i + 1)
    rw [fT_distanceTo_22]
    simp only [zlet]
    rw [if_neg (by omega), zckj (by omega) (by omega), h2]
    unfold zdv
    rw [if_neg (by omega), zckj (by omega) (by omega), h3, if_neg (by omega), Int.toNat_natCast, hv i (by omega), hu i (by omega)]
    rw [show zw (1000 * (B i : Int)) = ((1000 * B i : Nat) : Int) from zwj (by omega) (by omega), show Int.tdiv ((1000 * B i : Nat) : Int) (m : Int) = ((dq (1000 * B i) m : Nat) : Int) from rfl, show zw (1000 * (A i : Int)) = ((1000 * A i : Nat) : Int) from zwj (by omega) (by omega), show Int.tdiv ((1000 * A i : Nat) : Int) (n : Int) = ((dq (1000 * A i) n : Nat) : Int) from rfl, show zw ((i : Int) + 1) = ((i + 1 : Nat) : Int) from zwj (by omega) (by omega), zwj (a := ((dq (1000 * A i) n : Nat) : Int) - ((dq (1000 * B i) m : Nat) : Int)) (by omega) (by omega), zabs_id (by omega)]
    have e : dsq A n B m i + iab (((dq (1000 * A i) n : Nat) : Int) - ((dq (1000 * B i) m : Nat) : Int)) = dsq A n B m (i + 1) := rfl
    rw [e, zwj (by omega) (by omega)]
    exact pT_distanceTo_22 o p σ A B n m hn hm hA hB hu hv h2 h3 d f (i + 1) (by omega) (by omega)
theorem qT_distanceTo (o p : Nat) (σ : Zm) (A B : Nat → Nat) (n m : Nat) (hA : ∀ s, A s ≤ 1000) (hB : ∀ s, B s ≤ 1000) (hu : ∀ s, s < 25 → zrd σ (o + 1) s = (A s : Int)) (hv : ∀ s, s < 25 → zrd σ (p + 1) s = (B s : Int)) (h2 : zrd σ o 2 = (n : Int)) (h3 : zrd σ p 2 = (m : Int)) : fT_distanceTo σ o p = some (dst A n B m, σ) := by
  unfold fT_distanceTo dst
  simp only [zlet]
  rw [h2, h3]
  by_cases c1 : n = 0
  · rw [if_pos (by omega), if_pos (Or.inl c1)]
  · rw [if_neg (by omega)]
    by_cases c2 : m = 0
    · rw [if_neg (by omega), if_pos (Or.inr c2)]
    · rw [if_pos (by omega), if_neg (by omega)]
      exact pT_distanceTo_22 o p σ A B n m (by omega) (by omega) hA hB hu hv h2 h3 25 5000 0 (by omega) (by omega)
