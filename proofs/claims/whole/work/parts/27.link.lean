/-! MY OWN: bits; the class's Binder: which page must lie ahead of which, beside which -/
theorem zI_bv {n : Nat} (h : n < 2147483648) : (zI (n : Int)).toBitVec = BitVec.ofNat 32 n := by
  show BitVec.ofInt 32 (n : Int) = _
  exact BitVec.ofInt_natCast 32 n
theorem bv_zI {x : Int32} (h : x.toBitVec.toNat < 2147483648) : x.toInt = (x.toBitVec.toNat : Int) := by
  show x.toBitVec.toInt = _
  exact BitVec.toInt_eq_toNat_of_lt (by omega)
theorem zand_n {a b : Nat} (ha : a < 2147483648) (hb : b < 2147483648) : zand (a : Int) (b : Int) = ((a &&& b : Nat) : Int) := by
  have e : (zI (a : Int) &&& zI (b : Int)).toBitVec.toNat = a &&& b := by
    rw [Int32.toBitVec_and, BitVec.toNat_and, zI_bv ha, zI_bv hb, BitVec.toNat_ofNat, BitVec.toNat_ofNat, Nat.mod_eq_of_lt (by omega), Nat.mod_eq_of_lt (by omega)]
  have l : a &&& b ≤ a := Nat.and_le_left
  unfold zand
  rw [bv_zI (by rw [e]; omega), e]
theorem zor_n {a b : Nat} (ha : a < 2147483648) (hb : b < 2147483648) : zor (a : Int) (b : Int) = ((a ||| b : Nat) : Int) := by
  have e : (zI (a : Int) ||| zI (b : Int)).toBitVec.toNat = a ||| b := by
    rw [Int32.toBitVec_or, BitVec.toNat_or, zI_bv ha, zI_bv hb, BitVec.toNat_ofNat, BitVec.toNat_ofNat, Nat.mod_eq_of_lt (by omega), Nat.mod_eq_of_lt (by omega)]
  have l : a ||| b < 2 ^ 31 := Nat.or_lt_two_pow (by omega) (by omega)
  unfold zor
  rw [bv_zI (by rw [e]; omega), e]
theorem zshl_1 {k : Nat} (h : k < 8) : zshl 1 (k : Int) = ((2 ^ k : Nat) : Int) := by
  have h2 : ∀ k : Nat, k < 8 → zshl 1 (k : Int) = ((2 ^ k : Nat) : Int) := by decide +kernel
  exact h2 k h
def clr (s k : Nat) : Nat := if s.testBit k then s - 2 ^ k else s
theorem zclr {s k : Nat} (hs : s < 256) (hk : k < 8) : zand (s : Int) (zxor (zshl 1 (k : Int)) (-1)) = ((clr s k : Nat) : Int) := by
  have h2 : ∀ s : Nat, s < 256 → ∀ k : Nat, k < 8 → zand (s : Int) (zxor (zshl 1 (k : Int)) (-1)) = ((clr s k : Nat) : Int) := by decide +kernel
  exact h2 s hs k hk
theorem clr_le (s k : Nat) : clr s k ≤ s := by
  unfold clr
  split
  · exact Nat.sub_le _ _
  · exact Nat.le_refl _
theorem clr_lt {s k : Nat} (h : s.testBit k) : clr s k < s := by
  unfold clr
  rw [if_pos h]
  have : 2 ^ k ≤ s := Nat.ge_two_pow_of_testBit h
  have : 0 < 2 ^ k := Nat.two_pow_pos k
  omega
theorem clr_bit {s k j : Nat} (hs : s < 256) (hk : k < 8) (hj : j < 8) : (clr s k).testBit j = (s.testBit j && !(decide (j = k))) := by
  have h2 : ∀ s : Nat, s < 256 → ∀ k : Nat, k < 8 → ∀ j : Nat, j < 8 → (clr s k).testBit j = (s.testBit j && !(decide (j = k))) := by decide +kernel
  exact h2 s hs k hk j hj
theorem bit_hi {s j : Nat} (hs : s < 256) (hj : 8 ≤ j) : s.testBit j = false := by
  apply Nat.testBit_lt_two_pow
  have : 2 ^ 8 ≤ 2 ^ j := Nat.pow_le_pow_right (by omega) hj
  omega
theorem bits_0 {s : Nat} (hs : s < 256) : s = 0 ↔ ∀ j, j < 8 → s.testBit j = false := by
  constructor
  · intro h j _
    rw [h]
    exact Nat.zero_testBit j
  · intro h
    apply Nat.eq_of_testBit_eq
    intro i
    rw [Nat.zero_testBit]
    by_cases c : i < 8
    · exact h i c
    · exact bit_hi hs (by omega)
theorem zsub {a b : Nat} (ha : a < 256) (hb : b < 256) : zand (a : Int) (zxor (b : Int) (-1)) = 0 ↔ ∀ j, j < 8 → a.testBit j = true → b.testBit j = true := by
  have e : (zI (a : Int) &&& (zI (zxor (b : Int) (-1)))).toBitVec = BitVec.ofNat 32 a &&& ~~~ (BitVec.ofNat 32 b) := by
    have e1 : zI (zxor (b : Int) (-1)) = zI (b : Int) ^^^ zI (-1) := zI_t _
    rw [e1, Int32.toBitVec_and, Int32.toBitVec_xor, zI_bv (by omega), zI_bv (by omega)]
    have e2 : (zI (-1)).toBitVec = BitVec.allOnes 32 := by decide
    rw [e2, BitVec.xor_allOnes]
  have hz : zand (a : Int) (zxor (b : Int) (-1)) = 0 ↔ BitVec.ofNat 32 a &&& ~~~ (BitVec.ofNat 32 b) = 0#32 := by
    unfold zand
    rw [← e]
    constructor
    · intro h
      apply BitVec.eq_of_toInt_eq
      exact h
    · intro h
      show (zI (a : Int) &&& (zI (zxor (b : Int) (-1)))).toBitVec.toInt = 0
      rw [h]
      rfl
  rw [hz]
  constructor
  · intro h j hj ht
    have h1 := congrArg (fun x => BitVec.getLsbD x j) h
    simp only [BitVec.getLsbD_and, BitVec.getLsbD_not, BitVec.getLsbD_ofNat, BitVec.getLsbD_zero] at h1
    by_cases c : b.testBit j = true
    · exact c
    · simp [ht, c, show j < 32 by omega] at h1
  · intro h
    apply BitVec.eq_of_getLsbD_eq
    intro j hj
    simp only [BitVec.getLsbD_and, BitVec.getLsbD_not, BitVec.getLsbD_ofNat, BitVec.getLsbD_zero]
    by_cases c : j < 8
    · have := h j c
      cases h1 : a.testBit j
      · simp
      · simp [this h1, hj]
    · rw [bit_hi ha (by omega)]
      simp
theorem bit_or2 {m x j : Nat} : (m ||| 2 ^ x).testBit j = (m.testBit j || decide (x = j)) := by
  rw [Nat.testBit_or, Nat.testBit_two_pow]
/-- whether a clause of a sort is so -/
def anyc (E : Nat → Int) (s : Int) : List Cl → Int
  | [] => 0
  | c :: T => if c.1 = s ∧ evc E c.2.2 ≠ 0 then 1 else anyc E s T
theorem anyc_01 (E : Nat → Int) (s : Int) : ∀ (T : List Cl), anyc E s T = 0 ∨ anyc E s T = 1
  | [] => Or.inl rfl
  | c :: T => by
    unfold anyc
    split
    · exact Or.inr rfl
    · exact anyc_01 E s T
theorem pJ_asksAny_5 {J R : Nat} (hR : zLN (R + 1) = 300) (hJR : ∀ j, j < 6 → ¬ oJ J (R + j)) (E : Nat → Int) (hE : ∀ k, -1000000 ≤ E k ∧ E k ≤ 1000000) (s : Int) (n : Nat) (hn : n ≤ 10) (σ0 : Zm) (h5 : zrd σ0 R 5 = (n : Int)) (hN : ∀ j, nok s j → zrd σ0 (J + 1) j = E j) : ∀ (T : List Cl) (m k : Nat) (σ : Zm) (any : Int), T.length < m → k + T.length = n → (any = 0 ∨ any = 1) → zfo (oJ2 J) σ0 σ → TRl σ0 R T k → WF T → zwp (fJ_asksAny_5 m J R s any (k : Int) σ) (fun r σ' => zfo (oJ2 J) σ0 σ' ∧ r = if any = 1 then 1 else anyc E s T)
  | [], m + 1, k, σ, any, _, hk, ha, hf, hT, hW => by
    rw [fJ_asksAny_5]
    simp only [zwp_let]
    simp only [List.length_nil] at hk
    rw [hf.rd (show ¬ oJ2 J R from fun q => hJR 0 (by decide) (Or.inr (Or.inr (Or.inl q)))), h5, if_pos (by omega), zwp_some]
    refine ⟨hf, ?_⟩
    rcases ha with rfl | rfl
    · rfl
    · exact zb_1
  | c :: T, m + 1, k, σ, any, hm, hk, ha, hf, hT, hW => by
    simp only [List.length_cons] at hm hk
    have hRd : ∀ j, j < 6 → ¬ oJ2 J (R + j) := fun j hj q => hJR j hj (Or.inr (Or.inr (Or.inl q)))
    obtain ⟨⟨hso, a, b1, b2, b3, b4, b5, b6⟩, hT2⟩ := hT
    obtain ⟨w1, w2, w3, w4, w5⟩ := hW c List.mem_cons_self
    have hnx : zw ((k : Int) + 1) = ((k + 1 : Nat) : Int) := zwj (by omega) (by omega)
    have hst : anyc E s (c :: T) = if c.1 = s ∧ evc E c.2.2 ≠ 0 then 1 else anyc E s T := rfl
    rw [fJ_asksAny_5]
    simp only [zwp_let]
    rw [hf.rd (show ¬ oJ2 J R from hRd 0 (by decide)), h5, if_neg (by omega)]
    rcases ha with rfl | rfl
    · rw [ifnn rfl, zckj (by omega) (by omega), zwp_let, Int.toNat_natCast, hf.rd (hRd 2 (by decide)), hso, hnx]
      by_cases c1 : c.1 = s
      · rw [ifnn c1, zckj (by omega) (by omega), zwp_let, zckj (by omega) (by omega), zwp_let, hf.rd (hRd 4 (by decide)), hf.rd (hRd 5 (by decide)), b2, b3, zwp_bi]
        refine zwp_mono (qJ_value_c hR (fun q => hRd 1 (by decide) q) E hE σ c.2.2 (a + c.2.1.length) (by omega) ?_ ?_ w3) (fun r σ1 ⟨hf1, hr⟩ => ?_)
        · intro x hx h1 h2
          rw [hf.rd (show ¬ oJ2 J (J + 1) by unfold oJ2; omega)]
          exact hN _ (by rw [← c1]; exact w5 x hx h1 h2)
        · have e : zrd σ (R + 1) = zrd σ0 (R + 1) := by funext j; exact hf.rd (hRd 1 (by decide)) j
          rw [e]; exact b6
        have hrb : r = 0 ∨ r = 1 := by
          have hh := ev_wt hE c.2.2 [] [] w3 (by intro x hx; cases hx) (by intro x hx; cases hx)
          rw [hr]
          unfold evc
          match (ev E c.2.2 ([], [])).2, hh.2.1, hh.2.2.2 with
          | [x], _, h => exact h x (by simp)
        rcases hrb with h0 | h1
        · rw [h0, if_pos (by decide)]
          refine zwp_mono (pJ_asksAny_5 hR hJR E hE s n hn σ0 h5 hN T m (k + 1) σ1 0 (by omega) (by omega) (Or.inl rfl) (hf.tr hf1) hT2 (fun x hx => hW x (List.mem_cons_of_mem _ hx))) (fun r2 σ2 ⟨g1, g2⟩ => ⟨g1, ?_⟩)
          rw [g2, hst, if_neg (show ¬ (c.1 = s ∧ evc E c.2.2 ≠ 0) from fun q => q.2 (by rw [← hr, h0]))]
        · rw [h1, if_neg (by decide)]
          refine zwp_mono (pJ_asksAny_5 hR hJR E hE s n hn σ0 h5 hN T m (k + 1) σ1 1 (by omega) (by omega) (Or.inr rfl) (hf.tr hf1) hT2 (fun x hx => hW x (List.mem_cons_of_mem _ hx))) (fun r2 σ2 ⟨g1, g2⟩ => ⟨g1, ?_⟩)
          rw [g2, hst, if_pos (show c.1 = s ∧ evc E c.2.2 ≠ 0 from ⟨c1, by rw [← hr, h1]; decide⟩)]
          rfl
      · rw [if_pos c1]
        refine zwp_mono (pJ_asksAny_5 hR hJR E hE s n hn σ0 h5 hN T m (k + 1) σ 0 (by omega) (by omega) (Or.inl rfl) hf hT2 (fun x hx => hW x (List.mem_cons_of_mem _ hx))) (fun r2 σ2 ⟨g1, g2⟩ => ⟨g1, ?_⟩)
        rw [g2, hst, if_neg (show ¬ (c.1 = s ∧ evc E c.2.2 ≠ 0) from fun q => c1 q.1)]
    · rw [if_pos (by decide), zwp_some]
      exact ⟨hf, zb_1⟩
theorem qJ_asksAny {J R : Nat} (hR : zLN (R + 1) = 300) (hJR : ∀ j, j < 6 → ¬ oJ J (R + j)) (E : Nat → Int) (hE : ∀ k, -1000000 ≤ E k ∧ E k ≤ 1000000) (s : Int) (T : List Cl) (σ : Zm) (hT : TRc σ R T) (hW : WF T) (hN : ∀ j, nok s j → zrd σ (J + 1) j = E j) : zwp (fJ_asksAny σ J R s) (fun r σ' => zfo (oJ2 J) σ σ' ∧ r = anyc E s T) := by
  unfold fJ_asksAny
  have := pJ_asksAny_5 hR hJR E hE s T.length hT.2.1 σ hT.1 hN T 5000 0 σ 0 (by have := hT.2.1; omega) (by omega) (Or.inl rfl) zfo.rf hT.2.2 hW
  exact this
def gev (S : Nat → Int) (x y : Nat) (k : Nat) : Int := if 13 ≤ k ∧ k ≤ 16 then S (4 * x + (k - 13)) else if 17 ≤ k ∧ k ≤ 20 then S (4 * y + (k - 17)) else 0
def sgb (S : Nat → Int) : Prop := ∀ k, 0 ≤ S k ∧ S k ≤ 99
theorem gev_bd {S : Nat → Int} (h : sgb S) (x y k : Nat) : -1000000 ≤ gev S x y k ∧ gev S x y k ≤ 1000000 := by
  have h1 := h (4 * x + (k - 13))
  have h2 := h (4 * y + (k - 17))
  unfold gev
  split
  · omega
  · split <;> omega
theorem pJ_setPages_3 {J o : Nat} (hJ : o ≠ J + 1) (ho : zLN o = 32) (S : Nat → Int) (hS : sgb S) (x y : Nat) (hx : x < 8) (hy : y < 8) (σ0 : Zm) (hv : ∀ k, k < 32 → zrd σ0 o k = S k) : ∀ (d m i : Nat) (σ : Zm), d < m → i + d = 4 → zfo (oO (J + 1)) σ0 σ → (∀ k, k < i → zrd σ (J + 1) (13 + k) = S (4 * x + k) ∧ zrd σ (J + 1) (17 + k) = S (4 * y + k)) → zwp (fJ_setPages_3 m J o (x : Int) (y : Int) (i : Int) σ) (fun _ σ' => zfo (oO (J + 1)) σ0 σ' ∧ ∀ k, k < 4 → zrd σ' (J + 1) (13 + k) = S (4 * x + k) ∧ zrd σ' (J + 1) (17 + k) = S (4 * y + k))
  | 0, m + 1, i, σ, _, hi, hf, h => by
    rw [fJ_setPages_3]
    simp only [zwp_let]
    rw [if_pos (by omega), zwp_some]
    exact ⟨hf, fun k hk => h k (by omega)⟩
  | d + 1, m + 1, i, σ, hm, hi, hf, h => by
    have b1 := hS (4 * x + i)
    have b2 := hS (4 * y + i)
    rw [fJ_setPages_3]
    simp only [zwp_let]
    rw [if_neg (by omega)]
    simp only [zwp_let]
    rw [ho, show zw (((32 : Nat) : Int) - 1) = 31 by decide, show zw ((x : Int) * 4 + (i : Int)) = ((4 * x + i : Nat) : Int) by rw [zwj (by omega) (by omega)]; omega, show zw ((y : Int) * 4 + (i : Int)) = ((4 * y + i : Nat) : Int) by rw [zwj (by omega) (by omega)]; omega, pwithin_t (by omega), if_neg (by decide), pwithin_t (by omega), if_neg (by decide), zckj (by omega) (by omega), zwp_let, Int.toNat_natCast, Int.toNat_natCast, hf.rd (oO_ne hJ), hv _ (by omega)]
    rw [show zw (13 + (i : Int)) = ((13 + i : Nat) : Int) from zwj (by omega) (by omega), show zw (17 + (i : Int)) = ((17 + i : Nat) : Int) from zwj (by omega) (by omega), show zw ((i : Int) + 1) = ((i + 1 : Nat) : Int) from zwj (by omega) (by omega), zckj (by omega) (by omega), Int.toNat_natCast, Int.toNat_natCast]
    refine zwp_st (fun σ1 f1 v1 => ?_)
    rw [zckj (by omega) (by omega), zwp_let, f1.rd (oO_ne hJ), hf.rd (oO_ne hJ), hv _ (by omega), zckj (by omega) (by omega)]
    refine zwp_st (fun σ2 f2 v2 => ?_)
    refine pJ_setPages_3 hJ ho S hS x y hx hy σ0 hv d m (i + 1) σ2 (by omega) (by omega) ((hf.tr f1).tr f2) (fun k hk => ?_)
    rw [v2, v2, v1, v1]
    by_cases c : k = i
    · subst c
      rw [if_neg (by omega), if_pos rfl, if_pos rfl]
      exact ⟨zwj (by omega) (by omega), zwj (by omega) (by omega)⟩
    · have h3 : k < i := by omega
      rw [if_neg (by omega), if_neg (by omega), if_neg (by omega), if_neg (by omega)]
      exact h k h3
theorem qJ_setPages {J o : Nat} (hJ : o ≠ J + 1) (ho : zLN o = 32) (S : Nat → Int) (hS : sgb S) (x y : Nat) (hx : x < 8) (hy : y < 8) (σ : Zm) (hv : ∀ k, k < 32 → zrd σ o k = S k) : zwp (fJ_setPages σ J o (x : Int) (y : Int)) (fun _ σ' => zfo (oO (J + 1)) σ σ' ∧ ∀ s, (s = 2 ∨ s = 3) → ∀ j, nok s j → zrd σ' (J + 1) j = gev S x y j) := by
  unfold fJ_setPages
  refine zwp_mono (pJ_setPages_3 hJ ho S hS x y hx hy σ hv 4 5000 0 σ (by omega) (by omega) zfo.rf (fun k hk => by omega)) (fun r σ' ⟨g1, g2⟩ => ⟨g1, fun s hs j hj => ?_⟩)
  have hj' : 13 ≤ j ∧ j ≤ 20 := by
    unfold nok at hj
    rcases hs with rfl | rfl
    · rw [if_neg (by decide), if_neg (by decide)] at hj; exact hj
    · rw [if_neg (by decide), if_neg (by decide)] at hj; exact hj
  unfold gev
  by_cases c : j ≤ 16
  · rw [if_pos ⟨hj'.1, c⟩, ← (g2 (j - 13) (by omega)).1]
    congr 1
    omega
  · rw [if_neg (by omega), if_pos (by omega), ← (g2 (j - 17) (by omega)).2]
    congr 1
    omega
