/-! MY OWN: the reference's count, whole -/
theorem pM_count_154 {fl fn : Nat → Nat} {n : Nat} (hn : n ≤ 8) (page place : Int) {s : Nat} (hs : s < 2 ^ n) (hs1 : 1 ≤ s) (σ0 : Zm) (hm : mkm fl fn σ0) (P : Int → Zm → Prop) (K : Int → Int → Int → Int → Zm → Zr) (hK : ∀ σ', zfo (oO 293) σ0 σ' → TQ fl fn n page place s n 0 σ' → zwp (K page place (n : Int) (s : Int) σ') P) : ∀ (d m b : Nat) (σ : Zm), d < m → b + d = n → zfo (oO 293) σ0 σ → TQ fl fn n page place s b 0 σ → zwp (fM_count_154 m page place (n : Int) (s : Int) (pc s : Int) (b : Int) σ K) P
  | 0, m + 1, b, σ, _, hb, h1, h2 => by
    have : b = n := by omega
    subst this
    rw [fM_count_154]
    simp only [zwp_let]
    rw [if_pos (by omega)]
    exact hK σ h1 h2
  | d + 1, m + 1, b, σ, hm', hb, h1, h2 => by
    have hs256 := lt_256 hn hs
    have hv := h2 s b hs (by omega)
    have hg : GQ fl fn n page place s b 0 s b = if s.testBit b = true then mcl fl fn n page place (pc s) s b else 0 := by
      unfold GQ
      by_cases q : s.testBit b = true
      · rw [if_pos q, if_pos q, if_pos (Or.inr (clr_lt q))]
      · rw [if_neg q, if_neg q]
    rw [hg] at hv
    rw [fM_count_154]
    simp only [zwp_let]
    rw [if_neg (by omega), show zw (8 * (s : Int) + (b : Int)) = ((8 * s + b : Nat) : Int) by rw [zwj (by omega) (by omega)]; omega, zckj (by omega) (by omega), zwp_let, Int.toNat_natCast, hv]
    refine pM_count_179 hn page place hs (show b < n by omega) hs1 _ rfl σ (mkm_fo hm h1 (oO_ne (by omega)) (oO_ne (by omega))) _ _ (fun σ1 f1 t1 => ?_) n 5000 0 σ (by omega) (by omega) zfo.rf h2
    rw [show zw ((b : Int) + 1) = ((b + 1 : Nat) : Int) by rw [zwj (by omega) (by omega)]; omega]
    refine pM_count_154 hn page place hs hs1 σ0 hm P K hK d m (b + 1) σ1 (by omega) (by omega) (h1.tr f1) (fun t l ht hl => ?_)
    rw [t1 t l ht hl]
    unfold GQ
    rw [if_pos hl, if_neg (by omega : ¬ l < 0)]
theorem pM_count_126 {s : Nat} (hs : s < 256) (x2 x3 : Int) (n : Nat) (hn : n ≤ 8) (σ : Zm) (K : Int → Int → Int → Int → Int → Zm → Zr) : ∀ (d m i : Nat), d < m → i + d = n → fM_count_126 m x2 x3 (n : Int) (s : Int) (pcn s i : Int) (i : Int) σ K = K x2 x3 (n : Int) (s : Int) (pcn s n : Int) σ
  | 0, m + 1, i, _, hi => by
    have : i = n := by omega
    subst this
    rw [fM_count_126]
    dsimp only [zlet]
    rw [if_pos (by omega)]
  | d + 1, m + 1, i, hm, hi => by
    have ih := pM_count_126 hs x2 x3 n hn σ K d m (i + 1) (by omega) (by omega)
    have hle : pcn s i ≤ i := by
      have h : ∀ k, pcn s k ≤ k := by
        intro k
        induction k with
        | zero => exact Nat.le_refl _
        | succ k ih => unfold pcn; split <;> omega
      exact h i
    have e : pcn s (i + 1) = if s.testBit i then pcn s i + 1 else pcn s i := rfl
    have tb : s.testBit i = true ↔ s / 2 ^ i % 2 = 1 := by rw [Nat.testBit_eq_decide_div_mod_eq]; simp
    rw [fM_count_126]
    dsimp only [zlet]
    rw [if_neg (by omega), zbit hs (by omega), show zw ((i : Int) + 1) = ((i + 1 : Nat) : Int) by rw [zwj (by omega) (by omega)]; omega]
    have e2 : zw ((pcn s i : Int) + ((s / 2 ^ i % 2 : Nat) : Int)) = (pcn s (i + 1) : Int) := by
      rw [zwj (by omega) (by omega), e]
      by_cases c : s.testBit i = true
      · have := tb.1 c
        rw [if_pos c]; omega
      · have : ¬ s / 2 ^ i % 2 = 1 := fun z => c (tb.2 z)
        rw [if_neg c]; omega
    rw [e2]
    exact ih
theorem pcn_n {n s : Nat} (hn : n ≤ 8) (hs : s < 2 ^ n) : pcn s n = pc s := by
  have h : ∀ d, n + d ≤ 8 → pcn s (n + d) = pcn s n := by
    intro d
    induction d with
    | zero => intro _; rfl
    | succ d ih =>
      intro hd
      have e : pcn s (n + (d + 1)) = if s.testBit (n + d) then pcn s (n + d) + 1 else pcn s (n + d) := rfl
      have : s.testBit (n + d) = false := by
        apply Nat.testBit_lt_two_pow
        have : 2 ^ n ≤ 2 ^ (n + d) := Nat.pow_le_pow_right (by omega) (by omega)
        omega
      rw [e, this, if_neg (by decide), ih (by omega)]
  have := h (8 - n) (by omega)
  rw [show n + (8 - n) = 8 by omega] at this
  exact this.symm
theorem zshl_n {n : Nat} (h : n ≤ 8) : zshl 1 (n : Int) = ((2 ^ n : Nat) : Int) := by
  have h2 : ∀ n : Nat, n ≤ 8 → zshl 1 (n : Int) = ((2 ^ n : Nat) : Int) := by decide +kernel
  exact h2 n h
theorem pM_count_111 {fl fn : Nat → Nat} {n : Nat} (hn : n ≤ 8) (page place : Int) (σ0 : Zm) (hm : mkm fl fn σ0) (P : Int → Zm → Prop) (K : Int → Zm → Zr) (hK : ∀ σ', zfo (oO 293) σ0 σ' → TQ fl fn n page place (2 ^ n) 0 0 σ' → zwp (K (n : Int) σ') P) : ∀ (d m s : Nat) (σ : Zm), d < m → s + d = 2 ^ n → 1 ≤ s → zfo (oO 293) σ0 σ → TQ fl fn n page place s 0 0 σ → zwp (fM_count_111 m page place (n : Int) (s : Int) σ K) P
  | 0, m + 1, s, σ, _, hs, h0, h1, h2 => by
    have : s = 2 ^ n := by omega
    subst this
    rw [fM_count_111]
    simp only [zwp_let]
    rw [zshl_n hn, if_pos (Int.le_refl _)]
    exact hK σ h1 h2
  | d + 1, m + 1, s, σ, hm', hs, h0, h1, h2 => by
    have hlt : s < 2 ^ n := by omega
    have hs256 := lt_256 hn hlt
    rw [fM_count_111]
    simp only [zwp_let]
    rw [zshl_n hn, if_neg (by omega)]
    have e126 := fun K => pM_count_126 hs256 page place n hn σ K n 5000 0 (by omega) (by omega)
    rw [show (0 : Int) = (pcn s 0 : Int) from rfl]
    have e126' : ∀ K, fM_count_126 5000 page place (n : Int) (s : Int) (pcn s 0 : Int) (pcn s 0 : Int) σ K = K page place (n : Int) (s : Int) (pcn s n : Int) σ := fun K => e126 K
    rw [e126', pcn_n hn hlt]
    refine pM_count_154 hn page place hlt h0 σ (mkm_fo hm h1 (oO_ne (by omega)) (oO_ne (by omega))) _ _ (fun σ1 f1 t1 => ?_) n 5000 0 σ (by omega) (by omega) zfo.rf h2
    rw [show zw ((s : Int) + 1) = ((s + 1 : Nat) : Int) by rw [zwj (by omega) (by omega)]; omega]
    refine pM_count_111 hn page place σ0 hm P K hK d m (s + 1) σ1 (by omega) (by omega) (by omega) (h1.tr f1) (fun t l ht hl => ?_)
    rw [t1 t l ht hl]
    congr 1
    unfold GQ
    by_cases q1 : t.testBit l = true
    · rw [if_pos q1, if_pos q1]
      by_cases q2 : pc t = 1
      · rw [if_pos (Or.inl q2), if_pos (Or.inl q2)]
      · by_cases q3 : clr t l < s
        · rw [if_pos (Or.inr q3), if_pos (Or.inr (by omega))]
        · rw [if_neg (show ¬ (pc t = 1 ∨ clr t l < s) by omega), if_neg (by omega : ¬ l < 0)]
          by_cases q4 : clr t l = s
          · rw [if_pos (show pc t = 1 ∨ clr t l < s + 1 by omega), mcl_gat (lt_256 hn ht) (by omega) q1 q2]
            by_cases q5 : gat fl page place t l = true
            · rw [if_pos ⟨q4, q5⟩, if_pos q5]
            · rw [if_neg (fun z => q5 z.2), if_neg q5]
          · rw [if_neg (fun z => q4 z.1), if_neg (show ¬ (pc t = 1 ∨ clr t l < s + 1) by omega)]
            by_cases q5 : clr t l = s + 1 ∧ gat fl page place t l = true
            · rw [if_pos q5]; rfl
            · rw [if_neg q5]
    · rw [if_neg q1, if_neg q1]
theorem pM_count_23 (x2 x3 x4 : Int) (σ0 : Zm) (P : Int → Zm → Prop) (K : Int → Int → Int → Zm → Zr) (hK : ∀ σ', zfo (oO 293) σ0 σ' → (∀ j, j < 2048 → zrd σ' 293 j = 0) → zwp (K x2 x3 x4 σ') P) : ∀ (d m j : Nat) (σ : Zm), d < m → j + d = 2048 → zfo (oO 293) σ0 σ → (∀ k, k < j → zrd σ 293 k = 0) → zwp (fM_count_23 m x2 x3 x4 (j : Int) σ K) P
  | 0, m + 1, j, σ, _, hj, h1, h2 => by
    rw [fM_count_23]
    simp only [zwp_let]
    rw [if_pos (by omega)]
    exact hK σ h1 (fun k hk => h2 k (by omega))
  | d + 1, m + 1, j, σ, hm, hj, h1, h2 => by
    rw [fM_count_23]
    simp only [zwp_let]
    rw [if_neg (by omega), zckj (by omega) (by omega), Int.toNat_natCast]
    refine zwp_st (fun σ1 f1 v1 => ?_)
    rw [show zw ((j : Int) + 1) = ((j + 1 : Nat) : Int) by rw [zwj (by omega) (by omega)]; omega]
    refine pM_count_23 x2 x3 x4 σ0 P K hK d m (j + 1) σ1 (by omega) (by omega) (h1.tr f1) (fun k hk => ?_)
    rw [v1 k]
    by_cases c : k = j
    · rw [if_pos c]; rfl
    · rw [if_neg c]; exact h2 k (by omega)
theorem pM_count_48 (page place : Int) {n : Nat} (hn : n ≤ 8) (σ0 : Zm) (P : Int → Zm → Prop) (K : Int → Int → Int → Zm → Zr) (hK : ∀ σ', zfo (oO 293) σ0 σ' → (∀ t l, t < 256 → l < 8 → zrd σ' 293 (8 * t + l) = if t = 2 ^ l ∧ l < n ∧ okp page place 0 l = true then 1 else 0) → zwp (K page place (n : Int) σ') P) : ∀ (d m p : Nat) (σ : Zm), d < m → p + d = n → zfo (oO 293) σ0 σ → (∀ t l, t < 256 → l < 8 → zrd σ 293 (8 * t + l) = if t = 2 ^ l ∧ l < p ∧ okp page place 0 l = true then 1 else 0) → zwp (fM_count_48 m page place (n : Int) (p : Int) σ K) P
  | 0, m + 1, p, σ, _, hp, h1, h2 => by
    have : p = n := by omega
    subst this
    rw [fM_count_48]
    simp only [zwp_let]
    rw [if_pos (by omega)]
    exact hK σ h1 h2
  | d + 1, m + 1, p, σ, hm, hp, h1, h2 => by
    have hp2 : 2 ^ p < 256 := lt_256 (n := 8) (by omega) (Nat.pow_lt_pow_right (by omega) (by omega))
    have go : ∀ (v : Int) (σ1 : Zm), (v = if okp page place 0 p = true then 1 else 0) → zfo (oO 293) σ σ1 → (∀ j, zrd σ1 293 j = if j = 8 * 2 ^ p + p then zw v else zrd σ 293 j) → zwp (fM_count_48 m page place (n : Int) (zw ((p : Int) + 1)) σ1 K) P := by
      intro v σ1 hv f1 v1
      rw [show zw ((p : Int) + 1) = ((p + 1 : Nat) : Int) by rw [zwj (by omega) (by omega)]; omega]
      refine pM_count_48 page place hn σ0 P K hK d m (p + 1) σ1 (by omega) (by omega) (h1.tr f1) (fun t l ht hl => ?_)
      rw [v1]
      by_cases q : 8 * t + l = 8 * 2 ^ p + p
      · have q1 : t = 2 ^ p := by omega
        have q2 : l = p := by omega
        rw [if_pos q, hv, q2]
        by_cases q3 : okp page place 0 p = true
        · rw [if_pos q3, if_pos ⟨q1, by omega, q3⟩]; rfl
        · rw [if_neg q3, if_neg (fun z => q3 z.2.2)]; rfl
      · rw [if_neg q, h2 t l ht hl]
        by_cases q3 : t = 2 ^ l ∧ l < p ∧ okp page place 0 l = true
        · rw [if_pos q3, if_pos ⟨q3.1, by omega, q3.2.2⟩]
        · rw [if_neg q3, if_neg (fun z => q3 ⟨z.1, by
            by_cases w : l = p
            · rw [z.1, w] at q; exact absurd rfl q
            · omega, z.2.2⟩)]
    have hnn : (0 : Int) ≤ ((2 ^ p : Nat) : Int) := Int.natCast_nonneg _
    rw [fM_count_48]
    simp only [zwp_let]
    rw [if_neg (by omega), zshl_1 (by omega), show zw (8 * ((2 ^ p : Nat) : Int) + (p : Int)) = ((8 * 2 ^ p + p : Nat) : Int) by rw [zwj (by omega) (by omega)]; omega, Int.toNat_natCast]
    have one : okp page place 0 p = true → zwp (zck ((8 * 2 ^ p + p : Nat) : Int) 2048 <| zlet (zst σ 293 (8 * 2 ^ p + p) 1) fun σ9 => fM_count_48 m page place (n : Int) (zw ((p : Int) + 1)) σ9 K) P := by
      intro hok
      rw [zckj (by omega) (by omega)]
      refine zwp_st (fun σ1 f1 v1 => go 1 σ1 (by rw [if_pos hok]) f1 v1)
    have nul : okp page place 0 p = false → zwp (zck ((8 * 2 ^ p + p : Nat) : Int) 2048 <| zlet (zst σ 293 (8 * 2 ^ p + p) 0) fun σ9 => fM_count_48 m page place (n : Int) (zw ((p : Int) + 1)) σ9 K) P := by
      intro hok
      rw [zckj (by omega) (by omega)]
      refine zwp_st (fun σ1 f1 v1 => go 0 σ1 (by rw [hok, if_neg (by decide)]) f1 v1)
    unfold okp at one nul
    by_cases c3 : page < 0
    · rw [if_pos c3]
      exact one (by simp [c3])
    · rw [if_neg c3]
      by_cases c4 : (p : Int) = page
      · rw [ifnn c4]
        by_cases c5 : place = 0
        · rw [ifnn c5, if_pos (by simp)]
          exact one (by simp [c4, c5])
        · rw [if_pos c5, if_neg (by simp)]
          exact nul (by simp [c3, c4]; omega)
      · rw [if_pos c4]
        by_cases c5 : place = 0
        · rw [ifnn c5, if_neg (by simp)]
          exact nul (by simp [c3, c4, c5])
        · rw [if_pos c5, if_pos (by simp)]
          exact one (by simp [c4]; right; omega)
theorem pM_count_302 {fl fn : Nat → Nat} {n : Nat} (hn : n ≤ 8) (hn1 : 1 ≤ n) (page place : Int) (σ : Zm) (h : TQ fl fn n page place (2 ^ n) 0 0 σ) : ∀ (d m l : Nat), d < m → l + d = n → fM_count_302 m (n : Int) (sumn (fun l => if (2 ^ n - 1).testBit l = true then mcl fl fn n page place (pc (2 ^ n - 1)) (2 ^ n - 1) l else 0) l : Int) (l : Int) σ = some ((sumn (fun l => if (2 ^ n - 1).testBit l = true then mcl fl fn n page place (pc (2 ^ n - 1)) (2 ^ n - 1) l else 0) n : Int), σ)
  | 0, m + 1, l, _, hl => by
    have : l = n := by omega
    subst this
    rw [fM_count_302]
    dsimp only [zlet]
    rw [if_pos (by omega)]
  | d + 1, m + 1, l, hm, hl => by
    have ih := pM_count_302 hn hn1 page place σ h d m (l + 1) (by omega) (by omega)
    have hp : 2 ^ n ≤ 2 ^ 8 := Nat.pow_le_pow_right (by omega) hn
    have hp1 : 2 ^ 1 ≤ 2 ^ n := Nat.pow_le_pow_right (by omega) hn1
    have hv := h (2 ^ n - 1) l (by omega) (by omega)
    have hg : GQ fl fn n page place (2 ^ n) 0 0 (2 ^ n - 1) l = if (2 ^ n - 1).testBit l = true then mcl fl fn n page place (pc (2 ^ n - 1)) (2 ^ n - 1) l else 0 := by
      unfold GQ
      by_cases q : (2 ^ n - 1).testBit l = true
      · rw [if_pos q, if_pos q, if_pos (Or.inr (by have := clr_lt q; omega))]
      · rw [if_neg q, if_neg q]
    have hb1 : ∀ i, (if (2 ^ n - 1).testBit i = true then mcl fl fn n page place (pc (2 ^ n - 1)) (2 ^ n - 1) i else 0) ≤ 16777216 := by
      intro i
      split
      · exact mcl_b fl fn n hn page place _ _ _
      · omega
    have hbd : sumn (fun l => if (2 ^ n - 1).testBit l = true then mcl fl fn n page place (pc (2 ^ n - 1)) (2 ^ n - 1) l else 0) l ≤ l * 16777216 := sumn_le hb1 l
    have hb8 : l * 16777216 ≤ 8 * 16777216 := Nat.mul_le_mul_right _ (by omega)
    have hbl := hb1 l
    have e : sumn (fun l => if (2 ^ n - 1).testBit l = true then mcl fl fn n page place (pc (2 ^ n - 1)) (2 ^ n - 1) l else 0) (l + 1) = sumn (fun l => if (2 ^ n - 1).testBit l = true then mcl fl fn n page place (pc (2 ^ n - 1)) (2 ^ n - 1) l else 0) l + (if (2 ^ n - 1).testBit l = true then mcl fl fn n page place (pc (2 ^ n - 1)) (2 ^ n - 1) l else 0) := rfl
    rw [hg] at hv
    rw [fM_count_302]
    dsimp only [zlet]
    rw [if_neg (by omega), zshl_n hn, show zw (8 * (((2 ^ n : Nat) : Int) - 1) + (l : Int)) = ((8 * (2 ^ n - 1) + l : Nat) : Int) by rw [zwj (by omega) (by omega)]; omega, zckj (by omega) (by omega), Int.toNat_natCast, hv, show zw ((l : Int) + 1) = ((l + 1 : Nat) : Int) by rw [zwj (by omega) (by omega)]; omega]
    generalize hX : (if (2 ^ n - 1).testBit l = true then mcl fl fn n page place (pc (2 ^ n - 1)) (2 ^ n - 1) l else 0) = X at *
    generalize hY : sumn (fun l => if (2 ^ n - 1).testBit l = true then mcl fl fn n page place (pc (2 ^ n - 1)) (2 ^ n - 1) l else 0) l = Y at *
    rw [show zw ((Y : Int) + (X : Int)) = ((Y + X : Nat) : Int) by rw [zwj (by omega) (by omega)]; omega, ← e]
    exact ih
def oMC (q : Nat) : Prop := oMN q ∨ q = 293
def msum (fl fn : Nat → Nat) (n : Nat) (page place : Int) : Nat := sumn (fun l => if (2 ^ n - 1).testBit l = true then mcl fl fn n page place (pc (2 ^ n - 1)) (2 ^ n - 1) l else 0) n
theorem one_bits {t l : Nat} (ht : t < 256) (hl : l < 8) (hb : t.testBit l = true) : pc t = 1 ↔ t = 2 ^ l := by
  have h2 : ∀ t : Nat, t < 256 → ∀ l : Nat, l < 8 → t.testBit l = true → (pc t = 1 ↔ t = 2 ^ l) := by decide +kernel
  exact h2 t ht l hl hb
theorem two_bit {l : Nat} (hl : l < 8) : (2 ^ l).testBit l = true ∧ pc (2 ^ l) = 1 := by
  have h2 : ∀ l : Nat, l < 8 → (2 ^ l).testBit l = true ∧ pc (2 ^ l) = 1 := by decide +kernel
  exact h2 l hl
theorem qM_count {x : Nat} {T : List Cl} {S : Nat → Int} {n : Nat} (σ : Zm) (hk : mbk x T S n σ) (page place : Int) : zwp (fM_count σ (x : Int) page place) (fun r σ' => zfo oMC σ σ' ∧ ∃ fl fn : Nat → Nat, (∀ a b, a < 8 → b < 8 → ((fl a).testBit b = true ↔ AH T S n b a)) ∧ (∀ a b, a < 8 → b < 8 → ((fn a).testBit b = true ↔ BS T S n a b)) ∧ (∀ a, a < 8 → fl a < 256 ∧ fn a < 256) ∧ r = if n = 0 then 1 else (msum fl fn n page place : Int)) := by
  have hn8 := hk.2.2.2.2.2.1
  unfold fM_count
  rw [zwp_bv]
  refine zwp_mono (qM_bind σ hk) (fun _ σ1 ⟨f1, m1, m2⟩ => ?_)
  have hk1 := mbk_fo hk f1 (by unfold oMN; omega) (by unfold oMN; omega)
  have f1' : zfo oMC σ σ1 := f1.mono (fun q z => Or.inl z)
  have ex : ∃ fl fn : Nat → Nat, mkm fl fn σ1 ∧ (∀ a b, a < 8 → b < 8 → ((fl a).testBit b = true ↔ AH T S n b a)) ∧ (∀ a b, a < 8 → b < 8 → ((fn a).testBit b = true ↔ BS T S n a b)) := by
    refine ⟨fun a => (zrd σ1 291 a).toNat, fun a => (zrd σ1 292 a).toNat, fun y hy => ?_, fun a b ha hb => ?_, fun a b ha hb => ?_⟩
    · obtain ⟨m, h1, h2, _⟩ := m1 y hy
      obtain ⟨m', h1', h2', _⟩ := m2 y hy
      exact ⟨⟨show (zrd σ1 291 y).toNat < 256 by omega, show zrd σ1 291 y = ((zrd σ1 291 y).toNat : Int) by omega⟩, show (zrd σ1 292 y).toNat < 256 by omega, show zrd σ1 292 y = ((zrd σ1 292 y).toNat : Int) by omega⟩
    · obtain ⟨m, h1, h2, h3⟩ := m1 a ha
      show ((zrd σ1 291 a).toNat).testBit b = true ↔ _
      rw [h2, Int.toNat_natCast]
      exact h3 b hb
    · obtain ⟨m, h1, h2, h3⟩ := m2 a ha
      show ((zrd σ1 292 a).toNat).testBit b = true ↔ _
      rw [h2, Int.toNat_natCast]
      exact h3 b hb
  obtain ⟨fl, fn, hm, e1, e2⟩ := ex
  rw [zckj (by decide) (by decide), zwp_let, hk1.2.2.2.2.1]
  by_cases c : n = 0
  · rw [ifnn (show (n : Int) = 0 by omega), zwp_some]
    exact ⟨f1', fl, fn, e1, e2, fun a ha => ⟨(hm a ha).1.1, (hm a ha).2.1⟩, by rw [if_pos c]⟩
  · rw [if_pos (show ¬ (n : Int) = 0 by omega)]
    refine pM_count_23 _ _ _ σ1 _ _ (fun σ2 f2 z2 => ?_) 2048 5000 0 σ1 (by omega) (by omega) zfo.rf (fun k hk => by omega)
    refine pM_count_48 page place hn8 σ2 _ _ (fun σ3 f3 t3 => ?_) n 5000 0 σ2 (by omega) (by omega) zfo.rf (fun t l ht hl => by rw [z2 _ (by omega), if_neg (by omega)])
    have f13 : zfo (oO 293) σ1 σ3 := f2.tr f3
    have hm3 := mkm_fo hm f13 (oO_ne (by omega)) (oO_ne (by omega))
    have hp1 : 2 ^ 1 ≤ 2 ^ n := Nat.pow_le_pow_right (by omega) (by omega)
    have hp8 : 2 ^ n ≤ 2 ^ 8 := Nat.pow_le_pow_right (by omega) hn8
    have tq : TQ fl fn n page place 1 0 0 σ3 := by
      intro t l ht hl
      have ht8 := lt_256 hn8 ht
      rw [t3 t l ht8 (by omega)]
      unfold GQ
      by_cases q1 : t.testBit l = true
      · rw [if_pos q1]
        by_cases q2 : pc t = 1
        · have q3 := (one_bits ht8 (show l < 8 by omega) q1).1 q2
          rw [if_pos (Or.inl q2), q2]
          have e : mcl fl fn n page place 1 t l = if t.testBit l = true ∧ okp page place 0 l = true then (if (0 : Nat) = 0 then 1 else 0) else 0 := by
            show (if t.testBit l = true ∧ okp page place 0 l = true then (if (0 : Nat) = 0 then 1 else _) else 0) = _
            rw [if_pos rfl, if_pos rfl]
          rw [e, if_pos rfl]
          by_cases q4 : okp page place 0 l = true
          · rw [if_pos ⟨q3, hl, q4⟩, if_pos ⟨q1, q4⟩]; rfl
          · rw [if_neg (fun z => q4 z.2.2), if_neg (fun z => q4 z.2)]; rfl
        · have q3 : ¬ t = 2 ^ l := fun z => q2 ((one_bits ht8 (show l < 8 by omega) q1).2 z)
          have q5 := pcl ht8 (show l < 8 by omega) q1
          have q6 : clr t l ≠ 0 := by
            intro z
            rw [z] at q5
            have : pc 0 = 0 := by decide
            omega
          rw [if_neg (fun z => q3 z.1), if_neg (by omega)]
          split
          · rfl
          · rfl
      · rw [if_neg q1, if_neg (fun z => q1 (by rw [z.1]; exact (two_bit (show l < 8 by omega)).1))]
        rfl
    refine pM_count_111 hn8 page place σ3 hm3 _ _ (fun σ4 f4 t4 => ?_) (2 ^ n - 1) 5000 1 σ3 (by omega) (by omega) (by omega) zfo.rf tq
    have e302 := pM_count_302 hn8 (show 1 ≤ n by omega) page place σ4 t4 n 5000 0 (by omega) (by omega)
    refine ⟨_, _, e302, f1'.tr ((f13.tr f4).mono (fun q z => Or.inr z)), fl, fn, e1, e2, fun a ha => ⟨(hm a ha).1.1, (hm a ha).2.1⟩, ?_⟩
    rw [if_neg c]
    rfl
