/-! MY OWN: the class's Binder: count -/
def pcn (s : Nat) : Nat → Nat
  | 0 => 0
  | k + 1 => if s.testBit k then pcn s k + 1 else pcn s k
def pc (s : Nat) : Nat := pcn s 8
def bcv (x0 : Int) : Int :=
  let v1 := zw (x0 - (zand (zushr x0 1) 1431655765))
  let v2 := zw ((zand v1 858993459) + (zand (zushr v1 2) 858993459))
  let v3 := zw ((zand (v2 + (zushr v2 4)) 252645135) + (zushr (zand (v2 + (zushr v2 4)) 252645135) 8))
  let v4 := zw (v3 + (zushr v3 16))
  zand v4 63
theorem qJ6_bitCount (σ : Zm) {s : Nat} (hs : s < 256) : fJ6_bitCount_0f7a4 σ (s : Int) = some ((pc s : Int), σ) := by
  have h : ∀ s : Nat, s < 256 → bcv (s : Int) = (pc s : Int) := by decide +kernel
  rw [← h s hs]
  rfl
theorem pc_clr {s k : Nat} (hs : s < 256) (hk : k < 8) (h : s.testBit k = true) : pc (clr s k) + 1 = pc s := by
  have h2 : ∀ s : Nat, s < 256 → ∀ k : Nat, k < 8 → s.testBit k = true → pc (clr s k) + 1 = pc s := by decide +kernel
  exact h2 s hs k hk h
theorem pc_0 {s : Nat} (hs : s < 256) : pc s = 0 ↔ s = 0 := by
  have h2 : ∀ s : Nat, s < 256 → (pc s = 0 ↔ s = 0) := by decide +kernel
  exact h2 s hs
theorem pc_le {s : Nat} (hs : s < 256) : pc s ≤ 8 := by
  have h2 : ∀ s : Nat, s < 256 → pc s ≤ 8 := by decide +kernel
  exact h2 s hs
/-- a's bits are b's -/
def sbs (a b : Nat) : Nat → Bool
  | 0 => true
  | j + 1 => sbs a b j && (!(a.testBit j) || b.testBit j)
theorem sbs_iff {a b : Nat} : ∀ n, sbs a b n = true ↔ ∀ j, j < n → a.testBit j = true → b.testBit j = true
  | 0 => ⟨fun _ j h => by omega, fun _ => rfl⟩
  | n + 1 => by
    have ih := sbs_iff (a := a) (b := b) n
    unfold sbs
    rw [Bool.and_eq_true, ih]
    constructor
    · rintro ⟨h1, h2⟩ j hj ht
      by_cases c : j = n
      · subst c
        rw [ht] at h2
        simpa using h2
      · exact h1 j (by omega) ht
    · intro h
      refine ⟨fun j hj => h j (by omega), ?_⟩
      cases c : a.testBit n
      · rfl
      · rw [h n (by omega) c]; rfl
/-- of a's bits none is b's but k -/
def nob (a b k : Nat) : Nat → Bool
  | 0 => true
  | j + 1 => nob a b k j && (decide (j = k) || !(a.testBit j) || !(b.testBit j))
theorem nob_iff {a b k : Nat} : ∀ n, nob a b k n = true ↔ ∀ j, j < n → j ≠ k → ¬ (a.testBit j = true ∧ b.testBit j = true)
  | 0 => ⟨fun _ j h => by omega, fun _ => rfl⟩
  | n + 1 => by
    have ih := nob_iff (a := a) (b := b) (k := k) n
    unfold nob
    rw [Bool.and_eq_true, ih]
    constructor
    · rintro ⟨h1, h2⟩ j hj hk
      by_cases c : j = n
      · subst c
        simp only [hk, decide_false, Bool.false_or] at h2
        rintro ⟨h3, h4⟩
        rw [h3, h4] at h2
        simp at h2
      · exact h1 j (by omega) hk
    · intro h
      refine ⟨fun j hj => h j (by omega), ?_⟩
      by_cases c : n = k
      · simp [c]
      · have := h n (by omega) c
        cases h1 : a.testBit n <;> cases h2 : b.testBit n <;> simp_all
def sumn (f : Nat → Nat) : Nat → Nat
  | 0 => 0
  | n + 1 => sumn f n + f n
theorem sumn_le {f : Nat → Nat} {c : Nat} (h : ∀ i, f i ≤ c) : ∀ n, sumn f n ≤ n * c
  | 0 => by simp [sumn]
  | n + 1 => by
    have h1 := sumn_le h n
    have h2 := h n
    unfold sumn
    rw [Nat.succ_mul]
    omega
def wcl (fa fb : Nat → Nat) (n : Nat) (page place : Int) : Nat → Nat → Nat → Nat
  | 0, _, _ => 0
  | k + 1, s, l => if s.testBit l = true ∧ ((k : Int) ≠ place ∨ (l : Int) = page) then (if sbs (fa l) (clr s l) 8 = true then (if k = 0 then 1 else sumn (fun b => if (clr s l).testBit b = true ∧ nob (fb l) (clr s l) b 8 = true then wcl fa fb n page place k (clr s l) b else 0) n) else 0) else 0
theorem wcl_le (fa fb : Nat → Nat) (n : Nat) (hn : n ≤ 8) (page place : Int) : ∀ k s l, wcl fa fb n page place k s l ≤ 8 ^ k
  | 0, _, _ => Nat.zero_le _
  | k + 1, s, l => by
    unfold wcl
    have hp : 0 < 8 ^ k := Nat.pow_pos (by omega)
    split
    · split
      · split
        · exact Nat.pow_pos (by omega)
        · refine Nat.le_trans (sumn_le (c := 8 ^ k) (fun b => ?_) n) ?_
          · split
            · exact wcl_le fa fb n hn page place k _ _
            · exact Nat.zero_le _
          · rw [Nat.pow_succ]
            rw [Nat.mul_comm]
            exact Nat.mul_le_mul_left _ hn
      · exact Nat.zero_le _
    · exact Nat.zero_le _
theorem wcl_b (fa fb : Nat → Nat) (n : Nat) (hn : n ≤ 8) (page place : Int) {k : Nat} (hk : k ≤ 8) (s l : Nat) : wcl fa fb n page place k s l ≤ 16777216 := by
  refine Nat.le_trans (wcl_le fa fb n hn page place k s l) ?_
  have : (8 : Nat) ^ k ≤ 8 ^ 8 := Nat.pow_le_pow_right (by omega) hk
  omega
/-- the masks as memory has them -/
def mks (fa fb : Nat → Nat) (σ : Zm) : Prop := ∀ y, y < 8 → (fa y < 256 ∧ zrd σ 215 y = (fa y : Int)) ∧ (fb y < 256 ∧ zrd σ 216 y = (fb y : Int))
theorem pB_waysTo_27 {fa fb : Nat → Nat} {n : Nat} (hn : n ≤ 8) (s l : Nat) (hs : s < 256) (hl : l < 8) (g : Nat → Nat) (hg : ∀ b, g b ≤ 16777216) (σ : Zm) (hm : mks fa fb σ) (hw : ∀ b, b < n → s.testBit b = true → zrd σ 217 (8 * s + b) = (g b : Int)) : ∀ (d m b : Nat), d < m → b + d = n → fB_waysTo_27 m (n : Int) (s : Int) (l : Int) ((sumn (fun b => if s.testBit b = true ∧ nob (fb l) s b 8 = true then g b else 0) b : Nat) : Int) (b : Int) σ = some (((sumn (fun b => if s.testBit b = true ∧ nob (fb l) s b 8 = true then g b else 0) n : Nat) : Int), σ)
  | 0, m + 1, b, _, hb => by
    rw [fB_waysTo_27]
    simp only [zlet]
    rw [if_pos (by omega)]
    have : b = n := by omega
    rw [this]
  | d + 1, m + 1, b, hm', hb => by
    have ez : zw ((b : Int) + 1) = ((b + 1 : Nat) : Int) := zwj (by omega) (by omega)
    have est : sumn (fun b => if s.testBit b = true ∧ nob (fb l) s b 8 = true then g b else 0) (b + 1) = sumn (fun b => if s.testBit b = true ∧ nob (fb l) s b 8 = true then g b else 0) b + if s.testBit b = true ∧ nob (fb l) s b 8 = true then g b else 0 := rfl
    have hbnd := sumn_le (f := fun b => if s.testBit b = true ∧ nob (fb l) s b 8 = true then g b else 0) (c := 16777216) (fun i => by split; exact hg i; omega) b
    have hgb := hg b
    have ih := pB_waysTo_27 hn s l hs hl g hg σ hm hw d m (b + 1) (by omega) (by omega)
    rw [est] at ih
    rw [fB_waysTo_27]
    simp only [zlet]
    rw [if_neg (by omega), zbit hs (by omega), ez]
    have tb : s.testBit b = true ↔ s / 2 ^ b % 2 = 1 := by rw [Nat.testBit_eq_decide_div_mod_eq]; simp
    by_cases c1 : s.testBit b = true
    · have c1' := tb.mp c1
      obtain ⟨-, h3, h4⟩ := hm l hl
      have hle : fb l &&& s ≤ fb l := Nat.and_le_left
      rw [if_neg (by omega), zckj (by omega) (by omega), Int.toNat_natCast, h4, zand_n (by omega) (by omega), zclr (by omega) (by omega)]
      have nz : ((clr (fb l &&& s) b : Nat) : Int) = 0 ↔ nob (fb l) s b 8 = true := by
        have hlt : clr (fb l &&& s) b < 256 := Nat.lt_of_le_of_lt (clr_le _ _) (by omega)
        rw [show ((clr (fb l &&& s) b : Nat) : Int) = 0 ↔ clr (fb l &&& s) b = 0 by omega, bits_0 hlt, nob_iff]
        constructor
        · intro h j hj hk
          have := h j hj
          rw [clr_bit (by omega) (by omega) hj, Nat.testBit_and] at this
          rintro ⟨q1, q2⟩
          simp [q1, q2, hk] at this
        · intro h j hj
          rw [clr_bit (by omega) (by omega) hj, Nat.testBit_and]
          by_cases e : j = b
          · simp [e]
          · have := h j hj e
            cases q1 : (fb l).testBit j <;> cases q2 : s.testBit j <;> simp_all
      by_cases c2 : nob (fb l) s b 8 = true
      · rw [ifnn (nz.mpr c2), show zw ((s : Int) * 8 + (b : Int)) = ((8 * s + b : Nat) : Int) by rw [zwj (by omega) (by omega)]; omega, zckj (by omega) (by omega), Int.toNat_natCast, hw b (by omega) c1]
        rw [if_pos ⟨c1, c2⟩] at ih
        rw [show zw (((sumn (fun b => if s.testBit b = true ∧ nob (fb l) s b 8 = true then g b else 0) b : Nat) : Int) + (g b : Int)) = ((sumn (fun b => if s.testBit b = true ∧ nob (fb l) s b 8 = true then g b else 0) b + g b : Nat) : Int) from zwj (by omega) (by omega)]
        exact ih
      · rw [if_pos (fun q => c2 (nz.mp q))]
        rw [if_neg (fun q => c2 q.2), Nat.add_zero] at ih
        exact ih
    · have c1' : ¬ s / 2 ^ b % 2 = 1 := fun q => c1 (tb.mpr q)
      rw [if_pos (by omega)]
      rw [if_neg (fun q => c1 q.1), Nat.add_zero] at ih
      exact ih
def dpw (fa fb : Nat → Nat) (n : Nat) (page place : Int) (s : Nat) (l : Nat) (σ : Zm) : Prop := ∀ x b, 1 ≤ x → b < n → (x < s ∨ (x = s ∧ b < l)) → zrd σ 217 (8 * x + b) = ((wcl fa fb n page place (pc x) x b : Nat) : Int)
theorem pB_count_53 {fa fb : Nat → Nat} {n : Nat} (hn : 1 ≤ n ∧ n ≤ 8) (page place : Int) (s : Nat) (hs0 : 1 ≤ s) (hs : s < 2 ^ n) (sum : Nat) (hsum : sum = 0 ∨ s = 2 ^ n - 1) (hsb : sum = 0) (σ0 : Zm) (P : Int → Zm → Prop) (K : Int → Int → Int → Int → Int → Int → Zm → Zr) (hK : ∀ σ', zfo (oO 217) σ0 σ' → dpw fa fb n page place (s + 1) 0 σ' → zwp (K (n : Int) page place ((2 ^ n - 1 : Nat) : Int) ((if s = 2 ^ n - 1 then sumn (fun b => wcl fa fb n page place (pc s) s b) n else 0 : Nat) : Int) (s : Int) σ') P) : ∀ (d m l : Nat) (σ : Zm), d < m → l + d = n → zfo (oO 217) σ0 σ → mks fa fb σ → dpw fa fb n page place s l σ → zwp (fB_count_53 m (n : Int) page place ((2 ^ n - 1 : Nat) : Int) ((if s = 2 ^ n - 1 then sumn (fun b => wcl fa fb n page place (pc s) s b) l else 0 : Nat) : Int) (s : Int) (if (pc s : Int) - 1 = place then 1 else 0) (l : Int) σ K) P
  | 0, m + 1, l, σ, _, hl, hf, hm, hd => by
    rw [fB_count_53]
    simp only [zwp_let]
    rw [if_pos (by omega)]
    have : l = n := by omega
    subst this
    refine hK σ hf (fun x b h1 h2 h3 => hd x b h1 h2 ?_)
    omega
  | d + 1, m + 1, l, σ, hm', hl, hf, hm, hd => by
    have hp8 : 2 ^ n ≤ 2 ^ 8 := Nat.pow_le_pow_right (by omega) hn.2
    have hs8 : s < 256 := by omega
    have ez : zw ((l : Int) + 1) = ((l + 1 : Nat) : Int) := zwj (by omega) (by omega)
    have tb : s.testBit l = true ↔ s / 2 ^ l % 2 = 1 := by rw [Nat.testBit_eq_decide_div_mod_eq]; simp
    have hpc1 : 1 ≤ pc s := by
      by_cases q : pc s = 0
      · have := (pc_0 hs8).mp q; omega
      · omega
    have hpc8 := pc_le hs8
    obtain ⟨k, hk⟩ : ∃ k, pc s = k + 1 := ⟨pc s - 1, by omega⟩
    have hwb := wcl_b fa fb n hn.2 page place (k := pc s) (by omega) s l
    have hst : sumn (fun b => wcl fa fb n page place (pc s) s b) (l + 1) = sumn (fun b => wcl fa fb n page place (pc s) s b) l + wcl fa fb n page place (pc s) s l := rfl
    have hsm := sumn_le (f := fun b => wcl fa fb n page place (pc s) s b) (c := 16777216) (fun i => wcl_b fa fb n hn.2 page place (k := pc s) (by omega) s i) l
    have e126 : ∀ σ1, zfo (oO 217) σ0 σ1 → mks fa fb σ1 → dpw fa fb n page place s (l + 1) σ1 → zwp (fB_count_126 (fun x1 x2 x3 x4 x5 x6 x7 x8 σ => fB_count_53 m x1 x2 x3 x4 x5 x6 x7 x8 σ K) K (n : Int) page place ((2 ^ n - 1 : Nat) : Int) ((if s = 2 ^ n - 1 then sumn (fun b => wcl fa fb n page place (pc s) s b) l else 0 : Nat) : Int) (s : Int) (if (pc s : Int) - 1 = place then 1 else 0) (l : Int) σ1) P := by
      intro σ1 f1 m1 d1
      have ih := pB_count_53 hn page place s hs0 hs sum hsum hsb σ0 P K hK d m (l + 1) σ1 (by omega) (by omega) f1 m1 d1
      unfold fB_count_126
      rw [ez]
      by_cases c : s = 2 ^ n - 1
      · rw [if_pos c] at ih ⊢
        rw [ifnn (by omega), show zw ((s : Int) * 8 + (l : Int)) = ((8 * s + l : Nat) : Int) by rw [zwj (by omega) (by omega)]; omega, zckj (by omega) (by omega), zwp_let, zwp_let, Int.toNat_natCast, d1 s l hs0 (by omega) (Or.inr ⟨rfl, by omega⟩)]
        rw [hst] at ih
        rw [show zw (((sumn (fun b => wcl fa fb n page place (pc s) s b) l : Nat) : Int) + ((wcl fa fb n page place (pc s) s l : Nat) : Int)) = ((sumn (fun b => wcl fa fb n page place (pc s) s b) l + wcl fa fb n page place (pc s) s l : Nat) : Int) from zwj (by omega) (by omega)]
        exact ih
      · rw [if_neg c] at ih ⊢
        rw [if_pos (by omega), zwp_let, show zw (((0 : Nat) : Int) + 0) = ((0 : Nat) : Int) by decide]
        exact ih
    have put : ∀ (v : Nat), v = wcl fa fb n page place (pc s) s l → zwp (zck (zw ((s : Int) * 8 + (l : Int))) 2048 (zlet (zst σ 217 (zw ((s : Int) * 8 + (l : Int))).toNat (v : Int)) fun σ6 => fB_count_126 (fun x1 x2 x3 x4 x5 x6 x7 x8 σ => fB_count_53 m x1 x2 x3 x4 x5 x6 x7 x8 σ K) K (n : Int) page place ((2 ^ n - 1 : Nat) : Int) ((if s = 2 ^ n - 1 then sumn (fun b => wcl fa fb n page place (pc s) s b) l else 0 : Nat) : Int) (s : Int) (if (pc s : Int) - 1 = place then 1 else 0) (l : Int) σ6)) P := by
      intro v hv
      rw [show zw ((s : Int) * 8 + (l : Int)) = ((8 * s + l : Nat) : Int) by rw [zwj (by omega) (by omega)]; omega, zckj (by omega) (by omega), Int.toNat_natCast]
      refine zwp_st (fun σ1 f1 v1 => ?_)
      refine e126 σ1 (hf.tr f1) (fun y hy => ?_) (fun x b h1 h2 h3 => ?_)
      · rw [f1.rd (oO_ne (by omega)), f1.rd (oO_ne (by omega))]
        exact hm y hy
      · rw [v1]
        by_cases c : 8 * x + b = 8 * s + l
        · have e1 : x = s := by omega
          have e2 : b = l := by omega
          rw [if_pos c, e1, e2, ← hv, zwj (by omega) (by omega)]
        · rw [if_neg c]
          exact hd x b h1 h2 (by omega)
    have hcan : ∀ can : Int, can = (if s.testBit l = true ∧ ((k : Int) ≠ place ∨ (l : Int) = page) then 1 else 0) → zwp (fB_count_88 (fun x1 x2 x3 x4 x5 x6 x7 x8 σ => fB_count_53 m x1 x2 x3 x4 x5 x6 x7 x8 σ K) K (n : Int) page place ((2 ^ n - 1 : Nat) : Int) ((if s = 2 ^ n - 1 then sumn (fun b => wcl fa fb n page place (pc s) s b) l else 0 : Nat) : Int) (s : Int) (if (pc s : Int) - 1 = place then 1 else 0) (l : Int) can σ) P := by
      intro can hc
      unfold fB_count_88
      have hw : wcl fa fb n page place (pc s) s l = if s.testBit l = true ∧ ((k : Int) ≠ place ∨ (l : Int) = page) then (if sbs (fa l) (clr s l) 8 = true then (if k = 0 then 1 else sumn (fun b => if (clr s l).testBit b = true ∧ nob (fb l) (clr s l) b 8 = true then wcl fa fb n page place k (clr s l) b else 0) n) else 0) else 0 := by rw [hk]; rfl
      by_cases c : s.testBit l = true ∧ ((k : Int) ≠ place ∨ (l : Int) = page)
      · rw [if_pos c] at hc hw
        rw [hc, if_neg (by decide), zclr hs8 (by omega)]
        have hcl : clr s l < s := clr_lt c.1
        have hpcc := pc_clr hs8 (by omega : l < 8) c.1
        obtain ⟨⟨a1, a2⟩, -⟩ := hm l (by omega)
        -- waysTo
        have hwt : fB_waysTo σ (n : Int) ((clr s l : Nat) : Int) (l : Int) = some (((wcl fa fb n page place (pc s) s l : Nat) : Int), σ) := by
          unfold fB_waysTo
          rw [zckj (by omega) (by omega)]
          simp only [zlet]
          rw [Int.toNat_natCast, a2]
          have hz := zsub (a := fa l) (b := clr s l) a1 (by omega)
          rw [← sbs_iff 8] at hz
          by_cases c2 : sbs (fa l) (clr s l) 8 = true
          · rw [if_pos c2] at hw
            rw [if_pos (hz.mpr c2)]
            by_cases c3 : k = 0
            · rw [if_pos c3] at hw
              have : clr s l = 0 := (pc_0 (by omega)).mp (by omega)
              rw [hw, this, ifnn (by rfl)]
              rfl
            · rw [if_neg c3] at hw
              have hne : clr s l ≠ 0 := by
                intro q
                have := (pc_0 (s := clr s l) (by omega)).mpr q
                omega
              rw [if_pos (by omega)]
              have := pB_waysTo_27 (fa := fa) (fb := fb) hn.2 (clr s l) l (by omega) (by omega) (fun b => wcl fa fb n page place k (clr s l) b) (fun b => wcl_b fa fb n hn.2 page place (by omega) _ _) σ hm (fun b hb hbt => ?_) n 5000 0 (by omega) (by omega)
              · rw [hw]
                exact this
              · have := hd (clr s l) b (by omega) hb (Or.inl hcl)
                rw [this, show pc (clr s l) = k by omega]
          · rw [if_neg c2] at hw
            rw [if_neg (fun q => c2 (hz.mp q)), hw]
            rfl
        rw [zwp_bi, hwt, zwp_some, zwj (a := ((wcl fa fb n page place (pc s) s l : Nat) : Int)) (by omega) (by omega)]
        exact put _ rfl
      · rw [if_neg c] at hc hw
        rw [hc, if_pos rfl]
        have := put 0 hw.symm
        exact this
    rw [fB_count_53]
    simp only [zwp_let]
    rw [if_neg (by omega), zbit hs8 (by omega)]
    by_cases c1 : s.testBit l = true
    · have c1' := tb.mp c1
      rw [if_neg (by omega)]
      by_cases c2 : (pc s : Int) - 1 = place
      · rw [if_pos c2] at hcan ⊢
        rw [if_neg (by decide)]
        by_cases c3 : (l : Int) = page
        · rw [ifnn c3]
          exact hcan 1 (by rw [if_pos ⟨c1, Or.inr c3⟩])
        · rw [if_pos c3]
          exact hcan 0 (by rw [if_neg (fun q => by rcases q.2 with q | q; omega; exact c3 q)])
      · rw [if_neg c2] at hcan ⊢
        rw [if_pos rfl]
        exact hcan 1 (by rw [if_pos ⟨c1, Or.inl (by omega)⟩])
    · have c1' : ¬ s / 2 ^ l % 2 = 1 := fun q => c1 (tb.mpr q)
      rw [if_pos (by omega)]
      exact hcan 0 (by rw [if_neg (fun q => c1 q.1)])
def wsum (fa fb : Nat → Nat) (n : Nat) (page place : Int) : Nat := sumn (fun b => wcl fa fb n page place (pc (2 ^ n - 1)) (2 ^ n - 1) b) n
theorem pB_count_25 {fa fb : Nat → Nat} {n : Nat} (hn : 1 ≤ n ∧ n ≤ 8) (page place : Int) (σ0 : Zm) (hm0 : mks fa fb σ0) : ∀ (d m s : Nat) (σ : Zm), d < m → s + d = 2 ^ n → 1 ≤ s → zfo (oO 217) σ0 σ → dpw fa fb n page place s 0 σ → zwp (fB_count_25 m (n : Int) page place ((2 ^ n - 1 : Nat) : Int) ((if s = 2 ^ n then wsum fa fb n page place else 0 : Nat) : Int) (s : Int) σ) (fun r σ' => zfo (oO 217) σ0 σ' ∧ r = (wsum fa fb n page place : Int))
  | 0, m + 1, s, σ, _, hs, h1, hf, hd => by
    rw [fB_count_25]
    simp only [zwp_let]
    rw [if_pos (by omega), zwp_some, if_pos (by omega)]
    exact ⟨hf, rfl⟩
  | d + 1, m + 1, s, σ, hm, hs, h1, hf, hd => by
    have hp8 : 2 ^ n ≤ 2 ^ 8 := Nat.pow_le_pow_right (by omega) hn.2
    have hpc8 := pc_le (s := s) (by omega)
    have hm2 : mks fa fb σ := fun y hy => by
      rw [hf.rd (oO_ne (by omega)), hf.rd (oO_ne (by omega))]
      exact hm0 y hy
    have ez : zw ((s : Int) + 1) = ((s + 1 : Nat) : Int) := zwj (by omega) (by omega)
    have key : zwp (fB_count_53 5000 (n : Int) page place ((2 ^ n - 1 : Nat) : Int) ((0 : Nat) : Int) (s : Int) (if (pc s : Int) - 1 = place then 1 else 0) ((0 : Nat) : Int) σ (fun y14 y15 y16 y17 y18 y19 σ13 => fB_count_25 m y14 y15 y16 y17 y18 (zw (y19 + 1)) σ13)) (fun r σ' => zfo (oO 217) σ0 σ' ∧ r = (wsum fa fb n page place : Int)) := by
      have := pB_count_53 (fa := fa) (fb := fb) hn page place s h1 (by omega) 0 (Or.inl rfl) rfl σ (fun r σ' => zfo (oO 217) σ0 σ' ∧ r = (wsum fa fb n page place : Int)) (fun y14 y15 y16 y17 y18 y19 σ13 => fB_count_25 m y14 y15 y16 y17 y18 (zw (y19 + 1)) σ13) (fun σ1 f1 d1 => ?_) n 5000 0 σ (by omega) (by omega) zfo.rf hm2 hd
      · rw [show (if s = 2 ^ n - 1 then sumn (fun b => wcl fa fb n page place (pc s) s b) 0 else 0) = 0 by split <;> rfl] at this
        exact this
      · rw [ez]
        have ih := pB_count_25 hn page place σ0 hm0 d m (s + 1) σ1 (by omega) (by omega) (by omega) (hf.tr f1) d1
        have e : (if s = 2 ^ n - 1 then sumn (fun b => wcl fa fb n page place (pc s) s b) n else 0) = if s + 1 = 2 ^ n then wsum fa fb n page place else 0 := by
          by_cases c : s = 2 ^ n - 1
          · rw [if_pos c, if_pos (by omega), c]; rfl
          · rw [if_neg c, if_neg (by omega)]
        rw [e]
        exact ih
    rw [fB_count_25]
    simp only [zwp_let]
    rw [if_neg (by omega), zwp_bi, qJ6_bitCount σ (by omega), zwp_some, zwj (a := (pc s : Int)) (by omega) (by omega), zwj (a := (pc s : Int) - 1) (by omega) (by omega), if_neg (show ¬ s = 2 ^ n by omega)]
    by_cases c : (pc s : Int) - 1 = place
    · rw [ifnn c]
      rw [if_pos c] at key
      exact key
    · rw [if_pos c]
      rw [if_neg c] at key
      exact key
theorem qB_count {fa fb : Nat → Nat} {n : Nat} (hn : n ≤ 8) (page place : Int) (σ : Zm) (hm : mks fa fb σ) : zwp (fB_count σ (n : Int) page place) (fun r σ' => zfo (oO 217) σ σ' ∧ r = if n = 0 then 1 else (wsum fa fb n page place : Int)) := by
  unfold fB_count
  by_cases c : n = 0
  · rw [pwithin_f (by omega), ifnn rfl, zwp_some, if_pos c]
    exact ⟨zfo.rf, rfl⟩
  · rw [pwithin_t (by omega), if_pos (by decide), zwp_let, if_neg c]
    have e : zw (zshl 1 (n : Int) - 1) = ((2 ^ n - 1 : Nat) : Int) := by
      have h : ∀ n : Nat, n ≤ 8 → zw (zshl 1 (n : Int) - 1) = ((2 ^ n - 1 : Nat) : Int) := by decide +kernel
      exact h n hn
    have hp1 : 2 ^ 1 ≤ 2 ^ n := Nat.pow_le_pow_right (by omega) (by omega)
    have hp8 : 2 ^ n ≤ 2 ^ 8 := Nat.pow_le_pow_right (by omega) hn
    rw [e]
    have := pB_count_25 (fa := fa) (fb := fb) ⟨by omega, hn⟩ page place σ hm (2 ^ n - 1) 5000 1 σ (by omega) (by omega) (by omega) zfo.rf (fun x b h1 h2 h3 => by omega)
    rw [if_neg (by omega)] at this
    exact this
