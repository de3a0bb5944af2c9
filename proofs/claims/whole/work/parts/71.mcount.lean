/-! MY OWN: the reference counts the orders -/
theorem mcl_le (fl fn : Nat → Nat) (n : Nat) (hn : n ≤ 8) (page place : Int) : ∀ k s l, mcl fl fn n page place k s l ≤ 8 ^ k
  | 0, _, _ => Nat.zero_le _
  | k + 1, s, l => by
    unfold mcl
    have hp : 0 < 8 ^ k := Nat.pow_pos (by omega)
    split
    · split
      · exact Nat.pow_pos (by omega)
      · split
        · refine Nat.le_trans (sumn_le (c := 8 ^ k) (fun b => ?_) n) ?_
          · split
            · exact mcl_le fl fn n hn page place k _ _
            · exact Nat.zero_le _
          · rw [Nat.pow_succ, Nat.mul_comm]
            exact Nat.mul_le_mul_left _ hn
        · exact Nat.zero_le _
    · exact Nat.zero_le _
theorem pc_le8 (s : Nat) : pc s ≤ 8 := by
  have h : ∀ k, pcn s k ≤ k := by
    intro k
    induction k with
    | zero => exact Nat.le_refl _
    | succ k ih => unfold pcn; split <;> omega
  exact h 8
theorem mcl_b (fl fn : Nat → Nat) (n : Nat) (hn : n ≤ 8) (page place : Int) (s t l : Nat) : mcl fl fn n page place (pc s) t l ≤ 16777216 := by
  refine Nat.le_trans (mcl_le fl fn n hn page place _ t l) ?_
  have : (8 : Nat) ^ (pc s) ≤ 8 ^ 8 := Nat.pow_le_pow_right (by omega) (pc_le8 s)
  omega
def gat (fl : Nat → Nat) (page place : Int) (t l : Nat) : Bool := okp page place (pc t - 1) l && nob (fl l) (clr t l) 99 8
def fq (fl fn : Nat → Nat) (n : Nat) (page place : Int) (t l : Nat) (b : Nat) : Nat := if (clr t l).testBit b = true ∧ nob (fn l) (clr t l) b 8 = true then mcl fl fn n page place (pc (clr t l)) (clr t l) b else 0
def GQ (fl fn : Nat → Nat) (n : Nat) (page place : Int) (s b p t l : Nat) : Nat := if t.testBit l = true then (if pc t = 1 ∨ clr t l < s then mcl fl fn n page place (pc t) t l else if clr t l = s ∧ gat fl page place t l = true then sumn (fq fl fn n page place t l) (if l < p then b + 1 else b) else 0) else 0
theorem mcl_gat {fl fn : Nat → Nat} {n : Nat} {page place : Int} {t l : Nat} (ht : t < 256) (hl : l < 8) (hb : t.testBit l = true) (hp : pc t ≠ 1) : mcl fl fn n page place (pc t) t l = if gat fl page place t l = true then sumn (fq fl fn n page place t l) n else 0 := by
  have h1 := pcl ht hl hb
  obtain ⟨k, hk⟩ : ∃ k, pc t = k + 1 := ⟨pc t - 1, by omega⟩
  have e : mcl fl fn n page place (k + 1) t l = if t.testBit l = true ∧ okp page place k l = true then (if k = 0 then 1 else if nob (fl l) (clr t l) 99 8 = true then sumn (fun b => if (clr t l).testBit b = true ∧ nob (fn l) (clr t l) b 8 = true then mcl fl fn n page place k (clr t l) b else 0) n else 0) else 0 := rfl
  unfold gat fq
  rw [hk] at h1 ⊢
  have hk2 : pc (clr t l) = k := by omega
  rw [hk2, e]
  rw [show k + 1 - 1 = k by omega]
  by_cases c1 : okp page place k l = true
  · rw [if_pos ⟨hb, c1⟩, if_neg (by omega)]
    by_cases c2 : nob (fl l) (clr t l) 99 8 = true
    · rw [if_pos c2, c1, c2]; rfl
    · rw [if_neg c2, if_neg (by simp [c2])]
  · rw [if_neg (fun z => c1 z.2), if_neg (by simp [c1])]
theorem fq_b (fl fn : Nat → Nat) (n : Nat) (hn : n ≤ 8) (page place : Int) (t l b : Nat) : fq fl fn n page place t l b ≤ 16777216 := by
  unfold fq
  split
  · exact mcl_b fl fn n hn page place _ _ _
  · omega
def TQ (fl fn : Nat → Nat) (n : Nat) (page place : Int) (s b p : Nat) (σ : Zm) : Prop := ∀ t l, t < 2 ^ n → l < n → zrd σ 293 (8 * t + l) = (GQ fl fn n page place s b p t l : Int)
theorem or_clr {s p : Nat} (hs : s < 256) (hp : p < 8) (h : s.testBit p = false) : clr (s ||| 2 ^ p) p = s ∧ pc (s ||| 2 ^ p) = pc s + 1 ∧ s < s ||| 2 ^ p ∧ (s ||| 2 ^ p) < 256 ∧ (s ||| 2 ^ p).testBit p = true := by
  have h2 : ∀ s : Nat, s < 256 → ∀ p : Nat, p < 8 → s.testBit p = false → clr (s ||| 2 ^ p) p = s ∧ pc (s ||| 2 ^ p) = pc s + 1 ∧ s < s ||| 2 ^ p ∧ (s ||| 2 ^ p) < 256 ∧ (s ||| 2 ^ p).testBit p = true := by decide +kernel
  exact h2 s hs p hp h
theorem clr_or {t p : Nat} (ht : t < 256) (hp : p < 8) (h : t.testBit p = true) : clr t p ||| 2 ^ p = t ∧ (clr t p).testBit p = false := by
  have h2 : ∀ t : Nat, t < 256 → ∀ p : Nat, p < 8 → t.testBit p = true → clr t p ||| 2 ^ p = t ∧ (clr t p).testBit p = false := by decide +kernel
  exact h2 t ht p hp h
theorem lt_256 {n t : Nat} (hn : n ≤ 8) (h : t < 2 ^ n) : t < 256 := by
  have : 2 ^ n ≤ 2 ^ 8 := Nat.pow_le_pow_right (by omega) hn
  omega
/-- the masks as the reference has them -/
def mkm (fl fn : Nat → Nat) (σ : Zm) : Prop := ∀ y, y < 8 → (fl y < 256 ∧ zrd σ 291 y = (fl y : Int)) ∧ (fn y < 256 ∧ zrd σ 292 y = (fn y : Int))
theorem mkm_fo {D : Nat → Prop} {fl fn : Nat → Nat} {σ σ1 : Zm} (h : mkm fl fn σ) (hf : zfo D σ σ1) (h1 : ¬ D 291) (h2 : ¬ D 292) : mkm fl fn σ1 := fun y hy => by
  rw [hf.rd h1, hf.rd h2]
  exact h y hy
theorem zand_nob {a s k : Nat} (ha : a < 256) (hs : s < 256) : a &&& s = 0 ↔ nob a s 99 8 = true := by
  have hlt : a &&& s < 256 := Nat.lt_of_le_of_lt Nat.and_le_left ha
  rw [bits_0 hlt, nob_iff]
  constructor
  · intro h j hj _ z
    have := h j hj
    rw [Nat.testBit_and, z.1, z.2] at this
    exact absurd this (by decide)
  · intro h j hj
    have := h j hj (by omega)
    rw [Nat.testBit_and]
    cases q : a.testBit j <;> cases q2 : s.testBit j <;> simp_all
theorem clr_nob {a s b : Nat} (ha : a < 256) (hs : s < 256) (hb : b < 8) : clr (a &&& s) b = 0 ↔ nob a s b 8 = true := by
  have hlt : a &&& s < 256 := Nat.lt_of_le_of_lt Nat.and_le_left ha
  have hlt2 : clr (a &&& s) b < 256 := Nat.lt_of_le_of_lt (clr_le _ _) hlt
  rw [bits_0 hlt2, nob_iff]
  constructor
  · intro h j hj hjb z
    have := h j hj
    rw [clr_bit hlt hb hj, Nat.testBit_and, z.1, z.2] at this
    simp [hjb] at this
  · intro h j hj
    rw [clr_bit hlt hb hj, Nat.testBit_and]
    by_cases q : j = b
    · simp [q]
    · have := h j hj q
      cases q1 : a.testBit j <;> cases q2 : s.testBit j <;> simp_all
theorem qM_mayLie {fl fn : Nat → Nat} {σ : Zm} (h : mkm fl fn σ) {p s b : Nat} (hp : p < 8) (hs : s < 256) (hb : b < 8) : fM_mayLie σ (p : Int) (s : Int) (b : Int) = some (if nob (fl p) s 99 8 = true ∧ nob (fn p) s b 8 = true then 1 else 0, σ) := by
  obtain ⟨⟨h1, h2⟩, h3, h4⟩ := h p hp
  have hlt : fn p &&& s < 256 := Nat.lt_of_le_of_lt Nat.and_le_left h3
  unfold fM_mayLie
  dsimp only [zlet]
  rw [zckj (by omega) (by omega), Int.toNat_natCast, h2, zand_n (by omega) (by omega)]
  by_cases c1 : fl p &&& s = 0
  · have c1' := (zand_nob (k := 0) h1 hs).1 c1
    rw [ifnn (show ((fl p &&& s : Nat) : Int) = 0 by omega), zckj (by omega) (by omega), h4, zand_n (by omega) (by omega), zclr hlt hb]
    by_cases c2 : clr (fn p &&& s) b = 0
    · rw [ifnn (show ((clr (fn p &&& s) b : Nat) : Int) = 0 by omega), if_pos ⟨c1', (clr_nob h3 hs hb).1 c2⟩]
    · rw [if_pos (show ¬ ((clr (fn p &&& s) b : Nat) : Int) = 0 by omega), if_neg (fun z => c2 ((clr_nob h3 hs hb).2 z.2))]
  · rw [if_pos (show ¬ ((fl p &&& s : Nat) : Int) = 0 by omega), if_neg (fun z => c1 ((zand_nob (k := 0) h1 hs).2 z.1))]
theorem pM_count_179 {fl fn : Nat → Nat} {n : Nat} (hn : n ≤ 8) (page place : Int) {s b : Nat} (hs : s < 2 ^ n) (hb : b < n) (hs1 : 1 ≤ s) (v : Nat) (hv : v = if s.testBit b = true then mcl fl fn n page place (pc s) s b else 0) (σ0 : Zm) (hm : mkm fl fn σ0) (P : Int → Zm → Prop) (K : Int → Int → Int → Int → Int → Int → Zm → Zr) (hK : ∀ σ', zfo (oO 293) σ0 σ' → TQ fl fn n page place s b n σ' → zwp (K page place (n : Int) (s : Int) (pc s : Int) (b : Int) σ') P) : ∀ (d m p : Nat) (σ : Zm), d < m → p + d = n → zfo (oO 293) σ0 σ → TQ fl fn n page place s b p σ → zwp (fM_count_179 m page place (n : Int) (s : Int) (pc s : Int) (b : Int) (v : Int) (p : Int) σ K) P
  | 0, m + 1, p, σ, _, hp, h1, h2 => by
    have : p = n := by omega
    subst this
    rw [fM_count_179]
    simp only [zwp_let]
    rw [if_pos (by omega)]
    exact hK σ h1 h2
  | d + 1, m + 1, p, σ, hm', hp, h1, h2 => by
    have hs256 := lt_256 hn hs
    have hmm := mkm_fo hm h1 (oO_ne (by omega)) (oO_ne (by omega))
    have ez : zw ((p : Int) + 1) = ((p + 1 : Nat) : Int) := by rw [zwj (by omega) (by omega)]; omega
    have ih := fun σ1 => pM_count_179 hn page place hs hb hs1 v hv σ0 hm P K hK d m (p + 1) σ1 (by omega) (by omega)
    have hvb : v ≤ 16777216 := by
      rw [hv]
      split
      · exact mcl_b fl fn n hn page place _ _ _
      · omega
    -- entries of other sets don't change when p is stepped over
    have same : ∀ t l, t < 2 ^ n → l < n → ¬ (l = p ∧ t.testBit p = true ∧ clr t p = s) → GQ fl fn n page place s b (p + 1) t l = GQ fl fn n page place s b p t l := by
      intro t l ht hl hne
      unfold GQ
      by_cases q1 : t.testBit l = true
      · rw [if_pos q1, if_pos q1]
        by_cases q2 : pc t = 1 ∨ clr t l < s
        · rw [if_pos q2, if_pos q2]
        · rw [if_neg q2, if_neg q2]
          by_cases q3 : clr t l = s ∧ gat fl page place t l = true
          · rw [if_pos q3, if_pos q3]
            have : l ≠ p := by
              intro z
              subst z
              exact hne ⟨rfl, q1, q3.1⟩
            by_cases q4 : l < p
            · rw [if_pos q4, if_pos (by omega)]
            · rw [if_neg q4, if_neg (by omega)]
          · rw [if_neg q3, if_neg q3]
      · rw [if_neg q1, if_neg q1]
    have zero : ∀ t, t < 2 ^ n → t.testBit p = true → clr t p = s → fq fl fn n page place t p b = 0 → GQ fl fn n page place s b (p + 1) t p = GQ fl fn n page place s b p t p := by
      intro t ht q1 q2 q3
      unfold GQ
      rw [if_pos q1, if_pos q1]
      by_cases q4 : pc t = 1 ∨ clr t p < s
      · rw [if_pos q4, if_pos q4]
      · rw [if_neg q4, if_neg q4]
        by_cases q5 : clr t p = s ∧ gat fl page place t p = true
        · rw [if_pos q5, if_pos q5, if_pos (by omega), if_neg (by omega)]
          show sumn (fq fl fn n page place t p) b + fq fl fn n page place t p b = _
          rw [q3, Nat.add_zero]
        · rw [if_neg q5, if_neg q5]
    have no : (∀ t, t < 2 ^ n → t.testBit p = true → clr t p = s → gat fl page place t p = true → fq fl fn n page place t p b = 0) → zwp (fM_count_247 (fun (x2 : Int) (x3 : Int) (x4 : Int) (x5 : Int) (x6 : Int) (x7 : Int) (x8 : Int) (x9 : Int) (σ : Zm) => fM_count_179 m x2 x3 x4 x5 x6 x7 x8 x9 σ K) K page place (n : Int) (s : Int) (pc s : Int) (b : Int) (v : Int) (p : Int) σ) P := by
      intro hz
      unfold fM_count_247 fM_count_250
      rw [if_pos rfl, ez]
      refine ih σ h1 (fun t l ht hl => ?_)
      rw [h2 t l ht hl]
      by_cases q : l = p ∧ t.testBit p = true ∧ clr t p = s
      · obtain ⟨q1, q2, q3⟩ := q
        subst q1
        by_cases q4 : gat fl page place t l = true
        · rw [zero t ht q2 q3 (hz t ht q2 q3 q4)]
        · unfold GQ
          rw [if_pos q2, if_pos q2]
          by_cases q5 : pc t = 1 ∨ clr t l < s
          · rw [if_pos q5, if_pos q5]
          · rw [if_neg q5, if_neg q5, if_neg (fun z => q4 z.2), if_neg (fun z => q4 z.2)]
      · rw [same t l ht hl q]
    rw [fM_count_179]
    simp only [zwp_let]
    rw [if_neg (by omega)]
    by_cases c0 : v = 0
    · rw [if_pos (by omega)]
      -- nothing to hand on
      refine hK σ h1 (fun t l ht hl => ?_)
      rw [h2 t l ht hl]
      congr 1
      unfold GQ
      by_cases q1 : t.testBit l = true
      · rw [if_pos q1, if_pos q1]
        by_cases q2 : pc t = 1 ∨ clr t l < s
        · rw [if_pos q2, if_pos q2]
        · rw [if_neg q2, if_neg q2]
          by_cases q3 : clr t l = s ∧ gat fl page place t l = true
          · rw [if_pos q3, if_pos q3, if_pos hl]
            have hfz : fq fl fn n page place t l b = 0 := by
              unfold fq
              rw [q3.1]
              split
              · next z =>
                rw [if_pos z.1] at hv
                omega
              · rfl
            have : sumn (fq fl fn n page place t l) (b + 1) = sumn (fq fl fn n page place t l) b := by
              show sumn (fq fl fn n page place t l) b + fq fl fn n page place t l b = _
              rw [hfz, Nat.add_zero]
            rw [this]
            split
            · exact this
            · rfl
          · rw [if_neg q3, if_neg q3]
      · rw [if_neg q1, if_neg q1]
    · have hsb : s.testBit b = true := by
        by_cases q : s.testBit b = true
        · exact q
        · rw [if_neg q] at hv; omega
      rw [if_pos hsb] at hv
      rw [if_neg (by omega), zbit hs256 (by omega)]
      have tb : s.testBit p = true ↔ s / 2 ^ p % 2 = 1 := by rw [Nat.testBit_eq_decide_div_mod_eq]; simp
      by_cases c1 : s.testBit p = true
      · have := tb.1 c1
        rw [if_pos (by omega)]
        refine no (fun t ht q1 q2 _ => ?_)
        have := (clr_or (lt_256 hn ht) (show p < 8 by omega) q1).2
        rw [q2, c1] at this
        exact absurd this (by decide)
      · have c1' : s.testBit p = false := by cases q : s.testBit p; rfl; exact absurd q c1
        have hn1 : ¬ s / 2 ^ p % 2 = 1 := fun z => c1 (tb.2 z)
        obtain ⟨o1, o2, o3, o4, o5⟩ := or_clr hs256 (show p < 8 by omega) c1'
        have hot : s ||| 2 ^ p < 2 ^ n := Nat.or_lt_two_pow hs (Nat.pow_lt_pow_right (by omega) (by omega))
        have tun : ∀ t, t < 2 ^ n → t.testBit p = true → clr t p = s → t = s ||| 2 ^ p := fun t ht q1 q2 => by
          have := (clr_or (lt_256 hn ht) (show p < 8 by omega) q1).1
          rw [q2] at this
          exact this.symm
        have hpc1 : 1 ≤ pc s := by
          by_cases q : pc s = 0
          · have := pzb hs256 (show b < 8 by omega) q
            rw [hsb] at this
            exact absurd this (by decide)
          · omega
        have hgat : gat fl page place (s ||| 2 ^ p) p = (okp page place (pc s) p && nob (fl p) s 99 8) := by
          unfold gat
          rw [o1, o2, show pc s + 1 - 1 = pc s by omega]
        have hfq : fq fl fn n page place (s ||| 2 ^ p) p b = if nob (fn p) s b 8 = true then v else 0 := by
          unfold fq
          rw [o1, hv]
          by_cases q : nob (fn p) s b 8 = true
          · rw [if_pos ⟨hsb, q⟩, if_pos q]
          · rw [if_neg (fun z => q z.2), if_neg q]
        have hml := qM_mayLie hmm (p := p) (s := s) (b := b) (by omega) hs256 (by omega)
        rw [if_neg (by omega), zbi_eq hml, zw_b2]
        by_cases c2 : nob (fl p) s 99 8 = true ∧ nob (fn p) s b 8 = true
        · rw [if_pos c2, if_neg (by decide)]
          rw [if_pos c2.2] at hfq
          -- handed on
          have yes : okp page place (pc s) p = true → zwp (fM_count_243 (fun (x2 : Int) (x3 : Int) (x4 : Int) (x5 : Int) (x6 : Int) (x7 : Int) (x8 : Int) (x9 : Int) (σ : Zm) => fM_count_179 m x2 x3 x4 x5 x6 x7 x8 x9 σ K) K page place (n : Int) (s : Int) (pc s : Int) (b : Int) (v : Int) (p : Int) σ) P := by
            intro hok
            have hg : gat fl page place (s ||| 2 ^ p) p = true := by rw [hgat, hok, c2.1]; rfl
            have hold := h2 (s ||| 2 ^ p) p hot (by omega)
            have eold : GQ fl fn n page place s b p (s ||| 2 ^ p) p = sumn (fq fl fn n page place (s ||| 2 ^ p) p) b := by
              unfold GQ
              rw [if_pos o5, if_neg (by omega), if_pos ⟨o1, hg⟩, if_neg (by omega)]
            have enew : GQ fl fn n page place s b (p + 1) (s ||| 2 ^ p) p = sumn (fq fl fn n page place (s ||| 2 ^ p) p) b + v := by
              unfold GQ
              rw [if_pos o5, if_neg (by omega), if_pos ⟨o1, hg⟩, if_pos (by omega)]
              show sumn (fq fl fn n page place (s ||| 2 ^ p) p) b + fq fl fn n page place (s ||| 2 ^ p) p b = _
              rw [hfq]
            have hbd : sumn (fq fl fn n page place (s ||| 2 ^ p) p) b ≤ b * 16777216 := sumn_le (fun i => fq_b fl fn n hn page place (s ||| 2 ^ p) p i) b
            have hb8 : b * 16777216 ≤ 8 * 16777216 := Nat.mul_le_mul_right _ (by omega)
            rw [eold] at hold
            unfold fM_count_243 fM_count_250
            have hp2 : 2 ^ p < 256 := lt_256 (n := 8) (by omega) (Nat.pow_lt_pow_right (by omega) (by omega))
            rw [if_neg (by decide), zshl_1 (by omega), zor_n (by omega) (by omega), show zw (8 * ((s ||| 2 ^ p : Nat) : Int) + (p : Int)) = ((8 * (s ||| 2 ^ p) + p : Nat) : Int) by rw [zwj (by omega) (by omega)]; omega, zckj (by omega) (by omega), zwp_let, Int.toNat_natCast, hold, zckj (by omega) (by omega)]
            refine zwp_st (fun σ1 f1 v1 => ?_)
            rw [ez]
            refine ih σ1 (h1.tr f1) (fun t l ht hl => ?_)
            rw [v1]
            by_cases q : 8 * t + l = 8 * (s ||| 2 ^ p) + p
            · have q1 : t = s ||| 2 ^ p := by omega
              have q2 : l = p := by omega
              rw [if_pos q, q1, q2, enew, zwj (by omega) (by omega)]
              omega
            · rw [if_neg q, h2 t l ht hl, same t l ht hl (fun z => q (by rw [z.1, tun t ht z.2.1 z.2.2]))]
          have nope : okp page place (pc s) p = false → zwp (fM_count_247 (fun (x2 : Int) (x3 : Int) (x4 : Int) (x5 : Int) (x6 : Int) (x7 : Int) (x8 : Int) (x9 : Int) (σ : Zm) => fM_count_179 m x2 x3 x4 x5 x6 x7 x8 x9 σ K) K page place (n : Int) (s : Int) (pc s : Int) (b : Int) (v : Int) (p : Int) σ) P := by
            intro hok
            refine no (fun t ht q1 q2 q3 => ?_)
            rw [tun t ht q1 q2, hgat, hok] at q3
            exact absurd q3 (by simp)
          unfold okp at yes nope
          by_cases c3 : page < 0
          · rw [if_pos c3]
            exact yes (by simp [c3])
          · rw [if_neg c3]
            by_cases c4 : (p : Int) = page
            · rw [ifnn c4]
              by_cases c5 : place = (pc s : Int)
              · rw [ifnn c5, if_neg (by simp)]
                exact yes (by simp [c4, c5])
              · rw [if_pos c5, if_pos (by simp)]
                exact nope (by simp [c3, c4]; omega)
            · rw [if_pos c4]
              by_cases c5 : place = (pc s : Int)
              · rw [ifnn c5, if_pos (by simp)]
                exact nope (by simp [c3, c4]; omega)
              · rw [if_pos c5, if_neg (by simp)]
                exact yes (by simp [c4]; right; omega)
        · rw [if_neg c2, if_pos rfl]
          refine no (fun t ht q1 q2 q3 => ?_)
          rw [tun t ht q1 q2] at q3 ⊢
          rw [hgat] at q3
          have q4 : nob (fl p) s 99 8 = true := by
            cases q5 : nob (fl p) s 99 8
            · rw [q5] at q3; simp at q3
            · rfl
          rw [hfq, if_neg (fun z => c2 ⟨q4, z⟩)]
