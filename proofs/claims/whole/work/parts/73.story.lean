/-! MY OWN: orders, where, story -/
def mkb (p : Nat → Bool) : Nat := (if p 0 then 1 else 0) + (if p 1 then 2 else 0) + (if p 2 then 4 else 0) + (if p 3 then 8 else 0) + (if p 4 then 16 else 0) + (if p 5 then 32 else 0) + (if p 6 then 64 else 0) + (if p 7 then 128 else 0)
theorem mkb_bit (p : Nat → Bool) : mkb p < 256 ∧ ∀ j, j < 8 → (mkb p).testBit j = p j := by
  have h : ∀ b0 b1 b2 b3 b4 b5 b6 b7 : Bool, ((if b0 then 1 else 0) + (if b1 then 2 else 0) + (if b2 then 4 else 0) + (if b3 then 8 else 0) + (if b4 then 16 else 0) + (if b5 then 32 else 0) + (if b6 then 64 else 0) + (if b7 then 128 else 0)) < 256 ∧ ((if b0 then 1 else 0) + (if b1 then 2 else 0) + (if b2 then 4 else 0) + (if b3 then 8 else 0) + (if b4 then 16 else 0) + (if b5 then 32 else 0) + (if b6 then 64 else 0) + (if b7 then 128 else 0)).testBit 0 = b0 ∧ ((if b0 then 1 else 0) + (if b1 then 2 else 0) + (if b2 then 4 else 0) + (if b3 then 8 else 0) + (if b4 then 16 else 0) + (if b5 then 32 else 0) + (if b6 then 64 else 0) + (if b7 then 128 else 0)).testBit 1 = b1 ∧ ((if b0 then 1 else 0) + (if b1 then 2 else 0) + (if b2 then 4 else 0) + (if b3 then 8 else 0) + (if b4 then 16 else 0) + (if b5 then 32 else 0) + (if b6 then 64 else 0) + (if b7 then 128 else 0)).testBit 2 = b2 ∧ ((if b0 then 1 else 0) + (if b1 then 2 else 0) + (if b2 then 4 else 0) + (if b3 then 8 else 0) + (if b4 then 16 else 0) + (if b5 then 32 else 0) + (if b6 then 64 else 0) + (if b7 then 128 else 0)).testBit 3 = b3 ∧ ((if b0 then 1 else 0) + (if b1 then 2 else 0) + (if b2 then 4 else 0) + (if b3 then 8 else 0) + (if b4 then 16 else 0) + (if b5 then 32 else 0) + (if b6 then 64 else 0) + (if b7 then 128 else 0)).testBit 4 = b4 ∧ ((if b0 then 1 else 0) + (if b1 then 2 else 0) + (if b2 then 4 else 0) + (if b3 then 8 else 0) + (if b4 then 16 else 0) + (if b5 then 32 else 0) + (if b6 then 64 else 0) + (if b7 then 128 else 0)).testBit 5 = b5 ∧ ((if b0 then 1 else 0) + (if b1 then 2 else 0) + (if b2 then 4 else 0) + (if b3 then 8 else 0) + (if b4 then 16 else 0) + (if b5 then 32 else 0) + (if b6 then 64 else 0) + (if b7 then 128 else 0)).testBit 6 = b6 ∧ ((if b0 then 1 else 0) + (if b1 then 2 else 0) + (if b2 then 4 else 0) + (if b3 then 8 else 0) + (if b4 then 16 else 0) + (if b5 then 32 else 0) + (if b6 then 64 else 0) + (if b7 then 128 else 0)).testBit 7 = b7 := by decide +kernel
  obtain ⟨h0, a0, a1, a2, a3, a4, a5, a6, a7⟩ := h (p 0) (p 1) (p 2) (p 3) (p 4) (p 5) (p 6) (p 7)
  refine ⟨h0, fun j hj => ?_⟩
  rcases (show j = 0 ∨ j = 1 ∨ j = 2 ∨ j = 3 ∨ j = 4 ∨ j = 5 ∨ j = 6 ∨ j = 7 by omega) with e | e | e | e | e | e | e | e <;> subst e
  · exact a0
  · exact a1
  · exact a2
  · exact a3
  · exact a4
  · exact a5
  · exact a6
  · exact a7
def fam (T : List Cl) (S : Nat → Int) (n y : Nat) : Nat := mkb (fun x => decide (x < n) && decide (y < n) && !(decide (x = y)) && decide (anyc (gev S x y) 2 T = 1))
def fbm (T : List Cl) (S : Nat → Int) (n y : Nat) : Nat := mkb (fun x => decide (x < n) && decide (y < n) && !(decide (x = y)) && (decide (anyc (gev S x y) 3 T = 1) || decide (anyc (gev S y x) 3 T = 1)))
theorem fam_bit {T : List Cl} {S : Nat → Int} {n y x : Nat} (hx : x < 8) : (fam T S n y).testBit x = true ↔ AH T S n y x := by
  unfold fam AH any2
  rw [(mkb_bit _).2 x hx]
  simp only [Bool.and_eq_true, decide_eq_true_eq, Bool.not_eq_true', decide_eq_false_iff_not]
  exact ⟨fun h => ⟨h.1.1.1, h.1.1.2, h.1.2, h.2⟩, fun h => ⟨⟨⟨h.1, h.2.1⟩, h.2.2.1⟩, h.2.2.2⟩⟩
theorem fbm_bit {T : List Cl} {S : Nat → Int} {n y x : Nat} (hx : x < 8) : (fbm T S n y).testBit x = true ↔ BS T S n y x := by
  unfold fbm BS any3
  rw [(mkb_bit _).2 x hx]
  simp only [Bool.and_eq_true, Bool.or_eq_true, decide_eq_true_eq, Bool.not_eq_true', decide_eq_false_iff_not]
  exact ⟨fun h => ⟨h.1.1.1, h.1.1.2, h.1.2, h.2⟩, fun h => ⟨⟨⟨h.1, h.2.1⟩, h.2.2.1⟩, h.2.2.2⟩⟩
theorem bit_eq {a b : Nat} (ha : a < 256) (hb : b < 256) (h : ∀ j, j < 8 → (a.testBit j = true ↔ b.testBit j = true)) : a = b := by
  apply Nat.eq_of_testBit_eq
  intro j
  by_cases c : j < 8
  · have := h j c
    cases q : a.testBit j <;> cases q2 : b.testBit j <;> simp_all
  · rw [bit_hi ha (by omega), bit_hi hb (by omega)]
def wS (w : Wd) : Nat → Int := fun k => if k < 32 then wN w (40 + k) else 0
theorem wS_b {w : Wd} (g : GI w) : sgb (wS w) := by
  intro k
  unfold wS
  split
  · next h => exact g.1.2.2.2.2.2.2.2.2.1 k h
  · omega
def CN (w : Wd) (x : Nat) (page place : Int) : Int := if (wN w 2).toNat = 0 then 1 else (wsum (fam (wT w x) (wS w) (wN w 2).toNat) (fbm (wT w x) (wS w) (wN w 2).toNat) (wN w 2).toNat page place : Int)
def fcr : Nat → Nat
  | 0 => 1
  | k + 1 => (k + 1) * fcr k
theorem sumn_bits {s c : Nat} {f : Nat → Nat} (h : ∀ b, f b ≤ if s.testBit b = true then c else 0) : ∀ n, sumn f n ≤ pcn s n * c
  | 0 => Nat.zero_le _
  | n + 1 => by
    have ih := sumn_bits h n
    have hb := h n
    have e : pcn s (n + 1) = if s.testBit n then pcn s n + 1 else pcn s n := rfl
    show sumn f n + f n ≤ pcn s (n + 1) * c
    rw [e]
    by_cases q : s.testBit n = true
    · rw [if_pos q] at hb ⊢
      rw [Nat.succ_mul]
      omega
    · rw [if_neg q] at hb ⊢
      omega
theorem pcn_mono (s : Nat) {n m : Nat} (h : n ≤ m) : pcn s n ≤ pcn s m := by
  obtain ⟨d, rfl⟩ : ∃ d, m = n + d := ⟨m - n, by omega⟩
  induction d with
  | zero => exact Nat.le_refl _
  | succ d ih =>
    have e : pcn s (n + (d + 1)) = if s.testBit (n + d) then pcn s (n + d) + 1 else pcn s (n + d) := rfl
    have := ih (by omega)
    rw [e]
    split <;> omega
theorem wcl_fc {fa fb : Nat → Nat} {n : Nat} (hn : n ≤ 8) {page place : Int} : ∀ (k s l : Nat), pc s = k → s < 256 → l < 8 → wcl fa fb n page place k s l ≤ fcr (k - 1)
  | 0, s, l, _, _, _ => Nat.zero_le _
  | k + 1, s, l, hk, hs, hl => by
    unfold wcl
    split
    · next c1 =>
      split
      · split
        · next c3 => rw [c3]; exact Nat.le_refl _
        · next c3 =>
          have hpc := pcl hs hl c1.1
          have hlt : clr s l < 256 := by have := clr_le s l; omega
          have h1 := sumn_bits (s := clr s l) (c := fcr (k - 1)) (f := fun b => if (clr s l).testBit b = true ∧ nob (fb l) (clr s l) b 8 = true then wcl fa fb n page place k (clr s l) b else 0) (fun b => by
            show (if _ then _ else _) ≤ _
            by_cases q : (clr s l).testBit b = true
            · rw [if_pos q]
              split
              · by_cases hb : b < 8
                · exact wcl_fc hn k (clr s l) b (by omega) hlt hb
                · rw [bit_hi hlt (by omega)] at q; exact absurd q (by decide)
              · exact Nat.zero_le _
            · rw [if_neg q, if_neg (fun z => q z.1)]; exact Nat.le_refl _) n
          have h2 : pcn (clr s l) n ≤ k := by
            have := pcn_mono (clr s l) hn
            have e : pcn (clr s l) 8 = pc (clr s l) := rfl
            omega
          have h3 : pcn (clr s l) n * fcr (k - 1) ≤ k * fcr (k - 1) := Nat.mul_le_mul_right _ h2
          have h4 : fcr k = k * fcr (k - 1) := by
            obtain ⟨j, rfl⟩ : ∃ j, k = j + 1 := ⟨k - 1, by omega⟩
            rfl
          show _ ≤ fcr k
          omega
      · exact Nat.zero_le _
    · exact Nat.zero_le _
theorem CN_bd {w : Wd} (g : GI w) (x : Nat) (page place : Int) : 0 ≤ CN w x page place ∧ CN w x page place ≤ 40320 := by
  have hn := (GI_n g).2.2.1
  unfold CN
  split
  · omega
  · next c =>
    have hn8 : (wN w 2).toNat ≤ 8 := by omega
    generalize (wN w 2).toNat = n at *
    have hp8 : 2 ^ n ≤ 2 ^ 8 := Nat.pow_le_pow_right (by omega) hn8
    have hp1 : 2 ^ 0 ≤ 2 ^ n := Nat.pow_le_pow_right (by omega) (by omega)
    have h1 : wsum (fam (wT w x) (wS w) n) (fbm (wT w x) (wS w) n) n page place ≤ pcn (2 ^ n - 1) n * fcr 7 := by
      unfold wsum
      refine sumn_bits (fun b => ?_) n
      by_cases q : (2 ^ n - 1).testBit b = true
      · rw [if_pos q]
        by_cases hb : b < 8
        · refine Nat.le_trans (wcl_fc hn8 _ _ b rfl (by omega) hb) ?_
          have hle := pc_le8 (2 ^ n - 1)
          have hm : ∀ i, i ≤ 7 → fcr i ≤ fcr 7 := by decide +kernel
          exact hm _ (by omega)
        · rw [bit_hi (by omega) (by omega)] at q; exact absurd q (by decide)
      · rw [if_neg q]
        have : wcl (fam (wT w x) (wS w) n) (fbm (wT w x) (wS w) n) n page place (pc (2 ^ n - 1)) (2 ^ n - 1) b = 0 := by
          cases pc (2 ^ n - 1) with
          | zero => rfl
          | succ k => unfold wcl; rw [if_neg (fun z => q z.1)]
        omega
    have h2 : pcn (2 ^ n - 1) n ≤ 8 := Nat.le_trans (pcn_mono _ hn8) (pc_le8 _)
    have h3 : pcn (2 ^ n - 1) n * fcr 7 ≤ 8 * fcr 7 := Nat.mul_le_mul_right _ h2
    have h4 : 8 * fcr 7 = 40320 := by decide +kernel
    omega
def oXb (q : Nat) : Prop := oBl q ∨ q = 217
theorem oXb_sc {q : Nat} (h : oXb q) : scX q := by unfold oXb oBl at h; unfold scX; omega
/-- the class links and counts -/
theorem xCount {w : Wd} {σ : Zm} (g : GI w) (h : XI w σ) {x : Nat} (hx : x < 6) (hxn : (x : Int) < wN w 1) (page place : Int) {F : Int → Zm → Zr} {P : Int → Zm → Prop} (hF : ∀ σ', zfo oXb σ σ' → zwp (F (CN w x page place) σ') P) : zwp (zck (x : Int) 6 <| zbv (fB_link σ (zRF 149 (x : Int).toNat) 1) fun σ2 => zlet (zrd σ2 1 10) fun v3 => zbi (fB_count σ2 v3 page place) F) P := by
  obtain ⟨r1, r2⟩ := ru_R hx
  have hn := (GI_n g).2.2.1
  obtain ⟨n, hnn⟩ : ∃ n : Nat, wN w 2 = (n : Int) := ⟨(wN w 2).toNat, by omega⟩
  have hcb := CN_bd g x page place
  have hb : bok (225 + 6 * x) (wT w x) (wS w) n σ := ⟨h.2.2 x hx hxn, fun k hk => by rw [h.1.2.2.2.2.2.2.2.2.2.1 k hk]; unfold wS; rw [if_pos hk], by rw [h.1.2.2.2.2.1, hnn]⟩
  rw [zckj (by omega) (by omega), Int.toNat_natCast, r2, zwp_bv]
  refine zwp_mono (qB_link r1 (g.2.2.2 x hx hxn) (wS_b g) (by omega) σ hb) (fun _ σ1 ⟨f1, m1, m2⟩ => ?_)
  have h10 : zrd σ1 1 10 = (n : Int) := by rw [f1.rd (by unfold oBl; omega), h.1.2.2.2.2.1, hnn]
  have hm : mks (fam (wT w x) (wS w) n) (fbm (wT w x) (wS w) n) σ1 := by
    intro y hy
    obtain ⟨m, h1, h2, h3⟩ := m1 y hy
    obtain ⟨m', h1', h2', h3'⟩ := m2 y hy
    have e1 : m = fam (wT w x) (wS w) n y := bit_eq h1 (mkb_bit _).1 (fun j hj => (h3 j hj).trans (fam_bit hj).symm)
    have e2 : m' = fbm (wT w x) (wS w) n y := bit_eq h1' (mkb_bit _).1 (fun j hj => (h3' j hj).trans (fbm_bit hj).symm)
    rw [← e1, ← e2]
    exact ⟨⟨h1, h2⟩, h1', h2'⟩
  rw [zwp_let, h10, zwp_bi]
  refine zwp_mono (qB_count (by omega) page place σ1 hm) (fun r σ2 ⟨f2, e2⟩ => ?_)
  have hr : r = CN w x page place := by
    rw [e2]
    unfold CN
    rw [hnn, Int.toNat_natCast]
  rw [hr, zwj (by omega) (by omega)]
  exact hF σ2 ((f1.mono (fun q z => Or.inl z)).tr (f2.mono (fun q z => Or.inr z)))
theorem mcl_cg {fl fl' fn fn' : Nat → Nat} {n : Nat} (hn : n ≤ 8) {page place : Int} (h : ∀ y, y < 8 → fl y = fl' y) (h2 : ∀ y, y < 8 → fn y = fn' y) : ∀ (k s l : Nat), l < 8 → mcl fl fn n page place k s l = mcl fl' fn' n page place k s l
  | 0, _, _, _ => rfl
  | k + 1, s, l, hl => by
    unfold mcl
    rw [h l hl, h2 l hl]
    have e : sumn (fun b => if (clr s l).testBit b = true ∧ nob (fn' l) (clr s l) b 8 = true then mcl fl fn n page place k (clr s l) b else 0) n = sumn (fun b => if (clr s l).testBit b = true ∧ nob (fn' l) (clr s l) b 8 = true then mcl fl' fn' n page place k (clr s l) b else 0) n := by
      refine sumn_cg n (fun b hb => ?_)
      show (if _ then _ else _) = (if _ then _ else _)
      rw [mcl_cg hn h h2 k (clr s l) b (by omega)]
    rw [e]
/-- the reference binds and counts -/
theorem mCount {w : Wd} {σ : Zm} (g : GI w) (h : MI w σ) {x : Nat} (hx : x < 6) (hxn : (x : Int) < wN w 1) {page place place' : Int} (hpp : ppk page place place') (hpl : page < 0 ∨ place < wN w 2) {F : Int → Zm → Zr} {P : Int → Zm → Prop} (hF : ∀ σ', zfo oMC σ σ' → zwp (F (CN w x page place) σ') P) : zwp (zbi (fM_count σ (x : Int) page place') F) P := by
  have hn := (GI_n g).2.2.1
  obtain ⟨n, hnn⟩ : ∃ n : Nat, wN w 2 = (n : Int) := ⟨(wN w 2).toNat, by omega⟩
  have hcb := CN_bd g x page place
  have hb : mbk x (wT w x) (wS w) n σ := ⟨hx, h.2.2 x hx hxn, g.2.2.2 x hx hxn, fun k hk => by rw [h.1.2.2.2.2.2.1 k hk]; unfold wS; rw [if_pos hk], by rw [h.1.2.2.1 2 (by omega), hnn], by omega, wS_b g⟩
  rw [zwp_bi]
  refine zwp_mono (qM_count σ hb page place') (fun r σ1 ⟨f1, fl, fn, e1, e2, e3, e4⟩ => ?_)
  have hr : r = CN w x page place := by
    rw [e4]
    unfold CN
    rw [hnn, Int.toNat_natCast]
    by_cases c : n = 0
    · rw [if_pos c, if_pos c]
    · rw [if_neg c, if_neg c]
      have hn8 : n ≤ 8 := by omega
      have hp8 : 2 ^ n ≤ 2 ^ 8 := Nat.pow_le_pow_right (by omega) hn8
      have hp1 : 2 ^ 0 ≤ 2 ^ n := Nat.pow_le_pow_right (by omega) (by omega)
      have hfn : ∀ y, y < 8 → fn y = fbm (wT w x) (wS w) n y := fun y hy => bit_eq (e3 y hy).2 (mkb_bit _).1 (fun j hj => (e2 y j hy hj).trans (fbm_bit hj).symm)
      have hpc : pc (2 ^ n - 1) = n := by
        have h2 : ∀ n : Nat, n ≤ 8 → pc (2 ^ n - 1) = n := by decide +kernel
        exact h2 n hn8
      congr 1
      unfold msum wsum
      refine sumn_cg n (fun b hb2 => ?_)
      show (if _ then _ else _) = _
      rw [if_pos (by rw [Nat.testBit_two_pow_sub_one]; simp; omega), mcl_cg hn8 (fl' := fl) (fn' := fbm (wT w x) (wS w) n) (fun _ _ => rfl) hfn _ _ b (by omega)]
      refine (wcl_mcl (fa := fam (wT w x) (wS w) n) hn8 (fun p q hp hq => (e1 p q hp hq).trans (fam_bit hp).symm) (fun p hp => ?_) hpp _ _ b rfl (by omega) (by omega) (fun l hl hl2 a ha hal => ?_) ?_).symm
      · cases q : (fam (wT w x) (wS w) n p).testBit p
        · rfl
        · exact absurd rfl ((fam_bit hp).1 q).2.2.1
      · have := ((fam_bit ha).1 hal).1
        rw [Nat.testBit_two_pow_sub_one]
        simp; omega
      · rcases hpl with z | z
        · exact Or.inl z
        · right; left
          rw [hpc]
          omega
  rw [hr, zwj (by omega) (by omega)]
  exact hF σ1 f1
