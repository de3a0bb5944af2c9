/-! MY OWN: the class's Binder: link -/
def any2 (T : List Cl) (S : Nat → Int) (x y : Nat) : Prop := anyc (gev S x y) 2 T = 1
def any3 (T : List Cl) (S : Nat → Int) (x y : Nat) : Prop := anyc (gev S x y) 3 T = 1
def dn (x y a b : Nat) : Prop := a < x ∨ (a = x ∧ b < y)
/-- a row of masks: mask of y has bit x just when Q y x -/
def msk (o : Nat) (σ : Zm) (Q : Nat → Nat → Prop) : Prop := ∀ y, y < 8 → ∃ m : Nat, m < 256 ∧ zrd σ o y = (m : Int) ∧ ∀ x, x < 8 → (m.testBit x = true ↔ Q y x)
theorem msk_fo {D : Nat → Prop} {o : Nat} {σ σ1 : Zm} {Q : Nat → Nat → Prop} (h : msk o σ Q) (hf : zfo D σ σ1) (hD : ¬ D o) : msk o σ1 Q := by
  intro y hy
  obtain ⟨m, h1, h2, h3⟩ := h y hy
  exact ⟨m, h1, by rw [hf.rd hD]; exact h2, h3⟩
theorem msk_cg {o : Nat} {σ : Zm} {Q Q' : Nat → Nat → Prop} (h : msk o σ Q) (hq : ∀ y x, y < 8 → x < 8 → (Q y x ↔ Q' y x)) : msk o σ Q' := by
  intro y hy
  obtain ⟨m, h1, h2, h3⟩ := h y hy
  exact ⟨m, h1, h2, fun x hx => (h3 x hx).trans (hq y x hy hx)⟩
theorem msk_set {o : Nat} {σ : Zm} {Q : Nat → Nat → Prop} (h : msk o σ Q) {a b : Nat} (ha : a < 8) (hb : b < 8) {F : Zm → Zr} {P : Int → Zm → Prop} (k : ∀ σ', zfo (oO o) σ σ' → msk o σ' (fun y x => Q y x ∨ (y = a ∧ x = b)) → zwp (F σ') P) : zwp (zlet (zst σ o a (zor (zrd σ o a) (zshl 1 (b : Int)))) F) P := by
  obtain ⟨m, h1, h2, h3⟩ := h a ha
  have hb2 : (2 : Nat) ^ b ≤ 2 ^ 7 := Nat.pow_le_pow_right (by omega) (by omega)
  have hlt : m ||| 2 ^ b < 2 ^ 8 := Nat.or_lt_two_pow (by omega) (by omega)
  rw [h2, zshl_1 hb, zor_n (by omega) (by omega)]
  refine zwp_st (fun σ' f v => k σ' f ?_)
  intro y hy
  by_cases c : y = a
  · subst c
    refine ⟨m ||| 2 ^ b, hlt, by rw [v, if_pos rfl, zwj (by omega) (by omega)], fun x hx => ?_⟩
    rw [bit_or2]
    simp only [Bool.or_eq_true, decide_eq_true_eq, h3 x hx, true_and]
    constructor
    · rintro (q | q)
      · exact Or.inl q
      · exact Or.inr q.symm
    · rintro (q | q)
      · exact Or.inl q
      · exact Or.inr q.symm
  · obtain ⟨m2, h4, h5, h6⟩ := h y hy
    refine ⟨m2, h4, by rw [v, if_neg c, h5], fun x hx => ?_⟩
    rw [h6 x hx]
    simp [c]
def oB (q : Nat) : Prop := 210 ≤ q ∧ q ≤ 217
def oBl (q : Nat) : Prop := 212 ≤ q ∧ q ≤ 216
/-- the binder's surroundings -/
def bok (R : Nat) (T : List Cl) (S : Nat → Int) (n : Nat) (σ : Zm) : Prop := TRc σ R T ∧ (∀ k, k < 32 → zrd σ 8 k = S k) ∧ zrd σ 1 10 = (n : Int)
theorem bok_fo {R : Nat} {T : List Cl} {S : Nat → Int} {n : Nat} {σ σ1 : Zm} (hR : ru R) (h : bok R T S n σ) (hf : zfo oB σ σ1) : bok R T S n σ1 := by
  obtain ⟨h1, h2, h3⟩ := h
  refine ⟨TRc_fo hf (by intro j hj; have := hR.1; unfold oB; omega) h1, fun k hk => ?_, ?_⟩
  · rw [hf.rd (by unfold oB; omega)]; exact h2 k hk
  · rw [hf.rd (by unfold oB; omega)]; exact h3
def lnk (T : List Cl) (S : Nat → Int) (n x y : Nat) (σ : Zm) : Prop := msk 215 σ (fun b a => a < n ∧ b < n ∧ dn x y a b ∧ a ≠ b ∧ any2 T S a b) ∧ msk 216 σ (fun b a => a < n ∧ b < n ∧ a ≠ b ∧ ((dn x y a b ∧ any3 T S a b) ∨ (dn x y b a ∧ any3 T S b a)))
theorem lnk_cg {T : List Cl} {S : Nat → Int} {n x y x' y' : Nat} {σ : Zm} (h : lnk T S n x y σ) (hd : ∀ a b, a < n → b < n → a ≠ b → (dn x y a b ↔ dn x' y' a b)) : lnk T S n x' y' σ := by
  refine ⟨msk_cg h.1 (fun b a _ _ => ?_), msk_cg h.2 (fun b a _ _ => ?_)⟩
  · constructor
    · rintro ⟨q1, q2, q3, q4, q5⟩
      exact ⟨q1, q2, (hd a b q1 q2 q4).mp q3, q4, q5⟩
    · rintro ⟨q1, q2, q3, q4, q5⟩
      exact ⟨q1, q2, (hd a b q1 q2 q4).mpr q3, q4, q5⟩
  · constructor
    · rintro ⟨q1, q2, q3, q4⟩
      refine ⟨q1, q2, q3, ?_⟩
      rcases q4 with q | q
      · exact Or.inl ⟨(hd a b q1 q2 q3).mp q.1, q.2⟩
      · exact Or.inr ⟨(hd b a q2 q1 (Ne.symm q3)).mp q.1, q.2⟩
    · rintro ⟨q1, q2, q3, q4⟩
      refine ⟨q1, q2, q3, ?_⟩
      rcases q4 with q | q
      · exact Or.inl ⟨(hd a b q1 q2 q3).mpr q.1, q.2⟩
      · exact Or.inr ⟨(hd b a q2 q1 (Ne.symm q3)).mpr q.1, q.2⟩
theorem pB_link_35 {R : Nat} {T : List Cl} {S : Nat → Int} {n : Nat} (hR : ru R) (hW : WF T) (hS : sgb S) (hn : n ≤ 8) (x : Nat) (hx : x < n) (σ0 : Zm) (P : Int → Zm → Prop) (K : Nat → Nat → Int → Zm → Zr) (hK : ∀ σ', zfo oBl σ0 σ' → bok R T S n σ' → lnk T S n (x + 1) 0 σ' → zwp (K R 1 (x : Int) σ') P) : ∀ (d m y : Nat) (σ : Zm), d < m → y + d = n → zfo oBl σ0 σ → bok R T S n σ → lnk T S n x y σ → zwp (fB_link_35 m R 1 (x : Int) (y : Int) σ K) P
  | 0, m + 1, y, σ, _, hy, hf, hb, hl => by
    rw [fB_link_35]
    simp only [zwp_let]
    rw [hb.2.2, if_pos (by omega)]
    exact hK σ hf hb (lnk_cg hl (fun a b h1 h2 h3 => by unfold dn; omega))
  | d + 1, m + 1, y, σ, hm, hy, hf, hb, hl => by
    have ez : zw ((y : Int) + 1) = ((y + 1 : Nat) : Int) := zwj (by omega) (by omega)
    rw [fB_link_35]
    simp only [zwp_let]
    rw [hb.2.2, if_neg (by omega), if_neg (by omega), ez]
    by_cases c : x = y
    · rw [ifnn (by omega)]
      refine pB_link_35 hR hW hS hn x hx σ0 P K hK d m (y + 1) σ (by omega) (by omega) hf hb (lnk_cg hl (fun a b h1 h2 h3 => ?_))
      unfold dn
      omega
    · rw [if_pos (by omega), zwp_bv]
      refine zwp_mono (qJ_setPages (J := 211) (o := 1 + 7) (by omega) (by decide +kernel) S hS x y (by omega) (by omega) σ hb.2.1) (fun r σ1 ⟨f1, v1⟩ => ?_)
      have f1' : zfo oB σ σ1 := f1.mono (fun q h => by unfold oO at h; unfold oB; omega)
      have f1l : zfo oBl σ σ1 := f1.mono (fun q h => by unfold oO at h; unfold oBl; omega)
      have hb1 := bok_fo hR hb f1'
      rw [zwp_bi]
      refine zwp_mono (qJ_asksAny hR.2.2 (ru_J hR (by omega)) (gev S x y) (gev_bd hS x y) 2 T σ1 hb1.1 hW (v1 2 (Or.inl rfl))) (fun r σ2 ⟨f2, hr⟩ => ?_)
      have f2' : zfo oB σ1 σ2 := f2.mono (fun q h => by unfold oJ2 at h; unfold oB; omega)
      have f2l : zfo oBl σ1 σ2 := f2.mono (fun q h => by unfold oJ2 at h; unfold oBl; omega)
      have hb2 := bok_fo hR hb1 f2'
      have v2 : ∀ j, nok 3 j → zrd σ2 (211 + 1) j = gev S x y j := fun j hj => by rw [f2.rd (by unfold oJ2; omega)]; exact v1 3 (Or.inr rfl) j hj
      have hl2a : msk 215 σ2 (fun b a => a < n ∧ b < n ∧ dn x y a b ∧ a ≠ b ∧ any2 T S a b) := msk_fo hl.1 (f1.tr (σ2 := σ1) zfo.rf |>.mono (fun q h => h) |>.mono (D' := fun q => q = 212 ∨ q = 213) (fun q h => by unfold oO at h; omega) |>.tr (f2.mono (fun q h => by unfold oJ2 at h; omega))) (by omega)
      have hl2b : msk 216 σ2 (fun b a => a < n ∧ b < n ∧ a ≠ b ∧ ((dn x y a b ∧ any3 T S a b) ∨ (dn x y b a ∧ any3 T S b a))) := msk_fo hl.2 ((f1.mono (D' := fun q => q = 212 ∨ q = 213) (fun q h => by unfold oO at h; omega)).tr (f2.mono (fun q h => by unfold oJ2 at h; omega))) (by omega)
      have hrw : zw r = r := by rcases anyc_01 (gev S x y) 2 T with q | q <;> rw [hr, q] <;> decide
      rw [hrw]
      -- the beside half
      have go99 : ∀ σ3, zfo oBl σ0 σ3 → bok R T S n σ3 → (∀ j, nok 3 j → zrd σ3 (211 + 1) j = gev S x y j) → msk 215 σ3 (fun b a => a < n ∧ b < n ∧ dn x (y + 1) a b ∧ a ≠ b ∧ any2 T S a b) → msk 216 σ3 (fun b a => a < n ∧ b < n ∧ a ≠ b ∧ ((dn x y a b ∧ any3 T S a b) ∨ (dn x y b a ∧ any3 T S b a))) → zwp (fB_link_99 (fun o1 o2 x3 x4 σ => fB_link_35 m o1 o2 x3 x4 σ K) K R 1 (x : Int) (y : Int) σ3) P := by
        intro σ3 f3 b3 v3 m1 m2
        unfold fB_link_99
        rw [zwp_bi, ez]
        refine zwp_mono (qJ_asksAny hR.2.2 (ru_J hR (by omega)) (gev S x y) (gev_bd hS x y) 3 T σ3 b3.1 hW v3) (fun r3 σ4 ⟨f4, hr3⟩ => ?_)
        have f4' : zfo oB σ3 σ4 := f4.mono (fun q h => by unfold oJ2 at h; unfold oB; omega)
        have f4l : zfo oBl σ3 σ4 := f4.mono (fun q h => by unfold oJ2 at h; unfold oBl; omega)
        have b4 := bok_fo hR b3 f4'
        have m1' := msk_fo m1 f4 (by unfold oJ2; omega)
        have m2' := msk_fo m2 f4 (by unfold oJ2; omega)
        have hrw3 : zw r3 = r3 := by rcases anyc_01 (gev S x y) 3 T with q | q <;> rw [hr3, q] <;> decide
        rw [hrw3]
        by_cases c3 : r3 = 0
        · rw [if_pos c3]
          have na : ¬ any3 T S x y := by unfold any3; rw [← hr3, c3]; decide
          refine pB_link_35 hR hW hS hn x hx σ0 P K hK d m (y + 1) σ4 (by omega) (by omega) (f3.tr f4l) b4 ⟨m1', msk_cg m2' (fun b a _ _ => ?_)⟩
          have key : ∀ a b, (dn x y a b ∧ any3 T S a b) ↔ (dn x (y + 1) a b ∧ any3 T S a b) := by
            intro a b
            constructor
            · rintro ⟨q1, q2⟩
              exact ⟨by unfold dn at *; omega, q2⟩
            · rintro ⟨q1, q2⟩
              refine ⟨?_, q2⟩
              by_cases e : a = x ∧ b = y
              · rw [e.1, e.2] at q2; exact absurd q2 na
              · unfold dn at *; omega
          rw [key, key]
        · rw [if_neg c3, zckj (by omega) (by omega), zwp_let, zckj (by omega) (by omega), Int.toNat_natCast]
          have ya : any3 T S x y := by
            unfold any3
            rcases anyc_01 (gev S x y) 3 T with q | q
            · rw [hr3] at c3; exact absurd q c3
            · exact q
          refine msk_set m2' (a := x) (b := y) (by omega) (by omega) (fun σ5 f5 m5 => ?_)
          rw [zckj (by omega) (by omega), zwp_let, zckj (by omega) (by omega), Int.toNat_natCast]
          refine msk_set m5 (a := y) (b := x) (by omega) (by omega) (fun σ6 f6 m6 => ?_)
          have f56 : zfo (oO 216) σ4 σ6 := f5.tr f6
          refine pB_link_35 hR hW hS hn x hx σ0 P K hK d m (y + 1) σ6 (by omega) (by omega) ((f3.tr f4l).tr (f56.mono (fun q h => by unfold oO at h; unfold oBl; omega))) (bok_fo hR b4 (f56.mono (fun q h => by unfold oO at h; unfold oB; omega))) ⟨msk_fo m1' f56 (oO_ne (by omega)), msk_cg m6 (fun b a _ _ => ?_)⟩
          constructor
          · rintro ((⟨q1, q2, q3, q4⟩ | ⟨q1, q2⟩) | ⟨q1, q2⟩)
            · refine ⟨q1, q2, q3, ?_⟩
              rcases q4 with q | q
              · exact Or.inl ⟨by have := q.1; unfold dn at *; omega, q.2⟩
              · exact Or.inr ⟨by have := q.1; unfold dn at *; omega, q.2⟩
            · subst q1; subst q2
              exact ⟨by omega, by omega, by omega, Or.inr ⟨by unfold dn; omega, ya⟩⟩
            · subst q1; subst q2
              exact ⟨by omega, by omega, by omega, Or.inl ⟨by unfold dn; omega, ya⟩⟩
          · rintro ⟨q1, q2, q3, q4⟩
            rcases q4 with ⟨q4, q5⟩ | ⟨q4, q5⟩
            · by_cases e : a = x ∧ b = y
              · exact Or.inr ⟨e.2, e.1⟩
              · exact Or.inl (Or.inl ⟨q1, q2, q3, Or.inl ⟨by unfold dn at *; omega, q5⟩⟩)
            · by_cases e : b = x ∧ a = y
              · exact Or.inl (Or.inr ⟨e.1, e.2⟩)
              · exact Or.inl (Or.inl ⟨q1, q2, q3, Or.inr ⟨by unfold dn at *; omega, q5⟩⟩)
      by_cases c2 : r = 0
      · rw [if_pos c2]
        have na : ¬ any2 T S x y := by unfold any2; rw [← hr, c2]; decide
        refine go99 σ2 ((hf.tr f1l).tr f2l) hb2 v2 (msk_cg hl2a (fun b a _ _ => ?_)) hl2b
        constructor
        · rintro ⟨q1, q2, q3, q4, q5⟩
          exact ⟨q1, q2, by unfold dn at *; omega, q4, q5⟩
        · rintro ⟨q1, q2, q3, q4, q5⟩
          refine ⟨q1, q2, ?_, q4, q5⟩
          by_cases e : a = x ∧ b = y
          · rw [e.1, e.2] at q5; exact absurd q5 na
          · unfold dn at *; omega
      · rw [if_neg c2, zckj (by omega) (by omega), zwp_let, zckj (by omega) (by omega), Int.toNat_natCast]
        have ya : any2 T S x y := by
          unfold any2
          rcases anyc_01 (gev S x y) 2 T with q | q
          · rw [hr] at c2; exact absurd q c2
          · exact q
        refine msk_set hl2a (a := y) (b := x) (by omega) (by omega) (fun σ3 f3 m3 => ?_)
        refine go99 σ3 (((hf.tr f1l).tr f2l).tr (f3.mono (fun q h => by unfold oO at h; unfold oBl; omega))) (bok_fo hR hb2 (f3.mono (fun q h => by unfold oO at h; unfold oB; omega))) (fun j hj => by rw [f3.rd (oO_ne (by omega))]; exact v2 j hj) (msk_cg m3 (fun b a _ _ => ?_)) (msk_fo hl2b f3 (oO_ne (by omega)))
        constructor
        · rintro (⟨q1, q2, q3, q4, q5⟩ | ⟨q1, q2⟩)
          · exact ⟨q1, q2, by unfold dn at *; omega, q4, q5⟩
          · subst q1; subst q2
            exact ⟨by omega, by omega, by unfold dn; omega, by omega, ya⟩
        · rintro ⟨q1, q2, q3, q4, q5⟩
          by_cases e : a = x ∧ b = y
          · exact Or.inr ⟨e.2, e.1⟩
          · exact Or.inl ⟨q1, q2, by unfold dn at *; omega, q4, q5⟩
theorem pB_link_18 {R : Nat} {T : List Cl} {S : Nat → Int} {n : Nat} (hR : ru R) (hW : WF T) (hS : sgb S) (hn : n ≤ 8) (σ0 : Zm) : ∀ (d m x : Nat) (σ : Zm), d < m → x + d = n → zfo oBl σ0 σ → bok R T S n σ → lnk T S n x 0 σ → zwp (fB_link_18 m R 1 (x : Int) σ) (fun _ σ' => zfo oBl σ0 σ' ∧ bok R T S n σ' ∧ lnk T S n n 0 σ')
  | 0, m + 1, x, σ, _, hx, hf, hb, hl => by
    rw [fB_link_18]
    simp only [zwp_let]
    rw [hb.2.2, if_pos (by omega), zwp_some]
    have : x = n := by omega
    subst this
    exact ⟨hf, hb, hl⟩
  | d + 1, m + 1, x, σ, hm, hx, hf, hb, hl => by
    rw [fB_link_18]
    simp only [zwp_let]
    rw [hb.2.2, if_neg (by omega), if_neg (by omega)]
    refine pB_link_35 hR hW hS hn x (by omega) σ0 _ _ (fun σ1 f1 b1 l1 => ?_) n 5000 0 σ (by omega) (by omega) hf hb hl
    rw [show zw ((x : Int) + 1) = ((x + 1 : Nat) : Int) from zwj (by omega) (by omega)]
    exact pB_link_18 hR hW hS hn σ0 d m (x + 1) σ1 (by omega) (by omega) f1 b1 l1
/-- who must lie ahead of y, beside y -/
def AH (T : List Cl) (S : Nat → Int) (n y x : Nat) : Prop := x < n ∧ y < n ∧ x ≠ y ∧ any2 T S x y
def BS (T : List Cl) (S : Nat → Int) (n y x : Nat) : Prop := x < n ∧ y < n ∧ x ≠ y ∧ (any3 T S x y ∨ any3 T S y x)
theorem qB_link {R : Nat} {T : List Cl} {S : Nat → Int} {n : Nat} (hR : ru R) (hW : WF T) (hS : sgb S) (hn : n ≤ 8) (σ : Zm) (hb : bok R T S n σ) : zwp (fB_link σ R 1) (fun _ σ' => zfo oBl σ σ' ∧ msk 215 σ' (AH T S n) ∧ msk 216 σ' (BS T S n)) := by
  unfold fB_link
  refine zwp_fl (by decide +kernel) (fun σ1 f1 v1 => ?_)
  refine zwp_fl (by decide +kernel) (fun σ2 f2 v2 => ?_)
  have f12 : zfo oBl σ σ2 := (f1.mono (fun q h => by unfold oO at h; unfold oBl; omega)).tr (f2.mono (fun q h => by unfold oO at h; unfold oBl; omega))
  have z1 : zLN 215 = 8 := by decide +kernel
  have z2 : zLN 216 = 8 := by decide +kernel
  refine zwp_mono (pB_link_18 hR hW hS hn σ n 5000 0 σ2 (by omega) (by omega) f12 (bok_fo hR hb (f12.mono (fun q h => by unfold oBl at h; unfold oB; omega))) ⟨fun y hy => ⟨0, by omega, ?_, fun x hx => ?_⟩, fun y hy => ⟨0, by omega, ?_, fun x hx => ?_⟩⟩) (fun r σ' ⟨g1, g2, g3, g4⟩ => ⟨g1, msk_cg g3 (fun b a _ _ => ?_), msk_cg g4 (fun b a _ _ => ?_)⟩)
  · rw [f2.rd (oO_ne (by omega)), v1 y (by omega)]; decide
  · rw [Nat.zero_testBit]
    constructor
    · intro h; cases h
    · rintro ⟨-, -, h, -⟩; unfold dn at h; omega
  · rw [v2 y (by omega)]; decide
  · rw [Nat.zero_testBit]
    constructor
    · intro h; cases h
    · rintro ⟨-, -, -, h⟩; unfold dn at h; omega
  · unfold AH dn
    constructor
    · rintro ⟨q1, q2, q3, q4, q5⟩; exact ⟨q1, q2, q4, q5⟩
    · rintro ⟨q1, q2, q4, q5⟩; exact ⟨q1, q2, by omega, q4, q5⟩
  · unfold BS dn
    constructor
    · rintro ⟨q1, q2, q3, q4⟩
      refine ⟨q1, q2, q3, ?_⟩
      rcases q4 with q | q
      · exact Or.inl q.2
      · exact Or.inr q.2
    · rintro ⟨q1, q2, q3, q4⟩
      refine ⟨q1, q2, q3, ?_⟩
      rcases q4 with q | q
      · exact Or.inl ⟨by omega, q⟩
      · exact Or.inr ⟨by omega, q⟩
