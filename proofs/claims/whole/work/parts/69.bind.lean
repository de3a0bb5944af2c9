/-! MY OWN: the reference binds pages -/
theorem pM_isAny_2 {x : Nat} (hx : x < 6) (E : Nat → Int) (hE : ∀ k, -1000000 ≤ E k ∧ E k ≤ 1000000) (s : Int) (n : Nat) (hn : n ≤ 10) : ∀ (T : List Cl) (m k : Nat) (σ : Zm), T.length < m → k + T.length = n → zrd σ 276 (900 * x) = (n : Int) → TMl σ x T k → WF T → mnm s E σ → zwp (fM_isAny_2 m (x : Int) (s + 1) (k : Int) σ) (fun r σ' => zfo oW σ σ' ∧ r = anyc E s T)
  | [], m + 1, k, σ, _, hk, h5, hT, hW, hN => by
    rw [fM_isAny_2]
    simp only [zwp_let]
    simp only [List.length_nil] at hk
    unfold fM_clauses
    rw [show zw (900 * (x : Int)) = ((900 * x : Nat) : Int) by rw [zwj (by omega) (by omega)]; omega, zckj (by omega) (by omega), zwp_bi, zwp_let, Int.toNat_natCast, h5, zwp_some, zwj (a := (n : Int)) (by omega) (by omega), if_pos (by omega), zwp_some]
    exact ⟨zfo.rf, rfl⟩
  | c :: T, m + 1, k, σ, hm, hk, h5, hT, hW, hN => by
    simp only [List.length_cons] at hm hk
    have hwc := hW c List.mem_cons_self
    have ez : zw ((k : Int) + 1) = ((k + 1 : Nat) : Int) := zwj (by omega) (by omega)
    have hst : anyc E s (c :: T) = if c.1 = s ∧ evc E c.2.2 ≠ 0 then 1 else anyc E s T := rfl
    have go : ∀ (σ1 : Zm), zfo oW σ σ1 → anyc E s (c :: T) = anyc E s T → zwp (fM_isAny_2 m (x : Int) (s + 1) ((k + 1 : Nat) : Int) σ1) (fun r σ' => zfo oW σ σ' ∧ r = anyc E s (c :: T)) := by
      intro σ1 f1 he
      have e276 : ∀ j, zrd σ1 276 j = zrd σ 276 j := fun j => f1.rd (by unfold oW; omega) j
      refine zwp_mono (pM_isAny_2 hx E hE s n hn T m (k + 1) σ1 (by omega) (by omega) (by rw [e276]; exact h5) (TMl_cg (fun j _ _ => e276 j) T (k + 1) (by omega) hT.2) (fun y hy => hW y (List.mem_cons_of_mem _ hy)) (fun j hj => by rw [f1.rd (by unfold oW; omega)]; exact hN j hj)) (fun r σ2 ⟨h3, h4⟩ => ⟨f1.tr h3, by rw [he, h4]⟩)
    rw [fM_isAny_2]
    simp only [zwp_let]
    unfold fM_clauses fM_clauseAt
    rw [show zw (900 * (x : Int)) = ((900 * x : Nat) : Int) by rw [zwj (by omega) (by omega)]; omega, zckj (by omega) (by omega), zwp_bi, zwp_let, Int.toNat_natCast, h5, zwp_some, zwj (a := (n : Int)) (by omega) (by omega), if_neg (by omega), zwp_bi, zwp_some, show zw (900 * (x : Int) + 1 + 5 * (k : Int)) = ((900 * x + 1 + 5 * k : Nat) : Int) by rw [zwj (by omega) (by omega)]; omega, zckj (by omega) (by omega), zwp_let, Int.toNat_natCast, hT.1.1, ez]
    by_cases c1 : c.1 = s
    · rw [ifnn (by omega), zwp_bi]
      refine zwp_mono (qM_isSo hx (by omega) E hE σ hT.1 hwc (by rw [c1]; exact hN)) (fun r σ1 ⟨f1, hr⟩ => ?_)
      have hrw : zw r = r := by rcases evc_01 hE hwc.2.2.1 with q | q <;> rw [hr, q] <;> decide
      rw [hrw]
      by_cases c2 : r = 0
      · rw [if_pos c2]
        exact go σ1 f1 (by rw [hst, if_neg (fun q => q.2 (by rw [← hr]; exact c2))])
      · rw [if_neg c2, zwp_some]
        exact ⟨f1, by rw [hst, if_pos ⟨c1, by rw [← hr]; exact c2⟩]⟩
    · rw [if_pos (by omega)]
      exact go σ zfo.rf (by rw [hst, if_neg (fun q => c1 q.1)])
theorem qM_isAny {x : Nat} (hx : x < 6) (E : Nat → Int) (hE : ∀ k, -1000000 ≤ E k ∧ E k ≤ 1000000) (s : Int) {T : List Cl} (σ : Zm) (hT : TRm σ x T) (hW : WF T) (hN : mnm s E σ) : zwp (fM_isAny σ (x : Int) (s + 1)) (fun r σ' => zfo oW σ σ' ∧ r = anyc E s T) := by
  unfold fM_isAny
  exact pM_isAny_2 hx E hE s T.length hT.2.1 T 5000 0 σ (by have := hT.2.1; omega) (by omega) hT.1 hT.2.2 hW hN
def oMN (q : Nat) : Prop := q = 279 ∨ q = 280 ∨ q = 281 ∨ q = 291 ∨ q = 292
def mbk (x : Nat) (T : List Cl) (S : Nat → Int) (n : Nat) (σ : Zm) : Prop := x < 6 ∧ TRm σ x T ∧ WF T ∧ (∀ k, k < 32 → zrd σ 274 (650 + k) = S k) ∧ zrd σ 274 2 = (n : Int) ∧ n ≤ 8 ∧ sgb S
theorem mbk_fo {D : Nat → Prop} {x : Nat} {T : List Cl} {S : Nat → Int} {n : Nat} {σ σ1 : Zm} (h : mbk x T S n σ) (hf : zfo D σ σ1) (h1 : ¬ D 274) (h2 : ¬ D 276) : mbk x T S n σ1 := by
  obtain ⟨a1, a2, a3, a4, a5, a6, a7⟩ := h
  exact ⟨a1, TRm_fo hf h2 a2, a3, fun k hk => by rw [hf.rd h1]; exact a4 k hk, by rw [hf.rd h1]; exact a5, a6, a7⟩
theorem pM_bind_2 (x1 : Int) (σ0 : Zm) (P : Int → Zm → Prop) (K : Int → Zm → Zr) (hK : ∀ σ', zfo oMN σ0 σ' → (∀ k, k < 8 → zrd σ' 291 k = 0 ∧ zrd σ' 292 k = 0) → zwp (K x1 σ') P) : ∀ (d m j : Nat) (σ : Zm), d < m → j + d = 8 → zfo oMN σ0 σ → (∀ k, k < j → zrd σ 291 k = 0 ∧ zrd σ 292 k = 0) → zwp (fM_bind_2 m x1 (j : Int) σ K) P
  | 0, m + 1, j, σ, _, hj, h1, h2 => by
    rw [fM_bind_2]
    simp only [zwp_let]
    rw [if_pos (by omega)]
    exact hK σ h1 (fun k hk => h2 k (by omega))
  | d + 1, m + 1, j, σ, hm, hj, h1, h2 => by
    rw [fM_bind_2]
    simp only [zwp_let]
    rw [if_neg (by omega), zckj (by omega) (by omega), Int.toNat_natCast]
    refine zwp_st (fun σ1 f1 v1 => ?_)
    rw [zckj (by omega) (by omega)]
    refine zwp_st (fun σ2 f2 v2 => ?_)
    rw [show zw ((j : Int) + 1) = ((j + 1 : Nat) : Int) by rw [zwj (by omega) (by omega)]; omega]
    refine pM_bind_2 x1 σ0 P K hK d m (j + 1) σ2 (by omega) (by omega) ((h1.tr (f1.mono (fun q z => by have : q = 291 := z; unfold oMN; omega))).tr (f2.mono (fun q z => by have : q = 292 := z; unfold oMN; omega))) (fun k hk => ?_)
    rw [f2.rd (oO_ne (by omega)), v1 k, v2 k, f1.rd (oO_ne (by omega))]
    by_cases c : k = j
    · rw [if_pos c, if_pos c]; exact ⟨rfl, rfl⟩
    · rw [if_neg c, if_neg c]; exact h2 k (by omega)
theorem pM_bind_63 {x : Nat} {T : List Cl} {S : Nat → Int} {n : Nat} (a b : Nat) (ha : a < 8) (hb : b < 8) (σ0 : Zm) (hk : mbk x T S n σ0) (P : Int → Zm → Prop) (K : Int → Int → Int → Zm → Zr) (hK : ∀ σ', zfo (oO 279) σ0 σ' → (∀ s, (s = 2 ∨ s = 3) → mnm s (gev S a b) σ') → zwp (K (x : Int) (a : Int) (b : Int) σ') P) : ∀ (d m j : Nat) (σ : Zm), d < m → j + d = 4 → zfo (oO 279) σ0 σ → (∀ k, k < j → zrd σ 279 (13 + k) = S (4 * a + k) ∧ zrd σ 279 (17 + k) = S (4 * b + k)) → zwp (fM_bind_63 m (x : Int) (a : Int) (b : Int) (j : Int) σ K) P
  | 0, m + 1, j, σ, _, hj, h1, h2 => by
    rw [fM_bind_63]
    simp only [zwp_let]
    rw [if_pos (by omega)]
    refine hK σ h1 (fun s hs i hi => ?_)
    unfold nok at hi
    rw [if_neg (by omega), if_neg (by omega)] at hi
    have hnm : nm i = i := by unfold nm; rw [if_neg (by omega), if_neg (by omega), if_neg (by omega)]
    rw [hnm]
    unfold gev
    by_cases c : 13 ≤ i ∧ i ≤ 16
    · rw [if_pos c]
      have := (h2 (i - 13) (by omega)).1
      rw [show 13 + (i - 13) = i by omega] at this
      exact this
    · rw [if_neg c, if_pos (by omega)]
      have := (h2 (i - 17) (by omega)).2
      rw [show 17 + (i - 17) = i by omega] at this
      exact this
  | d + 1, m + 1, j, σ, hm, hj, h1, h2 => by
    have hk' := mbk_fo hk h1 (oO_ne (by omega)) (oO_ne (by omega))
    have ba := hk.2.2.2.2.2.2 (4 * a + j)
    have bb := hk.2.2.2.2.2.2 (4 * b + j)
    rw [fM_bind_63]
    simp only [zwp_let]
    rw [if_neg (by omega), show zw (650 + 4 * (a : Int) + (j : Int)) = ((650 + (4 * a + j) : Nat) : Int) by rw [zwj (by omega) (by omega)]; omega, show zw (650 + 4 * (b : Int) + (j : Int)) = ((650 + (4 * b + j) : Nat) : Int) by rw [zwj (by omega) (by omega)]; omega, show zw (13 + (j : Int)) = ((13 + j : Nat) : Int) by rw [zwj (by omega) (by omega)]; omega, show zw (17 + (j : Int)) = ((17 + j : Nat) : Int) by rw [zwj (by omega) (by omega)]; omega, zckj (by omega) (by omega), zwp_let, Int.toNat_natCast (650 + (4 * a + j)), Int.toNat_natCast (13 + j), hk'.2.2.2.1 _ (by omega), zckj (by omega) (by omega)]
    refine zwp_st (fun σ1 f1 v1 => ?_)
    have hk1 := mbk_fo hk' f1 (oO_ne (by omega)) (oO_ne (by omega))
    rw [zckj (by omega) (by omega), zwp_let, Int.toNat_natCast (650 + (4 * b + j)), Int.toNat_natCast (17 + j), hk1.2.2.2.1 _ (by omega), zckj (by omega) (by omega)]
    refine zwp_st (fun σ2 f2 v2 => ?_)
    rw [show zw ((j : Int) + 1) = ((j + 1 : Nat) : Int) by rw [zwj (by omega) (by omega)]; omega]
    refine pM_bind_63 a b ha hb σ0 hk P K hK d m (j + 1) σ2 (by omega) (by omega) ((h1.tr f1).tr f2) (fun k hk => ?_)
    rw [v2, v2, v1, v1]
    by_cases c : k = j
    · rw [if_neg (by omega), if_pos (by omega), if_pos (by omega), c, zwj (by omega) (by omega), zwj (by omega) (by omega)]
      exact ⟨rfl, rfl⟩
    · rw [if_neg (by omega), if_neg (by omega), if_neg (by omega), if_neg (by omega)]
      exact h2 k (by omega)
/-- what is bound, once the pairs ahead of (x, y) are done -/
def lat (T : List Cl) (S : Nat → Int) (n x y : Nat) : Nat → Nat → Prop := fun a b => a < n ∧ b < n ∧ dn x y a b ∧ a ≠ b ∧ any2 T S a b
def nea (T : List Cl) (S : Nat → Int) (n x y : Nat) : Nat → Nat → Prop := fun a b => a < n ∧ b < n ∧ a ≠ b ∧ ((dn x y a b ∧ any3 T S a b) ∨ (dn x y b a ∧ any3 T S b a))
theorem pM_bind_42 {x : Nat} {T : List Cl} {S : Nat → Int} {n : Nat} (a : Nat) (ha : a < n) (σ0 : Zm) (hk : mbk x T S n σ0) (P : Int → Zm → Prop) (K : Int → Int → Zm → Zr) (hK : ∀ σ', zfo oMN σ0 σ' → msk 291 σ' (lat T S n a n) → msk 292 σ' (nea T S n a n) → zwp (K (x : Int) (a : Int) σ') P) : ∀ (d m b : Nat) (σ : Zm), d < m → b + d = n → zfo oMN σ0 σ → msk 291 σ (lat T S n a b) → msk 292 σ (nea T S n a b) → zwp (fM_bind_42 m (x : Int) (a : Int) (b : Int) σ K) P
  | 0, m + 1, b, σ, _, hb, h1, h2, h3 => by
    have : b = n := by omega
    subst this
    have hk' := mbk_fo hk h1 (by unfold oMN; omega) (by unfold oMN; omega)
    rw [fM_bind_42]
    simp only [zwp_let]
    rw [zckj (by decide) (by decide), zwp_let, hk'.2.2.2.2.1, if_pos (by omega)]
    exact hK σ h1 h2 h3
  | d + 1, m + 1, b, σ, hm, hb, h1, h2, h3 => by
    have hk' := mbk_fo hk h1 (by unfold oMN; omega) (by unfold oMN; omega)
    have hn8 := hk.2.2.2.2.2.1
    have hS := hk.2.2.2.2.2.2
    have ez : zw ((b : Int) + 1) = ((b + 1 : Nat) : Int) := by rw [zwj (by omega) (by omega)]; omega
    have ih := fun σ1 => pM_bind_42 a ha σ0 hk P K hK d m (b + 1) σ1 (by omega) (by omega)
    rw [fM_bind_42]
    simp only [zwp_let]
    rw [zckj (by decide) (by decide), zwp_let, hk'.2.2.2.2.1, if_neg (by omega)]
    by_cases c : a = b
    · rw [ifnn (show (a : Int) = (b : Int) by omega), ez]
      refine ih σ h1 (msk_cg h2 (fun p q hp hq => ?_)) (msk_cg h3 (fun p q hp hq => ?_))
      · unfold lat dn
        constructor
        · rintro ⟨q1, q2, q3, q4, q5⟩; exact ⟨q1, q2, by omega, q4, q5⟩
        · rintro ⟨q1, q2, q3, q4, q5⟩; exact ⟨q1, q2, by omega, q4, q5⟩
      · unfold nea dn
        constructor
        · rintro ⟨q1, q2, q3, q4⟩
          exact ⟨q1, q2, q3, by rcases q4 with ⟨q4, q5⟩ | ⟨q4, q5⟩; exact Or.inl ⟨by omega, q5⟩; exact Or.inr ⟨by omega, q5⟩⟩
        · rintro ⟨q1, q2, q3, q4⟩
          exact ⟨q1, q2, q3, by rcases q4 with ⟨q4, q5⟩ | ⟨q4, q5⟩; exact Or.inl ⟨by omega, q5⟩; exact Or.inr ⟨by omega, q5⟩⟩
    · rw [if_pos (show ¬ (a : Int) = (b : Int) by omega)]
      refine pM_bind_63 a b (by omega) (by omega) σ hk' _ _ (fun σ1 f1 n1 => ?_) 4 5000 0 σ (by omega) (by omega) zfo.rf (fun k hk => by omega)
      have hk1 := mbk_fo hk' f1 (oO_ne (by omega)) (oO_ne (by omega))
      rw [zwp_bi]
      refine zwp_mono (qM_isAny hk.1 (gev S a b) (fun k => gev_bd hS a b k) 2 σ1 hk1.2.1 hk1.2.2.1 (n1 2 (Or.inl rfl))) (fun r σ2 ⟨f2, e2⟩ => ?_)
      have hr01 := anyc_01 (gev S a b) 2 T
      have hzr : zw r = r := by rw [e2]; rcases hr01 with q | q <;> rw [q] <;> rfl
      have f12 : zfo oMN σ σ2 := (f1.mono (fun q z => by have : q = 279 := z; unfold oMN; omega)).tr (f2.mono (fun q z => by unfold oW at z; unfold oMN; omega))
      have f12' : zfo (fun q => q = 279 ∨ oW q) σ σ2 := (f1.mono (fun q z => Or.inl z)).tr (f2.mono (fun q z => Or.inr z))
      have m2 : msk 292 σ2 (nea T S n a b) := msk_fo h3 f12' (by unfold oW; omega)
      have hk2 := mbk_fo hk1 f2 (by unfold oW; omega) (by unfold oW; omega)
      -- the pairs that lie beside one another
      have p146 : ∀ σ3, zfo (oO 291) σ2 σ3 → msk 291 σ3 (lat T S n a (b + 1)) → zwp (fM_bind_146 (fun (x1 : Int) (x2 : Int) (x3 : Int) (σ : Zm) => fM_bind_42 m x1 x2 x3 σ K) K (x : Int) (a : Int) (b : Int) σ3) P := by
        intro σ3 f3 m3
        have hk3 := mbk_fo hk2 f3 (oO_ne (by omega)) (oO_ne (by omega))
        have n3 : mnm 3 (gev S a b) σ3 := fun j hj => by
          rw [f3.rd (oO_ne (by omega)), f2.rd (by unfold oW; omega)]
          exact n1 3 (Or.inr rfl) j hj
        have m33 : msk 292 σ3 (nea T S n a b) := msk_fo m2 f3 (oO_ne (by omega))
        unfold fM_bind_146
        rw [zwp_bi]
        refine zwp_mono (qM_isAny hk.1 (gev S a b) (fun k => gev_bd hS a b k) 3 σ3 hk3.2.1 hk3.2.2.1 n3) (fun u σ4 ⟨f4, e4⟩ => ?_)
        have hu01 := anyc_01 (gev S a b) 3 T
        have hzu : zw u = u := by rw [e4]; rcases hu01 with q | q <;> rw [q] <;> rfl
        have f14 : zfo oMN σ σ4 := (f12.tr (f3.mono (fun q z => by have : q = 291 := z; unfold oMN; omega))).tr (f4.mono (fun q z => by unfold oW at z; unfold oMN; omega))
        have m34 : msk 291 σ4 (lat T S n a (b + 1)) := msk_fo m3 f4 (by unfold oW; omega)
        have m44 : msk 292 σ4 (nea T S n a b) := msk_fo m33 f4 (by unfold oW; omega)
        rw [hzu, ez]
        by_cases d3 : u = 0
        · rw [if_neg (fun q => q d3)]
          refine ih σ4 (h1.tr f14) m34 (msk_cg m44 (fun p q hp hq => ?_))
          have hno : ¬ any3 T S a b := by unfold any3; omega
          unfold nea dn
          constructor
          · rintro ⟨q1, q2, q3, q4⟩
            exact ⟨q1, q2, q3, by rcases q4 with ⟨q4, q5⟩ | ⟨q4, q5⟩; exact Or.inl ⟨by omega, q5⟩; exact Or.inr ⟨by omega, q5⟩⟩
          · rintro ⟨q1, q2, q3, q4⟩
            refine ⟨q1, q2, q3, ?_⟩
            rcases q4 with ⟨q4, q5⟩ | ⟨q4, q5⟩
            · by_cases w : p = a ∧ q = b
              · rw [w.1, w.2] at q5; exact absurd q5 hno
              · exact Or.inl ⟨by omega, q5⟩
            · by_cases w : q = a ∧ p = b
              · rw [w.1, w.2] at q5; exact absurd q5 hno
              · exact Or.inr ⟨by omega, q5⟩
        · have hyes : any3 T S a b := by unfold any3; omega
          rw [if_pos d3, zckj (by omega) (by omega), zwp_let, zckj (by omega) (by omega), Int.toNat_natCast, Int.toNat_natCast]
          refine msk_set m44 (by omega) (by omega) (fun σ5 f5 m5 => ?_)
          rw [zckj (by omega) (by omega), zwp_let, zckj (by omega) (by omega)]
          refine msk_set m5 (by omega) (by omega) (fun σ6 f6 m6 => ?_)
          have f16 : zfo oMN σ σ6 := (f14.tr (f5.mono (fun q z => by have : q = 292 := z; unfold oMN; omega))).tr (f6.mono (fun q z => by have : q = 292 := z; unfold oMN; omega))
          refine ih σ6 (h1.tr f16) (msk_fo (msk_fo m34 f5 (oO_ne (by omega))) f6 (oO_ne (by omega))) (msk_cg m6 (fun p q hp hq => ?_))
          unfold nea dn
          constructor
          · rintro ((⟨q1, q2, q3, q4⟩ | q4) | q4)
            · exact ⟨q1, q2, q3, by rcases q4 with ⟨q4, q5⟩ | ⟨q4, q5⟩; exact Or.inl ⟨by omega, q5⟩; exact Or.inr ⟨by omega, q5⟩⟩
            · rw [q4.1, q4.2]; exact ⟨by omega, by omega, c, Or.inl ⟨by omega, hyes⟩⟩
            · rw [q4.1, q4.2]; exact ⟨by omega, by omega, fun z => c z.symm, Or.inr ⟨by omega, hyes⟩⟩
          · rintro ⟨q1, q2, q3, q4⟩
            by_cases w : p = a ∧ q = b
            · exact Or.inl (Or.inr w)
            · by_cases w2 : p = b ∧ q = a
              · exact Or.inr w2
              · left; left
                exact ⟨q1, q2, q3, by rcases q4 with ⟨q4, q5⟩ | ⟨q4, q5⟩; exact Or.inl ⟨by omega, q5⟩; exact Or.inr ⟨by omega, q5⟩⟩
      have m1 : msk 291 σ2 (lat T S n a b) := msk_fo h2 f12' (by unfold oW; omega)
      rw [hzr]
      by_cases d2 : r = 0
      · rw [if_pos d2]
        refine p146 σ2 zfo.rf (msk_cg m1 (fun p q hp hq => ?_))
        have hno : ¬ any2 T S a b := by unfold any2; omega
        unfold lat dn
        constructor
        · rintro ⟨q1, q2, q3, q4, q5⟩; exact ⟨q1, q2, by omega, q4, q5⟩
        · rintro ⟨q1, q2, q3, q4, q5⟩
          refine ⟨q1, q2, ?_, q4, q5⟩
          by_cases w : p = a ∧ q = b
          · rw [w.1, w.2] at q5; exact absurd q5 hno
          · omega
      · have hyes : any2 T S a b := by unfold any2; omega
        rw [if_neg d2, zckj (by omega) (by omega), zwp_let, zckj (by omega) (by omega), Int.toNat_natCast]
        refine msk_set m1 (by omega) (by omega) (fun σ3 f3 m3 => ?_)
        refine p146 σ3 f3 (msk_cg m3 (fun p q hp hq => ?_))
        unfold lat dn
        constructor
        · rintro (⟨q1, q2, q3, q4, q5⟩ | q4)
          · exact ⟨q1, q2, by omega, q4, q5⟩
          · rw [q4.1, q4.2]; exact ⟨by omega, by omega, by omega, c, hyes⟩
        · rintro ⟨q1, q2, q3, q4, q5⟩
          by_cases w : p = a ∧ q = b
          · exact Or.inr w
          · exact Or.inl ⟨q1, q2, by omega, q4, q5⟩
theorem pM_bind_30 {x : Nat} {T : List Cl} {S : Nat → Int} {n : Nat} (σ0 : Zm) (hk : mbk x T S n σ0) : ∀ (d m a : Nat) (σ : Zm), d < m → a + d = n → zfo oMN σ0 σ → msk 291 σ (lat T S n a 0) → msk 292 σ (nea T S n a 0) → zwp (fM_bind_30 m (x : Int) (a : Int) σ) (fun _ σ' => zfo oMN σ0 σ' ∧ msk 291 σ' (lat T S n n 0) ∧ msk 292 σ' (nea T S n n 0))
  | 0, m + 1, a, σ, _, ha, h1, h2, h3 => by
    have : a = n := by omega
    subst this
    have hk' := mbk_fo hk h1 (by unfold oMN; omega) (by unfold oMN; omega)
    rw [fM_bind_30]
    simp only [zwp_let]
    rw [zckj (by decide) (by decide), zwp_let, hk'.2.2.2.2.1, if_pos (by omega), zwp_some]
    exact ⟨h1, h2, h3⟩
  | d + 1, m + 1, a, σ, hm, ha, h1, h2, h3 => by
    have hk' := mbk_fo hk h1 (by unfold oMN; omega) (by unfold oMN; omega)
    have hn8 := hk.2.2.2.2.2.1
    rw [fM_bind_30]
    simp only [zwp_let]
    rw [zckj (by decide) (by decide), zwp_let, hk'.2.2.2.2.1, if_neg (by omega)]
    refine pM_bind_42 a (by omega) σ hk' _ _ (fun σ1 f1 m1 m2 => ?_) n 5000 0 σ (by omega) (by omega) zfo.rf h2 h3
    rw [show zw ((a : Int) + 1) = ((a + 1 : Nat) : Int) by rw [zwj (by omega) (by omega)]; omega]
    refine pM_bind_30 σ0 hk d m (a + 1) σ1 (by omega) (by omega) (h1.tr f1) (msk_cg m1 (fun p q hp hq => ?_)) (msk_cg m2 (fun p q hp hq => ?_))
    · unfold lat dn
      constructor
      · rintro ⟨q1, q2, q3, q4, q5⟩; exact ⟨q1, q2, by omega, q4, q5⟩
      · rintro ⟨q1, q2, q3, q4, q5⟩; exact ⟨q1, q2, by omega, q4, q5⟩
    · unfold nea dn
      constructor
      · rintro ⟨q1, q2, q3, q4⟩
        exact ⟨q1, q2, q3, by rcases q4 with ⟨q4, q5⟩ | ⟨q4, q5⟩; exact Or.inl ⟨by omega, q5⟩; exact Or.inr ⟨by omega, q5⟩⟩
      · rintro ⟨q1, q2, q3, q4⟩
        exact ⟨q1, q2, q3, by rcases q4 with ⟨q4, q5⟩ | ⟨q4, q5⟩; exact Or.inl ⟨by omega, q5⟩; exact Or.inr ⟨by omega, q5⟩⟩
/-- what the reference has bound: which must lie behind which, beside which -/
theorem qM_bind {x : Nat} {T : List Cl} {S : Nat → Int} {n : Nat} (σ : Zm) (hk : mbk x T S n σ) : zwp (fM_bind σ (x : Int)) (fun _ σ' => zfo oMN σ σ' ∧ msk 291 σ' (fun a b => AH T S n b a) ∧ msk 292 σ' (BS T S n)) := by
  unfold fM_bind
  refine pM_bind_2 _ σ _ _ (fun σ1 f1 v1 => ?_) 8 5000 0 σ (by omega) (by omega) zfo.rf (fun k hk => by omega)
  have hk1 := mbk_fo hk f1 (by unfold oMN; omega) (by unfold oMN; omega)
  have hn8 := hk.2.2.2.2.2.1
  have z : ∀ (o : Nat) (Q : Nat → Nat → Prop), (∀ k, k < 8 → zrd σ1 o k = 0) → (∀ p q, ¬ Q p q) → msk o σ1 Q := fun o Q h1 h2 y hy => ⟨0, by omega, h1 y hy, fun x hx => ⟨fun q => by rw [Nat.zero_testBit] at q; exact absurd q (by decide), fun q => absurd q (h2 y x)⟩⟩
  refine zwp_mono (pM_bind_30 σ1 hk1 n 5000 0 σ1 (by omega) (by omega) zfo.rf (z 291 _ (fun k hk => (v1 k hk).1) (fun p q h => ?_)) (z 292 _ (fun k hk => (v1 k hk).2) (fun p q h => ?_))) (fun _ σ2 ⟨f2, m1, m2⟩ => ⟨f1.tr f2, msk_cg m1 (fun p q hp hq => ?_), msk_cg m2 (fun p q hp hq => ?_)⟩)
  · have := h.2.2.1
    unfold dn at this
    omega
  · have := h.2.2.2
    unfold dn at this
    omega
  · unfold lat dn AH
    constructor
    · rintro ⟨q1, q2, q3, q4, q5⟩; exact ⟨q1, q2, q4, q5⟩
    · rintro ⟨q1, q2, q4, q5⟩; exact ⟨q1, q2, by omega, q4, q5⟩
  · unfold nea dn BS
    constructor
    · rintro ⟨q1, q2, q3, q4⟩
      exact ⟨q2, q1, fun z => q3 z.symm, by rcases q4 with ⟨_, q5⟩ | ⟨_, q5⟩; exact Or.inr q5; exact Or.inl q5⟩
    · rintro ⟨q1, q2, q3, q4⟩
      exact ⟨q2, q1, fun z => q3 z.symm, by rcases q4 with q5 | q5; exact Or.inr ⟨by omega, q5⟩; exact Or.inl ⟨by omega, q5⟩⟩
