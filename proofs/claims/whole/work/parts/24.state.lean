/-! MY OWN: the class's State -/
def XV (o : Nat) (σ : Zm) (V : Nat → Ln) : Prop := ∀ v, v < 16 → ln 32 σ (o + 8 + 3 * v) = V v ∧ lz 32 σ (o + 8 + 3 * v)
def XU (o : Nat) (σ : Zm) (U : Nat → Ln) : Prop := ∀ s, s < 6 → ln 12 σ (o + 56 + 3 * s) = U s
/-- the numbers: 0 bar, 1 texts, 2 pages, 3 shapes, 10.. hands, 20.. parts, 30.. wholes, 40.. signs, 80.. weights -/
def XN (o : Nat) (σ : Zm) (N : Nat → Int) : Prop := zrd σ o 7 = N 0 ∧ zrd σ o 8 = N 1 ∧ zrd σ o 10 = N 2 ∧ zrd σ o 9 = N 3 ∧ (∀ k, k < 4 → zrd σ (o + 3) k = N (10 + k)) ∧ (∀ k, k < 10 → zrd σ (o + 5) k = N (20 + k)) ∧ (∀ k, k < 10 → zrd σ (o + 6) k = N (30 + k)) ∧ (∀ k, k < 32 → zrd σ (o + 7) k = N (40 + k)) ∧ (∀ k, k < 6 → zrd σ (o + 4) k = N (80 + k))
def XS (o : Nat) (σ : Zm) (V U : Nat → Ln) (N : Nat → Int) : Prop := XV o σ V ∧ XU o σ U ∧ XN o σ N
theorem XV_fo {D : Nat → Prop} {o : Nat} {σ σ1 : Zm} {V : Nat → Ln} (h : XV o σ V) (hf : zfo D σ σ1) (hD : ∀ q, o ≤ q → q ≤ o + 73 → ¬ D q) : XV o σ1 V := by
  intro v hv
  obtain ⟨h1, h2⟩ := h v hv
  have d1 := hD (o + 8 + 3 * v + 1) (by omega) (by omega)
  have d2 := hD (o + 8 + 3 * v + 2) (by omega) (by omega)
  refine ⟨by rw [ln_fo hf d1 d2, h1], fun t ht h0 => ?_⟩
  rw [hf.rd d2] at h0
  rw [hf.rd d1]
  exact h2 t ht h0
theorem XU_fo {D : Nat → Prop} {o : Nat} {σ σ1 : Zm} {U : Nat → Ln} (h : XU o σ U) (hf : zfo D σ σ1) (hD : ∀ q, o ≤ q → q ≤ o + 73 → ¬ D q) : XU o σ1 U := by
  intro v hv
  have h1 := h v hv
  rw [ln_fo hf (hD _ (by omega) (by omega)) (hD _ (by omega) (by omega)), h1]
theorem XN_fo {D : Nat → Prop} {o : Nat} {σ σ1 : Zm} {N : Nat → Int} (h : XN o σ N) (hf : zfo D σ σ1) (hD : ∀ q, o ≤ q → q ≤ o + 7 → ¬ D q) : XN o σ1 N := by
  unfold XN at *
  rw [hf.rd (hD o (by omega) (by omega)), hf.rd (hD o (by omega) (by omega)), hf.rd (hD o (by omega) (by omega)), hf.rd (hD o (by omega) (by omega))]
  obtain ⟨h1, h2, h3, h4, h5, h6, h7, h8, h9⟩ := h
  refine ⟨h1, h2, h3, h4, fun k hk => ?_, fun k hk => ?_, fun k hk => ?_, fun k hk => ?_, fun k hk => ?_⟩ <;> rw [hf.rd (hD _ (by omega) (by omega))]
  · exact h5 k hk
  · exact h6 k hk
  · exact h7 k hk
  · exact h8 k hk
  · exact h9 k hk
theorem XS_fo {D : Nat → Prop} {o : Nat} {σ σ1 : Zm} {V U : Nat → Ln} {N : Nat → Int} (h : XS o σ V U N) (hf : zfo D σ σ1) (hD : ∀ q, o ≤ q → q ≤ o + 73 → ¬ D q) : XS o σ1 V U N := ⟨XV_fo h.1 hf hD, XU_fo h.2.1 hf hD, XN_fo h.2.2 hf (fun q a b => hD q a (by omega))⟩
theorem XV_fo2 {o : Nat} {σ σ1 : Zm} {V : Nat → Ln} (h : XV o σ V) (hf : zfo (fun q => q = o ∨ (o + 3 ≤ q ∧ q ≤ o + 7)) σ σ1) : XV o σ1 V := by
  intro v hv
  obtain ⟨h1, h2⟩ := h v hv
  have d1 : ¬ (o + 8 + 3 * v + 1 = o ∨ (o + 3 ≤ o + 8 + 3 * v + 1 ∧ o + 8 + 3 * v + 1 ≤ o + 7)) := by omega
  have d2 : ¬ (o + 8 + 3 * v + 2 = o ∨ (o + 3 ≤ o + 8 + 3 * v + 2 ∧ o + 8 + 3 * v + 2 ≤ o + 7)) := by omega
  refine ⟨by rw [ln_fo hf d1 d2, h1], fun t ht h0 => ?_⟩
  rw [hf.rd d2] at h0
  rw [hf.rd d1]
  exact h2 t ht h0
theorem XU_fo2 {o : Nat} {σ σ1 : Zm} {U : Nat → Ln} (h : XU o σ U) (hf : zfo (fun q => q = o ∨ (o + 3 ≤ q ∧ q ≤ o + 7)) σ σ1) : XU o σ1 U := by
  intro v hv
  have h1 := h v hv
  rw [ln_fo hf (by omega) (by omega), h1]
def so (o : Nat) : Prop := o = 1 ∨ o = 75
theorem so_voice {o : Nat} (h : so o) : ∀ v, v < 16 → zRF (o + 1) v = o + 8 + 3 * v ∧ zli 32 (o + 8 + 3 * v) := by
  rcases h with rfl | rfl
  · unfold zli; decide +kernel
  · unfold zli; decide +kernel
theorem so_subj {o : Nat} (h : so o) : ∀ v, v < 6 → zRF (o + 2) v = o + 56 + 3 * v ∧ zli 12 (o + 56 + 3 * v) := by
  rcases h with rfl | rfl
  · unfold zli; decide +kernel
  · unfold zli; decide +kernel
def oS (o q : Nat) : Prop := o ≤ q ∧ q ≤ o + 73
theorem pS_take_2 {o p : Nat} (ho : so o) (hp : so p) (hd : o ≠ p) (σ0 : Zm) (V : Nat → Ln) (hV : XV p σ0 V) (P : Int → Zm → Prop) (K : Nat → Nat → Zm → Zr) (hK : ∀ σ', zfo (oS o) σ0 σ' → XV o σ' V → zwp (K o p σ') P) : ∀ (d m i : Nat) (σ : Zm), d < m → i + d = 16 → zfo (oS o) σ0 σ → (∀ v, v < i → ln 32 σ (o + 8 + 3 * v) = V v ∧ lz 32 σ (o + 8 + 3 * v)) → zwp (fS_take_2 m o p (i : Int) σ K) P
  | 0, m + 1, i, σ, _, hi, hf, hv => by
    rw [fS_take_2]
    simp only [zwp_let]
    rw [if_pos (by omega)]
    exact hK σ hf (fun v h => hv v (by omega))
  | d + 1, m + 1, i, σ, hm, hi, hf, hv => by
    obtain ⟨a1, a2⟩ := so_voice ho i (by omega)
    obtain ⟨b1, b2⟩ := so_voice hp i (by omega)
    rw [fS_take_2]
    simp only [zwp_let]
    rw [if_neg (by omega), zckj (by omega) (by omega), zckj (by omega) (by omega), Int.toNat_natCast, zwp_bv, a1, b1, show zw ((i : Int) + 1) = ((i + 1 : Nat) : Int) from zwj (by omega) (by omega)]
    have hne : o + 8 + 3 * i + 1 ≠ p + 8 + 3 * i + 2 := by rcases ho with rfl | rfl <;> rcases hp with rfl | rfl <;> omega
    refine zwp_mono (qL_take a2 b2 hne σ) (fun r σ1 ⟨g1, g2, g3⟩ => ?_)
    have hpi := hV i (by omega)
    have hDp : ∀ q, p ≤ q → q ≤ p + 73 → ¬ oS o q := by
      intro q h1 h2
      unfold oS
      rcases ho with rfl | rfl <;> rcases hp with rfl | rfl <;> omega
    have hp2 := XV_fo hV hf hDp i (by omega)
    refine pS_take_2 ho hp hd σ0 V hV P K hK d m (i + 1) σ1 (by omega) (by omega) (hf.tr (g1.mono (fun q h => by unfold oD at h; unfold oS; omega))) (fun v h => ?_)
    by_cases c : v = i
    · subst c
      exact ⟨by rw [g2, hp2.1], g3 hp2.2⟩
    · obtain ⟨h1, h2⟩ := hv v (by omega)
      have e1 : ¬ oD (o + 8 + 3 * i) (o + 8 + 3 * v + 1) := by unfold oD; omega
      have e2 : ¬ oD (o + 8 + 3 * i) (o + 8 + 3 * v + 2) := by unfold oD; omega
      refine ⟨by rw [ln_fo g1 e1 e2, h1], fun t ht h0 => ?_⟩
      rw [g1.rd e2] at h0
      rw [g1.rd e1]
      exact h2 t ht h0
theorem pS_take_34 {o p : Nat} (ho : so o) (hp : so p) (hd : o ≠ p) (σ0 : Zm) (V U : Nat → Ln) (hU : XU p σ0 U) (P : Int → Zm → Prop) (K : Nat → Nat → Zm → Zr) (hK : ∀ σ', zfo (oS o) σ0 σ' → XV o σ' V → XU o σ' U → zwp (K o p σ') P) : ∀ (d m i : Nat) (σ : Zm), d < m → i + d = 6 → zfo (oS o) σ0 σ → XV o σ V → (∀ v, v < i → ln 12 σ (o + 56 + 3 * v) = U v) → zwp (fS_take_34 m o p (i : Int) σ K) P
  | 0, m + 1, i, σ, _, hi, hf, hV, hv => by
    rw [fS_take_34]
    simp only [zwp_let]
    rw [if_pos (by omega)]
    exact hK σ hf hV (fun v h => hv v (by omega))
  | d + 1, m + 1, i, σ, hm, hi, hf, hV, hv => by
    obtain ⟨a1, a2⟩ := so_subj ho i (by omega)
    obtain ⟨b1, b2⟩ := so_subj hp i (by omega)
    rw [fS_take_34]
    simp only [zwp_let]
    rw [if_neg (by omega), zckj (by omega) (by omega), zckj (by omega) (by omega), Int.toNat_natCast, zwp_bv, a1, b1, show zw ((i : Int) + 1) = ((i + 1 : Nat) : Int) from zwj (by omega) (by omega)]
    have hne : o + 56 + 3 * i + 1 ≠ p + 56 + 3 * i + 2 := by rcases ho with rfl | rfl <;> rcases hp with rfl | rfl <;> omega
    refine zwp_mono (qL_take a2 b2 hne σ) (fun r σ1 ⟨g1, g2, g3⟩ => ?_)
    have hDp : ∀ q, p ≤ q → q ≤ p + 73 → ¬ oS o q := by
      intro q h1 h2
      unfold oS
      rcases ho with rfl | rfl <;> rcases hp with rfl | rfl <;> omega
    have hp2 := XU_fo hU hf hDp i (by omega)
    refine pS_take_34 ho hp hd σ0 V U hU P K hK d m (i + 1) σ1 (by omega) (by omega) (hf.tr (g1.mono (fun q h => by unfold oD at h; unfold oS; omega))) ?_ (fun v h => ?_)
    · intro v h
      obtain ⟨h1, h2⟩ := hV v h
      have e1 : ¬ oD (o + 56 + 3 * i) (o + 8 + 3 * v + 1) := by unfold oD; omega
      have e2 : ¬ oD (o + 56 + 3 * i) (o + 8 + 3 * v + 2) := by unfold oD; omega
      refine ⟨by rw [ln_fo g1 e1 e2, h1], fun t ht h0 => ?_⟩
      rw [g1.rd e2] at h0
      rw [g1.rd e1]
      exact h2 t ht h0
    · by_cases c : v = i
      · subst c
        rw [g2, hp2]
      · have h1 := hv v (by omega)
        have e1 : ¬ oD (o + 56 + 3 * i) (o + 56 + 3 * v + 1) := by unfold oD; omega
        have e2 : ¬ oD (o + 56 + 3 * i) (o + 56 + 3 * v + 2) := by unfold oD; omega
        rw [ln_fo g1 e1 e2, h1]
theorem qS_take {o p : Nat} (ho : so o) (hp : so p) (hd : o ≠ p) (σ : Zm) (V U : Nat → Ln) (N : Nat → Int) (h : XS p σ V U N) : zwp (fS_take σ o p) (fun _ σ' => zfo (oS o) σ σ' ∧ XS o σ' V U N) := by
  have hDp : ∀ q, p ≤ q → q ≤ p + 73 → ¬ oS o q := by
    intro q h1 h2
    unfold oS
    rcases ho with rfl | rfl <;> rcases hp with rfl | rfl <;> omega
  obtain ⟨hV, hU, hN⟩ := h
  unfold fS_take
  refine pS_take_2 ho hp hd σ V hV _ _ (fun σ1 f1 v1 => ?_) 16 5000 0 σ (by omega) (by omega) zfo.rf (fun v h => by omega)
  refine pS_take_34 ho hp hd σ V U hU _ _ (fun σ2 f2 v2 u2 => ?_) 6 5000 0 σ1 (by omega) (by omega) f1 v1 (fun v h => by omega)
  have n2 := XN_fo hN f2 (fun q a b => hDp q a (by omega))
  have hne : ∀ i j, i ≤ 7 → j ≤ 7 → p + i ≠ o + j := by
    intro i j h1 h2
    rcases ho with rfl | rfl <;> rcases hp with rfl | rfl <;> omega
  have hn0 : ∀ j, j ≤ 7 → p ≠ o + j := fun j h => hne 0 j (by omega) h
  have hn1 : ∀ j, j ≤ 7 → p + j ≠ o := fun j h => hne j 0 h (by omega)
  have hpo : p ≠ o := hne 0 0 (by omega) (by omega)
  obtain ⟨q1, q2, q3, q4, q5, q6, q7, q8, q9⟩ := n2
  rw [if_pos (by decide)]
  refine zwp_cp (fun τ1 g1 e1 => ?_)
  rw [if_pos (by decide)]
  refine zwp_cp (fun τ2 g2 e2 => ?_)
  rw [if_pos (by decide)]
  refine zwp_cp (fun τ3 g3 e3 => ?_)
  rw [if_pos (by decide)]
  refine zwp_cp (fun τ4 g4 e4 => ?_)
  rw [if_pos (by decide)]
  refine zwp_cp (fun τ5 g5 e5 => ?_)
  rw [zwp_let]
  refine zwp_st (fun τ6 g6 e6 => ?_)
  rw [zwp_let]
  refine zwp_st (fun τ7 g7 e7 => ?_)
  rw [zwp_let]
  refine zwp_st (fun τ8 g8 e8 => ?_)
  rw [zwp_let]
  refine zwp_st (fun τ9 g9 e9 => ?_)
  rw [zwp_some]
  have h3 : zfo (fun q => q = o ∨ (o + 3 ≤ q ∧ q ≤ o + 7)) σ2 τ9 := ((((((((g1.mono (fun q h => by unfold oO at h; omega)).tr (g2.mono (fun q h => by unfold oO at h; omega))).tr (g3.mono (fun q h => by unfold oO at h; omega))).tr (g4.mono (fun q h => by unfold oO at h; omega))).tr (g5.mono (fun q h => by unfold oO at h; omega))).tr (g6.mono (fun q h => by unfold oO at h; omega))).tr (g7.mono (fun q h => by unfold oO at h; omega))).tr (g8.mono (fun q h => by unfold oO at h; omega))).tr (g9.mono (fun q h => by unfold oO at h; omega))
  have r1 : ∀ k, zrd τ5 p k = zrd σ2 p k := fun k => by rw [g5.rd (oO_ne (hn0 7 (by omega))), g4.rd (oO_ne (hn0 6 (by omega))), g3.rd (oO_ne (hn0 5 (by omega))), g2.rd (oO_ne (hn0 4 (by omega))), g1.rd (oO_ne (hn0 3 (by omega)))]
  have r6 : ∀ k, zrd τ6 p k = zrd σ2 p k := fun k => by rw [g6.rd (oO_ne hpo), r1]
  have r7 : ∀ k, zrd τ7 p k = zrd σ2 p k := fun k => by rw [g7.rd (oO_ne hpo), r6]
  have r8 : ∀ k, zrd τ8 p k = zrd σ2 p k := fun k => by rw [g8.rd (oO_ne hpo), r7]
  have t9 : ∀ i k, 3 ≤ i → zrd τ9 (o + i) k = zrd τ5 (o + i) k := fun i k hi => by rw [g9.rd (oO_ne (by omega)), g8.rd (oO_ne (by omega)), g7.rd (oO_ne (by omega)), g6.rd (oO_ne (by omega))]
  refine ⟨f2.tr (h3.mono (fun q h => by unfold oS; omega)), XV_fo2 v2 h3, XU_fo2 u2 h3, ?_⟩
  refine ⟨?_, ?_, ?_, ?_, fun k hk => ?_, fun k hk => ?_, fun k hk => ?_, fun k hk => ?_, fun k hk => ?_⟩
  · rw [e9, if_neg (by omega), e8, if_neg (by omega), e7, if_neg (by omega), e6, if_pos rfl, zw_rd, r1, q1]
  · rw [e9, if_neg (by omega), e8, if_neg (by omega), e7, if_pos rfl, zw_rd, r6, q2]
  · rw [e9, if_pos rfl, zw_rd, r8, q3]
  · rw [e9, if_neg (by omega), e8, if_pos rfl, zw_rd, r7, q4]
  · rw [t9 3 k (by omega), g5.rd (oO_ne (by omega)), g4.rd (oO_ne (by omega)), g3.rd (oO_ne (by omega)), g2.rd (oO_ne (by omega)), e1, if_pos hk, q5 k hk]
  · rw [t9 5 k (by omega), g5.rd (oO_ne (by omega)), g4.rd (oO_ne (by omega)), e3, if_pos hk, g2.rd (oO_ne (hne 5 4 (by omega) (by omega))), g1.rd (oO_ne (hne 5 3 (by omega) (by omega))), q6 k hk]
  · rw [t9 6 k (by omega), g5.rd (oO_ne (by omega)), e4, if_pos hk, g3.rd (oO_ne (hne 6 5 (by omega) (by omega))), g2.rd (oO_ne (hne 6 4 (by omega) (by omega))), g1.rd (oO_ne (hne 6 3 (by omega) (by omega))), q7 k hk]
  · rw [t9 7 k (by omega), e5, if_pos hk, g4.rd (oO_ne (hne 7 6 (by omega) (by omega))), g3.rd (oO_ne (hne 7 5 (by omega) (by omega))), g2.rd (oO_ne (hne 7 4 (by omega) (by omega))), g1.rd (oO_ne (hne 7 3 (by omega) (by omega))), q8 k hk]
  · rw [t9 4 k (by omega), g5.rd (oO_ne (by omega)), g4.rd (oO_ne (by omega)), g3.rd (oO_ne (by omega)), e2, if_pos hk, g1.rd (oO_ne (hne 4 3 (by omega) (by omega))), q9 k hk]
def plen (V : Nat → Ln) (p : Nat) : Nat := max (max (max (lbt (V (4 * p))) (lbt (V (4 * p + 1)))) (lbt (V (4 * p + 2)))) (lbt (V (4 * p + 3)))
theorem qS_lengthOf {o : Nat} (ho : so o) (σ : Zm) (V : Nat → Ln) (hV : XV o σ V) (p : Nat) (hp : p < 4) : fS_lengthOf σ o (p : Int) = some ((plen V p : Int), σ) := by
  have st : ∀ i : Nat, i < 4 → ∀ x : Int, 0 ≤ x → x ≤ 32 → ∀ m : Nat, fS_lengthOf_4 (m + 1) o (p : Int) x (i : Int) σ = fS_lengthOf_4 m o (p : Int) (max x (lbt (V (4 * p + i)) : Int)) ((i + 1 : Nat) : Int) σ := by
    intro i hi x hx hx2 m
    obtain ⟨a1, a2⟩ := so_voice ho (4 * p + i) (by omega)
    have hl : lbt (V (4 * p + i)) ≤ 32 := pbt_le _ _
    rw [fS_lengthOf_4]
    dsimp only [zlet]
    rw [if_neg (by omega), show zw ((p : Int) * 4 + (i : Int)) = ((4 * p + i : Nat) : Int) by rw [zwj (by omega) (by omega)]; omega, zckj (by omega) (by omega), Int.toNat_natCast, a1, zbi_eq (qL_beats a2 (by omega) σ), (hV _ (by omega)).1, zwj (a := (lbt (V (4 * p + i)) : Int)) (by omega) (by omega), show zw ((i : Int) + 1) = ((i + 1 : Nat) : Int) from zwj (by omega) (by omega)]
  have l0 : lbt (V (4 * p)) ≤ 32 := pbt_le _ _
  have l1 : lbt (V (4 * p + 1)) ≤ 32 := pbt_le _ _
  have l2 : lbt (V (4 * p + 2)) ≤ 32 := pbt_le _ _
  have l3 : lbt (V (4 * p + 3)) ≤ 32 := pbt_le _ _
  unfold fS_lengthOf
  have s0 := st 0 (by omega) 0 (by omega) (by omega) 4999
  have s1 := st 1 (by omega) (max 0 (lbt (V (4 * p + 0)) : Int)) (by omega) (by rw [Nat.add_zero]; omega) 4998
  have s2 := st 2 (by omega) (max (max 0 (lbt (V (4 * p + 0)) : Int)) (lbt (V (4 * p + 1)) : Int)) (by omega) (by rw [Nat.add_zero]; omega) 4997
  have s3 := st 3 (by omega) (max (max (max 0 (lbt (V (4 * p + 0)) : Int)) (lbt (V (4 * p + 1)) : Int)) (lbt (V (4 * p + 2)) : Int)) (by omega) (by rw [Nat.add_zero]; omega) 4996
  refine s0.trans (s1.trans (s2.trans (s3.trans ?_)))
  rw [fS_lengthOf_4]
  dsimp only [zlet]
  rw [if_pos (by decide)]
  unfold plen
  rw [Nat.add_zero]
  refine congrArg some (Prod.ext ?_ rfl)
  show max (max (max (max (0 : Int) _) _) _) _ = _
  omega
/-- the pieces of a hand, as bits -/
def pbits (N : Nat → Int) (h : Int) : Nat := (if N 10 = h then 1 else 0) + (if N 11 = h then 2 else 0) + (if N 12 = h then 4 else 0) + (if N 13 = h then 8 else 0)
theorem qS_piecesOf {o : Nat} (σ : Zm) (N : Nat → Int) (hN : XN o σ N) (h : Int) : fS_piecesOf σ o h = some ((pbits N h : Int), σ) := by
  have e := hN.2.2.2.2.1
  have e0 := e 0 (by omega)
  have e1 := e 1 (by omega)
  have e2 := e 2 (by omega)
  have e3 := e 3 (by omega)
  have st : ∀ i : Nat, i < 4 → ∀ x : Int, ∀ m : Nat, fS_piecesOf_4 (m + 1) o h x (i : Int) σ = fS_piecesOf_4 m o h (if N (10 + i) = h then zor x (zshl 1 (i : Int)) else x) ((i + 1 : Nat) : Int) σ := by
    intro i hi x m
    rw [fS_piecesOf_4]
    dsimp only [zlet]
    rw [if_neg (by omega), zckj (by omega) (by omega), Int.toNat_natCast, e i hi, show zw ((i : Int) + 1) = ((i + 1 : Nat) : Int) from zwj (by omega) (by omega)]
    by_cases c : N (10 + i) = h
    · rw [ifnn c, if_pos c]
    · rw [if_pos c, if_neg c]
  unfold fS_piecesOf
  rw [show (0 : Int) = ((0 : Nat) : Int) from rfl, st 0 (by omega) _ 4999, st 1 (by omega) _ 4998, st 2 (by omega) _ 4997, st 3 (by omega) _ 4996, fS_piecesOf_4]
  dsimp only [zlet]
  rw [if_pos (by decide)]
  unfold pbits
  refine congrArg some (Prod.ext ?_ rfl)
  show _ = _
  by_cases c0 : N 10 = h <;> by_cases c1 : N 11 = h <;> by_cases c2 : N 12 = h <;> by_cases c3 : N 13 = h <;> simp only [Nat.add_zero, Nat.reduceAdd, c0, c1, c2, c3, if_true, if_false, reduceIte] <;> decide +kernel
