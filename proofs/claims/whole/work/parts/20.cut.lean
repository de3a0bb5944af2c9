/-! MY OWN: the class's askLines, askPairs: totals that stop above a bound -/
def lq (T : List Cl) (a : Ln) (bar : Int) : Nat → Nat → Int
  | 0, _ => 0
  | d + 1, t => bsum (lbk T a t bar) + lq T a bar d (t + 1)
def pq (T : List Cl) (a b : Ln) (bar : Int) : Nat → Nat → Int
  | 0, _ => 0
  | d + 1, t => bsum (pbk T a b t bar) + pq T a b bar d (t + 1)
def fpo (J : Nat) (σ σ' : Zm) : Prop := zfo (oJ J) σ σ' ∧ (∀ k, k ≠ 5 → k ≠ 6 → zrd σ' J k = zrd σ J k)
theorem fpo.rf {J : Nat} {σ : Zm} : fpo J σ σ := ⟨zfo.rf, fun _ _ _ => rfl⟩
theorem fpo.tr {J : Nat} {σ σ1 σ2 : Zm} (h : fpo J σ σ1) (h2 : fpo J σ1 σ2) : fpo J σ σ2 := ⟨h.1.tr h2.1, fun k a b => (h2.2 k a b).trans (h.2 k a b)⟩
/-- from s on, S to come, stopped above most -/
def cut (s S most s' : Int) : Prop := s ≤ s' ∧ s' ≤ s + S ∧ (s + S ≤ most → s' = s + S) ∧ (most < s + S → most < s')
theorem brk_bd {E : Nat → Int} {s : Int} : ∀ (T : List Cl) (k : Nat), 0 ≤ bsum (brk E s T k) ∧ bsum (brk E s T k) ≤ 999 * T.length ∧ (brk E s T k).length ≤ T.length
  | [], _ => by simp [brk, bsum]
  | c :: T, k => by
    obtain ⟨h1, h2, h3⟩ := brk_bd (E := E) (s := s) T (k + 1)
    unfold brk
    have hp : 0 ≤ prc E c.2.1 ∧ prc E c.2.1 ≤ 999 := by unfold prc; omega
    split
    · simp only [bsum, List.length_cons]
      omega
    · simp only [List.length_cons]
      omega
theorem lbk_bd {T : List Cl} (hT : T.length ≤ 10) (a : Ln) (t : Nat) (bar : Int) : 0 ≤ bsum (lbk T a t bar) ∧ bsum (lbk T a t bar) ≤ 9990 ∧ (lbk T a t bar).length ≤ 10 := by
  unfold lbk
  split
  · have := brk_bd (E := lev a t bar) (s := 1) T 0
    omega
  · simp [bsum]
theorem pbk_bd {T : List Cl} (hT : T.length ≤ 10) (a b : Ln) (t : Nat) (bar : Int) : 0 ≤ bsum (pbk T a b t bar) ∧ bsum (pbk T a b t bar) ≤ 9990 ∧ (pbk T a b t bar).length ≤ 10 := by
  unfold pbk
  split
  · have := brk_bd (E := pev a b t bar) (s := 0) T 0
    omega
  · simp [bsum]
theorem lq_bd {T : List Cl} (hT : T.length ≤ 10) (a : Ln) (bar : Int) : ∀ (d t : Nat), 0 ≤ lq T a bar d t ∧ lq T a bar d t ≤ 9990 * d
  | 0, _ => by simp [lq]
  | d + 1, t => by
    have h1 := lbk_bd hT a t bar
    have h2 := lq_bd hT a bar d (t + 1)
    simp only [lq]
    omega
theorem pq_bd {T : List Cl} (hT : T.length ≤ 10) (a b : Ln) (bar : Int) : ∀ (d t : Nat), 0 ≤ pq T a b bar d t ∧ pq T a b bar d t ≤ 9990 * d
  | 0, _ => by simp [pq]
  | d + 1, t => by
    have h1 := pbk_bd hT a b t bar
    have h2 := pq_bd hT a b bar d (t + 1)
    simp only [pq]
    omega
theorem lq_hs {T : List Cl} {a : Ln} {bar : Int} (h : hs 1 T = 0) : ∀ (d t : Nat), lq T a bar d t = 0
  | 0, _ => rfl
  | d + 1, t => by
    simp only [lq]
    rw [lq_hs h d (t + 1)]
    unfold lbk
    split
    · rw [brk_hs T 0 h]; rfl
    · rfl
theorem pq_hs {T : List Cl} {a b : Ln} {bar : Int} (h : hs 0 T = 0) : ∀ (d t : Nat), pq T a b bar d t = 0
  | 0, _ => rfl
  | d + 1, t => by
    simp only [pq]
    rw [pq_hs h d (t + 1)]
    unfold pbk
    split
    · rw [brk_hs T 0 h]; rfl
    · rfl
theorem pbt_le (f : Nat → Int) : ∀ n, pbt f n ≤ n
  | 0 => Nat.le_refl _
  | n + 1 => by
    have := pbt_le f n
    unfold pbt
    split <;> omega
theorem pbt_hi (f : Nat → Int) : ∀ (n t : Nat), pbt f n ≤ t → t < n → f t = 0
  | 0, t, _, h => by omega
  | n + 1, t, h1, h2 => by
    unfold pbt at h1
    by_cases c : f n = 0
    · rw [if_pos c] at h1
      by_cases c2 : t = n
      · rw [c2]; exact c
      · exact pbt_hi f n t h1 (by omega)
    · rw [if_neg c] at h1
      omega
theorem lq_z {T : List Cl} {a : Ln} {bar : Int} : ∀ (d t : Nat), (∀ x, t ≤ x → x < t + d → (a x).1 = 0) → lq T a bar d t = 0
  | 0, _, _ => rfl
  | d + 1, t, h => by
    simp only [lq]
    rw [lq_z d (t + 1) (fun x h1 h2 => h x (by omega) (by omega))]
    unfold lbk
    rw [if_neg (fun q => by rw [h t (by omega) (by omega)] at q; exact absurd q.1 (by decide))]
    rfl
theorem pq_z {T : List Cl} {a b : Ln} {bar : Int} : ∀ (d t : Nat), (∀ x, t ≤ x → x < t + d → (a x).1 = 0 ∨ (b x).1 = 0) → pq T a b bar d t = 0
  | 0, _, _ => rfl
  | d + 1, t, h => by
    simp only [pq]
    rw [pq_z d (t + 1) (fun x h1 h2 => h x (by omega) (by omega))]
    unfold pbk
    rw [if_neg (fun q => by
      rcases h t (by omega) (by omega) with z | z
      · exact q.1 z
      · exact q.2 z)]
    rfl
theorem lq_ap {T : List Cl} {a : Ln} {bar : Int} : ∀ (d e t : Nat), lq T a bar (d + e) t = lq T a bar d t + lq T a bar e (t + d)
  | 0, e, t => by simp [lq]
  | d + 1, e, t => by
    rw [show d + 1 + e = (d + e) + 1 by omega]
    simp only [lq]
    rw [lq_ap d e (t + 1), show t + 1 + d = t + (d + 1) by omega]
    omega
theorem pq_ap {T : List Cl} {a b : Ln} {bar : Int} : ∀ (d e t : Nat), pq T a b bar (d + e) t = pq T a b bar d t + pq T a b bar e (t + d)
  | 0, e, t => by simp [pq]
  | d + 1, e, t => by
    rw [show d + 1 + e = (d + e) + 1 by omega]
    simp only [pq]
    rw [pq_ap d e (t + 1), show t + 1 + d = t + (d + 1) by omega]
    omega
theorem jok_f {J R : Nat} {T : List Cl} {bar : Int} {σ0 σ : Zm} (h : jok J R T bar σ0) (g : fpo J σ0 σ) : jok J R T bar σ := by
  obtain ⟨h1, h2, h3, h4, h5, h6, h7⟩ := h
  refine ⟨h1, h2, TRc_fo g.1 h2 h3, h4, ?_, h6, h7⟩
  rw [g.2 3 (by decide) (by decide)]
  exact h5
theorem lok_f {J q : Nat} {a : Ln} {σ0 σ : Zm} (h : lok J q a σ0) (g : fpo J σ0 σ) : lok J q a σ := by
  obtain ⟨h1, h2, h3, h4, h5⟩ := h
  exact ⟨h1, h2, h3, (ln_fo g.1 h2 h3).trans h4, h5⟩
theorem pJ_askLines_21 {J R : Nat} {T : List Cl} {bar : Int} {σ0 : Zm} (hj : jok J R T bar σ0) {q : Nat} {a : Ln} (hq : lok J q a σ0) (most : Int) (e : Nat) (he : e ≤ 32) : ∀ (d m t : Nat) (σ : Zm) (s : Int), d < m → t + d = e → fpo J σ0 σ → zrd σ J 6 = s → 0 ≤ s → s + 9990 * d < 2000000000 → zwp (fJ_askLines_21 m J R q most (e : Int) (t : Int) σ) (fun _ σ' => fpo J σ0 σ' ∧ cut s (lq T a bar d t) most (zrd σ' J 6))
  | 0, m + 1, t, σ, s, _, ht, hf, hs, h0, hb => by
    rw [fJ_askLines_21]
    simp only [zwp_let]
    rw [if_pos (by omega), zwp_some, hs]
    refine ⟨hf, ?_⟩
    simp only [lq, cut]
    omega
  | d + 1, m + 1, t, σ, s, hm, ht, hf, hs, h0, hb => by
    have hT := hj.2.2.1.2.1
    have b1 := lbk_bd hT a t bar
    have b2 := lq_bd hT a bar d (t + 1)
    rw [fJ_askLines_21]
    simp only [zwp_let]
    rw [if_neg (by omega), zwp_let, hs]
    by_cases c : most < s
    · rw [if_pos c, zwp_some, hs]
      refine ⟨hf, ?_⟩
      simp only [lq, cut]
      omega
    · rw [if_neg c, zwp_bv, show zw ((t : Int) + 1) = ((t + 1 : Nat) : Int) from zwj (by omega) (by omega)]
      obtain ⟨a1, a2, a3, a4, a5⟩ := lok_f hq hf
      refine zwp_mono (qJ_askLine (jok_f hj hf) a5 (by omega) a1 (fun q => a2 (Or.inr (Or.inl q))) (fun q => a3 (Or.inr (Or.inl q))) a4) (fun r σ1 ⟨g1, g2, g3, g4⟩ => ?_)
      have g3' : zrd σ1 J 6 = s + bsum (lbk T a t bar) := by rw [g3, hs]; exact zwj (by omega) (by omega)
      refine zwp_mono (pJ_askLines_21 hj hq most e he d m (t + 1) σ1 (s + bsum (lbk T a t bar)) (by omega) (by omega) (hf.tr ⟨g1, g2⟩) g3' (by omega) (by omega)) (fun r σ2 ⟨k1, k2⟩ => ⟨k1, ?_⟩)
      simp only [lq, cut] at k2 ⊢
      omega
theorem qJ_askLines {J R : Nat} {T : List Cl} {bar : Int} {σ : Zm} (hj : jok J R T bar σ) {q : Nat} {a : Ln} (hq : lok J q a σ) (most : Int) (h0 : 0 ≤ zrd σ J 6 ∧ zrd σ J 6 ≤ 1000000000) : zwp (fJ_askLines σ J R q most) (fun _ σ' => fpo J σ σ' ∧ cut (zrd σ J 6) (lq T a bar 32 0) most (zrd σ' J 6)) := by
  have e : zw (hs 1 T) = hs 1 T := by rcases hs_01 1 T with h | h <;> rw [h] <;> decide
  unfold fJ_askLines
  rw [zwp_bi, qU_has 1 σ T hj.2.2.1, zwp_some, e]
  by_cases c : hs 1 T = 0
  · rw [if_pos c]
    have := pJ_askLines_21 hj hq most 0 (by omega) 0 5000 0 σ _ (by omega) rfl fpo.rf rfl h0.1 (by omega)
    rw [lq_hs c]
    exact this
  · rw [if_neg c, zwp_bi, qL_beats hq.1 (by omega), zwp_some, hq.2.2.2.1]
    have hl : lbt a ≤ 32 := pbt_le _ _
    rw [zwj (a := (lbt a : Int)) (by omega) (by omega)]
    have := pJ_askLines_21 hj hq most (lbt a) hl (lbt a) 5000 0 σ _ (by omega) (by omega) fpo.rf rfl h0.1 (by omega)
    rw [show 32 = lbt a + (32 - lbt a) by omega, lq_ap, Nat.zero_add, lq_z (32 - lbt a) (lbt a) (fun x h1 h2 => pbt_hi _ 32 x h1 (by omega)), Int.add_zero]
    exact this
theorem pJ_askPairs_28 {J R : Nat} {T : List Cl} {bar : Int} {σ0 : Zm} (hj : jok J R T bar σ0) {q r : Nat} {a b : Ln} (hq : lok J q a σ0) (hr : lok J r b σ0) (most : Int) (e : Nat) (he : e ≤ 32) : ∀ (d m t : Nat) (σ : Zm) (s : Int), d < m → t + d = e → fpo J σ0 σ → zrd σ J 6 = s → 0 ≤ s → s + 9990 * d < 2000000000 → zwp (fJ_askPairs_28 m J R q r most (e : Int) (t : Int) σ) (fun _ σ' => fpo J σ0 σ' ∧ cut s (pq T a b bar d t) most (zrd σ' J 6))
  | 0, m + 1, t, σ, s, _, ht, hf, hs, h0, hb => by
    rw [fJ_askPairs_28]
    simp only [zwp_let]
    rw [if_pos (by omega), zwp_some, hs]
    refine ⟨hf, ?_⟩
    simp only [pq, cut]
    omega
  | d + 1, m + 1, t, σ, s, hm, ht, hf, hs, h0, hb => by
    have hT := hj.2.2.1.2.1
    have b1 := pbk_bd hT a b t bar
    have b2 := pq_bd hT a b bar d (t + 1)
    rw [fJ_askPairs_28]
    simp only [zwp_let]
    rw [if_neg (by omega), zwp_let, hs]
    by_cases c : most < s
    · rw [if_pos c, zwp_some, hs]
      refine ⟨hf, ?_⟩
      simp only [pq, cut]
      omega
    · rw [if_neg c, zwp_bv, show zw ((t : Int) + 1) = ((t + 1 : Nat) : Int) from zwj (by omega) (by omega)]
      obtain ⟨a1, a2, a3, a4, a5⟩ := lok_f hq hf
      obtain ⟨b1', b2', b3', b4', b5'⟩ := lok_f hr hf
      refine zwp_mono (qJ_askPair (jok_f hj hf) a5 b5' (by omega) a1 (fun q => a2 (Or.inr (Or.inl q))) a4 b1' (fun q => b2' (Or.inr (Or.inl q))) b4') (fun r σ1 ⟨g1, g2, g3, g4⟩ => ?_)
      have g3' : zrd σ1 J 6 = s + bsum (pbk T a b t bar) := by rw [g3, hs]; exact zwj (by omega) (by omega)
      refine zwp_mono (pJ_askPairs_28 hj hq hr most e he d m (t + 1) σ1 (s + bsum (pbk T a b t bar)) (by omega) (by omega) (hf.tr ⟨g1, g2⟩) g3' (by omega) (by omega)) (fun r σ2 ⟨k1, k2⟩ => ⟨k1, ?_⟩)
      simp only [pq, cut] at k2 ⊢
      omega
theorem qJ_askPairs {J R : Nat} {T : List Cl} {bar : Int} {σ : Zm} (hj : jok J R T bar σ) {q r : Nat} {a b : Ln} (hq : lok J q a σ) (hr : lok J r b σ) (most : Int) (h0 : 0 ≤ zrd σ J 6 ∧ zrd σ J 6 ≤ 1000000000) : zwp (fJ_askPairs σ J R q r most) (fun _ σ' => fpo J σ σ' ∧ cut (zrd σ J 6) (pq T a b bar 32 0) most (zrd σ' J 6)) := by
  have e : zw (hs 0 T) = hs 0 T := by rcases hs_01 0 T with h | h <;> rw [h] <;> decide
  unfold fJ_askPairs
  rw [zwp_bi, qU_has 0 σ T hj.2.2.1, zwp_some, e]
  by_cases c : hs 0 T = 0
  · rw [if_pos c]
    have := pJ_askPairs_28 hj hq hr most 0 (by omega) 0 5000 0 σ _ (by omega) rfl fpo.rf rfl h0.1 (by omega)
    rw [pq_hs c]
    exact this
  · have hl : lbt a ≤ 32 := pbt_le _ _
    have hl2 : lbt b ≤ 32 := pbt_le _ _
    rw [if_neg c, zwp_bi, qL_beats hq.1 (by omega), zwp_some, hq.2.2.2.1, zwp_bi, qL_beats hr.1 (by omega), zwp_some, hr.2.2.2.1, zwp_let]
    rw [zwj (a := (lbt a : Int)) (by omega) (by omega), zwj (a := (lbt b : Int)) (by omega) (by omega)]
    rw [show min (lbt a : Int) (lbt b : Int) = ((min (lbt a) (lbt b) : Nat) : Int) by omega]
    have := pJ_askPairs_28 hj hq hr most (min (lbt a) (lbt b)) (by omega) (min (lbt a) (lbt b)) 5000 0 σ _ (by omega) (by omega) fpo.rf rfl h0.1 (by omega)
    rw [show 32 = min (lbt a) (lbt b) + (32 - min (lbt a) (lbt b)) by omega, pq_ap, Nat.zero_add, pq_z (32 - min (lbt a) (lbt b)) (min (lbt a) (lbt b)) ?_, Int.add_zero]
    · exact this
    · intro x h1 h2
      by_cases c2 : lbt a ≤ x
      · exact Or.inl (pbt_hi _ 32 x c2 (by omega))
      · have c3 : lbt b ≤ x := by omega
        exact Or.inr (pbt_hi _ 32 x c3 (by omega))
