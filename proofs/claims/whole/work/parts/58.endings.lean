/-! MY OWN: endings -/
def eds (ab : Nat → Bool) (W : Nat → Int) : Nat → Int × Int × Int
  | 0 => (0, -1, -1)
  | h + 1 => if ab h then ((eds ab W h).1 + 1, if (eds ab W h).2.1 = -1 ∨ W h < (eds ab W h).2.2 then ((h : Int), W h) else (eds ab W h).2) else eds ab W h
theorem eds_bd (ab : Nat → Bool) (W : Nat → Int) : ∀ n : Nat, (0 ≤ (eds ab W n).1 ∧ (eds ab W n).1 ≤ n) ∧ -1 ≤ (eds ab W n).2.1 ∧ (eds ab W n).2.1 < 0 + max n 1
  | 0 => ⟨⟨Int.le_refl _, Int.le_refl _⟩, Int.le_refl _, by show (-1 : Int) < _; omega⟩
  | n + 1 => by
    have := eds_bd ab W n
    unfold eds
    split
    · split
      · simp only []; omega
      · simp only []; omega
    · omega
def eans (what : Int) (s : Int × Int × Int) : Int := if what = 0 then s.1 else s.2.1
def alb (w : Wd) (p k : Nat) : Nat → Bool := fun q => !(decide (p = q)) && (List.range 4).all fun v => (List.range k).all fun t => decide (wV w (4 * p + v) t = wV w (4 * q + v) t)
theorem alb_t {w : Wd} {p k q : Nat} : alb w p k q = true ↔ (p ≠ q ∧ alk (wV w) p q k 0) := by
  unfold alb alk
  simp only [Bool.and_eq_true, Bool.not_eq_true', decide_eq_false_iff_not, List.all_eq_true, List.mem_range, decide_eq_true_eq]
  exact ⟨fun h => ⟨h.1, fun v _ hv t ht => h.2 v hv t ht⟩, fun h => ⟨h.1, fun v hv t ht => h.2 v (by omega) hv t ht⟩⟩
theorem wrt_bd {w : Wd} {σ : Zm} (h : XI w σ) {x : Nat} (hx : x < 6) (hxn : (x : Int) < wN w 1) (set q k : Nat) : 0 ≤ wrt w x set q k ∧ wrt w x set q k ≤ 30000000 := by
  have := lsA h hx hxn q k
  have := stv_bd (wV w) set q
  unfold wrt
  omega
theorem pX_endings_104 {w : Wd} (g : GI w) {x set p k : Nat} (hx : x < 6) (hxn : (x : Int) < wN w 1) (hs : set < 16) (hp : p < 4) (hk : k ≤ 32) (what : Int) (σ0 : Zm) (h0 : XI w σ0) : ∀ (d m n : Nat) (x8 : Int) (σ : Zm), d < m → n + d = 4 → zfo oXw σ0 σ → ((eds (alb w p k) (fun q => wrt w x set q k) n).2.1 = -1 ∨ x8 = (eds (alb w p k) (fun q => wrt w x set q k) n).2.2) → zwp (fX_endings_104 m (x : Int) (set : Int) (p : Int) (k : Int) what (eds (alb w p k) (fun q => wrt w x set q k) n).1 (eds (alb w p k) (fun q => wrt w x set q k) n).2.1 x8 (n : Int) σ) (fun r σ' => zfo oXw σ0 σ' ∧ r = eans what (eds (alb w p k) (fun q => wrt w x set q k) 4))
  | 0, m + 1, n, x8, σ, _, hn, hf, h8 => by
    have : n = 4 := by omega
    subst this
    rw [fX_endings_104]
    simp only [zwp_let]
    rw [if_pos (by decide)]
    unfold eans
    by_cases c : what = 0
    · rw [ifnn c, zwp_some, if_pos c]; exact ⟨hf, rfl⟩
    · rw [if_pos c, zwp_some, if_neg c]; exact ⟨hf, rfl⟩
  | d + 1, m + 1, n, x8, σ, hm, hn, hf, h8 => by
    have hb := eds_bd (alb w p k) (fun q => wrt w x set q k) n
    have hwb := wrt_bd h0 hx hxn set n k
    have hX : XI w σ := XI_fo h0 hf (fun q a => by unfold oXw oJ oT; omega) (fun q a b => by unfold oXw oJ oT; omega)
    have e : eds (alb w p k) (fun q => wrt w x set q k) (n + 1) = if alb w p k n then ((eds (alb w p k) (fun q => wrt w x set q k) n).1 + 1, if (eds (alb w p k) (fun q => wrt w x set q k) n).2.1 = -1 ∨ wrt w x set n k < (eds (alb w p k) (fun q => wrt w x set q k) n).2.2 then ((n : Int), wrt w x set n k) else (eds (alb w p k) (fun q => wrt w x set q k) n).2) else eds (alb w p k) (fun q => wrt w x set q k) n := rfl
    rw [fX_endings_104]
    simp only [zwp_let]
    rw [if_neg (by omega), show zw ((n : Int) + 1) = ((n + 1 : Nat) : Int) by rw [zwj (by omega) (by omega)]; omega]
    refine qX_isEnding hp (by omega) hk σ hX.1.1 (fun q => ?_) (fun q => ?_)
    · rw [if_pos (by decide)]
      rw [if_pos (alb_t.2 q)] at e
      refine qX_worth g hX hx hxn hs (by omega) hk (fun σ1 f1 => ?_)
      rw [zwj (a := (eds (alb w p k) (fun q => wrt w x set q k) n).1 + 1) (by omega) (by omega)]
      have ih := fun x8 h => pX_endings_104 g hx hxn hs hp hk what σ0 h0 d m (n + 1) x8 σ1 (by omega) (by omega) (hf.tr f1) h
      by_cases c : (eds (alb w p k) (fun q => wrt w x set q k) n).2.1 = -1
      · rw [if_pos c]
        rw [if_pos (Or.inl c)] at e
        rw [e] at ih
        exact ih _ (Or.inr rfl)
      · have h8' : x8 = (eds (alb w p k) (fun q => wrt w x set q k) n).2.2 := by omega
        rw [if_neg c]
        by_cases c2 : x8 ≤ wrt w x set n k
        · rw [if_pos c2]
          rw [if_neg (by omega)] at e
          rw [e] at ih
          exact ih _ (Or.inr h8')
        · rw [if_neg c2]
          rw [if_pos (by omega)] at e
          rw [e] at ih
          exact ih _ (Or.inr rfl)
    · rw [if_neg (by decide)]
      rw [if_neg (fun z => q (alb_t.1 z))] at e
      have ih := pX_endings_104 g hx hxn hs hp hk what σ0 h0 d m (n + 1) x8 σ (by omega) (by omega) hf (by rw [e]; exact h8)
      rw [e] at ih
      exact ih
theorem pM_endings_104 {w : Wd} (g : GI w) {σx : Zm} (hX : XI w σx) {x set p k : Nat} (hx : x < 6) (hxn : (x : Int) < wN w 1) (hs : set < 16) (hp : p < 4) (hk : k ≤ 32) (what : Int) (σ0 : Zm) (h0 : MI w σ0) : ∀ (d m n : Nat) (x8 : Int) (σ : Zm), d < m → n + d = 4 → zfo scM σ0 σ → (∀ k, k ≤ 25 → zrd σ 273 k = zrd σ0 273 k) → ((eds (alb w p k) (fun q => wrt w x set q k) n).2.1 = -1 ∨ x8 = (eds (alb w p k) (fun q => wrt w x set q k) n).2.2) → zwp (fM_endings_104 m (x : Int) (set : Int) (p : Int) (k : Int) what (eds (alb w p k) (fun q => wrt w x set q k) n).1 (eds (alb w p k) (fun q => wrt w x set q k) n).2.1 x8 (n : Int) σ) (fun r σ' => zfo scM σ0 σ' ∧ (∀ k, k ≤ 25 → zrd σ' 273 k = zrd σ0 273 k) ∧ r = eans what (eds (alb w p k) (fun q => wrt w x set q k) 4))
  | 0, m + 1, n, x8, σ, _, hn, hf, hk2, h8 => by
    have : n = 4 := by omega
    subst this
    rw [fM_endings_104]
    simp only [zwp_let]
    rw [if_pos (by decide)]
    unfold eans
    by_cases c : what = 0
    · rw [ifnn c, zwp_some, if_pos c]; exact ⟨hf, hk2, rfl⟩
    · rw [if_pos c, zwp_some, if_neg c]; exact ⟨hf, hk2, rfl⟩
  | d + 1, m + 1, n, x8, σ, hm, hn, hf, hk2, h8 => by
    have hb := eds_bd (alb w p k) (fun q => wrt w x set q k) n
    have hwb := wrt_bd hX hx hxn set n k
    have hM : MI w σ := MI_fo h0 hf (by unfold scM; omega) (by unfold scM; omega) (by unfold scM; omega)
    have e : eds (alb w p k) (fun q => wrt w x set q k) (n + 1) = if alb w p k n then ((eds (alb w p k) (fun q => wrt w x set q k) n).1 + 1, if (eds (alb w p k) (fun q => wrt w x set q k) n).2.1 = -1 ∨ wrt w x set n k < (eds (alb w p k) (fun q => wrt w x set q k) n).2.2 then ((n : Int), wrt w x set n k) else (eds (alb w p k) (fun q => wrt w x set q k) n).2) else eds (alb w p k) (fun q => wrt w x set q k) n := rfl
    rw [fM_endings_104]
    simp only [zwp_let]
    rw [if_neg (by omega), show zw ((n : Int) + 1) = ((n + 1 : Nat) : Int) by rw [zwj (by omega) (by omega)]; omega]
    refine qM_isEnding g hp (by omega) hk σ hM.1.1 (fun q => ?_) (fun q => ?_)
    · rw [if_pos (by decide)]
      rw [if_pos (alb_t.2 q)] at e
      refine qM_worth g hX hM hx hxn hs (by omega) hk (fun σ1 f1 k1 => ?_)
      rw [zwj (a := (eds (alb w p k) (fun q => wrt w x set q k) n).1 + 1) (by omega) (by omega)]
      have ih := fun x8 h => pM_endings_104 g hX hx hxn hs hp hk what σ0 h0 d m (n + 1) x8 σ1 (by omega) (by omega) (hf.tr f1) (fun k hk => by rw [k1 k hk, hk2 k hk]) h
      by_cases c : (eds (alb w p k) (fun q => wrt w x set q k) n).2.1 = -1
      · rw [if_pos (by omega)]
        rw [if_pos (Or.inl c)] at e
        rw [e] at ih
        exact ih _ (Or.inr rfl)
      · have h8' : x8 = (eds (alb w p k) (fun q => wrt w x set q k) n).2.2 := by omega
        rw [if_neg (by omega)]
        by_cases c2 : wrt w x set n k < x8
        · rw [if_pos c2]
          rw [if_pos (by omega)] at e
          rw [e] at ih
          exact ih _ (Or.inr rfl)
        · rw [if_neg c2]
          rw [if_neg (by omega)] at e
          rw [e] at ih
          exact ih _ (Or.inr h8')
    · rw [if_neg (by decide)]
      rw [if_neg (fun z => q (alb_t.1 z))] at e
      have ih := pM_endings_104 g hX hx hxn hs hp hk what σ0 h0 d m (n + 1) x8 σ (by omega) (by omega) hf hk2 (by rw [e]; exact h8)
      rw [e] at ih
      exact ih
theorem nX_endings {w : Wd} {σ : Zm} (g : GI w) (hX : XI w σ) (x1 x2 x3 x4 x5 : Int) (c : ¬ ((0 ≤ x1 ∧ x1 < wN w 1) ∧ (0 ≤ x2 ∧ x2 ≤ 15) ∧ (0 ≤ x3 ∧ x3 ≤ 3) ∧ (0 ≤ x4 ∧ x4 ≤ 31))) : fX_endings σ x1 x2 x3 x4 x5 = some ((-1), σ) := by
  unfold fX_endings
  by_cases c0 : 0 ≤ x1 ∧ x1 < wN w 1
  · rw [xText_t g hX c0, if_neg (by decide)]
    by_cases c1 : 0 ≤ x2 ∧ x2 ≤ 15
    · rw [xSet_t c1, if_neg (by decide)]
      by_cases c2 : 0 ≤ x3 ∧ x3 ≤ 3
      · rw [xPiece_t c2, if_neg (by decide)]
        by_cases c3 : 0 ≤ x4 ∧ x4 ≤ 31
        · rw [pwithin_t c3, if_pos (by decide)]
          exact absurd (by grind) c
        · rw [pwithin_f c3, if_neg (by decide)]
      · rw [xPiece_f c2, if_pos rfl]
    · rw [xSet_f c1, if_pos rfl]
  · rw [xText_f g hX c0, if_pos rfl]
theorem nM_endings {w : Wd} {σ : Zm} (g : GI w) (hM : MI w σ) (x1 x2 x3 x4 x5 : Int) (c : ¬ ((0 ≤ x1 ∧ x1 < wN w 1) ∧ (0 ≤ x2 ∧ x2 ≤ 15) ∧ (0 ≤ x3 ∧ x3 ≤ 3) ∧ (0 ≤ x4 ∧ x4 ≤ 31))) : fM_endings σ x1 x2 x3 x4 x5 = some ((-1), σ) := by
  unfold fM_endings
  by_cases c0 : 0 ≤ x1 ∧ x1 < wN w 1
  · rw [mText_t g hM c0, if_neg (by decide)]
    by_cases c1 : 0 ≤ x2 ∧ x2 ≤ 15
    · rw [mSet_t c1, if_neg (by decide)]
      by_cases c2 : 0 ≤ x3 ∧ x3 ≤ 3
      · rw [mPiece_t c2, if_neg (by decide)]
        by_cases c3 : 0 ≤ x4 ∧ x4 ≤ 31
        · rw [mIn_t c3, if_pos (by decide)]
          exact absurd (by grind) c
        · rw [mIn_f c3, if_neg (by decide)]
      · rw [mPiece_f c2, if_pos rfl]
    · rw [mSet_f c1, if_pos rfl]
  · rw [mText_f g hM c0, if_pos rfl]
theorem st_endings (x1 x2 x3 x4 x5 : Int) : St (fun σ => fX_endings σ x1 x2 x3 x4 x5) (fun σ => fM_endings σ x1 x2 x3 x4 x5) := by
  intro σ h
  have hI := h
  obtain ⟨w, p, g, gp, hX, hM, hXT, hMP⟩ := h
  by_cases c : (0 ≤ x1 ∧ x1 < wN w 1) ∧ (0 ≤ x2 ∧ x2 ≤ 15) ∧ (0 ≤ x3 ∧ x3 ≤ 3) ∧ (0 ≤ x4 ∧ x4 ≤ 31)
  · obtain ⟨c1, c2, c3, c4⟩ := c
    have hn := (GI_n g).2.1
    obtain ⟨x, rfl, hx⟩ := nat_of (x := x1) (n := 6) (by omega)
    obtain ⟨s, rfl, hs⟩ := nat_of (x := x2) (n := 16) (by omega)
    obtain ⟨q, rfl, hq⟩ := nat_of (x := x3) (n := 4) (by omega)
    obtain ⟨k, rfl, hk⟩ := nat_of (x := x4) (n := 32) (by omega)
    show zwp (fX_endings σ (x : Int) (s : Int) (q : Int) (k : Int) x5) _
    unfold fX_endings
    rw [xText_t g hX c1, if_neg (by decide), xSet_t c2, if_neg (by decide), xPiece_t c3, if_neg (by decide), pwithin_t c4, if_pos (by decide)]
    by_cases d : 10 ≤ x5 ∧ x5 ≤ 13
    · obtain ⟨r, hr, hr4⟩ : ∃ r : Nat, x5 = ((r : Nat) : Int) + 10 ∧ r < 4 := ⟨(x5 - 10).toNat, by omega, by omega⟩
      have er : zw (x5 - 10) = (r : Int) := by rw [hr, zwj (by omega) (by omega)]; omega
      rw [pwithin_t d, if_neg (by decide), er]
      refine qX_isEnding hq hr4 (by omega) σ hX.1.1 (fun y => ?_) (fun y => ?_)
      · rw [if_neg (by decide)]
        refine qX_worth g hX hx c1.2 hs hr4 (by omega) (fun σ1 f1 => ?_)
        have g1 : zfo scX σ σ1 := zIn f1 (fun q z => oXw_sc z)
        have hM1 := MI_sX hM g1
        rw [zwp_some]
        show zwp (fM_endings σ1 (x : Int) (s : Int) (q : Int) (k : Int) x5) _
        unfold fM_endings
        rw [mText_t g hM1 c1, if_neg (by decide), mSet_t c2, if_neg (by decide), mPiece_t c3, if_neg (by decide), mIn_t c4, if_pos (by decide), mIn_t d, if_neg (by decide), er]
        refine qM_isEnding g hq hr4 (by omega) σ1 hM1.1.1 (fun y2 => ?_) (fun y2 => absurd y y2)
        rw [if_neg (by decide)]
        refine qM_worth g hX hM1 hx c1.2 hs hr4 (by omega) (fun σ2 f2 k2 => ?_)
        rw [zwp_some]
        exact ⟨rfl, Inv_sc hI g1 f2 (fun k a b => k2 k (by omega))⟩
      · rw [if_pos rfl, zwp_some]
        show zwp (fM_endings σ (x : Int) (s : Int) (q : Int) (k : Int) x5) _
        unfold fM_endings
        rw [mText_t g hM c1, if_neg (by decide), mSet_t c2, if_neg (by decide), mPiece_t c3, if_neg (by decide), mIn_t c4, if_pos (by decide), mIn_t d, if_neg (by decide), er]
        refine qM_isEnding g hq hr4 (by omega) σ hM.1.1 (fun y2 => absurd y2 y) (fun y2 => ?_)
        rw [if_pos rfl, zwp_some]
        exact ⟨rfl, hI⟩
    · rw [pwithin_f d, if_pos rfl]
      by_cases d2 : 0 ≤ x5 ∧ x5 ≤ 1
      · rw [pwithin_t d2, if_pos (by decide)]
        refine zwp_mono (pX_endings_104 g hx c1.2 hs hq (by omega) x5 σ hX 4 5000 0 (-1) σ (by omega) (by omega) zfo.rf (Or.inl rfl)) (fun r σ1 ⟨f1, e1⟩ => ?_)
        have g1 : zfo scX σ σ1 := zIn f1 (fun q z => oXw_sc z)
        have hM1 := MI_sX hM g1
        show zwp (fM_endings σ1 (x : Int) (s : Int) (q : Int) (k : Int) x5) _
        unfold fM_endings
        rw [mText_t g hM1 c1, if_neg (by decide), mSet_t c2, if_neg (by decide), mPiece_t c3, if_neg (by decide), mIn_t c4, if_pos (by decide), mIn_f d, if_pos rfl, mIn_t d2, if_pos (by decide)]
        refine zwp_mono (pM_endings_104 g hX hx c1.2 hs hq (by omega) x5 σ1 hM1 4 5000 0 0 σ1 (by omega) (by omega) zfo.rf (fun _ _ => rfl) (Or.inl rfl)) (fun r2 σ2 ⟨f2, k2, e2⟩ => ?_)
        exact ⟨by rw [e1, e2], Inv_sc hI g1 f2 (fun k a b => k2 k (by omega))⟩
      · rw [pwithin_f d2, if_neg (by decide), zwp_some]
        show zwp (fM_endings σ (x : Int) (s : Int) (q : Int) (k : Int) x5) _
        unfold fM_endings
        rw [mText_t g hM c1, if_neg (by decide), mSet_t c2, if_neg (by decide), mPiece_t c3, if_neg (by decide), mIn_t c4, if_pos (by decide), mIn_f d, if_pos rfl, mIn_f d2, if_neg (by decide), zwp_some]
        exact ⟨rfl, hI⟩
  · exact St_neg hI (nX_endings g hX x1 x2 x3 x4 x5 c) (nM_endings g hM x1 x2 x3 x4 x5 c)
