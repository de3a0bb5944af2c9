/-! MY OWN: orders, where, story -/
theorem oMC_sc {q : Nat} (h : oMC q) : scM q := by unfold oMC oMN at h; unfold scM; omega
theorem oMC_k {σ σ1 : Zm} (h : zfo oMC σ σ1) (k : Nat) : zrd σ1 273 k = zrd σ 273 k := h.rd (by unfold oMC oMN; omega) k
theorem nX_orders {w : Wd} {σ : Zm} (g : GI w) (hX : XI w σ) (x1 : Int) (c : ¬ ((0 ≤ x1 ∧ x1 < wN w 1))) : fX_orders σ x1 = some ((-1), σ) := by
  unfold fX_orders
  by_cases c0 : 0 ≤ x1 ∧ x1 < wN w 1
  · rw [xText_t g hX c0, if_pos (by decide)]
    exact absurd (by grind) c
  · rw [xText_f g hX c0, if_neg (by decide)]
theorem nM_orders {w : Wd} {σ : Zm} (g : GI w) (hM : MI w σ) (x1 : Int) (c : ¬ ((0 ≤ x1 ∧ x1 < wN w 1))) : fM_orders σ x1 = some ((-1), σ) := by
  unfold fM_orders
  by_cases c0 : 0 ≤ x1 ∧ x1 < wN w 1
  · rw [mText_t g hM c0, if_neg (by decide)]
    exact absurd (by grind) c
  · rw [mText_f g hM c0, if_pos rfl]
theorem st_orders (x1 : Int) : St (fun σ => fX_orders σ x1) (fun σ => fM_orders σ x1) := by
  intro σ h
  have hI := h
  obtain ⟨w, p, g, gp, hX, hM, hXT, hMP⟩ := h
  by_cases c : (0 ≤ x1 ∧ x1 < wN w 1)
  · have hn := (GI_n g).2.1
    obtain ⟨x, rfl, hx⟩ := nat_of (x := x1) (n := 6) (by omega)
    have hb := CN_bd g x (-1) (-1)
    show zwp (fX_orders σ (x : Int)) _
    unfold fX_orders
    rw [xText_t g hX c, if_pos (by decide)]
    unfold fX_ordersOf
    rw [zwp_bi]
    refine xCount g hX hx c.2 (-1) (-1) (fun σ1 f1 => ?_)
    have g1 : zfo scX σ σ1 := zIn f1 (fun q z => oXb_sc z)
    have hM1 := MI_sX hM g1
    rw [zwp_some, zwp_some, zwj (a := CN w x (-1) (-1)) (by omega) (by omega)]
    show zwp (fM_orders σ1 (x : Int)) _
    unfold fM_orders
    rw [mText_t g hM1 c, if_neg (by decide)]
    refine mCount g hM1 hx c.2 (place := -1) (Or.inl ⟨rfl, rfl⟩) (Or.inl (by decide)) (fun σ2 f2 => ?_)
    rw [zwp_some]
    exact ⟨rfl, Inv_sc hI g1 (f2.mono (fun q z => oMC_sc z)) (fun k a b => oMC_k f2 k)⟩
  · exact St_neg hI (nX_orders g hX x1 c) (nM_orders g hM x1 c)
theorem st_where (x1 x2 x3 : Int) : St (fun σ => fX_where σ x1 x2 x3) (fun σ => fM_where σ x1 x2 x3) := by
  intro σ h
  have hI := h
  obtain ⟨w, p, g, gp, hX, hM, hXT, hMP⟩ := h
  have hn := (GI_n g).2.1
  have hn2 := (GI_n g).2.2.1
  have h10 : zrd σ 1 10 = wN w 2 := hX.1.2.2.2.2.1
  have h2 : zrd σ 274 2 = wN w 2 := hM.1.2.2.1 2 (by omega)
  have hz : zw (wN w 2 - 1) = wN w 2 - 1 := zwj (by omega) (by omega)
  show zwp (fX_where σ x1 x2 x3) (fun r1 σ1 => zwp (fM_where σ1 x1 x2 x3) (fun r2 σ2 => r1 = r2 ∧ Inv σ2))
  by_cases c : (0 ≤ x1 ∧ x1 < wN w 1) ∧ (0 ≤ x2 ∧ x2 ≤ wN w 2 - 1) ∧ (0 ≤ x3 ∧ x3 ≤ wN w 2 - 1)
  · obtain ⟨c1, c2, c3⟩ := c
    obtain ⟨x, rfl, hx⟩ := nat_of (x := x1) (n := 6) (by omega)
    have hb := CN_bd g x x2 x3
    unfold fX_where
    rw [xText_t g hX c1, if_neg (by decide), zwp_let, h10, hz, pwithin_t c2, if_neg (by decide), zwp_let, h10, hz, pwithin_t c3, if_pos (by decide)]
    refine xCount g hX hx c1.2 x2 x3 (fun σ1 f1 => ?_)
    have g1 : zfo scX σ σ1 := zIn f1 (fun q z => oXb_sc z)
    have hM1 := MI_sX hM g1
    have h21 : zrd σ1 274 2 = wN w 2 := hM1.1.2.2.1 2 (by omega)
    rw [zwp_some]
    unfold fM_where
    rw [mText_t g hM1 c1, if_neg (by decide), zckj (by decide) (by decide), zwp_let, h21, hz, mIn_t c2, if_neg (by decide), zckj (by decide) (by decide), zwp_let, h21, hz, mIn_t c3, if_neg (by decide)]
    refine mCount g hM1 hx c1.2 (place := x3) (Or.inr ⟨c2.1, by omega, c3.1, rfl⟩) (Or.inr (by omega)) (fun σ2 f2 => ?_)
    rw [zwp_some]
    exact ⟨rfl, Inv_sc hI g1 (f2.mono (fun q z => oMC_sc z)) (fun k a b => oMC_k f2 k)⟩
  · have e1 : fX_where σ x1 x2 x3 = some (-1, σ) := by
      unfold fX_where
      by_cases c1 : 0 ≤ x1 ∧ x1 < wN w 1
      · rw [xText_t g hX c1, if_neg (by decide)]
        dsimp only [zlet]
        rw [h10, hz]
        by_cases c2 : 0 ≤ x2 ∧ x2 ≤ wN w 2 - 1
        · rw [pwithin_t c2, if_neg (by decide), h10, hz, pwithin_f (fun z => c ⟨c1, c2, z⟩), if_neg (by decide)]
        · rw [pwithin_f c2, if_pos rfl]
      · rw [xText_f g hX c1, if_pos rfl]
    have e2 : fM_where σ x1 x2 x3 = some (-1, σ) := by
      unfold fM_where
      by_cases c1 : 0 ≤ x1 ∧ x1 < wN w 1
      · rw [mText_t g hM c1, if_neg (by decide), zckj (by decide) (by decide)]
        dsimp only [zlet]
        rw [h2, hz]
        by_cases c2 : 0 ≤ x2 ∧ x2 ≤ wN w 2 - 1
        · rw [mIn_t c2, if_neg (by decide), zckj (by decide) (by decide), h2, hz, mIn_f (fun z => c ⟨c1, c2, z⟩), if_pos rfl]
        · rw [mIn_f c2, if_pos rfl]
      · rw [mText_f g hM c1, if_pos rfl]
    exact St_neg (G := fun σ => fM_where σ x1 x2 x3) hI e1 e2
/-- what the stories of a set come to -/
def sty (w : Wd) (set : Nat) : Nat → Int
  | 0 => 0
  | n + 1 => if set.testBit n = true then sty w set n + wN w (80 + n) * CN w n (-1) (-1) else sty w set n
theorem wc_bd {w : Wd} (g : GI w) (x : Nat) (hx : x < 6) : 0 ≤ wN w (80 + x) * CN w x (-1) (-1) ∧ wN w (80 + x) * CN w x (-1) (-1) ≤ 362880 := by
  have h1 := g.1.2.2.2.2.2.2.2.2.2 x hx
  have h2 := CN_bd g x (-1) (-1)
  refine ⟨Int.mul_nonneg h1.1 h2.1, ?_⟩
  have := Int.mul_le_mul h1.2 h2.2 h2.1 (by decide)
  omega
theorem sty_bd {w : Wd} (g : GI w) (set : Nat) : ∀ n : Nat, n ≤ 6 → 0 ≤ sty w set n ∧ sty w set n ≤ 362880 * (n : Int)
  | 0, _ => ⟨Int.le_refl _, Int.le_refl _⟩
  | n + 1, hn => by
    have := sty_bd g set n (by omega)
    have := wc_bd g n (by omega)
    unfold sty
    split <;> omega
theorem tb_iff {s i : Nat} : s.testBit i = true ↔ s / 2 ^ i % 2 = 1 := by rw [Nat.testBit_eq_decide_div_mod_eq]; simp
theorem pX_story_43 {w : Wd} (g : GI w) {set y : Nat} (hset : set < 64) (hy : set.testBit y = true) (N : Nat) (hN : wN w 1 = (N : Int)) (hyN : y < N) (σ0 : Zm) (h0 : XI w σ0) (P : Int → Zm → Prop) (K : Int → Int → Zm → Zr) (hK : ∀ σ', zfo oXb σ0 σ' → zwp (K (sty w set N) (wN w (80 + y) * CN w y (-1) (-1)) σ') P) : ∀ (d m n : Nat) (σ : Zm), d < m → n + d = N → zfo oXb σ0 σ → zwp (fX_story_43 m (set : Int) (y : Int) (sty w set n) (if y < n then wN w (80 + y) * CN w y (-1) (-1) else 0) (n : Int) σ K) P
  | 0, m + 1, n, σ, _, hn, h1 => by
    have hX : XI w σ := XI_fo h0 h1 (fun q a => by unfold oXb oBl; omega) (fun q a b => by unfold oXb oBl; omega)
    have : n = N := by omega
    subst this
    rw [fX_story_43]
    simp only [zwp_let]
    rw [hX.1.2.2.2.1, hN, if_pos (Int.le_refl _), if_pos hyN]
    exact hK σ h1
  | d + 1, m + 1, n, σ, hm, hn, h1 => by
    have hX : XI w σ := XI_fo h0 h1 (fun q a => by unfold oXb oBl; omega) (fun q a b => by unfold oXb oBl; omega)
    have hN6 := (GI_n g).2.1
    have hs := sty_bd g set n (by omega)
    have hw := wc_bd g n (by omega)
    have hwn := g.1.2.2.2.2.2.2.2.2.2 n (by omega)
    have hcb := CN_bd g n (-1) (-1)
    have e : sty w set (n + 1) = if set.testBit n = true then sty w set n + wN w (80 + n) * CN w n (-1) (-1) else sty w set n := rfl
    have ih := fun σ1 => pX_story_43 g hset hy N hN hyN σ0 h0 P K hK d m (n + 1) σ1 (by omega) (by omega)
    have ez : zw ((n : Int) + 1) = ((n + 1 : Nat) : Int) := by rw [zwj (by omega) (by omega)]; omega
    rw [fX_story_43]
    simp only [zwp_let]
    rw [hX.1.2.2.2.1, hN, if_neg (by omega), zbit (by omega) (by omega), ez]
    by_cases c : set.testBit n = true
    · have := tb_iff.1 c
      rw [if_pos c] at e
      rw [if_pos (by omega), zckj (by omega) (by omega), zwp_let, Int.toNat_natCast, hX.1.2.2.2.2.2.2.2.2.2.2 n (by omega)]
      unfold fX_ordersOf
      rw [zwp_bi]
      refine xCount g hX (show n < 6 by omega) (by omega) (-1) (-1) (fun σ1 f1 => ?_)
      rw [zwp_some, zwj (a := CN w n (-1) (-1)) (by omega) (by omega), zwp_let, zx_id (a := wN w (80 + n) * CN w n (-1) (-1)) (by omega) (by omega), zwp_let, zx_id (a := sty w set n + wN w (80 + n) * CN w n (-1) (-1)) (by omega) (by omega), ← e]
      have ih1 := ih σ1 (h1.tr f1)
      by_cases c2 : n = y
      · subst c2
        rw [ifnn rfl]
        rw [if_pos (by omega)] at ih1
        exact ih1
      · rw [if_pos (show ¬ (n : Int) = (y : Int) by omega)]
        by_cases c3 : y < n
        · rw [if_pos c3]
          rw [if_pos (by omega)] at ih1
          exact ih1
        · rw [if_neg c3]
          rw [if_neg (by omega)] at ih1
          exact ih1
    · have c' : ¬ set / 2 ^ n % 2 = 1 := fun z => c (tb_iff.2 z)
      rw [if_neg c] at e
      rw [if_neg (by omega)]
      have ih1 := ih σ h1
      have hne : n ≠ y := fun z => c (by rw [z]; exact hy)
      rw [e] at ih1
      by_cases c3 : y < n
      · rw [if_pos c3]
        rw [if_pos (by omega)] at ih1
        exact ih1
      · rw [if_neg c3]
        rw [if_neg (by omega)] at ih1
        exact ih1
theorem pM_story_41 {w : Wd} (g : GI w) {set : Nat} (hset : set < 64) (x2 : Int) (N : Nat) (hN : wN w 1 = (N : Int)) (σ0 : Zm) (h0 : MI w σ0) (P : Int → Zm → Prop) (K : Int → Int → Zm → Zr) (hK : ∀ σ', zfo oMC σ0 σ' → zwp (K x2 (sty w set N) σ') P) : ∀ (d m n : Nat) (σ : Zm), d < m → n + d = N → zfo oMC σ0 σ → zwp (fM_story_41 m (set : Int) x2 (sty w set n) (n : Int) σ K) P
  | 0, m + 1, n, σ, _, hn, h1 => by
    have hM : MI w σ := MI_fo h0 h1 (by unfold oMC oMN; omega) (by unfold oMC oMN; omega) (by unfold oMC oMN; omega)
    have : n = N := by omega
    subst this
    rw [fM_story_41]
    simp only [zwp_let]
    rw [zckj (by decide) (by decide), zwp_let, hM.1.2.2.1 1 (by omega), hN, if_pos (Int.le_refl _)]
    exact hK σ h1
  | d + 1, m + 1, n, σ, hm, hn, h1 => by
    have hM : MI w σ := MI_fo h0 h1 (by unfold oMC oMN; omega) (by unfold oMC oMN; omega) (by unfold oMC oMN; omega)
    have hN6 := (GI_n g).2.1
    have hs := sty_bd g set n (by omega)
    have hw := wc_bd g n (by omega)
    have e : sty w set (n + 1) = if set.testBit n = true then sty w set n + wN w (80 + n) * CN w n (-1) (-1) else sty w set n := rfl
    have ih := fun σ1 => pM_story_41 g hset x2 N hN σ0 h0 P K hK d m (n + 1) σ1 (by omega) (by omega)
    have ez : zw ((n : Int) + 1) = ((n + 1 : Nat) : Int) := by rw [zwj (by omega) (by omega)]; omega
    rw [fM_story_41]
    simp only [zwp_let]
    rw [zckj (by decide) (by decide), zwp_let, hM.1.2.2.1 1 (by omega), hN, if_neg (by omega), zbit (by omega) (by omega), ez]
    by_cases c : set.testBit n = true
    · have := tb_iff.1 c
      rw [if_pos c] at e
      rw [if_neg (by omega), show zw (690 + (n : Int)) = ((690 + n : Nat) : Int) by rw [zwj (by omega) (by omega)]; omega, zckj (by omega) (by omega), zwp_let, Int.toNat_natCast, hM.1.2.2.2.2.2.2 n (by omega)]
      refine mCount g hM (show n < 6 by omega) (by omega) (place := -1) (Or.inl ⟨rfl, rfl⟩) (Or.inl (by decide)) (fun σ1 f1 => ?_)
      rw [zwp_let, zwj (a := sty w set n + wN w (80 + n) * CN w n (-1) (-1)) (by omega) (by omega), ← e]
      exact ih σ1 (h1.tr f1)
    · have c' : ¬ set / 2 ^ n % 2 = 1 := fun z => c (tb_iff.2 z)
      rw [if_neg c] at e
      rw [if_pos (by omega)]
      have ih1 := ih σ h1
      rw [e] at ih1
      exact ih1
theorem st_story (x1 x2 : Int) : St (fun σ => fX_story σ x1 x2) (fun σ => fM_story σ x1 x2) := by
  intro σ h
  have hI := h
  obtain ⟨w, p, g, gp, hX, hM, hXT, hMP⟩ := h
  have hn := (GI_n g).2.1
  obtain ⟨N, hN⟩ : ∃ N : Nat, wN w 1 = (N : Int) := ⟨(wN w 1).toNat, by omega⟩
  have hp6 : 2 ^ N ≤ 2 ^ 6 := Nat.pow_le_pow_right (by omega) (by omega)
  have hnn : (0 : Int) ≤ ((2 ^ N : Nat) : Int) := Int.natCast_nonneg _
  have hpp : 2 ^ 0 ≤ 2 ^ N := Nat.pow_le_pow_right (by omega) (by omega)
  have hz : zw (((2 ^ N : Nat) : Int) - 1) = ((2 ^ N : Nat) : Int) - 1 := zwj (by omega) (by omega)
  have h8 : zrd σ 1 8 = (N : Int) := by rw [hX.1.2.2.2.1, hN]
  have h1 : zrd σ 274 1 = (N : Int) := by rw [hM.1.2.2.1 1 (by omega), hN]
  show zwp (fX_story σ x1 x2) (fun r1 σ1 => zwp (fM_story σ1 x1 x2) (fun r2 σ2 => r1 = r2 ∧ Inv σ2))
  by_cases c : (0 ≤ x2 ∧ x2 < wN w 1) ∧ (0 ≤ x1 ∧ x1 < ((2 ^ N : Nat) : Int)) ∧ x1.toNat.testBit x2.toNat = true
  · obtain ⟨c1, c2, c3⟩ := c
    obtain ⟨y, rfl, hy⟩ := nat_of (x := x2) (n := 6) (by omega)
    obtain ⟨s, rfl, hs⟩ := nat_of (x := x1) (n := 64) (by omega)
    rw [Int.toNat_natCast, Int.toNat_natCast] at c3
    have hb := tb_iff.1 c3
    have hwc := wc_bd g y hy
    have hst := sty_bd g s N (by omega)
    unfold fX_story
    rw [xText_t g hX c1, if_neg (by decide), if_neg (by omega), zwp_let, h8, zshl_n (by omega), if_neg (by omega), zbit (by omega) (by omega), if_pos (by omega)]
    refine pX_story_43 g hs c3 N hN (by omega) σ hX _ _ (fun σ1 f1 => ?_) N 5000 0 σ (by omega) (by omega) zfo.rf
    have g1 : zfo scX σ σ1 := zIn f1 (fun q z => oXb_sc z)
    have hM1 := MI_sX hM g1
    have h11 : zrd σ1 274 1 = (N : Int) := by rw [hM1.1.2.2.1 1 (by omega), hN]
    have hzlc : 0 ≤ zlc (sty w s N) 1 ↔ sty w s N ≠ 0 := by
      unfold zlc
      rw [zx_id (a := sty w s N) (by omega) (by omega), zx_id (a := 1) (by decide) (by decide)]
      split
      · constructor <;> intro _ <;> omega
      · split
        · constructor <;> intro _ <;> omega
        · constructor <;> intro _ <;> omega
    have key : ∀ r : Int, (r = if sty w s N = 0 then -1 else Int.tdiv (1000 * (wN w (80 + y) * CN w y (-1) (-1))) (sty w s N)) → zwp (fM_story σ1 (s : Int) (y : Int)) (fun r2 σ2 => r = r2 ∧ Inv σ2) := by
      intro r hr
      unfold fM_story
      rw [zckj (by decide) (by decide), zwp_let, h11, zshl_n (by omega), hz, mIn_t (by omega), if_neg (by decide), mText_t g hM1 c1, if_neg (by decide), zbit (by omega) (by omega), if_pos (by omega)]
      refine pM_story_41 g hs (y : Int) N hN σ1 hM1 _ _ (fun σ2 f2 => ?_) N 5000 0 σ1 (by omega) (by omega) zfo.rf
      have hM2 : MI w σ2 := MI_fo hM1 f2 (by unfold oMC oMN; omega) (by unfold oMC oMN; omega) (by unfold oMC oMN; omega)
      by_cases d : sty w s N = 0
      · rw [if_pos d] at hr
        rw [ifnn d, zwp_some]
        exact ⟨hr, Inv_sc hI g1 (f2.mono (fun q z => oMC_sc z)) (fun k a b => oMC_k f2 k)⟩
      · rw [if_neg d] at hr
        rw [if_pos d, show zw (690 + (y : Int)) = ((690 + y : Nat) : Int) by rw [zwj (by omega) (by omega)]; omega, zckj (by omega) (by omega), zwp_let, Int.toNat_natCast, hM2.1.2.2.2.2.2.2 y hy]
        refine mCount g hM2 hy c1.2 (place := -1) (Or.inl ⟨rfl, rfl⟩) (Or.inl (by decide)) (fun σ3 f3 => ?_)
        rw [zwp_dv]
        refine ⟨d, ?_⟩
        rw [zwp_some, Int.mul_assoc, zx_id (a := 1000 * (wN w (80 + y) * CN w y (-1) (-1))) (by omega) (by omega)]
        have f13 := f2.tr f3
        exact ⟨hr, Inv_sc hI g1 (f13.mono (fun q z => oMC_sc z)) (fun k a b => oMC_k f13 k)⟩
    by_cases d : sty w s N = 0
    · rw [if_neg (fun z => hzlc.1 z d), zwp_some]
      exact key _ (by rw [if_pos d])
    · rw [if_pos (hzlc.2 d), zwp_dv]
      refine ⟨d, ?_⟩
      rw [zwp_some, zx_id (a := 1000 * (wN w (80 + y) * CN w y (-1) (-1))) (by omega) (by omega)]
      exact key _ (by rw [if_neg d])
  · have e1 : fX_story σ x1 x2 = some (-1, σ) := by
      unfold fX_story
      by_cases c1 : 0 ≤ x2 ∧ x2 < wN w 1
      · rw [xText_t g hX c1, if_neg (by decide)]
        by_cases d : x1 < 0
        · rw [if_pos d]
        · rw [if_neg d]
          dsimp only [zlet]
          rw [h8, zshl_n (by omega)]
          by_cases d2 : ((2 ^ N : Nat) : Int) ≤ x1
          · rw [if_pos d2]
          · obtain ⟨y, rfl, hy⟩ := nat_of (x := x2) (n := 6) (by omega)
            obtain ⟨s, rfl, hs⟩ := nat_of (x := x1) (n := 64) (by omega)
            rw [if_neg d2, zbit (by omega) (by omega), if_neg (fun z => c ⟨c1, ⟨by omega, by omega⟩, tb_iff.2 (by rw [Int.toNat_natCast, Int.toNat_natCast]; omega)⟩)]
      · rw [xText_f g hX c1, if_pos rfl]
    have e2 : fM_story σ x1 x2 = some (-1, σ) := by
      unfold fM_story
      rw [zckj (by decide) (by decide)]
      dsimp only [zlet]
      rw [h1, zshl_n (by omega), hz]
      by_cases d : 0 ≤ x1 ∧ x1 ≤ ((2 ^ N : Nat) : Int) - 1
      · rw [mIn_t d, if_neg (by decide)]
        by_cases c1 : 0 ≤ x2 ∧ x2 < wN w 1
        · obtain ⟨y, rfl, hy⟩ := nat_of (x := x2) (n := 6) (by omega)
          obtain ⟨s, rfl, hs⟩ := nat_of (x := x1) (n := 64) (by omega)
          rw [mText_t g hM c1, if_neg (by decide), zbit (by omega) (by omega), if_neg (fun z => c ⟨c1, ⟨by omega, by omega⟩, tb_iff.2 (by rw [Int.toNat_natCast, Int.toNat_natCast]; omega)⟩)]
        · rw [mText_f g hM c1, if_pos rfl]
      · rw [mIn_f d, if_pos rfl]
    exact St_neg (G := fun σ => fM_story σ x1 x2) hI e1 e2
