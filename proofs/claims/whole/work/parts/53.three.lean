/-! MY OWN: three, chance -/
theorem b3k_st {W : Nat → Int} {x : Int} {s s' : Int × Int × Int} (hs : s.1 = s'.1) (hw : W 0 < s.1) : ∀ k, 1 ≤ k → b3k W x s k = b3k W x s' k
  | 0, h => by omega
  | 1, _ => by
    show (if W 0 < s.1 then (W 0, x, (f3 0 : Int)) else s) = (if W 0 < s'.1 then (W 0, x, (f3 0 : Int)) else s')
    rw [if_pos hw, if_pos (by omega)]
  | k + 2, _ => by
    show (if W (k + 1) < (b3k W x s (k + 1)).1 then _ else _) = (if W (k + 1) < (b3k W x s' (k + 1)).1 then _ else _)
    rw [b3k_st hs hw (k + 1) (by omega)]
theorem b3_st {W : Nat → Nat → Int} {s s' : Int × Int × Int} (hs : s.1 = s'.1) (hw : W 0 0 < s.1) : ∀ i, 1 ≤ i → b3 W s i = b3 W s' i
  | 0, h => by omega
  | 1, _ => b3k_st hs hw 88 (by omega)
  | i + 2, _ => by
    show b3k (W (i + 1)) (f3 (i + 1) : Int) (b3 W s (i + 1)) 88 = b3k (W (i + 1)) (f3 (i + 1) : Int) (b3 W s' (i + 1)) 88
    rw [b3_st hs hw (i + 1) (by omega)]
def tb3 (s : Int × Int × Int) : Prop := (0 ≤ s.2.1 ∧ s.2.1 < 900) ∧ (0 ≤ s.2.2 ∧ s.2.2 < 900)
theorem b3k_tb {W : Nat → Int} {i : Nat} (hi : i < 88) {s : Int × Int × Int} (hs : tb3 s) : ∀ k, k ≤ 88 → tb3 (b3k W (f3 i : Int) s k)
  | 0, _ => hs
  | k + 1, hk => by
    have a1 := f3_lt hi
    have a2 := f3_lt (i := k) (by omega)
    unfold b3k
    split
    · unfold tb3
      simp only []
      omega
    · exact b3k_tb hi hs k (by omega)
theorem b3_tb {W : Nat → Nat → Int} {s : Int × Int × Int} (hs : tb3 s) : ∀ i, i ≤ 88 → tb3 (b3 W s i)
  | 0, _ => hs
  | i + 1, hi => by
    have := b3_tb (W := W) hs i (by omega)
    exact b3k_tb (show i < 88 by omega) this 88 (by omega)
theorem nX_three {w : Wd} {σ : Zm} (g : GI w) (hX : XI w σ) (x1 x2 x3 x4 x5 : Int) (c : ¬ ((0 ≤ x1 ∧ x1 < wN w 1) ∧ (0 ≤ x2 ∧ x2 ≤ 5 ∧ 0 < lbt (wU w x2.toNat)) ∧ (0 ≤ x3 ∧ x3 ≤ 5 ∧ 0 < lbt (wU w x3.toNat)) ∧ (0 ≤ x4 ∧ x4 ≤ 5 ∧ 0 < lbt (wU w x4.toNat)) ∧ (0 ≤ x5 ∧ x5 ≤ 2) ∧ (¬ x2 = x3) ∧ (¬ x2 = x4) ∧ (¬ x3 = x4))) : fX_three σ x1 x2 x3 x4 x5 = some ((-1), σ) := by
  unfold fX_three
  by_cases c0 : 0 ≤ x1 ∧ x1 < wN w 1
  · rw [xText_t g hX c0, if_neg (by decide)]
    by_cases c1 : 0 ≤ x2 ∧ x2 ≤ 5 ∧ 0 < lbt (wU w x2.toNat)
    · rw [xNotes g hX, if_pos c1, if_neg (by decide)]
      by_cases c2 : 0 ≤ x3 ∧ x3 ≤ 5 ∧ 0 < lbt (wU w x3.toNat)
      · rw [xNotes g hX, if_pos c2, if_neg (by decide)]
        by_cases c3 : 0 ≤ x4 ∧ x4 ≤ 5 ∧ 0 < lbt (wU w x4.toNat)
        · rw [xNotes g hX, if_pos c3, if_neg (by decide)]
          by_cases c4 : 0 ≤ x5 ∧ x5 ≤ 2
          · rw [pwithin_t c4, if_pos (by decide)]
            by_cases c5 : ¬ (x2 = x3)
            · rw [if_neg c5]
              by_cases c6 : ¬ (x2 = x4)
              · rw [if_neg c6]
                by_cases c7 : ¬ x3 = x4
                · rw [if_pos c7]
                  exact absurd (by grind) c
                · rw [if_neg c7]
              · rw [if_pos (Decidable.of_not_not c6)]
            · rw [if_pos (Decidable.of_not_not c5)]
          · rw [pwithin_f c4, if_neg (by decide)]
        · rw [xNotes g hX, if_neg c3, if_pos rfl]
      · rw [xNotes g hX, if_neg c2, if_pos rfl]
    · rw [xNotes g hX, if_neg c1, if_pos rfl]
  · rw [xText_f g hX c0, if_pos rfl]
theorem nM_three {w : Wd} {σ : Zm} (g : GI w) (hM : MI w σ) (x1 x2 x3 x4 x5 : Int) (c : ¬ ((0 ≤ x1 ∧ x1 < wN w 1) ∧ (0 ≤ x2 ∧ x2 ≤ 5 ∧ 0 < lbt (wU w x2.toNat)) ∧ (0 ≤ x3 ∧ x3 ≤ 5 ∧ 0 < lbt (wU w x3.toNat)) ∧ (0 ≤ x4 ∧ x4 ≤ 5 ∧ 0 < lbt (wU w x4.toNat)) ∧ (0 ≤ x5 ∧ x5 ≤ 2) ∧ (¬ x2 = x3) ∧ (¬ x2 = x4) ∧ (¬ x3 = x4))) : fM_three σ x1 x2 x3 x4 x5 = some ((-1), σ) := by
  unfold fM_three
  by_cases c0 : 0 ≤ x1 ∧ x1 < wN w 1
  · rw [mText_t g hM c0, if_neg (by decide)]
    by_cases c1 : (0 ≤ x2 ∧ x2 ≤ 5 ∧ 0 < lbt (wU w x2.toNat)) ∧ (0 ≤ x3 ∧ x3 ≤ 5 ∧ 0 < lbt (wU w x3.toNat))
    · rw [mAre g hM, if_pos c1, if_neg (by decide)]
      by_cases c2 : (0 ≤ x2 ∧ x2 ≤ 5 ∧ 0 < lbt (wU w x2.toNat)) ∧ (0 ≤ x4 ∧ x4 ≤ 5 ∧ 0 < lbt (wU w x4.toNat))
      · rw [mAre g hM, if_pos c2, if_neg (by decide)]
        by_cases c3 : ¬ (x2 = x3)
        · rw [if_neg c3]
          by_cases c4 : ¬ (x2 = x4)
          · rw [if_neg c4]
            by_cases c5 : ¬ (x3 = x4)
            · rw [if_neg c5]
              by_cases c6 : 0 ≤ x5 ∧ x5 ≤ 2
              · rw [mIn_t c6, if_pos (by decide)]
                exact absurd (by grind) c
              · rw [mIn_f c6, if_neg (by decide)]
            · rw [if_pos (Decidable.of_not_not c5)]
          · rw [if_pos (Decidable.of_not_not c4)]
        · rw [if_pos (Decidable.of_not_not c3)]
      · rw [mAre g hM, if_neg c2, if_pos rfl]
    · rw [mAre g hM, if_neg c1, if_pos rfl]
  · rw [mText_f g hM c0, if_pos rfl]
theorem st_three (x1 x2 x3 x4 x5 : Int) : St (fun σ => fX_three σ x1 x2 x3 x4 x5) (fun σ => fM_three σ x1 x2 x3 x4 x5) := by
  intro σ h
  have hI := h
  obtain ⟨w, p, g, gp, hX, hM, hXT, hMP⟩ := h
  by_cases c : (0 ≤ x1 ∧ x1 < wN w 1) ∧ (0 ≤ x2 ∧ x2 ≤ 5 ∧ 0 < lbt (wU w x2.toNat)) ∧ (0 ≤ x3 ∧ x3 ≤ 5 ∧ 0 < lbt (wU w x3.toNat)) ∧ (0 ≤ x4 ∧ x4 ≤ 5 ∧ 0 < lbt (wU w x4.toNat)) ∧ (0 ≤ x5 ∧ x5 ≤ 2) ∧ (¬ x2 = x3) ∧ (¬ x2 = x4) ∧ (¬ x3 = x4)
  · obtain ⟨c1, c2, c3, c4, c5, c6, c7, c8⟩ := c
    have hn := (GI_n g).2.1
    obtain ⟨x, rfl, hx⟩ := nat_of (x := x1) (n := 6) (by omega)
    obtain ⟨s, rfl, hs⟩ := nat_of (x := x2) (n := 6) (by omega)
    obtain ⟨r, rfl, hr⟩ := nat_of (x := x3) (n := 6) (by omega)
    obtain ⟨q, rfl, hq⟩ := nat_of (x := x4) (n := 6) (by omega)
    have hl := wTl hX hx c1.2
    have key : ∀ (z : Int) (σ1 : Zm), zfo scX σ σ1 → z = sel x5 (b3 (wth (wT w x) (wU w s) (wU w r) (wU w q) (wN w 0)) (2147483647, 0, 0) 88) → zwp (fM_three σ1 (x : Int) (s : Int) (r : Int) (q : Int) x5) (fun r2 σ2 => z = r2 ∧ Inv σ2) := by
      intro z σ1 f1 hz
      have hM1 := MI_sX hM f1
      unfold fM_three
      rw [mText_t g hM1 c1, if_neg (by decide), mAre g hM1, if_pos ⟨c2, c3⟩, if_neg (by decide), mAre g hM1, if_pos ⟨c2, c4⟩, if_neg (by decide), if_neg c6, if_neg c7, if_neg c8, mIn_t c5, if_pos (by decide)]
      rw [zwp_bv]
      refine zwp_mono (qM_clearSheet σ1) (fun _ σ3 ⟨f3, b3⟩ => ?_)
      have hM3 : MI w σ3 := MI_fo hM1 f3 (by unfold oSh; omega) (by unfold oSh; omega) (by unfold oSh; omega)
      rw [zwp_bv]
      refine zwp_mono (qM_takeForm s hs (g.1.2.1 s) 0 (by omega) 0 (by omega) 0 (by omega) 0 1 (Or.inl rfl) σ3 b3 hM3.1.2.1) (fun _ σ4 ⟨f4, b4⟩ => ?_)
      rw [lff_12] at b4
      have hM4 : MI w σ4 := MI_fo hM3 f4 (by unfold oSh; omega) (by unfold oSh; omega) (by unfold oSh; omega)
      have hu1 : updl (updl (updl (fun _ => zln) 0 (lfo (wU w s) 12)) 1 zln) 2 zln = updl (fun _ => zln) 0 (lfo (wU w s) 12) := by
        funext i t
        unfold updl
        by_cases e2 : i = 2
        · rw [if_pos e2, if_neg (by omega)]
        · rw [if_neg e2]
          by_cases e1 : i = 1
          · rw [if_pos e1, if_neg (by omega)]
          · rw [if_neg e1]
      have := pM_three_79 (x := x) (T := wT w x) (bar := wN w 0) g.1.2.1 s r q hr hq x5 c5 σ4 88 5000 0 σ4 (-1) (-1) (by omega) (by omega) z33.rf ⟨hx, hM4.2.2 x hx c1.2, g.2.2.2 x hx c1.2, hM4.1.2.2.1 0 (by omega), (GI_n g).1, hM4.1.2.1⟩ ⟨zln, zln, by rw [hu1]; exact b4⟩ ⟨fun _ => ⟨rfl, rfl⟩, fun h => absurd rfl h⟩
      refine zwp_mono this (fun u σ5 ⟨f5, e5⟩ => ⟨by rw [hz, e5], ?_⟩)
      have hall : ∀ k, 4 ≤ k → k ≤ 6 → zrd σ5 273 k = zrd σ1 273 k := fun k a b => by rw [f5.2 k (by omega), f4.rd (by unfold oSh; omega), f3.rd (by unfold oSh; omega)]
      exact Inv_sc hI f1 ((f3.mono (fun q z => by unfold oSh at z; unfold scM; omega)).tr ((f4.mono (fun q z => by unfold oSh at z; unfold scM; omega)).tr (f5.1.mono (fun q z => by unfold oM33 oMg at z; unfold scM; omega)))) hall
    show zwp (fX_three σ (x : Int) (s : Int) (r : Int) (q : Int) x5) _
    unfold fX_three
    rw [xText_t g hX c1, if_neg (by decide), xNotes g hX, if_pos c2, if_neg (by decide), xNotes g hX, if_pos c3, if_neg (by decide), xNotes g hX, if_pos c4, if_neg (by decide), pwithin_t c5, if_pos (by decide), if_neg c6, if_neg c7, if_pos c8]
    refine xBegin g hX hx c1.2 hs (fun σ1 f1 k1 => ?_)
    have g1 : zfo scX σ σ1 := zIn f1 (fun q z => oF_sc z)
    obtain ⟨r1, r2⟩ := ru_R hx
    rw [zckj (by omega) (by omega), zckj (by omega) (by omega), zckj (by omega) (by omega), Int.toNat_natCast, Int.toNat_natCast, Int.toNat_natCast, r2, (xSub g hX hr).2.1, (xSub g hX hq).2.1, zwp_bv]
    refine zwp_mono (qF_findThree r1 σ1 (xSub2 g hX hr g1) (xSub2 g hX hq g1) k1) (fun _ σ2 ⟨f2, y1, y2, hb⟩ => ?_)
    have g2 : zfo scX σ σ2 := g1.tr (zIn f2 (fun q z => by unfold oF3 at z; unfold scX; omega))
    obtain ⟨_, e1, e2, e3⟩ := hb
    have hwb := wth_bd hl (wU w s) (wU w r) (wU w q) (wN w 0) 0 0
    rw [b3_st (W := wth (wT w x) (wU w s) (wU w r) (wU w q) (wN w 0)) (s := (2147483647, y1, y2)) (s' := (2147483647, 0, 0)) rfl (show wth (wT w x) (wU w s) (wU w r) (wU w q) (wN w 0) 0 0 < (2147483647 : Int) by omega) 88 (by omega)] at e1 e2 e3
    have ht := b3_tb (W := wth (wT w x) (wU w s) (wU w r) (wU w q) (wN w 0)) (s := (2147483647, 0, 0)) ⟨⟨by decide, by decide⟩, ⟨by decide, by decide⟩⟩ 88 (by omega)
    obtain ⟨⟨t1, t2⟩, t3, t4⟩ := ht
    by_cases d : x5 = 0
    · rw [ifnn d, zwp_let, zwp_some]
      exact key _ σ2 g2 (by unfold sel; rw [if_pos d, e1])
    · rw [if_pos d]
      by_cases d1 : x5 = 1
      · obtain ⟨n, hn2⟩ : ∃ n : Nat, (b3 (wth (wT w x) (wU w s) (wU w r) (wU w q) (wN w 0)) (2147483647, 0, 0) 88).2.1 = (n : Int) := ⟨_, (Int.toNat_of_nonneg t1).symm⟩
        rw [hn2] at e2 t2
        have hcb := fcode_bd n (by omega)
        rw [ifnn d1, zwp_let, e2, zbi_eq (qX_formCode σ2 n (by omega)), zwj (a := fcode n) (by omega) (by omega), zwp_some]
        exact key _ σ2 g2 (by unfold sel; rw [if_neg d, if_pos d1, hn2, Int.toNat_natCast])
      · obtain ⟨n, hn2⟩ : ∃ n : Nat, (b3 (wth (wT w x) (wU w s) (wU w r) (wU w q) (wN w 0)) (2147483647, 0, 0) 88).2.2 = (n : Int) := ⟨_, (Int.toNat_of_nonneg t3).symm⟩
        rw [hn2] at e3 t4
        have hcb := fcode_bd n (by omega)
        rw [if_pos d1, zwp_let, e3, zbi_eq (qX_formCode σ2 n (by omega)), zwj (a := fcode n) (by omega) (by omega), zwp_some]
        exact key _ σ2 g2 (by unfold sel; rw [if_neg d, if_neg d1, hn2, Int.toNat_natCast])
  · exact St_neg hI (nX_three g hX x1 x2 x3 x4 x5 c) (nM_three g hM x1 x2 x3 x4 x5 c)
theorem nX_chance {w : Wd} {σ : Zm} (g : GI w) (hX : XI w σ) (x1 x2 x3 x4 x5 x6 : Int) (c : ¬ ((0 ≤ x1 ∧ x1 < wN w 1) ∧ (0 ≤ x2 ∧ x2 ≤ 5 ∧ 0 < lbt (wU w x2.toNat)) ∧ (0 ≤ x3 ∧ x3 ≤ 5 ∧ 0 < lbt (wU w x3.toNat)) ∧ (0 ≤ x4 ∧ x4 ≤ 1000000) ∧ (1 ≤ x5 ∧ x5 ≤ 40) ∧ (0 ≤ x6 ∧ x6 ≤ 9999))) : fX_chance σ x1 x2 x3 x4 x5 x6 = some ((-1), σ) := by
  unfold fX_chance
  by_cases c0 : 0 ≤ x1 ∧ x1 < wN w 1
  · rw [xText_t g hX c0, if_neg (by decide)]
    by_cases c1 : 0 ≤ x2 ∧ x2 ≤ 5 ∧ 0 < lbt (wU w x2.toNat)
    · rw [xNotes g hX, if_pos c1, if_neg (by decide)]
      by_cases c2 : 0 ≤ x3 ∧ x3 ≤ 5 ∧ 0 < lbt (wU w x3.toNat)
      · rw [xNotes g hX, if_pos c2, if_neg (by decide)]
        by_cases c3 : 0 ≤ x4 ∧ x4 ≤ 1000000
        · rw [pwithin_t c3, if_pos (by decide)]
          by_cases c4 : 1 ≤ x5 ∧ x5 ≤ 40
          · rw [pwithin_t c4, if_neg (by decide)]
            by_cases c5 : 0 ≤ x6 ∧ x6 ≤ 9999
            · rw [pwithin_t c5, if_pos (by decide)]
              exact absurd (by grind) c
            · rw [pwithin_f c5, if_neg (by decide)]
          · rw [pwithin_f c4, if_pos rfl]
        · rw [pwithin_f c3, if_neg (by decide)]
      · rw [xNotes g hX, if_neg c2, if_pos rfl]
    · rw [xNotes g hX, if_neg c1, if_pos rfl]
  · rw [xText_f g hX c0, if_pos rfl]
theorem nM_chance {w : Wd} {σ : Zm} (g : GI w) (hM : MI w σ) (x1 x2 x3 x4 x5 x6 : Int) (c : ¬ ((0 ≤ x1 ∧ x1 < wN w 1) ∧ (0 ≤ x2 ∧ x2 ≤ 5 ∧ 0 < lbt (wU w x2.toNat)) ∧ (0 ≤ x3 ∧ x3 ≤ 5 ∧ 0 < lbt (wU w x3.toNat)) ∧ (0 ≤ x4 ∧ x4 ≤ 1000000) ∧ (1 ≤ x5 ∧ x5 ≤ 40) ∧ (0 ≤ x6 ∧ x6 ≤ 9999))) : fM_chance σ x1 x2 x3 x4 x5 x6 = some ((-1), σ) := by
  unfold fM_chance
  by_cases c0 : 0 ≤ x1 ∧ x1 < wN w 1
  · rw [mText_t g hM c0, if_neg (by decide)]
    by_cases c1 : (0 ≤ x2 ∧ x2 ≤ 5 ∧ 0 < lbt (wU w x2.toNat)) ∧ (0 ≤ x3 ∧ x3 ≤ 5 ∧ 0 < lbt (wU w x3.toNat))
    · rw [mAre g hM, if_pos c1, if_neg (by decide)]
      by_cases c2 : 0 ≤ x4 ∧ x4 ≤ 1000000
      · rw [mLimit_t c2, if_neg (by decide)]
        by_cases c3 : 1 ≤ x5 ∧ x5 ≤ 40
        · rw [mIn_t c3, if_neg (by decide)]
          by_cases c4 : 0 ≤ x6 ∧ x6 ≤ 9999
          · rw [mIn_t c4, if_pos (by decide)]
            exact absurd (by grind) c
          · rw [mIn_f c4, if_neg (by decide)]
        · rw [mIn_f c3, if_pos rfl]
      · rw [mLimit_f c2, if_pos rfl]
    · rw [mAre g hM, if_neg c1, if_pos rfl]
  · rw [mText_f g hM c0, if_pos rfl]
theorem l20_U {w : Wd} (g : GI w) (s : Nat) : l20 (wU w s) := fun t => by
  rcases (g.1.2.1 s t).1 with h | ⟨_, h2, h3⟩
  · rw [h]; exact ⟨by decide, by decide⟩
  · exact ⟨h2, h3⟩
theorem bst_an (P : Nat → Int) : ∀ (n i : Nat), i ≤ n → (bst P n).1 ≤ (bst P i).1
  | 0, i, h => by
    have : i = 0 := by omega
    subst this
    exact Int.le_refl _
  | n + 1, i, h => by
    by_cases c : i = n + 1
    · subst c; exact Int.le_refl _
    · have := bst_an P n i (by omega)
      have e : bst P (n + 1) = if P n < (bst P n).1 then (P n, (n : Int)) else bst P n := rfl
      rw [e]
      split
      · simp only []; omega
      · exact this
def cnc (T : List Cl) (bar : Int) (one a : Ln) (limit : Int) (seed : Nat) : Nat → Int
  | 0 => 0
  | n + 1 => if (bst (fpr T one (shs a (seed + 1000 * n)) bar) 900).1 ≤ limit then cnc T bar one a limit seed n + 1 else cnc T bar one a limit seed n
theorem cnc_bd (T : List Cl) (bar : Int) (one a : Ln) (limit : Int) (seed : Nat) : ∀ n : Nat, 0 ≤ cnc T bar one a limit seed n ∧ cnc T bar one a limit seed n ≤ n
  | 0 => ⟨Int.le_refl _, Int.le_refl _⟩
  | n + 1 => by
    have := cnc_bd T bar one a limit seed n
    unfold cnc
    split <;> omega
theorem bst_lim {P : Nat → Int} (h0 : ∀ k, 0 ≤ P k) {i : Nat} {e : Int} (he : 0 ≤ e) (hi : i ≤ 900) (h : i = 900 ∨ (bst P i).1 ≤ max 0 e) : (bst P i).1 ≤ e ↔ (bst P 900).1 ≤ e := by
  rcases h with h | h
  · rw [h]
  · have : (bst P 900).1 ≤ (bst P i).1 := bst_an P 900 i hi
    constructor <;> intro _ <;> omega
theorem pX_chance_97 {x r : Nat} {T : List Cl} {bar : Int} {one a : Ln} {limit : Int} (hx : x < 6) (hr : r < 6) (hTl : T.length ≤ 10) (hl : 0 ≤ limit) (ha : l20 a) (hz : zRF 3 r = 57 + 3 * r) (many seed : Nat) (hmn : many ≤ 40) (hsd : seed ≤ 9999) (σ0 : Zm) (hs : sok (57 + 3 * r) a σ0) : ∀ (d m n : Nat) (σ : Zm), d < m → n + d = many → zfo oF σ0 σ → fok (225 + 6 * x) T bar one σ → zwp (fX_chance_97 m (x : Int) (r : Int) limit (many : Int) (seed : Int) (cnc T bar one a limit seed n) (n : Int) σ) (fun r σ' => zfo oF σ0 σ' ∧ r = cnc T bar one a limit seed many)
  | 0, m + 1, n, σ, _, hn, h1, h2 => by
    have : n = many := by omega
    subst this
    rw [fX_chance_97]
    simp only [zwp_let]
    rw [if_pos (by omega), zwp_some]
    exact ⟨h1, rfl⟩
  | d + 1, m + 1, n, σ, hm, hn, h1, h2 => by
    obtain ⟨r1, r2⟩ := ru_R hx
    have hcb := cnc_bd T bar one a limit seed n
    have hso : sok (57 + 3 * r) a σ := sok_fo hs h1 (by unfold oF; omega) (by unfold oF; omega)
    rw [fX_chance_97]
    simp only [zwp_let]
    rw [if_neg (by omega), zckj (by omega) (by omega), Int.toNat_natCast, hz, show zw ((seed : Int) + 1000 * (n : Int)) = ((seed + 1000 * n : Nat) : Int) by rw [zwj (by omega) (by omega)]; omega, zwp_bv]
    refine zwp_mono (qF_shuffle σ hso (by omega) ha (seed + 1000 * n) (by omega)) (fun _ σ1 ⟨f1, k1⟩ => ?_)
    rw [zckj (by omega) (by omega), Int.toNat_natCast, r2, zwp_bv]
    have k2 : fok (225 + 6 * x) T bar one σ1 := fok_fo h2 r1 f1 (f1.rd (by unfold oFs; omega) _) (fun q z => by unfold oFs at z; omega)
    refine zwp_mono (qF_findCheapest r1 σ1 k1 limit k2) (fun _ σ2 ⟨f2, k3, i, hi, e1, e2, e3⟩ => ?_)
    have f12 : zfo oF σ0 σ2 := (h1.tr (f1.mono (fun q z => by unfold oFs at z; unfold oF; omega))).tr (f2.mono (fun q z => by unfold oFp at z; unfold oF; omega))
    have hbl := bst_lim (fun k => (fpr_bd hTl one (shs a (seed + 1000 * n)) bar k).1) hl hi e3
    rw [zwp_let, e1, show zw ((n : Int) + 1) = ((n + 1 : Nat) : Int) by rw [zwj (by omega) (by omega)]; omega]
    have e : cnc T bar one a limit seed (n + 1) = if (bst (fpr T one (shs a (seed + 1000 * n)) bar) 900).1 ≤ limit then cnc T bar one a limit seed n + 1 else cnc T bar one a limit seed n := rfl
    have ih := pX_chance_97 hx hr hTl hl ha hz many seed hmn hsd σ0 hs d m (n + 1) σ2 (by omega) (by omega) f12 k3
    by_cases c : (bst (fpr T one (shs a (seed + 1000 * n)) bar) i).1 ≤ limit
    · rw [if_neg (by omega), zwj (a := cnc T bar one a limit seed n + 1) (by omega) (by omega)]
      rw [e, if_pos (hbl.1 c)] at ih
      exact ih
    · rw [if_pos (by omega)]
      rw [e, if_neg (fun q => c (hbl.2 q))] at ih
      exact ih
theorem fitf_any (P : Nat → Int) (limit i : Int) : ∀ n : Nat, (0 < (fitf P limit i n).1 ↔ ∃ k, k < n ∧ P k ≤ limit)
  | 0 => ⟨fun h => absurd h (by show ¬ (0 : Int) < 0; decide), fun ⟨k, hk, _⟩ => absurd hk (by omega)⟩
  | n + 1 => by
    have ih := fitf_any P limit i n
    have hb := fitf_bd P limit i n
    have e : fitf P limit i (n + 1) = if P n ≤ limit then ((fitf P limit i n).1 + 1, if (fitf P limit i n).1 = i then fcode n else (fitf P limit i n).2) else fitf P limit i n := rfl
    by_cases c : P n ≤ limit
    · rw [e, if_pos c]
      exact ⟨fun _ => ⟨n, by omega, c⟩, fun _ => by simp only []; omega⟩
    · rw [e, if_neg c]
      constructor
      · intro h
        obtain ⟨k, h1, h2⟩ := ih.1 h
        exact ⟨k, by omega, h2⟩
      · rintro ⟨k, h1, h2⟩
        exact ih.2 ⟨k, by
          by_cases q : k = n
          · subst q; exact absurd h2 c
          · omega, h2⟩
theorem bst_any (P : Nat → Int) (limit : Int) (hl : limit < 2147483647) : ∀ n : Nat, ((bst P n).1 ≤ limit ↔ ∃ k, k < n ∧ P k ≤ limit)
  | 0 => ⟨fun h => absurd h (by show ¬ (2147483647 : Int) ≤ limit; omega), fun ⟨k, hk, _⟩ => absurd hk (by omega)⟩
  | n + 1 => by
    have ih := bst_any P limit hl n
    have e : bst P (n + 1) = if P n < (bst P n).1 then (P n, (n : Int)) else bst P n := rfl
    by_cases c : P n < (bst P n).1
    · rw [e, if_pos c]
      constructor
      · intro h
        exact ⟨n, by omega, h⟩
      · rintro ⟨k, h1, h2⟩
        by_cases q : k = n
        · subst q; exact h2
        · have := ih.2 ⟨k, by omega, h2⟩
          show P n ≤ limit
          omega
    · rw [e, if_neg c]
      constructor
      · intro h
        obtain ⟨k, h1, h2⟩ := ih.1 h
        exact ⟨k, by omega, h2⟩
      · rintro ⟨k, h1, h2⟩
        by_cases q : k = n
        · subst q; omega
        · exact ih.2 ⟨k, by omega, h2⟩
theorem pM_chance_56 {w : Wd} {x s r : Nat} (g : GI w) (hx : x < 6) (hxn : (x : Int) < wN w 1) (hs : s < 6) (hr : r < 6) {limit : Int} (hl : 0 ≤ limit ∧ limit ≤ 1000000) (many seed : Nat) (hmn : many ≤ 40) (hsd : seed ≤ 9999) (σ0 : Zm) : ∀ (d m n : Nat) (σ : Zm), d < m → n + d = many → zfo scM σ0 σ → (∀ k, k ≤ 25 → zrd σ 273 k = zrd σ0 273 k) → MI w σ → zwp (fM_chance_56 m (x : Int) (s : Int) (r : Int) limit (many : Int) (seed : Int) (cnc (wT w x) (wN w 0) (wU w s) (wU w r) limit seed n) (n : Int) σ) (fun r2 σ' => zfo scM σ0 σ' ∧ (∀ k, k ≤ 25 → zrd σ' 273 k = zrd σ0 273 k) ∧ r2 = cnc (wT w x) (wN w 0) (wU w s) (wU w r) limit seed many)
  | 0, m + 1, n, σ, _, hn, h1, h2, h3 => by
    have : n = many := by omega
    subst this
    rw [fM_chance_56]
    simp only [zwp_let]
    rw [if_pos (by omega), zwp_some]
    exact ⟨h1, h2, rfl⟩
  | d + 1, m + 1, n, σ, hm, hn, h1, h2, h3 => by
    have hcb := cnc_bd (wT w x) (wN w 0) (wU w s) (wU w r) limit seed n
    rw [fM_chance_56]
    simp only [zwp_let]
    rw [if_neg (by omega)]
    refine mPrep g h3 hx hxn hs hr (fun σ2 f2 e2 k2 => ?_)
    rw [show zw ((seed : Int) + 1000 * (n : Int)) = ((seed + 1000 * n : Nat) : Int) by rw [zwj (by omega) (by omega)]; omega]
    obtain ⟨y1, y2, y3, y4, y5, y6, b, y7⟩ := k2
    refine qM_shuffled (lss_U g r) (l20_U g r) (seed + 1000 * n) (by omega) σ2 y6 (fun σ3 f3 b3 b4 => ?_)
    rw [zwp_bv]
    refine zwp_mono (qM_goThrough (x := x) (T := wT w x) (bar := wN w 0) (lss_U g s) b4 limit (-1) rfl σ3 ⟨y1, TRm_fo f3 (by omega) y2, y3, by rw [f3.rd (by omega)]; exact y4, y5, b3, b, MV_fo y7 f3 (by omega) (by omega)⟩) (fun _ σ4 ⟨f4, k4, a1, a2, a3, a4, a5⟩ => ?_)
    have f14 : zfo scM σ0 σ4 := ((h1.tr f2).tr (f3.mono (fun q z => by unfold scM; omega))).tr (f4.mono (fun q z => oMg_sc z))
    have e14 : ∀ k, k ≤ 25 → zrd σ4 273 k = zrd σ0 273 k := fun k hk => by rw [a5 k (by omega), f3.rd (by omega), e2 k hk, h2 k hk]
    have h34 : MI w σ4 := MI_fo h3 ((f2.tr (f3.mono (fun q z => by unfold scM; omega))).tr (f4.mono (fun q z => oMg_sc z))) (by unfold scM; omega) (by unfold scM; omega) (by unfold scM; omega)
    have e : cnc (wT w x) (wN w 0) (wU w s) (wU w r) limit seed (n + 1) = if (bst (fpr (wT w x) (wU w s) (shs (wU w r) (seed + 1000 * n)) (wN w 0)) 900).1 ≤ limit then cnc (wT w x) (wN w 0) (wU w s) (wU w r) limit seed n + 1 else cnc (wT w x) (wN w 0) (wU w s) (wU w r) limit seed n := rfl
    have q1 := fitf_any (fpr (wT w x) (wU w s) (shs (wU w r) (seed + 1000 * n)) (wN w 0)) limit (-1) 900
    have q2 := bst_any (fpr (wT w x) (wU w s) (shs (wU w r) (seed + 1000 * n)) (wN w 0)) limit (by omega) 900
    have ih := pM_chance_56 g hx hxn hs hr hl many seed hmn hsd σ0 d m (n + 1) σ4 (by omega) (by omega) f14 e14 h34
    rw [zwp_let, a1, show zw ((n : Int) + 1) = ((n + 1 : Nat) : Int) by rw [zwj (by omega) (by omega)]; omega]
    by_cases c : ∃ k, k < 900 ∧ fpr (wT w x) (wU w s) (shs (wU w r) (seed + 1000 * n)) (wN w 0) k ≤ limit
    · have := q1.2 c
      rw [if_neg (by omega), zwp_let, zwj (a := cnc (wT w x) (wN w 0) (wU w s) (wU w r) limit seed n + 1) (by omega) (by omega)]
      rw [e, if_pos (q2.2 c)] at ih
      exact ih
    · have : ¬ 0 < (fitf (fpr (wT w x) (wU w s) (shs (wU w r) (seed + 1000 * n)) (wN w 0)) limit (-1) 900).1 := fun q => c (q1.1 q)
      rw [if_pos (by omega), zwp_let, show zw (cnc (wT w x) (wN w 0) (wU w s) (wU w r) limit seed n + 0) = cnc (wT w x) (wN w 0) (wU w s) (wU w r) limit seed n by rw [Int.add_zero, zwj (by omega) (by omega)]]
      rw [e, if_neg (fun q => c (q2.1 q))] at ih
      exact ih
theorem st_chance (x1 x2 x3 x4 x5 x6 : Int) : St (fun σ => fX_chance σ x1 x2 x3 x4 x5 x6) (fun σ => fM_chance σ x1 x2 x3 x4 x5 x6) := by
  intro σ h
  have hI := h
  obtain ⟨w, p, g, gp, hX, hM, hXT, hMP⟩ := h
  by_cases c : (0 ≤ x1 ∧ x1 < wN w 1) ∧ (0 ≤ x2 ∧ x2 ≤ 5 ∧ 0 < lbt (wU w x2.toNat)) ∧ (0 ≤ x3 ∧ x3 ≤ 5 ∧ 0 < lbt (wU w x3.toNat)) ∧ (0 ≤ x4 ∧ x4 ≤ 1000000) ∧ (1 ≤ x5 ∧ x5 ≤ 40) ∧ (0 ≤ x6 ∧ x6 ≤ 9999)
  · obtain ⟨c1, c2, c3, c4, c5, c6⟩ := c
    have hn := (GI_n g).2.1
    obtain ⟨x, rfl, hx⟩ := nat_of (x := x1) (n := 6) (by omega)
    obtain ⟨s, rfl, hs⟩ := nat_of (x := x2) (n := 6) (by omega)
    obtain ⟨r, rfl, hr⟩ := nat_of (x := x3) (n := 6) (by omega)
    obtain ⟨mn, rfl, hmn⟩ := nat_of (x := x5) (n := 41) (by omega)
    obtain ⟨sd, rfl, hsd⟩ := nat_of (x := x6) (n := 10000) (by omega)
    have hl := wTl hX hx c1.2
    show zwp (fX_chance σ (x : Int) (s : Int) (r : Int) x4 (mn : Int) (sd : Int)) _
    unfold fX_chance
    rw [xText_t g hX c1, if_neg (by decide), xNotes g hX, if_pos c2, if_neg (by decide), xNotes g hX, if_pos c3, if_neg (by decide), pwithin_t c4, if_pos (by decide), pwithin_t c5, if_neg (by decide), pwithin_t c6, if_pos (by decide)]
    refine xBegin g hX hx c1.2 hs (fun σ1 f1 k1 => ?_)
    have g1 : zfo scX σ σ1 := zIn f1 (fun q z => oF_sc z)
    refine zwp_mono (pX_chance_97 hx hr hl c4.1 (l20_U g r) (xSub g hX hr).2.1 mn sd (by omega) (by omega) σ1 (xSub2 g hX hr g1) mn 5000 0 σ1 (by omega) (by omega) zfo.rf k1) (fun u σ2 ⟨f2, e2⟩ => ?_)
    have g2 : zfo scX σ σ2 := g1.tr (zIn f2 (fun q z => oF_sc z))
    have hM1 := MI_sX hM g2
    show zwp (fM_chance σ2 (x : Int) (s : Int) (r : Int) x4 (mn : Int) (sd : Int)) _
    unfold fM_chance
    rw [mText_t g hM1 c1, if_neg (by decide), mAre g hM1, if_pos ⟨c2, c3⟩, if_neg (by decide), mLimit_t c4, if_neg (by decide), mIn_t c5, if_neg (by decide), mIn_t c6, if_pos (by decide)]
    refine zwp_mono (pM_chance_56 g hx c1.2 hs hr c4 mn sd (by omega) (by omega) σ2 mn 5000 0 σ2 (by omega) (by omega) zfo.rf (fun _ _ => rfl) hM1) (fun v σ3 ⟨f3, k3, e3⟩ => ?_)
    exact ⟨by rw [e2, e3], Inv_sc hI g2 f3 (fun k a b => k3 k (by omega))⟩
  · exact St_neg hI (nX_chance g hX x1 x2 x3 x4 x5 x6 c) (nM_chance g hM x1 x2 x3 x4 x5 x6 c)
