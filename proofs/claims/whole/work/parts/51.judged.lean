/-! MY OWN: the methods that judge a piece -/
def St (F G : Zm → Zr) : Prop := ∀ σ, Inv σ → zwp (F σ) (fun r1 σ1 => zwp (G σ1) (fun r2 σ2 => r1 = r2 ∧ Inv σ2))
theorem St_neg {σ : Zm} {F : Zr} {G : Zm → Zr} {a : Int} (h : Inv σ) (e : F = some (a, σ)) (e2 : G σ = some (a, σ)) : zwp F (fun r1 σ1 => zwp (G σ1) (fun r2 σ2 => r1 = r2 ∧ Inv σ2)) := by
  rw [e, zwp_some, e2, zwp_some]
  exact ⟨rfl, h⟩
/-- the reference's judge over a piece -/
theorem mJudge {w : Wd} {σ : Zm} (g : GI w) (h : MI w σ) {x p : Nat} (hx : x < 6) (hxn : (x : Int) < wN w 1) (hp : p < 4) (t : Nat) (ht : t ≤ 32) (i : Int) (hi : zw i = i) {F : Int → Zm → Zr} {P : Int → Zm → Prop} (hF : ∀ r σ', zfo scM σ σ' → (∀ k, k ≤ 25 → zrd σ' 273 k = zrd σ 273 k) → ml σ' (abk (wT w x) (fun v => wV w (4 * p + v)) (wN w 0) (32 - t) t) → zrd σ' 273 28 = i → r = zw (lsum (abk (wT w x) (fun v => wV w (4 * p + v)) (wN w 0) (32 - t) t)) → zwp (F r σ') P) : zwp (zbv (fM_layPiece σ (p : Int)) fun σ5 => zbi (fM_judge σ5 (x : Int) (t : Int) i) F) P := by
  rw [zwp_bv]
  refine zwp_mono (qM_layPiece g.1.1 p hp σ h.1.1) (fun _ σ1 ⟨f1, b1⟩ => ?_)
  have h1 : MI w σ1 := MI_fo h f1 (by omega) (by omega) (by omega)
  rw [zwp_bi]
  refine zwp_mono (qM_judge (mJok g h1 hx hxn b1 (fun v _ => vok_sm (g.1.1 _))) t ht i hi) (fun r σ2 ⟨f2, e2, l2, e3, e4⟩ => ?_)
  have ez : zw r = r := by rw [e4, zw_w]
  rw [ez]
  refine hF r σ2 ((f1.mono (fun q z => by unfold scM; omega)).tr (f2.mono (fun q z => by unfold oMJ at z; unfold scM; omega))) (fun k hk => ?_) l2 e3 e4
  rw [e2 k (by omega) (by omega) (by omega), f1.rd (by omega)]
theorem h10 {w : Wd} {σ : Zm} (h : XI w σ) {x : Nat} (hx : x < 6) (hxn : (x : Int) < wN w 1) : (wT w x).length ≤ 10 := (h.2.2 x hx hxn).2.1
theorem oJ_sc {q : Nat} (h : oJ 153 q) : scX q := by unfold oJ at h; unfold scX; omega
theorem nX_price {w : Wd} {σ : Zm} (g : GI w) (hX : XI w σ) (x1 x2 : Int) (c : ¬ ((0 ≤ x1 ∧ x1 < wN w 1) ∧ (0 ≤ x2 ∧ x2 ≤ 3))) : fX_price σ x1 x2 = some ((-1), σ) := by
  unfold fX_price
  by_cases c0 : 0 ≤ x1 ∧ x1 < wN w 1
  · rw [xText_t g hX c0, if_neg (by decide)]
    by_cases c1 : 0 ≤ x2 ∧ x2 ≤ 3
    · rw [xPiece_t c1, if_pos (by decide)]
      exact absurd (by grind) c
    · rw [xPiece_f c1, if_neg (by decide)]
  · rw [xText_f g hX c0, if_pos rfl]
theorem nM_price {w : Wd} {σ : Zm} (g : GI w) (hM : MI w σ) (x1 x2 : Int) (c : ¬ ((0 ≤ x1 ∧ x1 < wN w 1) ∧ (0 ≤ x2 ∧ x2 ≤ 3))) : fM_price σ x1 x2 = some ((-1), σ) := by
  unfold fM_price
  by_cases c0 : 0 ≤ x1 ∧ x1 < wN w 1
  · rw [mText_t g hM c0, if_neg (by decide)]
    by_cases c1 : 0 ≤ x2 ∧ x2 ≤ 3
    · rw [mPiece_t c1, if_pos (by decide)]
      exact absurd (by grind) c
    · rw [mPiece_f c1, if_neg (by decide)]
  · rw [mText_f g hM c0, if_pos rfl]
theorem st_price (x1 x2 : Int) : St (fun σ => fX_price σ x1 x2) (fun σ => fM_price σ x1 x2) := by
  intro σ h
  have hI := h
  obtain ⟨w, p, g, gp, hX, hM, hXT, hMP⟩ := h
  by_cases c : (0 ≤ x1 ∧ x1 < wN w 1) ∧ (0 ≤ x2 ∧ x2 ≤ 3)
  · obtain ⟨c1, c2⟩ := c
    have hn := (GI_n g).2.1
    obtain ⟨x, rfl, hx⟩ := nat_of (x := x1) (n := 6) (by omega)
    obtain ⟨y, rfl, hy⟩ := nat_of (x := x2) (n := 4) (by omega)
    show zwp (fX_price σ (x : Int) (y : Int)) _
    unfold fX_price
    rw [xText_t g hX c1, if_neg (by decide), xPiece_t c2, if_pos (by decide)]
    refine xJudge g hX hx c1.2 hy 0 (by omega) (-1) rfl (fun σ1 f1 e4 hl => ?_)
    have fs : zfo scX σ σ1 := zIn f1 (fun q z => oJ_sc z)
    have hM1 := MI_sX hM fs
    rw [zwp_let, zwp_some]
    show zwp (fM_price σ1 (x : Int) (y : Int)) _
    unfold fM_price
    rw [mText_t g hM1 c1, if_neg (by decide), mPiece_t c2, if_pos (by decide)]
    refine mJudge g hM1 hx c1.2 hy 0 (by omega) (-1) rfl (fun r σ2 f2 e5 _ _ e6 => ?_)
    rw [zwp_some]
    exact ⟨by rw [hl.2.1, e6], Inv_sc hI fs f2 (fun k a b => e5 k (by omega))⟩
  · exact St_neg hI (nX_price g hX x1 x2 c) (nM_price g hM x1 x2 c)
theorem nX_breaks {w : Wd} {σ : Zm} (g : GI w) (hX : XI w σ) (x1 x2 x3 x4 : Int) (c : ¬ ((0 ≤ x1 ∧ x1 < wN w 1) ∧ (0 ≤ x2 ∧ x2 ≤ 3))) : fX_breaks σ x1 x2 x3 x4 = some ((-1), σ) := by
  unfold fX_breaks
  by_cases c0 : 0 ≤ x1 ∧ x1 < wN w 1
  · rw [xText_t g hX c0, if_neg (by decide)]
    by_cases c1 : 0 ≤ x2 ∧ x2 ≤ 3
    · rw [xPiece_t c1, if_pos (by decide)]
      exact absurd (by grind) c
    · rw [xPiece_f c1, if_neg (by decide)]
  · rw [xText_f g hX c0, if_pos rfl]
theorem nM_breaks {w : Wd} {σ : Zm} (g : GI w) (hM : MI w σ) (x1 x2 x3 x4 : Int) (c : ¬ ((0 ≤ x1 ∧ x1 < wN w 1) ∧ (0 ≤ x2 ∧ x2 ≤ 3))) : fM_breaks σ x1 x2 x3 x4 = some ((-1), σ) := by
  unfold fM_breaks
  by_cases c0 : 0 ≤ x1 ∧ x1 < wN w 1
  · rw [mText_t g hM c0, if_neg (by decide)]
    by_cases c1 : 0 ≤ x2 ∧ x2 ≤ 3
    · rw [mPiece_t c1, if_neg (by decide)]
      exact absurd ⟨c0, c1⟩ c
    · rw [mPiece_f c1, if_pos rfl]
  · rw [mText_f g hM c0, if_pos rfl]
theorem st_breaks (x1 x2 x3 x4 : Int) (h3 : zw x3 = x3) : St (fun σ => fX_breaks σ x1 x2 x3 x4) (fun σ => fM_breaks σ x1 x2 x3 x4) := by
  intro σ h
  have hI := h
  obtain ⟨w, p, g, gp, hX, hM, hXT, hMP⟩ := h
  by_cases c : (0 ≤ x1 ∧ x1 < wN w 1) ∧ (0 ≤ x2 ∧ x2 ≤ 3)
  · obtain ⟨c1, c2⟩ := c
    have hn := (GI_n g).2.1
    obtain ⟨x, rfl, hx⟩ := nat_of (x := x1) (n := 6) (by omega)
    obtain ⟨y, rfl, hy⟩ := nat_of (x := x2) (n := 4) (by omega)
    show zwp (fX_breaks σ (x : Int) (y : Int) x3 x4) _
    unfold fX_breaks
    rw [xText_t g hX c1, if_neg (by decide), xPiece_t c2, if_pos (by decide)]
    refine xJudge g hX hx c1.2 hy 0 (by omega) x3 h3 (fun σ1 f1 e4 hl => ?_)
    have fs : zfo scX σ σ1 := zIn f1 (fun q z => oJ_sc z)
    have hM1 := MI_sX hM fs
    obtain ⟨l1, l2, l3⟩ := hl
    have hb := abk_len (h10 hX hx c1.2) (fun v => wV w (4 * y + v)) (wN w 0) 32 0
    rw [show 32 - 0 = 32 from rfl] at l1 l2 l3
    have hL : zrd σ1 153 5 = ((abk (wT w x) (fun v => wV w (4 * y + v)) (wN w 0) 32 0).length : Int) := by rw [l1, zwj (by omega) (by omega)]
    have hgo : ∀ (Q : Int → Prop), Q (zrd σ1 153 5) → Q ((abk (wT w x) (fun v => wV w (4 * y + v)) (wN w 0) 32 0).length : Int) := fun Q q => by rw [← hL]; exact q
    by_cases d1 : x3 = -1
    · rw [if_neg (by omega), zwp_let, zwp_some]
      show zwp (fM_breaks σ1 (x : Int) (y : Int) x3 x4) _
      unfold fM_breaks
      rw [mText_t g hM1 c1, if_neg (by decide), mPiece_t c2, if_neg (by decide), if_neg (by omega), if_pos (by omega)]
      unfold fM_breaks_36
      refine mJudge g hM1 hx c1.2 hy 0 (by omega) x3 h3 (fun r σ2 f2 e5 l4 e7 e6 => ?_)
      rw [if_neg (by omega), zwp_let, zwp_some, l1, l4.1]
      exact ⟨rfl, Inv_sc hI fs f2 (fun k a b => e5 k (by omega))⟩
    · rw [if_pos d1]
      by_cases d2 : x3 < 0
      · rw [if_pos d2, zwp_some]
        show zwp (fM_breaks σ1 (x : Int) (y : Int) x3 x4) _
        unfold fM_breaks
        rw [mText_t g hM1 c1, if_neg (by decide), mPiece_t c2, if_neg (by decide), if_pos (by omega), zwp_some]
        exact ⟨rfl, Inv_sc hI fs zfo.rf (fun k a b => rfl)⟩
      · obtain ⟨z, rfl⟩ : ∃ z : Nat, x3 = (z : Int) := ⟨x3.toNat, by omega⟩
        rw [if_neg d2, zwp_let]
        by_cases d4 : 0 ≤ x4 ∧ x4 ≤ 4
        · obtain ⟨u, rfl, hu⟩ := nat_of (x := x4) (n := 5) (by omega)
          have key : ∀ (r : Int), (if zrd σ1 153 5 ≤ (z : Int) then r = -1 else r = zrd σ1 156 u) → zwp (fM_breaks σ1 (x : Int) (y : Int) (z : Int) (u : Int)) (fun r2 σ2 => r = r2 ∧ Inv σ2) := by
            intro r hr
            unfold fM_breaks
            rw [mText_t g hM1 c1, if_neg (by decide), mPiece_t c2, if_neg (by decide), if_neg (by omega), if_neg (by omega), mIn_t d4, if_pos (by decide)]
            unfold fM_breaks_36
            refine mJudge g hM1 hx c1.2 hy 0 (by omega) z h3 (fun r3 σ2 f2 e5 l4 e7 e6 => ?_)
            rw [show 32 - 0 = 32 from rfl] at l4
            rw [if_pos d1, zwp_let, l4.1, ← l1]
            by_cases d5 : zrd σ1 153 5 ≤ (z : Int)
            · rw [if_pos d5] at hr
              rw [if_pos d5, zwp_some]
              exact ⟨hr, Inv_sc hI fs f2 (fun k a b => e5 k (by omega))⟩
            · rw [if_neg d5] at hr
              rw [if_neg d5, zckj (by omega) (by omega), zwp_let, zwp_some, Int.toNat_natCast u]
              refine ⟨?_, Inv_sc hI fs f2 (fun k a b => e5 k (by omega))⟩
              obtain ⟨b, hb2⟩ : ∃ b, (abk (wT w x) (fun v => wV w (4 * y + v)) (wN w 0) 32 0)[z]? = some b := ⟨_, List.getElem?_eq_getElem (by omega)⟩
              have q1 := l3 (by omega) z b hb2 e4
              have q2 := l4.2.2 (by omega) z b hb2 e7
              rw [hr]
              rcases (show u = 0 ∨ u = 1 ∨ u = 2 ∨ u = 3 ∨ u = 4 by omega) with e | e | e | e | e <;> subst e
              · rw [q1.1, q2.1]
              · rw [q1.2.1, q2.2.1]
              · rw [q1.2.2.1, q2.2.2.1]
              · rw [q1.2.2.2.1, q2.2.2.2.1]
              · rw [q1.2.2.2.2, q2.2.2.2.2]
          by_cases d5 : zrd σ1 153 5 ≤ (z : Int)
          · rw [if_pos d5, zwp_some]
            exact key (-1) (by rw [if_pos d5])
          · rw [if_neg d5, pwithin_t d4, if_pos (by decide), zckj (by omega) (by omega), zwp_let, zwp_some, Int.toNat_natCast u]
            exact key _ (by rw [if_neg d5])
        · have key : zwp (fM_breaks σ1 (x : Int) (y : Int) (z : Int) x4) (fun r2 σ2 => -1 = r2 ∧ Inv σ2) := by
            unfold fM_breaks
            rw [mText_t g hM1 c1, if_neg (by decide), mPiece_t c2, if_neg (by decide), if_neg (by omega), if_neg (by omega), mIn_f d4, if_neg (by decide), zwp_some]
            exact ⟨rfl, Inv_sc hI fs zfo.rf (fun k a b => rfl)⟩
          by_cases d5 : zrd σ1 153 5 ≤ (z : Int)
          · rw [if_pos d5, zwp_some]
            exact key
          · rw [if_neg d5, pwithin_f d4, if_neg (by decide), zwp_some]
            exact key
  · exact St_neg hI (nX_breaks g hX x1 x2 x3 x4 c) (nM_breaks g hM x1 x2 x3 x4 c)
