/-! MY OWN: subject, copy, image, back, about -/
theorem lbt_le (a : Ln) : lbt a ≤ 32 := pbt_le _ _
theorem st_subject (x1 x2 x3 x4 : Int) (h3 : zw x3 = x3) : St (fun σ => fX_subject σ x1 x2 x3 x4) (fun σ => fM_subject σ x1 x2 x3 x4) := by
  intro σ h
  have hI := h
  obtain ⟨w, p, g, gp, hX, hM, hXT, hMP⟩ := h
  show zwp (fX_subject σ x1 x2 x3 x4) (fun r1 σ1 => zwp (fM_subject σ1 x1 x2 x3 x4) (fun r2 σ2 => r1 = r2 ∧ Inv σ2))
  by_cases c : (0 ≤ x1 ∧ x1 ≤ 5) ∧ ((1 ≤ x4 ∧ x4 ≤ 4) ∧ 0 ≤ x2 ∧ x2 ≤ 12 - x4) ∧ (x3 = -100 ∨ (-20 ≤ x3 ∧ x3 ≤ 20))
  · obtain ⟨c1, ⟨c4, c2⟩, c3⟩ := c
    obtain ⟨s, rfl, hs⟩ := nat_of (x := x1) (n := 6) (by omega)
    obtain ⟨b, rfl, hb⟩ := nat_of (x := x2) (n := 12) (by omega)
    obtain ⟨l, rfl, hl⟩ := nat_of (x := x4) (n := 5) (by omega)
    obtain ⟨a0, a1, a2⟩ := xSub g hX hs
    have a3 := a0.2.2.1
    have hU : ∀ i, vok (-20) 20 12 (updl (wU w) s (lput (wU w s) b l x3 (-100)) i) := by
      intro i
      unfold updl
      split
      · exact vok_put (g.1.2.1 _) b l x3 (-100) (by omega) (by omega) (by omega)
      · exact g.1.2.1 i
    have cls : ∀ (σ1 : Zm), zfo (oD (57 + 3 * s)) σ σ1 → ln 12 σ1 (57 + 3 * s) = lput (wU w s) b l x3 (-100) → zwp (zbi (fL_beats σ1 (57 + 3 * s)) fun v10 σ9 => some (v10, σ9)) (fun r1 σ1 => zwp (fM_subject σ1 (s : Int) (b : Int) x3 (l : Int)) (fun r2 σ2 => r1 = r2 ∧ Inv σ2)) := by
      intro σ1 f1 l1
      have hx : XU 1 σ1 (updl (wU w) s (lput (wU w s) b l x3 (-100))) := by
        intro i hi
        unfold updl
        by_cases q : i = s
        · rw [if_pos q, q, show 1 + 56 + 3 * s = 57 + 3 * s by omega]
          exact l1
        · rw [if_neg q, ln_fo f1 (by unfold oD; omega) (by unfold oD; omega)]
          exact hX.1.2.1 i hi
      have hpl := lbt_le (lput (wU w s) b l x3 (-100))
      rw [zbi_eq (qL_beats a2 (by omega) σ1), l1, zwj (a := (lbt (lput (wU w s) b l x3 (-100)) : Int)) (by omega) (by omega), zwp_some]
      have f1' : zfo dU σ σ1 := f1.mono (fun q z => by unfold oD at z; unfold dU; omega)
      have m1 : MS 274 σ1 (wV w) (wU w) (wN w) := MS_fo hM.1 f1' (by unfold dU; omega)
      have hup : updl (wU w) s (lput (wU w s) b l x3 (-100)) s = lput (wU w s) b l x3 (-100) := by unfold updl; rw [if_pos rfl]
      have go34 : zwp (fM_subject_34 (s : Int) (b : Int) x3 (l : Int) σ1) (fun r2 σ2 => (lbt (lput (wU w s) b l x3 (-100)) : Int) = r2 ∧ Inv σ2) := by
        unfold fM_subject_34
        rw [mIn_t c4, if_neg (by decide), show zw ((b : Int) + (l : Int)) = ((b + l : Nat) : Int) by rw [zwj (by omega) (by omega)]; omega, if_pos (by omega), zwp_let, show zw (530 + 12 * (s : Int) + (b : Int)) = ((530 + 12 * s + b : Nat) : Int) by rw [zwj (by omega) (by omega)]; omega]
        refine pM_subject_70 s b hs x3 c3 l (by omega) σ1 _ _ (fun σ2 f2 v2 => ?_) l 5000 0 σ1 (by omega) (by omega) zfo.rf (fun k => by rw [if_neg (by omega)])
        have fin : ∀ σ3, zfo (oO 274) σ1 σ3 → (∀ k, zrd σ3 274 k = if 530 + 12 * s + b ≤ k ∧ k < 530 + 12 * s + b + l then cpt sc (-100) x3 (k - (530 + 12 * s + b)) else if k = 530 + 12 * s + b + l ∧ b + l < 12 ∧ 50 < zrd σ1 274 k then zrd σ1 274 k - 100 else zrd σ1 274 k) → zwp (zbi (fM_beatsOf σ3 (s : Int)) fun v25 σ24 => some (v25, σ24)) (fun r2 σ2 => (lbt (lput (wU w s) b l x3 (-100)) : Int) = r2 ∧ Inv σ2) := by
          intro σ3 f3 v3
          have m3 := MS_put2 g m1 (i := s) hs (p := x3) (by omega) (by omega) v3
          rw [zbi_eq (qM_beatsOf hU s hs σ3 m3.2.1), hup, zwj (a := (lbt (lput (wU w s) b l x3 (-100)) : Int)) (by omega) (by omega), zwp_some]
          exact ⟨rfl, Inv_U g gp hX hM hXT hMP hU f1' hx f3 m3⟩
        rw [show zw ((b : Int) + (l : Int)) = ((b + l : Nat) : Int) by rw [zwj (by omega) (by omega)]; omega, show zw (((530 + 12 * s + b : Nat) : Int) + (l : Int)) = ((530 + 12 * s + b + l : Nat) : Int) by rw [zwj (by omega) (by omega)]; omega]
        by_cases d1 : 12 ≤ b + l
        · rw [if_pos (by omega)]
          exact fin σ2 f2 (fun k => by
            rw [v2 k]
            by_cases q : 530 + 12 * s + b ≤ k ∧ k < 530 + 12 * s + b + l
            · rw [if_pos q, if_pos q]
            · rw [if_neg q, if_neg q, if_neg (by omega)])
        · have e2 : zrd σ2 274 (530 + 12 * s + b + l) = zrd σ1 274 (530 + 12 * s + b + l) := by rw [v2, if_neg (by omega)]
          rw [if_neg (by omega), zckj (by omega) (by omega), zwp_let, Int.toNat_natCast, e2]
          have hh : fM_isHeld σ2 (zrd σ1 274 (530 + 12 * s + b + l)) = some (if zrd σ1 274 (530 + 12 * s + b + l) ≤ 50 then 0 else 1, σ2) := by
            unfold fM_isHeld
            split <;> rfl
          rw [zbi_eq hh]
          by_cases d2 : zrd σ1 274 (530 + 12 * s + b + l) ≤ 50
          · rw [if_pos d2, if_pos (by decide)]
            exact fin σ2 f2 (fun k => by
              rw [v2 k]
              by_cases q : 530 + 12 * s + b ≤ k ∧ k < 530 + 12 * s + b + l
              · rw [if_pos q, if_pos q]
              · rw [if_neg q, if_neg q, if_neg (fun z => by have := z.2.2; rw [z.1] at this; omega)])
          · have hbd : zrd σ1 274 (530 + 12 * s + b + l) ≤ 160 := by
              have := m1.2.1 s (b + l) (by omega) (by omega)
              rw [show 530 + 12 * s + b + l = 530 + 12 * s + (b + l) by omega, this]
              have := (g.1.2.1 s (b + l)).1
              unfold sc
              rcases this with z | ⟨z, z2⟩
              · rw [z, if_pos rfl]; decide
              · split
                · decide
                · split <;> omega
            rw [if_neg d2, if_neg (by decide), zckj (by omega) (by omega), zwp_let, e2, zckj (by omega) (by omega)]
            refine zwp_st (fun σ3 f3 v3 => ?_)
            refine fin σ3 (f2.tr f3) (fun k => ?_)
            rw [v3 k]
            by_cases q : k = 530 + 12 * s + b + l
            · rw [if_pos q, if_neg (by omega), if_pos ⟨q, by omega, by rw [q]; omega⟩, q, zwj (by omega) (by omega)]
            · rw [if_neg q, v2 k]
              by_cases q2 : 530 + 12 * s + b ≤ k ∧ k < 530 + 12 * s + b + l
              · rw [if_pos q2, if_pos q2]
              · rw [if_neg q2, if_neg q2, if_neg (fun z => q z.1)]
      unfold fM_subject
      rw [mSubject_t c1, if_neg (by decide), mIn_t (by omega), if_neg (by decide)]
      by_cases d : -20 ≤ x3 ∧ x3 ≤ 20
      · rw [mIn_t d, if_pos (by decide)]
        exact go34
      · rw [mIn_f d, if_neg (by decide), ifnn (show x3 = -100 by omega)]
        exact go34
    have x40 : zwp (fX_subject_40 (s : Int) (b : Int) x3 (l : Int) σ) (fun r1 σ1 => zwp (fM_subject σ1 (s : Int) (b : Int) x3 (l : Int)) (fun r2 σ2 => r1 = r2 ∧ Inv σ2)) := by
      unfold fX_subject_40
      rw [zckj (by omega) (by omega), Int.toNat_natCast, a1]
      by_cases d : x3 = -100
      · rw [ifnn d, zwp_bv]
        refine zwp_mono (pL_silence (57 + 3 * s) 12 a2 (by omega) σ b l (by omega)) (fun _ σ1 ⟨f1, l1, _⟩ => cls σ1 f1 ?_)
        rw [l1, a3]
        unfold lput
        rw [if_pos d]
      · rw [if_pos d, zwp_bv]
        refine zwp_mono (pL_sing (57 + 3 * s) 12 a2 (by omega) σ b l x3 h3 (by omega) (by omega)) (fun _ σ1 ⟨f1, l1, _⟩ => cls σ1 f1 ?_)
        rw [l1, a3]
        unfold lput
        rw [if_neg d]
    unfold fX_subject
    rw [xSubject_t c1, if_neg (by decide), pX_isNote, if_pos (show (1 ≤ (l : Int) ∧ (l : Int) ≤ 4) ∧ (0 ≤ (b : Int) ∧ (b : Int) ≤ zw (12 - (l : Int))) by rw [zwj (by omega) (by omega)]; omega), zbi_some, if_pos (by decide)]
    by_cases d : x3 = -100
    · rw [if_pos d]
      exact x40
    · rw [if_neg d, pwithin_t (by omega), if_pos (by decide)]
      exact x40
  · have e1 : fX_subject σ x1 x2 x3 x4 = some (-1, σ) := by
      unfold fX_subject
      by_cases c1 : 0 ≤ x1 ∧ x1 ≤ 5
      · rw [xSubject_t c1, if_neg (by decide), pX_isNote]
        by_cases c3 : (1 ≤ x4 ∧ x4 ≤ 4) ∧ (0 ≤ x2 ∧ x2 ≤ zw (12 - x4))
        · have c3' := c3
          rw [zwj (by omega) (by omega)] at c3'
          rw [if_pos c3, zbi_some, if_pos (by decide), if_neg (fun z => c ⟨c1, c3', Or.inl z⟩), pwithin_f (fun z => c ⟨c1, c3', Or.inr z⟩), if_neg (by decide)]
        · rw [if_neg c3, zbi_some, if_neg (by decide)]
      · rw [xSubject_f c1, if_pos rfl]
    have e2 : fM_subject σ x1 x2 x3 x4 = some (-1, σ) := by
      have e34 : (0 ≤ x1 ∧ x1 ≤ 5) → (0 ≤ x2 ∧ x2 ≤ 11) → (x3 = -100 ∨ (-20 ≤ x3 ∧ x3 ≤ 20)) → fM_subject_34 x1 x2 x3 x4 σ = some (-1, σ) := by
        intro q1 q2 q3
        unfold fM_subject_34
        by_cases c5 : 1 ≤ x4 ∧ x4 ≤ 4
        · rw [mIn_t c5, if_neg (by decide), if_neg (fun z => by rw [zwj (by omega) (by omega)] at z; exact c ⟨q1, ⟨c5, by omega⟩, q3⟩)]
        · rw [mIn_f c5, if_pos rfl]
      unfold fM_subject
      by_cases c1 : 0 ≤ x1 ∧ x1 ≤ 5
      · rw [mSubject_t c1, if_neg (by decide)]
        by_cases c3 : 0 ≤ x2 ∧ x2 ≤ 11
        · rw [mIn_t c3, if_neg (by decide)]
          by_cases c4 : -20 ≤ x3 ∧ x3 ≤ 20
          · rw [mIn_t c4, if_pos (by decide)]
            exact e34 c1 c3 (Or.inr c4)
          · rw [mIn_f c4, if_neg (by decide)]
            by_cases c5 : x3 = -100
            · rw [ifnn c5]
              exact e34 c1 c3 (Or.inl c5)
            · rw [if_pos c5]
        · rw [mIn_f c3, if_pos rfl]
      · rw [mSubject_f c1, if_pos rfl]
    exact St_neg (G := fun σ => fM_subject σ x1 x2 x3 x4) hI e1 e2
/-! copy -/
def cpV (V : Nat → Ln) (p q n : Nat) : Nat → Ln := fun i => if 4 * q ≤ i ∧ i < 4 * q + n then V (4 * p + (i - 4 * q)) else V i
theorem pX_copy_18 {w : Wd} {p q : Nat} (hp : p < 4) (hq : q < 4) (σ0 : Zm) : ∀ (d m n : Nat) (σ : Zm), d < m → n + d = 4 → zfo dV σ0 σ → XV 1 σ (cpV (wV w) p q n) → zwp (fX_copy_18 m (p : Int) (q : Int) (n : Int) σ) (fun r σ' => r = 1 ∧ zfo dV σ0 σ' ∧ XV 1 σ' (cpV (wV w) p q 4))
  | 0, m + 1, n, σ, _, hn, h1, h2 => by
    have : n = 4 := by omega
    subst this
    rw [fX_copy_18]
    simp only [zwp_let]
    rw [if_pos (by decide), zwp_some]
    exact ⟨rfl, h1, h2⟩
  | d + 1, m + 1, n, σ, hm, hn, h1, h2 => by
    have sv := fun i (hi : i < 16) => so_voice (o := 1) (Or.inl rfl) i hi
    obtain ⟨a1, a2⟩ := sv (4 * q + n) (by omega)
    obtain ⟨b1, b2⟩ := sv (4 * p + n) (by omega)
    rw [fX_copy_18]
    simp only [zwp_let]
    rw [if_neg (by omega), zvo hq (by omega), zvo hp (by omega), zckj (by omega) (by omega), zckj (by omega) (by omega), Int.toNat_natCast, Int.toNat_natCast, a1, b1, zwp_bv]
    refine zwp_mono (qL_take a2 b2 (by omega) σ) (fun _ σ1 ⟨f1, l1, z1⟩ => ?_)
    rw [show zw ((n : Int) + 1) = ((n + 1 : Nat) : Int) by rw [zwj (by omega) (by omega)]; omega]
    refine pX_copy_18 (w := w) hp hq σ0 d m (n + 1) σ1 (by omega) (by omega) (h1.tr (f1.mono (fun r z => by unfold oD at z; unfold dV; omega))) (fun i hi => ?_)
    have hsrc : cpV (wV w) p q n (4 * p + n) = wV w (4 * p + n) := by
      unfold cpV
      by_cases c : 4 * q ≤ 4 * p + n ∧ 4 * p + n < 4 * q + n
      · exfalso; omega
      · rw [if_neg c]
    by_cases c : i = 4 * q + n
    · have hh := h2 (4 * p + n) (by omega)
      rw [hsrc] at hh
      rw [c]
      refine ⟨?_, z1 hh.2⟩
      rw [l1, hh.1]
      unfold cpV
      rw [if_pos (by omega), show 4 * q + n - 4 * q = n by omega]
    · obtain ⟨y1, y2⟩ := h2 i hi
      have d1 : ¬ oD (1 + 8 + 3 * (4 * q + n)) (1 + 8 + 3 * i + 1) := by unfold oD; omega
      have d2 : ¬ oD (1 + 8 + 3 * (4 * q + n)) (1 + 8 + 3 * i + 2) := by unfold oD; omega
      refine ⟨?_, fun t ht h0 => ?_⟩
      · rw [ln_fo f1 d1 d2, y1]
        unfold cpV
        by_cases q2 : 4 * q ≤ i ∧ i < 4 * q + n
        · rw [if_pos q2, if_pos (by omega)]
        · rw [if_neg q2, if_neg (by omega)]
      · rw [f1.rd d2] at h0
        rw [f1.rd d1]
        exact y2 t ht h0
theorem pM_copy_18 (p q : Nat) (hp : p < 4) (hq : q < 4) (σ0 : Zm) (hz : ∀ k, zw (zrd σ0 274 k) = zrd σ0 274 k) : ∀ (d m n : Nat) (σ : Zm), d < m → n + d = 128 → zfo (oO 274) σ0 σ → (∀ k, zrd σ 274 k = if 10 + 128 * q ≤ k ∧ k < 10 + 128 * q + n then zrd σ0 274 (10 + 128 * p + (k - (10 + 128 * q))) else zrd σ0 274 k) → zwp (fM_copy_18 m (p : Int) (q : Int) (n : Int) σ) (fun r σ' => r = 1 ∧ zfo (oO 274) σ0 σ' ∧ ∀ k, zrd σ' 274 k = if 10 + 128 * q ≤ k ∧ k < 10 + 128 * q + 128 then zrd σ0 274 (10 + 128 * p + (k - (10 + 128 * q))) else zrd σ0 274 k)
  | 0, m + 1, n, σ, _, hn, h1, h2 => by
    have : n = 128 := by omega
    subst this
    rw [fM_copy_18]
    simp only [zwp_let]
    rw [if_pos (by decide), zwp_some]
    exact ⟨rfl, h1, h2⟩
  | d + 1, m + 1, n, σ, hm, hn, h1, h2 => by
    rw [fM_copy_18]
    simp only [zwp_let]
    rw [if_neg (by omega), show zw (10 + 128 * (p : Int) + (n : Int)) = ((10 + 128 * p + n : Nat) : Int) by rw [zwj (by omega) (by omega)]; omega, show zw (10 + 128 * (q : Int) + (n : Int)) = ((10 + 128 * q + n : Nat) : Int) by rw [zwj (by omega) (by omega)]; omega, zckj (by omega) (by omega), zwp_let, zckj (by omega) (by omega), Int.toNat_natCast, Int.toNat_natCast]
    have hs : zrd σ 274 (10 + 128 * p + n) = zrd σ0 274 (10 + 128 * p + n) := by
      rw [h2]
      by_cases c : 10 + 128 * q ≤ 10 + 128 * p + n ∧ 10 + 128 * p + n < 10 + 128 * q + n
      · exfalso; omega
      · rw [if_neg c]
    rw [hs]
    refine zwp_st (fun σ1 f1 v1 => ?_)
    rw [show zw ((n : Int) + 1) = ((n + 1 : Nat) : Int) by rw [zwj (by omega) (by omega)]; omega]
    refine pM_copy_18 p q hp hq σ0 hz d m (n + 1) σ1 (by omega) (by omega) (h1.tr f1) (fun k => ?_)
    rw [v1 k, hz]
    by_cases c : k = 10 + 128 * q + n
    · rw [if_pos c, if_pos (by omega), c, show 10 + 128 * q + n - (10 + 128 * q) = n by omega]
    · rw [if_neg c, h2 k]
      by_cases c2 : 10 + 128 * q ≤ k ∧ k < 10 + 128 * q + n
      · rw [if_pos c2, if_pos (by omega)]
      · rw [if_neg c2, if_neg (by omega)]
theorem MS_copy {V U : Nat → Ln} {N : Nat → Int} {σ σ1 : Zm} {p q : Nat} (hp : p < 4) (hq : q < 4) (h : MS 274 σ V U N) (hv : ∀ k, zrd σ1 274 k = if 10 + 128 * q ≤ k ∧ k < 10 + 128 * q + 128 then zrd σ 274 (10 + 128 * p + (k - (10 + 128 * q))) else zrd σ 274 k) : MS 274 σ1 (cpV V p q 4) U N := by
  obtain ⟨h1, h2, h3, h4, h5, h6, h7⟩ := h
  have keep : ∀ k, (k < 10 ∨ 522 ≤ k) → zrd σ1 274 k = zrd σ 274 k := fun k hk => by rw [hv, if_neg (by omega)]
  refine ⟨fun i t hi ht => ?_, fun s c hs hc => by rw [keep _ (by omega)]; exact h2 s c hs hc, fun k hk => by rw [keep _ (by omega)]; exact h3 k hk, fun k hk => by rw [keep _ (by omega)]; exact h4 k hk, fun k hk => by rw [keep _ (by omega), keep _ (by omega)]; exact h5 k hk, fun k hk => by rw [keep _ (by omega)]; exact h6 k hk, fun k hk => by rw [keep _ (by omega)]; exact h7 k hk⟩
  rw [hv]
  unfold cpV
  by_cases c : 4 * q ≤ i ∧ i < 4 * q + 4
  · rw [if_pos c, if_pos (by omega), show 10 + 128 * p + (10 + 32 * i + t - (10 + 128 * q)) = 10 + 32 * (4 * p + (i - 4 * q)) + t by omega]
    exact h1 _ t (by omega) ht
  · rw [if_neg c, if_neg (by omega)]
    exact h1 i t hi ht
theorem nX_copy {w : Wd} {σ : Zm} (g : GI w) (hX : XI w σ) (x1 x2 : Int) (c : ¬ ((0 ≤ x1 ∧ x1 ≤ 3) ∧ (0 ≤ x2 ∧ x2 ≤ 3))) : fX_copy σ x1 x2 = some (0, σ) := by
  unfold fX_copy
  by_cases c0 : 0 ≤ x1 ∧ x1 ≤ 3
  · rw [xPiece_t c0, if_neg (by decide)]
    by_cases c1 : 0 ≤ x2 ∧ x2 ≤ 3
    · rw [xPiece_t c1, if_pos (by decide)]
      exact absurd (by grind) c
    · rw [xPiece_f c1, if_neg (by decide)]
  · rw [xPiece_f c0, if_pos rfl]
theorem nM_copy {w : Wd} {σ : Zm} (g : GI w) (hM : MI w σ) (x1 x2 : Int) (c : ¬ ((0 ≤ x1 ∧ x1 ≤ 3) ∧ (0 ≤ x2 ∧ x2 ≤ 3))) : fM_copy σ x1 x2 = some (0, σ) := by
  unfold fM_copy
  by_cases c0 : 0 ≤ x1 ∧ x1 ≤ 3
  · rw [mPiece_t c0, if_neg (by decide)]
    by_cases c1 : 0 ≤ x2 ∧ x2 ≤ 3
    · rw [mPiece_t c1, if_pos (by decide)]
      exact absurd (by grind) c
    · rw [mPiece_f c1, if_neg (by decide)]
  · rw [mPiece_f c0, if_pos rfl]
theorem st_copy (x1 x2 : Int) : St (fun σ => fX_copy σ x1 x2) (fun σ => fM_copy σ x1 x2) := by
  intro σ h
  have hI := h
  obtain ⟨w, p, g, gp, hX, hM, hXT, hMP⟩ := h
  by_cases c : (0 ≤ x1 ∧ x1 ≤ 3) ∧ (0 ≤ x2 ∧ x2 ≤ 3)
  · obtain ⟨c1, c2⟩ := c
    obtain ⟨y, rfl, hy⟩ := nat_of (x := x1) (n := 4) (by omega)
    obtain ⟨z, rfl, hz⟩ := nat_of (x := x2) (n := 4) (by omega)
    show zwp (fX_copy σ (y : Int) (z : Int)) _
    unfold fX_copy
    rw [xPiece_t c1, if_neg (by decide), xPiece_t c2, if_pos (by decide)]
    have h0 : cpV (wV w) y z 0 = wV w := by
      funext i
      unfold cpV
      rw [if_neg (by omega)]
    refine zwp_mono (pX_copy_18 (w := w) hy hz σ 4 5000 0 σ (by omega) (by omega) zfo.rf (by rw [h0]; exact hX.1.1)) (fun r σ1 ⟨e1, f1, x1⟩ => ?_)
    have hM1 : MI w σ1 := MI_fo hM f1 (by unfold dV; omega) (by unfold dV; omega) (by unfold dV; omega)
    show zwp (fM_copy σ1 (y : Int) (z : Int)) _
    unfold fM_copy
    rw [mPiece_t c1, if_neg (by decide), mPiece_t c2, if_pos (by decide)]
    refine zwp_mono (pM_copy_18 y z hy hz σ1 (fun k => zw_rd σ1 274 k) 128 5000 0 σ1 (by omega) (by omega) zfo.rf (fun k => by rw [if_neg (by omega)])) (fun r2 σ2 ⟨e2, f2, v2⟩ => ?_)
    refine ⟨by rw [e1, e2], Inv_V g gp hX hM hXT hMP (fun i => ?_) f1 x1 f2 (MS_copy hy hz hM1.1 v2)⟩
    unfold cpV
    split
    · exact g.1.1 _
    · exact g.1.1 _
  · exact St_neg hI (nX_copy g hX x1 x2 c) (nM_copy g hM x1 x2 c)
